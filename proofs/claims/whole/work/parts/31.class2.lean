abbrev wX (h : Nat) (fl : Nat) (e1 : Nat) (e2 : Nat) (pd : Nat) (sg : Nat) (cI : ClassId) (k1 : Nat) (k2 : Nat) (rv : Value) (n : Nat) (N : Nat) (R : Nat) (q : Nat) (S : Nat) (c : Nat) (na : Nat) (Na : Nat) (Ra : Nat) (qa : Nat) (Sa : Nat) (ca : Nat) (nb : Nat) (Nb : Nat) (Rb : Nat) (qb : Nat) (Sb : Nat) (cb : Nat) (cnt : Nat) (rb : Nat) (sb : Nat) (g : Nat → Nat) : va_W := [(h, .inr (3, [.ref fl, .ref e1, .ref e2, .int (nI k1), .int (nI k2), .ref pd, rv])), (fl, .inr (0, [.int (nI n), .long (lN N), .int (nI R), .int (nI q), .long (lN S), .int (nI c)])), (e1, .inr (0, [.int (nI na), .long (lN Na), .int (nI Ra), .int (nI qa), .long (lN Sa), .int (nI ca)])), (e2, .inr (0, [.int (nI nb), .long (lN Nb), .int (nI Rb), .int (nI qb), .long (lN Sb), .int (nI cb)])), (pd, .inr (1, [.ref sg, .int (nI cnt), .int (nI rb), .int (nI sb)])), (sg, .inl (cI, 60, .inl (aN g)))]
set_option maxHeartbeats 4000000 in
set_option maxRecDepth 100000 in
theorem kX8_isLesson (Gl : Launch) (a : Int) (hl_a : -2147483648 ≤ a) (hu_a : a < 2147483648) : Met Gl yX8_isLesson wsX8_isLesson ({ frames := 0, cells := 0, slots := 0, locals := 0 } : Room) (va_Pc [.int (zI a)] (fun _ => True)) (vp_Si (fun r : Int32 => r = bI (decide (0 ≤ a ∧ a < 7)))) 0 0 (fun _ => False) := by
  refine Met.ofW (cc := cX8_isLesson) (maxL := 1) (ret := (some .boolean)) (by decide +kernel) rfl ?_
  intro Gp Ge Gs Gm Ga Gw Gt Gc G1 Bd gml gv
  obtain ⟨rfl, -⟩ := gv
  have gx := Bd.exec
  have gb := Bd.bytes
  have gr := Bd.returns
  have gts := atoms_spec (ws := wsX8_isLesson) Bd.pre
  have gown : Gs.vm.findClass RX8 = some Gm.cls := findClass_of_methodNamed Bd.named
  have glk := Bd.notSynchronized
  have hl := lv_entry ([.int (zI a)]) (n := 1) (Nat.le_of_ble_eq_true rfl)
  rw [lg_entry_eq]
  generalize (lg_sl ([.int (zI a)]) ++ List.replicate (1 - (lg_sl ([.int (zI a)])).length) Slot.unset).toArray = ls at hl ⊢
  have hl : lv_has ls 1 [(0, .int (zI a))] := hl
  refine lv_iload_n gx gb dX8_isLesson_0 rfl (lv_at hl 0 rfl) ?_
  refine lv_if_lt (tgt := 14) gx gb dX8_isLesson_1 (by decide) (fun c1 => ?_) (fun c1 => ?_)
  · skip
    rw [z0_lt (by omega) (by omega)] at c1
    refine lv_iconst (v := nI 0) gx gb dX8_isLesson_14 (by decide) ?_
    exact W.zret (v := nI 0) gx gb gr (by decide) (fun t ht hW => ⟨nI 0, rfl, (by first | (dsimp only; done) | ((try dsimp only); first | exact bI_t (decide_eq_true (by omega)) | exact bI_f (decide_eq_false (by omega)))), ht⟩) (fun q h => by cases h) dX8_isLesson_15
  · skip
    rw [z0_lt (by omega) (by omega)] at c1
    refine lv_iload_n gx gb dX8_isLesson_4 rfl (lv_at hl 0 rfl) ?_
    refine lv_bipush (v := nI 7) gx gb dX8_isLesson_5 (by decide) ?_
    refine lv_icmp_ge (tgt := 14) gx gb dX8_isLesson_7 (by decide) (fun c7 => ?_) (fun c7 => ?_)
    · skip
      rw [nz_le (by omega) (by omega) (by omega)] at c7
      refine lv_iconst (v := nI 0) gx gb dX8_isLesson_14 (by decide) ?_
      exact W.zret (v := nI 0) gx gb gr (by decide) (fun t ht hW => ⟨nI 0, rfl, (by first | (dsimp only; done) | ((try dsimp only); first | exact bI_t (decide_eq_true (by omega)) | exact bI_f (decide_eq_false (by omega)))), ht⟩) (fun q h => by cases h) dX8_isLesson_15
    · skip
      rw [nz_le (by omega) (by omega) (by omega)] at c7
      refine lv_iconst (v := nI 1) gx gb dX8_isLesson_10 (by decide) ?_
      refine lv_goto (tgt := 15) gx gb dX8_isLesson_11 (by decide) ?_
      exact W.zret (v := nI 1) gx gb gr (by decide) (fun t ht hW => ⟨nI 1, rfl, (by first | (dsimp only; done) | ((try dsimp only); first | exact bI_t (decide_eq_true (by omega)) | exact bI_f (decide_eq_false (by omega)))), ht⟩) (fun q h => by cases h) dX8_isLesson_15

set_option maxHeartbeats 4000000 in
set_option maxRecDepth 100000 in
theorem kX8_rowBehindDraw (Gl : Launch) (R q x : Nat) (hR : R < 2147483648) (hq1 : 1 ≤ q) (hq : q ≤ 7) (hx : x < 2147483648) : Met Gl yX8_rowBehindDraw wsX8_rowBehindDraw ({ frames := 2, cells := 0, slots := 0, locals := 45 } : Room) (va_Pc [.int (nI R), .int (nI q), .int (nI x)] (fun _ => True)) (vp_Si (fun r : Int32 => r = nI (if x % 2 = 0 then breadC R (x / 2 % q) else pikeC R (x / 2 % q) q))) 0 0 (fun _ => False) := by
  refine Met.ofW (cc := cX8_rowBehindDraw) (maxL := 4) (ret := (some .int)) (by decide +kernel) rfl ?_
  intro Gp Ge Gs Gm Ga Gw Gt Gc G1 Bd gml gv
  obtain ⟨rfl, -⟩ := gv
  have gx := Bd.exec
  have gb := Bd.bytes
  have gr := Bd.returns
  have gts := atoms_spec (ws := wsX8_rowBehindDraw) Bd.pre
  have gown : Gs.vm.findClass RX8 = some Gm.cls := findClass_of_methodNamed Bd.named
  have glk := Bd.notSynchronized
  have hl := lv_entry ([.int (nI R), .int (nI q), .int (nI x)]) (n := 4) (Nat.le_of_ble_eq_true rfl)
  rw [lg_entry_eq]
  generalize (lg_sl ([.int (nI R), .int (nI q), .int (nI x)]) ++ List.replicate (4 - (lg_sl ([.int (nI R), .int (nI q), .int (nI x)])).length) Slot.unset).toArray = ls at hl ⊢
  have hl : lv_has ls 4 [(0, .int (nI R)), (1, .int (nI q)), (2, .int (nI x))] := hl
  refine lv_iload_n gx gb dX8_rowBehindDraw_0 rfl (lv_at hl 1 rfl) ?_
  refine lv_iconst (v := nI 1) gx gb dX8_rowBehindDraw_1 (by decide) ?_
  refine lv_icmp_ge (tgt := 7) gx gb dX8_rowBehindDraw_2 (by decide) (fun c2 => ?_) (fun c2 => ?_)
  · skip
    rw [nI_leI (by omega) (by omega)] at c2
    refine lv_iload_n gx gb dX8_rowBehindDraw_7 rfl (lv_at hl 2 rfl) ?_
    refine lv_iconst (v := nI 2) gx gb dX8_rowBehindDraw_8 (by decide) ?_
    refine lv_idiv gx gb dX8_rowBehindDraw_9 (nI_ne0 (by omega) (by omega)) ?_
    refine lv_evi (nI (x / 2)) (e_div (by omega) (by omega) (by omega)) ?_
    refine lv_iload_n gx gb dX8_rowBehindDraw_10 rfl (lv_at hl 1 rfl) ?_
    refine lv_irem gx gb dX8_rowBehindDraw_11 (nI_ne0 (by omega) (by omega)) ?_
    refine lv_evi (nI ((x / 2) % q)) (e_rem (by omega) (by omega) (by omega)) ?_
    have hxm := Nat.mod_lt (x / 2) (show 0 < q by omega)
    refine lv_istore_n (lv' := [(3, .int (nI ((x / 2) % q))), (0, .int (nI R)), (1, .int (nI q)), (2, .int (nI x))]) gx gb dX8_rowBehindDraw_12 rfl hl (by decide) rfl (fun ls hl => ?_)
    refine lv_iload_n gx gb dX8_rowBehindDraw_13 rfl (lv_at hl 3 rfl) ?_
    refine lv_iconst (v := nI 2) gx gb dX8_rowBehindDraw_14 (by decide) ?_
    refine lv_irem gx gb dX8_rowBehindDraw_15 (nI_ne0 (by omega) (by omega)) ?_
    refine lv_evi (nI (x % 2)) (e_rem (by omega) (by omega) (by omega)) ?_
    refine lv_if_ne (tgt := 27) gx gb dX8_rowBehindDraw_16 (by decide) (fun c16 => ?_) (fun c16 => ?_)
    · skip
      rw [n0_eq (by omega)] at c16
      refine lv_iload_n gx gb dX8_rowBehindDraw_27 rfl (lv_at hl 1 rfl) ?_
      refine lv_iload_n gx gb dX8_rowBehindDraw_28 rfl (lv_at hl 0 rfl) ?_
      refine lv_iload_n gx gb dX8_rowBehindDraw_29 rfl (lv_at hl 2 rfl) ?_
      refine vp_callSi (W.runS (As := [.int (nI R), .int (nI ((x / 2) % q)), .int (nI q)]) (rest := []) ⟨gx, gb, gml, gown, gts⟩ (kX6_pike Gl R ((x / 2) % q) q (by omega) (by omega) (by omega) (by omega)) (va_cwS 3 gts gX8_rowBehindDraw_X6_pike rfl rfl rfl (by decide +kernel) ⟨Nat.le_of_ble_eq_true rfl, Nat.le_of_ble_eq_true rfl⟩) ⟨fun _ _ _ _ h => h, fun U hU hW => ⟨rfl, trivial⟩⟩ rfl rfl hl.1 rfl (lv_room (Nat.le_of_ble_eq_true rfl)) dX8_rowBehindDraw_30 ⟨Nat.le_of_ble_eq_true rfl, Nat.le_of_ble_eq_true rfl⟩) (fun r hw => ?_)
      have hr30 := hw
      subst hr30
      exact W.iret (v := nI (pikeC R ((x / 2) % q) q)) gx gb gr (fun t ht hW => ⟨nI (pikeC R ((x / 2) % q) q), rfl, (by first | (dsimp only; done) | ((try dsimp only); first | rw [if_pos (by omega)] | rw [if_neg (by omega)])), ht⟩) (fun q h => by cases h) dX8_rowBehindDraw_33
    · skip
      rw [n0_eq (by omega)] at c16
      refine lv_iload_n gx gb dX8_rowBehindDraw_19 rfl (lv_at hl 1 rfl) ?_
      refine lv_iload_n gx gb dX8_rowBehindDraw_20 rfl (lv_at hl 0 rfl) ?_
      refine vp_callSi (W.runS (As := [.int (nI R), .int (nI ((x / 2) % q))]) (rest := []) ⟨gx, gb, gml, gown, gts⟩ (kX6_bread Gl R ((x / 2) % q) (by omega) (by omega)) (va_cwS 2 gts gX8_rowBehindDraw_X6_bread rfl rfl rfl (by decide +kernel) ⟨Nat.le_of_ble_eq_true rfl, Nat.le_of_ble_eq_true rfl⟩) ⟨fun _ _ _ _ h => h, fun U hU hW => ⟨rfl, trivial⟩⟩ rfl rfl hl.1 rfl (lv_room (Nat.le_of_ble_eq_true rfl)) dX8_rowBehindDraw_21 ⟨Nat.le_of_ble_eq_true rfl, Nat.le_of_ble_eq_true rfl⟩) (fun r hw => ?_)
      have hr21 := hw
      subst hr21
      refine lv_goto (tgt := 33) gx gb dX8_rowBehindDraw_24 (by decide) ?_
      exact W.iret (v := nI (breadC R ((x / 2) % q))) gx gb gr (fun t ht hW => ⟨nI (breadC R ((x / 2) % q)), rfl, (by first | (dsimp only; done) | ((try dsimp only); first | rw [if_pos (by omega)] | rw [if_neg (by omega)])), ht⟩) (fun q h => by cases h) dX8_rowBehindDraw_33
  · skip
    rw [nI_leI (by omega) (by omega)] at c2
    exfalso; omega

set_option maxHeartbeats 4000000 in
set_option maxRecDepth 100000 in
theorem kX8_swans (Gl : Launch) (D : va_G) (cI cJ cZ : ClassId) (h : Nat) (fl : Nat) (e1 : Nat) (e2 : Nat) (pd : Nat) (sg : Nat) (k1 : Nat) (k2 : Nat) (rv : Value) (n : Nat) (N : Nat) (R : Nat) (q : Nat) (S : Nat) (c : Nat) (na : Nat) (Na : Nat) (Ra : Nat) (qa : Nat) (Sa : Nat) (ca : Nat) (nb : Nat) (Nb : Nat) (Rb : Nat) (qb : Nat) (Sb : Nat) (cb : Nat) (cnt : Nat) (rb : Nat) (sb : Nat) (g : Nat → Nat) (sz : Nat) (a : Int) (hl_a : -2147483648 ≤ a) (hu_a : a < 2147483648) : Met Gl yX8_swans wsX8_swans ({ frames := 2, cells := 0, slots := 0, locals := 44 } : Room) (va_Pc [.ref h, .int (zI a)] (fun U => U.heap.size = sz ∧ va_P D vwCl (wX h fl e1 e2 pd sg cI k1 k2 rv n N R q S c na Na Ra qa Sa ca nb Nb Rb qb Sb cb cnt rb sb g) U.heap ∧ va_K D vwCl [(cI, .int), (cJ, .long), (cZ, .boolean)] U ∧ va_D (fun _ => True) (wX h fl e1 e2 pd sg cI k1 k2 rv n N R q S c na Na Ra qa Sa ca nb Nb Rb qb Sb cb cnt rb sb g))) (va_Qi (fun (r : Int32) (u : Unit) => r = zI (if 1 ≤ a ∧ a ≤ 7 then (n : Int) else -2)) (fun (u : Unit) t => va_P D vwCl (wX h fl e1 e2 pd sg cI k1 k2 rv (if 1 ≤ a ∧ a ≤ 7 then a.toNat else n) (if 1 ≤ a ∧ a ≤ 7 then pk 256 (fun i => i + 1) a.toNat else N) (if 1 ≤ a ∧ a ≤ 7 then pk 8 (fun i => i) a.toNat else R) (if 1 ≤ a ∧ a ≤ 7 then a.toNat else q) (if 1 ≤ a ∧ a ≤ 7 then 0 else S) (if 1 ≤ a ∧ a ≤ 7 then 0 else c) na Na Ra qa Sa ca nb Nb Rb qb Sb cb cnt rb sb g) t.heap ∧ va_K D vwCl [(cI, .int), (cJ, .long), (cZ, .boolean)] t ∧ va_D (va_A (wX h fl e1 e2 pd sg cI k1 k2 rv n N R q S c na Na Ra qa Sa ca nb Nb Rb qb Sb cb cnt rb sb g) sz) (wX h fl e1 e2 pd sg cI k1 k2 rv (if 1 ≤ a ∧ a ≤ 7 then a.toNat else n) (if 1 ≤ a ∧ a ≤ 7 then pk 256 (fun i => i + 1) a.toNat else N) (if 1 ≤ a ∧ a ≤ 7 then pk 8 (fun i => i) a.toNat else R) (if 1 ≤ a ∧ a ≤ 7 then a.toNat else q) (if 1 ≤ a ∧ a ≤ 7 then 0 else S) (if 1 ≤ a ∧ a ≤ 7 then 0 else c) na Na Ra qa Sa ca nb Nb Rb qb Sb cb cnt rb sb g)) (va_A (wX h fl e1 e2 pd sg cI k1 k2 rv n N R q S c na Na Ra qa Sa ca nb Nb Rb qb Sb cb cnt rb sb g) sz)) 0 0 (va_A (wX h fl e1 e2 pd sg cI k1 k2 rv n N R q S c na Na Ra qa Sa ca nb Nb Rb qb Sb cb cnt rb sb g) sz) := by
  refine Met.ofW (cc := cX8_swans) (maxL := 3) (ret := (some .int)) (by decide +kernel) rfl ?_
  intro Gp Ge Gs Gm Ga Gw Gt Gc G1 Bd gml gv
  obtain ⟨rfl, hsz, hP, hK, hD0⟩ := gv
  have gx := Bd.exec
  have gb := Bd.bytes
  have gr := Bd.returns
  have gts := atoms_spec (ws := wsX8_swans) Bd.pre
  have gown : Gs.vm.findClass RX8 = some Gm.cls := findClass_of_methodNamed Bd.named
  have glk := Bd.notSynchronized
  subst hsz
  have hD := hD0.self (sz := Gs.heap.size)
  generalize hAe : va_A (wX h fl e1 e2 pd sg cI k1 k2 rv n N R q S c na Na Ra qa Sa ca nb Nb Rb qb Sb cb cnt rb sb g) Gs.heap.size = A at hD ⊢
  have hA : ∀ q : Nat, Gs.heap.size ≤ q → A q := fun q h => by rw [← hAe]; exact Or.inr h
  have hS : va_S A Gs.heap Gs.heap [] := va_S.rf
  have hP : va_P D vwCl (wX h fl e1 e2 pd sg cI k1 k2 rv n N R q S c na Na Ra qa Sa ca nb Nb Rb qb Sb cb cnt rb sb g) Gs.heap := hP
  have hl := lv_entry ([.ref h, .int (zI a)]) (n := 3) (Nat.le_of_ble_eq_true rfl)
  rw [lg_entry_eq]
  generalize (lg_sl ([.ref h, .int (zI a)]) ++ List.replicate (3 - (lg_sl ([.ref h, .int (zI a)])).length) Slot.unset).toArray = ls at hl ⊢
  have hl : lv_has ls 3 [(0, .ref h), (1, .int (zI a))] := hl
  have i1 : ∀ w ∈ wsX10, w ∈ wsX8_swans := by decide +kernel
  have i8 : ∀ w ∈ wsX80, w ∈ wsX8_swans := by decide +kernel
  refine lv_iload_n gx gb dX8_swans_0 rfl (lv_at hl 1 rfl) ?_
  refine lv_iconst (v := nI 1) gx gb dX8_swans_1 (by decide) ?_
  refine lv_icmp_lt (tgt := 11) gx gb dX8_swans_2 (by decide) (fun c2 => ?_) (fun c2 => ?_)
  · skip
    rw [zn_lt (by omega) (by omega) (by omega)] at c2
    refine lv_bipush (v := zI (-2)) gx gb dX8_swans_11 (by decide) ?_
    have e_n : n = (if 1 ≤ a ∧ a ≤ 7 then a.toNat else n) := by rw [if_neg (by omega)]
    have e_N : N = (if 1 ≤ a ∧ a ≤ 7 then pk 256 (fun i => i + 1) a.toNat else N) := by rw [if_neg (by omega)]
    have e_R : R = (if 1 ≤ a ∧ a ≤ 7 then pk 8 (fun i => i) a.toNat else R) := by rw [if_neg (by omega)]
    have e_q : q = (if 1 ≤ a ∧ a ≤ 7 then a.toNat else q) := by rw [if_neg (by omega)]
    have e_S : S = (if 1 ≤ a ∧ a ≤ 7 then 0 else S) := by rw [if_neg (by omega)]
    have e_c : c = (if 1 ≤ a ∧ a ≤ 7 then 0 else c) := by rw [if_neg (by omega)]
    have hP : va_P D vwCl (wX h fl e1 e2 pd sg cI k1 k2 rv (if 1 ≤ a ∧ a ≤ 7 then a.toNat else n) (if 1 ≤ a ∧ a ≤ 7 then pk 256 (fun i => i + 1) a.toNat else N) (if 1 ≤ a ∧ a ≤ 7 then pk 8 (fun i => i) a.toNat else R) (if 1 ≤ a ∧ a ≤ 7 then a.toNat else q) (if 1 ≤ a ∧ a ≤ 7 then 0 else S) (if 1 ≤ a ∧ a ≤ 7 then 0 else c) na Na Ra qa Sa ca nb Nb Rb qb Sb cb cnt rb sb g) Gs.heap := by rw [← e_n, ← e_N, ← e_R, ← e_q, ← e_S, ← e_c]; exact hP
    have hD : va_D A (wX h fl e1 e2 pd sg cI k1 k2 rv (if 1 ≤ a ∧ a ≤ 7 then a.toNat else n) (if 1 ≤ a ∧ a ≤ 7 then pk 256 (fun i => i + 1) a.toNat else N) (if 1 ≤ a ∧ a ≤ 7 then pk 8 (fun i => i) a.toNat else R) (if 1 ≤ a ∧ a ≤ 7 then a.toNat else q) (if 1 ≤ a ∧ a ≤ 7 then 0 else S) (if 1 ≤ a ∧ a ≤ 7 then 0 else c) na Na Ra qa Sa ca nb Nb Rb qb Sb cb cnt rb sb g) := by rw [← e_n, ← e_N, ← e_R, ← e_q, ← e_S, ← e_c]; exact hD
    exact W.iret (v := zI (-2)) gx gb gr (fun t ht hW => ⟨⟨zI (-2), (), rfl, (by first | (dsimp only; done) | ((try dsimp only); rw [if_neg (by omega)])), by rw [ht]; exact hP, va_K.moved hW.alike hK, hD⟩, hS.F ht⟩) hS.2.2 dX8_swans_13
  · skip
    rw [zn_lt (by omega) (by omega) (by omega)] at c2
    refine lv_iload_n gx gb dX8_swans_5 rfl (lv_at hl 1 rfl) ?_
    refine lv_bipush (v := nI 7) gx gb dX8_swans_6 (by decide) ?_
    refine lv_icmp_le (tgt := 14) gx gb dX8_swans_8 (by decide) (fun c8 => ?_) (fun c8 => ?_)
    · skip
      rw [zn_le (by omega) (by omega) (by omega)] at c8
      obtain ⟨i, hi⟩ : ∃ i : Nat, a = (i : Int) := ⟨a.toNat, by omega⟩
      rw [show zI a = nI i from by rw [hi, zI_nat]] at hl
      have hl : lv_has ls 3 [(0, .ref h), (1, .int (nI i))] := hl
      refine lv_aload_n gx gb dX8_swans_14 rfl (lv_at hl 0 rfl) ?_
      refine va_get (D := D) (ci := 3) (v := .ref fl) (C := RX8) (T := TX8) (N := 7) gx gb gts i8 gown hK hP 0 rfl rfl 0 (by decide) (gts (.fieldLink RX8 12 "SwanSums" "flock" "LSwanSums$Flock;") (by decide +kernel)) (fun _ h9 => h9) rfl dX8_swans_15 ?_
      refine va_get (D := D) (ci := 0) (v := .int (nI n)) (C := RX1) (T := TX1) (N := 6) gx gb gts i1 gown hK hP 1 rfl rfl 0 (by decide) (gts (.fieldLink RX8 44 "SwanSums$Flock" "all" "I") (by decide +kernel)) (fun _ h9 => h9) rfl dX8_swans_18 ?_
      refine lv_istore_n (lv' := [(2, .int (nI n)), (0, .ref h), (1, .int (nI i))]) gx gb dX8_swans_21 rfl hl (by decide) rfl (fun ls hl => ?_)
      refine lv_aload_n gx gb dX8_swans_22 rfl (lv_at hl 1 rfl) ?_
      refine va_get (D := D) (ci := 3) (v := .ref fl) (C := RX8) (T := TX8) (N := 7) gx gb gts i8 gown hK hP 0 rfl rfl 0 (by decide) (gts (.fieldLink RX8 12 "SwanSums" "flock" "LSwanSums$Flock;") (by decide +kernel)) (fun _ h9 => h9) rfl dX8_swans_23 ?_
      refine lv_iload_n gx gb dX8_swans_26 rfl (lv_at hl 2 rfl) ?_
      have hPc := hP.sub (ws' := wF fl n N R q S c) [1] rfl
      have hDc := hD.sub (ws' := wF fl n N R q S c) [1] (by decide) rfl
      have hFc := va_free (wc := wF fl n N R q S c) hD hS hA [1] rfl
      refine va_callv (va_runV (As := [.int (nI i)]) (rest := []) ⟨gx, gb, gml, gown, gts⟩ (kX1_begin Gl D cI cJ cZ fl n N R q S c _ i (by omega)) (cwV 1 gts gX8_swans_X1_begin rfl rfl rfl (by decide +kernel) ⟨Nat.le_of_ble_eq_true rfl, Nat.le_of_ble_eq_true rfl⟩) ⟨fun a U g mk q => by obtain ⟨q0, q1, qP, qK, qD⟩ := q; exact ⟨q0, q1, qP, va_K.moved (u := U) (U := U.calling g mk a) (Vm.Alike.refl U.vm) qK, qD⟩, va_recv hK hPc (ci := 0) (q0 := 0) rfl rfl, fun U hU hW => ⟨rfl, by rw [hU], by rw [hU]; exact hPc, va_K.moved hW.alike hK, hDc.weaken (fun _ _ _ _ => trivial)⟩⟩ rfl rfl hl.1 rfl (lv_room (Nat.le_of_ble_eq_true rfl)) dX8_swans_27 ⟨Nat.le_of_ble_eq_true rfl, Nat.le_of_ble_eq_true rfl⟩) hS (fun q _ h => hFc q h) hFc (fun u t H1 locs ht hvm hw hB hz1 hk1 hS => ?_)
      obtain ⟨hP1, hK1, hD1⟩ := hB
      rw [ht] at hP1
      try dsimp only at hw
      try dsimp only at hP1
      try dsimp only at hD1
      have hK := va_K.moved hvm.symm hK1
      obtain ⟨hP, hD⟩ := va_join (wr := [(h, .inr (3, [.ref fl, .ref e1, .ref e2, .int (nI k1), .int (nI k2), .ref pd, rv])), (e1, .inr (0, [.int (nI na), .long (lN Na), .int (nI Ra), .int (nI qa), .long (lN Sa), .int (nI ca)])), (e2, .inr (0, [.int (nI nb), .long (lN Nb), .int (nI Rb), .int (nI qb), .long (lN Sb), .int (nI cb)])), (pd, .inr (1, [.ref sg, .int (nI cnt), .int (nI rb), .int (nI sb)])), (sg, .inl (cI, 60, .inl (aN g)))]) (w1 := wF fl i (pk 256 (fun i => i + 1) i) (pk 8 (fun i => i) i) i 0 0) hP hD [1] [0, 2, 3, 4, 5] rfl rfl (by decide) (by decide) hk1 hFc hP1 hD1
      have hP := hP.sub (ws' := wX h fl e1 e2 pd sg cI k1 k2 rv i (pk 256 (fun i => i + 1) i) (pk 8 (fun i => i) i) i 0 0 na Na Ra qa Sa ca nb Nb Rb qb Sb cb cnt rb sb g) [0, 5, 1, 2, 3, 4] rfl
      have hD := hD.sub (ws' := wX h fl e1 e2 pd sg cI k1 k2 rv i (pk 256 (fun i => i + 1) i) (pk 8 (fun i => i) i) i 0 0 na Na Ra qa Sa ca nb Nb Rb qb Sb cb cnt rb sb g) [0, 5, 1, 2, 3, 4] (by decide) rfl
      have hK := va_K.moved (Vm.Alike.refl Gs.vm) hK
      generalize H1 = H at hP hS ⊢
      refine lv_iload_n gx gb dX8_swans_30 rfl (lv_at hl 0 rfl) ?_
      have e_n : i = (if 1 ≤ a ∧ a ≤ 7 then a.toNat else n) := by rw [if_pos (by omega), hi]; rfl
      have e_N : (pk 256 (fun i => i + 1) i) = (if 1 ≤ a ∧ a ≤ 7 then pk 256 (fun i => i + 1) a.toNat else N) := by rw [if_pos (by omega), hi]; rfl
      have e_R : (pk 8 (fun i => i) i) = (if 1 ≤ a ∧ a ≤ 7 then pk 8 (fun i => i) a.toNat else R) := by rw [if_pos (by omega), hi]; rfl
      have e_q : i = (if 1 ≤ a ∧ a ≤ 7 then a.toNat else q) := by rw [if_pos (by omega), hi]; rfl
      have e_S : 0 = (if 1 ≤ a ∧ a ≤ 7 then 0 else S) := by rw [if_pos (by omega)]
      have e_c : 0 = (if 1 ≤ a ∧ a ≤ 7 then 0 else c) := by rw [if_pos (by omega)]
      have hP : va_P D vwCl (wX h fl e1 e2 pd sg cI k1 k2 rv (if 1 ≤ a ∧ a ≤ 7 then a.toNat else n) (if 1 ≤ a ∧ a ≤ 7 then pk 256 (fun i => i + 1) a.toNat else N) (if 1 ≤ a ∧ a ≤ 7 then pk 8 (fun i => i) a.toNat else R) (if 1 ≤ a ∧ a ≤ 7 then a.toNat else q) (if 1 ≤ a ∧ a ≤ 7 then 0 else S) (if 1 ≤ a ∧ a ≤ 7 then 0 else c) na Na Ra qa Sa ca nb Nb Rb qb Sb cb cnt rb sb g) H := by rw [← e_n, ← e_N, ← e_R, ← e_q, ← e_S, ← e_c]; exact hP
      have hD : va_D A (wX h fl e1 e2 pd sg cI k1 k2 rv (if 1 ≤ a ∧ a ≤ 7 then a.toNat else n) (if 1 ≤ a ∧ a ≤ 7 then pk 256 (fun i => i + 1) a.toNat else N) (if 1 ≤ a ∧ a ≤ 7 then pk 8 (fun i => i) a.toNat else R) (if 1 ≤ a ∧ a ≤ 7 then a.toNat else q) (if 1 ≤ a ∧ a ≤ 7 then 0 else S) (if 1 ≤ a ∧ a ≤ 7 then 0 else c) na Na Ra qa Sa ca nb Nb Rb qb Sb cb cnt rb sb g) := by rw [← e_n, ← e_N, ← e_R, ← e_q, ← e_S, ← e_c]; exact hD
      exact W.iret (v := nI n) gx gb gr (fun t ht hW => ⟨⟨nI n, (), rfl, (by first | (dsimp only; done) | ((try dsimp only); rw [if_pos (by omega), zI_nat])), by rw [ht]; exact hP, va_K.moved hW.alike hK, hD⟩, hS.F ht⟩) hS.2.2 dX8_swans_31
    · skip
      rw [zn_le (by omega) (by omega) (by omega)] at c8
      refine lv_bipush (v := zI (-2)) gx gb dX8_swans_11 (by decide) ?_
      have e_n : n = (if 1 ≤ a ∧ a ≤ 7 then a.toNat else n) := by rw [if_neg (by omega)]
      have e_N : N = (if 1 ≤ a ∧ a ≤ 7 then pk 256 (fun i => i + 1) a.toNat else N) := by rw [if_neg (by omega)]
      have e_R : R = (if 1 ≤ a ∧ a ≤ 7 then pk 8 (fun i => i) a.toNat else R) := by rw [if_neg (by omega)]
      have e_q : q = (if 1 ≤ a ∧ a ≤ 7 then a.toNat else q) := by rw [if_neg (by omega)]
      have e_S : S = (if 1 ≤ a ∧ a ≤ 7 then 0 else S) := by rw [if_neg (by omega)]
      have e_c : c = (if 1 ≤ a ∧ a ≤ 7 then 0 else c) := by rw [if_neg (by omega)]
      have hP : va_P D vwCl (wX h fl e1 e2 pd sg cI k1 k2 rv (if 1 ≤ a ∧ a ≤ 7 then a.toNat else n) (if 1 ≤ a ∧ a ≤ 7 then pk 256 (fun i => i + 1) a.toNat else N) (if 1 ≤ a ∧ a ≤ 7 then pk 8 (fun i => i) a.toNat else R) (if 1 ≤ a ∧ a ≤ 7 then a.toNat else q) (if 1 ≤ a ∧ a ≤ 7 then 0 else S) (if 1 ≤ a ∧ a ≤ 7 then 0 else c) na Na Ra qa Sa ca nb Nb Rb qb Sb cb cnt rb sb g) Gs.heap := by rw [← e_n, ← e_N, ← e_R, ← e_q, ← e_S, ← e_c]; exact hP
      have hD : va_D A (wX h fl e1 e2 pd sg cI k1 k2 rv (if 1 ≤ a ∧ a ≤ 7 then a.toNat else n) (if 1 ≤ a ∧ a ≤ 7 then pk 256 (fun i => i + 1) a.toNat else N) (if 1 ≤ a ∧ a ≤ 7 then pk 8 (fun i => i) a.toNat else R) (if 1 ≤ a ∧ a ≤ 7 then a.toNat else q) (if 1 ≤ a ∧ a ≤ 7 then 0 else S) (if 1 ≤ a ∧ a ≤ 7 then 0 else c) na Na Ra qa Sa ca nb Nb Rb qb Sb cb cnt rb sb g) := by rw [← e_n, ← e_N, ← e_R, ← e_q, ← e_S, ← e_c]; exact hD
      exact W.iret (v := zI (-2)) gx gb gr (fun t ht hW => ⟨⟨zI (-2), (), rfl, (by first | (dsimp only; done) | ((try dsimp only); rw [if_neg (by omega)])), by rw [ht]; exact hP, va_K.moved hW.alike hK, hD⟩, hS.F ht⟩) hS.2.2 dX8_swans_13

set_option maxHeartbeats 4000000 in
set_option maxRecDepth 100000 in
theorem kX8_number (Gl : Launch) (D : va_G) (cI cJ cZ : ClassId) (h : Nat) (fl : Nat) (e1 : Nat) (e2 : Nat) (pd : Nat) (sg : Nat) (k1 : Nat) (k2 : Nat) (rv : Value) (n : Nat) (R : Nat) (q : Nat) (S : Nat) (c : Nat) (na : Nat) (Na : Nat) (Ra : Nat) (qa : Nat) (Sa : Nat) (ca : Nat) (nb : Nat) (Nb : Nat) (Rb : Nat) (qb : Nat) (Sb : Nat) (cb : Nat) (cnt : Nat) (rb : Nat) (sb : Nat) (g : Nat → Nat) (sz : Nat) (num : Nat → Nat) (a b : Int) (hl_a : -2147483648 ≤ a) (hu_a : a < 2147483648) (hl_b : -2147483648 ≤ b) (hu_b : b < 2147483648) (hn7 : n ≤ 7) (hnum : ∀ k, k < n → num k ≤ 99) : Met Gl yX8_number wsX8_number ({ frames := 1, cells := 0, slots := 0, locals := 23 } : Room) (va_Pc [.ref h, .int (zI a), .int (zI b)] (fun U => U.heap.size = sz ∧ va_P D vwCl (wX h fl e1 e2 pd sg cI k1 k2 rv n (pk 256 num n) R q S c na Na Ra qa Sa ca nb Nb Rb qb Sb cb cnt rb sb g) U.heap ∧ va_K D vwCl [(cI, .int), (cJ, .long), (cZ, .boolean)] U ∧ va_D (fun _ => True) (wX h fl e1 e2 pd sg cI k1 k2 rv n (pk 256 num n) R q S c na Na Ra qa Sa ca nb Nb Rb qb Sb cb cnt rb sb g))) (va_Qi (fun (r : Int32) (u : Unit) => r = zI (numZ n num a b)) (fun (u : Unit) t => va_P D vwCl (wX h fl e1 e2 pd sg cI k1 k2 rv n (pk 256 (if (0 ≤ a ∧ a < n) ∧ (0 ≤ b ∧ b ≤ 99) then up num a.toNat b.toNat else num) n) R q S c na Na Ra qa Sa ca nb Nb Rb qb Sb cb cnt rb sb g) t.heap ∧ va_K D vwCl [(cI, .int), (cJ, .long), (cZ, .boolean)] t ∧ va_D (va_A (wX h fl e1 e2 pd sg cI k1 k2 rv n (pk 256 num n) R q S c na Na Ra qa Sa ca nb Nb Rb qb Sb cb cnt rb sb g) sz) (wX h fl e1 e2 pd sg cI k1 k2 rv n (pk 256 (if (0 ≤ a ∧ a < n) ∧ (0 ≤ b ∧ b ≤ 99) then up num a.toNat b.toNat else num) n) R q S c na Na Ra qa Sa ca nb Nb Rb qb Sb cb cnt rb sb g)) (va_A (wX h fl e1 e2 pd sg cI k1 k2 rv n (pk 256 num n) R q S c na Na Ra qa Sa ca nb Nb Rb qb Sb cb cnt rb sb g) sz)) 0 0 (va_A (wX h fl e1 e2 pd sg cI k1 k2 rv n (pk 256 num n) R q S c na Na Ra qa Sa ca nb Nb Rb qb Sb cb cnt rb sb g) sz) := by
  refine Met.ofW (cc := cX8_number) (maxL := 4) (ret := (some .int)) (by decide +kernel) rfl ?_
  intro Gp Ge Gs Gm Ga Gw Gt Gc G1 Bd gml gv
  obtain ⟨rfl, hsz, hP, hK, hD0⟩ := gv
  have gx := Bd.exec
  have gb := Bd.bytes
  have gr := Bd.returns
  have gts := atoms_spec (ws := wsX8_number) Bd.pre
  have gown : Gs.vm.findClass RX8 = some Gm.cls := findClass_of_methodNamed Bd.named
  have glk := Bd.notSynchronized
  subst hsz
  have hD := hD0.self (sz := Gs.heap.size)
  generalize hAe : va_A (wX h fl e1 e2 pd sg cI k1 k2 rv n (pk 256 num n) R q S c na Na Ra qa Sa ca nb Nb Rb qb Sb cb cnt rb sb g) Gs.heap.size = A at hD ⊢
  have hA : ∀ q : Nat, Gs.heap.size ≤ q → A q := fun q h => by rw [← hAe]; exact Or.inr h
  have hS : va_S A Gs.heap Gs.heap [] := va_S.rf
  have hP : va_P D vwCl (wX h fl e1 e2 pd sg cI k1 k2 rv n (pk 256 num n) R q S c na Na Ra qa Sa ca nb Nb Rb qb Sb cb cnt rb sb g) Gs.heap := hP
  have hl := lv_entry ([.ref h, .int (zI a), .int (zI b)]) (n := 4) (Nat.le_of_ble_eq_true rfl)
  rw [lg_entry_eq]
  generalize (lg_sl ([.ref h, .int (zI a), .int (zI b)]) ++ List.replicate (4 - (lg_sl ([.ref h, .int (zI a), .int (zI b)])).length) Slot.unset).toArray = ls at hl ⊢
  have hl : lv_has ls 4 [(0, .ref h), (1, .int (zI a)), (2, .int (zI b))] := hl
  have i1 : ∀ w ∈ wsX10, w ∈ wsX8_number := by decide +kernel
  have i8 : ∀ w ∈ wsX80, w ∈ wsX8_number := by decide +kernel
  have hn256 : ∀ k, k < n → num k < 256 := fun k hk => by have := hnum k hk; omega
  have hN63 := pk256_lt hn256 (by omega)
  refine lv_aload_n gx gb dX8_number_0 rfl (lv_at hl 0 rfl) ?_
  refine va_get (D := D) (ci := 3) (v := .ref fl) (C := RX8) (T := TX8) (N := 7) gx gb gts i8 gown hK hP 0 rfl rfl 0 (by decide) (gts (.fieldLink RX8 12 "SwanSums" "flock" "LSwanSums$Flock;") (by decide +kernel)) (fun _ h9 => h9) rfl dX8_number_1 ?_
  refine lv_iload_n gx gb dX8_number_4 rfl (lv_at hl 1 rfl) ?_
  have hPc := hP.sub (ws' := wF fl n (pk 256 num n) R q S c) [1] rfl
  refine vp_callSi (W.runV (As := [.int (zI a)]) (rest := []) ⟨gx, gb, gml, gown, gts⟩ (kX1_has Gl D cI cJ cZ fl n (pk 256 num n) R q S c a (by omega) (by omega) (by omega)) (cwV 1 gts gX8_number_X1_has rfl rfl rfl (by decide +kernel) ⟨Nat.le_of_ble_eq_true rfl, Nat.le_of_ble_eq_true rfl⟩) ⟨fun a U g mk q => ⟨q.1, q.2.1, va_K.moved (u := U) (U := U.calling g mk a) (Vm.Alike.refl U.vm) q.2.2⟩, va_recv hK hPc (ci := 0) (q0 := 0) rfl rfl, fun U hU hW => ⟨rfl, by rw [hU]; exact hPc, va_K.moved hW.alike hK⟩⟩ rfl rfl hl.1 rfl (lv_room (Nat.le_of_ble_eq_true rfl)) dX8_number_5 ⟨Nat.le_of_ble_eq_true rfl, Nat.le_of_ble_eq_true rfl⟩) (fun r hw => ?_)
  have hr5 := hw
  subst hr5
  refine lv_if_ne (tgt := 13) gx gb dX8_number_8 (by decide) (fun c8 => ?_) (fun c8 => ?_)
  · skip
    rw [b0_eq] at c8
    simp only [decide_eq_false_iff_not, Decidable.not_not] at c8
    refine lv_iload_n gx gb dX8_number_13 rfl (lv_at hl 2 rfl) ?_
    refine lv_if_lt (tgt := 23) gx gb dX8_number_14 (by decide) (fun c14 => ?_) (fun c14 => ?_)
    · skip
      rw [z0_lt (by omega) (by omega)] at c14
      refine lv_bipush (v := zI (-2)) gx gb dX8_number_23 (by decide) ?_
      have e_N : (pk 256 num n) = (pk 256 (if (0 ≤ a ∧ a < n) ∧ (0 ≤ b ∧ b ≤ 99) then up num a.toNat b.toNat else num) n) := by rw [if_neg (by omega)]
      have hP : va_P D vwCl (wX h fl e1 e2 pd sg cI k1 k2 rv n (pk 256 (if (0 ≤ a ∧ a < n) ∧ (0 ≤ b ∧ b ≤ 99) then up num a.toNat b.toNat else num) n) R q S c na Na Ra qa Sa ca nb Nb Rb qb Sb cb cnt rb sb g) Gs.heap := by rw [← e_N]; exact hP
      have hD : va_D A (wX h fl e1 e2 pd sg cI k1 k2 rv n (pk 256 (if (0 ≤ a ∧ a < n) ∧ (0 ≤ b ∧ b ≤ 99) then up num a.toNat b.toNat else num) n) R q S c na Na Ra qa Sa ca nb Nb Rb qb Sb cb cnt rb sb g) := by rw [← e_N]; exact hD
      exact W.iret (v := zI (-2)) gx gb gr (fun t ht hW => ⟨⟨zI (-2), (), rfl, (by first | (dsimp only; done) | ((try dsimp only); rw [numZ, if_pos (by omega), if_neg (by omega)])), by rw [ht]; exact hP, va_K.moved hW.alike hK, hD⟩, hS.F ht⟩) hS.2.2 dX8_number_25
    · skip
      rw [z0_lt (by omega) (by omega)] at c14
      refine lv_iload_n gx gb dX8_number_17 rfl (lv_at hl 2 rfl) ?_
      refine lv_bipush (v := nI 99) gx gb dX8_number_18 (by decide) ?_
      refine lv_icmp_le (tgt := 26) gx gb dX8_number_20 (by decide) (fun c20 => ?_) (fun c20 => ?_)
      · skip
        rw [zn_le (by omega) (by omega) (by omega)] at c20
        obtain ⟨i, hi⟩ : ∃ i : Nat, a = (i : Int) := ⟨a.toNat, by omega⟩
        rw [show zI a = nI i from by rw [hi, zI_nat]] at hl
        obtain ⟨j, hj⟩ : ∃ j : Nat, b = (j : Int) := ⟨b.toNat, by omega⟩
        rw [show zI b = nI j from by rw [hj, zI_nat]] at hl
        have hl : lv_has ls 4 [(0, .ref h), (1, .int (nI i)), (2, .int (nI j))] := hl
        refine lv_aload_n gx gb dX8_number_26 rfl (lv_at hl 0 rfl) ?_
        refine va_get (D := D) (ci := 3) (v := .ref fl) (C := RX8) (T := TX8) (N := 7) gx gb gts i8 gown hK hP 0 rfl rfl 0 (by decide) (gts (.fieldLink RX8 12 "SwanSums" "flock" "LSwanSums$Flock;") (by decide +kernel)) (fun _ h9 => h9) rfl dX8_number_27 ?_
        refine va_get (D := D) (ci := 0) (v := .long (lN (pk 256 num n))) (C := RX1) (T := TX1) (N := 6) gx gb gts i1 gown hK hP 1 rfl rfl 1 (by decide) (gts (.fieldLink RX8 52 "SwanSums$Flock" "numbers" "J") (by decide +kernel)) (fun _ h9 => h9) rfl dX8_number_30 ?_
        refine lv_iload_n gx gb dX8_number_33 rfl (lv_at hl 1 rfl) ?_
        refine vp_callSi (W.runS (As := [.long (lN (pk 256 num n)), .int (nI i)]) (rest := []) ⟨gx, gb, gml, gown, gts⟩ (kX3_numberAt Gl (pk 256 num n) i (by omega) (by omega)) (va_cwS 2 gts gX8_number_X3_numberAt rfl rfl rfl (by decide +kernel) ⟨Nat.le_of_ble_eq_true rfl, Nat.le_of_ble_eq_true rfl⟩) ⟨fun _ _ _ _ h => h, fun U hU hW => ⟨rfl, trivial⟩⟩ rfl rfl hl.1 rfl (lv_room (Nat.le_of_ble_eq_true rfl)) dX8_number_34 ⟨Nat.le_of_ble_eq_true rfl, Nat.le_of_ble_eq_true rfl⟩) (fun r hw => ?_)
        have hr34 := hw
        subst hr34
        refine lv_istore_n (lv' := [(3, .int (nI (dg 256 (pk 256 num n) i))), (0, .ref h), (1, .int (nI i)), (2, .int (nI j))]) gx gb dX8_number_37 rfl hl (by decide) rfl (fun ls hl => ?_)
        refine lv_aload_n gx gb dX8_number_38 rfl (lv_at hl 1 rfl) ?_
        refine va_get (D := D) (ci := 3) (v := .ref fl) (C := RX8) (T := TX8) (N := 7) gx gb gts i8 gown hK hP 0 rfl rfl 0 (by decide) (gts (.fieldLink RX8 12 "SwanSums" "flock" "LSwanSums$Flock;") (by decide +kernel)) (fun _ h9 => h9) rfl dX8_number_39 ?_
        refine lv_aload_n gx gb dX8_number_42 rfl (lv_at hl 1 rfl) ?_
        refine va_get (D := D) (ci := 3) (v := .ref fl) (C := RX8) (T := TX8) (N := 7) gx gb gts i8 gown hK hP 0 rfl rfl 0 (by decide) (gts (.fieldLink RX8 12 "SwanSums" "flock" "LSwanSums$Flock;") (by decide +kernel)) (fun _ h9 => h9) rfl dX8_number_43 ?_
        refine va_get (D := D) (ci := 0) (v := .long (lN (pk 256 num n))) (C := RX1) (T := TX1) (N := 6) gx gb gts i1 gown hK hP 1 rfl rfl 1 (by decide) (gts (.fieldLink RX8 52 "SwanSums$Flock" "numbers" "J") (by decide +kernel)) (fun _ h9 => h9) rfl dX8_number_46 ?_
        refine lv_iload_n gx gb dX8_number_49 rfl (lv_at hl 2 rfl) ?_
        refine lv_iload_n gx gb dX8_number_50 rfl (lv_at hl 3 rfl) ?_
        refine vp_callSl (W.runS (As := [.long (lN (pk 256 num n)), .int (nI i), .int (nI j)]) (rest := [.ref fl]) ⟨gx, gb, gml, gown, gts⟩ (kX3_with Gl (pk 256 num n) i j (by omega) (by omega) (by omega)) (va_cwS 3 gts gX8_number_X3_with rfl rfl rfl (by decide +kernel) ⟨Nat.le_of_ble_eq_true rfl, Nat.le_of_ble_eq_true rfl⟩) ⟨fun _ _ _ _ h => h, fun U hU hW => ⟨rfl, trivial⟩⟩ rfl rfl hl.1 rfl (lv_room (Nat.le_of_ble_eq_true rfl)) dX8_number_51 ⟨Nat.le_of_ble_eq_true rfl, Nat.le_of_ble_eq_true rfl⟩) (fun r hw => ?_)
        have hr51 := hw
        subst hr51
        refine va_put (D := D) (ci := 0) (v := .long (lN (withC (pk 256 num n) i j))) (ty := .long) (C := RX1) (T := TX1) (N := 6) gx gb gts i1 tyX1 tyX1_ok nmX1 gown hK hP hD hS 1 rfl rfl 1 (by decide) (gts (.fieldLink RX8 52 "SwanSums$Flock" "numbers" "J") (by decide +kernel)) (fun _ h9 => h9) rfl (by decide +kernel) rfl rfl (Nat.le_of_ble_eq_true rfl) dX8_number_54 (fun H locs hP hD hS => ?_)
        have hP : va_P D vwCl (wX h fl e1 e2 pd sg cI k1 k2 rv n (withC (pk 256 num n) i j) R q S c na Na Ra qa Sa ca nb Nb Rb qb Sb cb cnt rb sb g) H := hP
        have hD : va_D A (wX h fl e1 e2 pd sg cI k1 k2 rv n (withC (pk 256 num n) i j) R q S c na Na Ra qa Sa ca nb Nb Rb qb Sb cb cnt rb sb g) := hD
        refine lv_iload_n gx gb dX8_number_57 rfl (lv_at hl 0 rfl) ?_
        have e_N : (withC (pk 256 num n) i j) = (pk 256 (if (0 ≤ a ∧ a < n) ∧ (0 ≤ b ∧ b ≤ 99) then up num a.toNat b.toNat else num) n) := by rw [if_pos (by omega), hi, hj]; exact withC_pk hn256 (by omega) (by omega)
        have hP : va_P D vwCl (wX h fl e1 e2 pd sg cI k1 k2 rv n (pk 256 (if (0 ≤ a ∧ a < n) ∧ (0 ≤ b ∧ b ≤ 99) then up num a.toNat b.toNat else num) n) R q S c na Na Ra qa Sa ca nb Nb Rb qb Sb cb cnt rb sb g) H := by rw [← e_N]; exact hP
        have hD : va_D A (wX h fl e1 e2 pd sg cI k1 k2 rv n (pk 256 (if (0 ≤ a ∧ a < n) ∧ (0 ≤ b ∧ b ≤ 99) then up num a.toNat b.toNat else num) n) R q S c na Na Ra qa Sa ca nb Nb Rb qb Sb cb cnt rb sb g) := by rw [← e_N]; exact hD
        exact W.iret (v := nI (dg 256 (pk 256 num n) i)) gx gb gr (fun t ht hW => ⟨⟨nI (dg 256 (pk 256 num n) i), (), rfl, (by first | (dsimp only; done) | ((try dsimp only); rw [numZ, if_pos (by omega), if_pos (by omega), hi, dg_pk hn256 (by omega)]; exact (zI_nat _).symm)), by rw [ht]; exact hP, va_K.moved hW.alike hK, hD⟩, hS.F ht⟩) hS.2.2 dX8_number_58
      · skip
        rw [zn_le (by omega) (by omega) (by omega)] at c20
        refine lv_bipush (v := zI (-2)) gx gb dX8_number_23 (by decide) ?_
        have e_N : (pk 256 num n) = (pk 256 (if (0 ≤ a ∧ a < n) ∧ (0 ≤ b ∧ b ≤ 99) then up num a.toNat b.toNat else num) n) := by rw [if_neg (by omega)]
        have hP : va_P D vwCl (wX h fl e1 e2 pd sg cI k1 k2 rv n (pk 256 (if (0 ≤ a ∧ a < n) ∧ (0 ≤ b ∧ b ≤ 99) then up num a.toNat b.toNat else num) n) R q S c na Na Ra qa Sa ca nb Nb Rb qb Sb cb cnt rb sb g) Gs.heap := by rw [← e_N]; exact hP
        have hD : va_D A (wX h fl e1 e2 pd sg cI k1 k2 rv n (pk 256 (if (0 ≤ a ∧ a < n) ∧ (0 ≤ b ∧ b ≤ 99) then up num a.toNat b.toNat else num) n) R q S c na Na Ra qa Sa ca nb Nb Rb qb Sb cb cnt rb sb g) := by rw [← e_N]; exact hD
        exact W.iret (v := zI (-2)) gx gb gr (fun t ht hW => ⟨⟨zI (-2), (), rfl, (by first | (dsimp only; done) | ((try dsimp only); rw [numZ, if_pos (by omega), if_neg (by omega)])), by rw [ht]; exact hP, va_K.moved hW.alike hK, hD⟩, hS.F ht⟩) hS.2.2 dX8_number_25
  · skip
    rw [b0_eq] at c8
    simp only [decide_eq_false_iff_not, Decidable.not_not] at c8
    refine lv_iconst (v := zI (-1)) gx gb dX8_number_11 (by decide) ?_
    have e_N : (pk 256 num n) = (pk 256 (if (0 ≤ a ∧ a < n) ∧ (0 ≤ b ∧ b ≤ 99) then up num a.toNat b.toNat else num) n) := by rw [if_neg (by omega)]
    have hP : va_P D vwCl (wX h fl e1 e2 pd sg cI k1 k2 rv n (pk 256 (if (0 ≤ a ∧ a < n) ∧ (0 ≤ b ∧ b ≤ 99) then up num a.toNat b.toNat else num) n) R q S c na Na Ra qa Sa ca nb Nb Rb qb Sb cb cnt rb sb g) Gs.heap := by rw [← e_N]; exact hP
    have hD : va_D A (wX h fl e1 e2 pd sg cI k1 k2 rv n (pk 256 (if (0 ≤ a ∧ a < n) ∧ (0 ≤ b ∧ b ≤ 99) then up num a.toNat b.toNat else num) n) R q S c na Na Ra qa Sa ca nb Nb Rb qb Sb cb cnt rb sb g) := by rw [← e_N]; exact hD
    exact W.iret (v := zI (-1)) gx gb gr (fun t ht hW => ⟨⟨zI (-1), (), rfl, (by first | (dsimp only; done) | ((try dsimp only); rw [numZ, if_neg (by omega)])), by rw [ht]; exact hP, va_K.moved hW.alike hK, hD⟩, hS.F ht⟩) hS.2.2 dX8_number_12

set_option maxHeartbeats 4000000 in
set_option maxRecDepth 100000 in
theorem kX8_say (Gl : Launch) (D : va_G) (cI cJ cZ : ClassId) (h : Nat) (fl : Nat) (e1 : Nat) (e2 : Nat) (pd : Nat) (sg : Nat) (k1 : Nat) (k2 : Nat) (rv : Value) (n : Nat) (N : Nat) (R : Nat) (q : Nat) (S : Nat) (c : Nat) (na : Nat) (Na : Nat) (Ra : Nat) (qa : Nat) (Sa : Nat) (ca : Nat) (nb : Nat) (Nb : Nat) (Rb : Nat) (qb : Nat) (Sb : Nat) (cb : Nat) (cnt : Nat) (rb : Nat) (sb : Nat) (g : Nat → Nat) (sz : Nat) (a : Int) (hl_a : -2147483648 ≤ a) (hu_a : a < 2147483648) (hcn : cnt ≤ 60) : Met Gl yX8_say wsX8_say ({ frames := 1, cells := 0, slots := 0, locals := 21 } : Room) (va_Pc [.ref h, .int (zI a)] (fun U => U.heap.size = sz ∧ va_P D vwCl (wX h fl e1 e2 pd sg cI k1 k2 rv n N R q S c na Na Ra qa Sa ca nb Nb Rb qb Sb cb cnt rb sb g) U.heap ∧ va_K D vwCl [(cI, .int), (cJ, .long), (cZ, .boolean)] U ∧ va_D (fun _ => True) (wX h fl e1 e2 pd sg cI k1 k2 rv n N R q S c na Na Ra qa Sa ca nb Nb Rb qb Sb cb cnt rb sb g))) (va_Qi (fun (r : Int32) (u : Unit) => r = zI (sayZ cnt a)) (fun (u : Unit) t => va_P D vwCl (wX h fl e1 e2 pd sg cI k1 k2 rv n N R q S c na Na Ra qa Sa ca nb Nb Rb qb Sb cb (if (33 ≤ a ∧ a ≤ 126) ∧ cnt < 60 then cnt + 1 else cnt) rb sb (if (33 ≤ a ∧ a ≤ 126) ∧ cnt < 60 then up g cnt a.toNat else g)) t.heap ∧ va_K D vwCl [(cI, .int), (cJ, .long), (cZ, .boolean)] t ∧ va_D (va_A (wX h fl e1 e2 pd sg cI k1 k2 rv n N R q S c na Na Ra qa Sa ca nb Nb Rb qb Sb cb cnt rb sb g) sz) (wX h fl e1 e2 pd sg cI k1 k2 rv n N R q S c na Na Ra qa Sa ca nb Nb Rb qb Sb cb (if (33 ≤ a ∧ a ≤ 126) ∧ cnt < 60 then cnt + 1 else cnt) rb sb (if (33 ≤ a ∧ a ≤ 126) ∧ cnt < 60 then up g cnt a.toNat else g))) (va_A (wX h fl e1 e2 pd sg cI k1 k2 rv n N R q S c na Na Ra qa Sa ca nb Nb Rb qb Sb cb cnt rb sb g) sz)) 0 0 (va_A (wX h fl e1 e2 pd sg cI k1 k2 rv n N R q S c na Na Ra qa Sa ca nb Nb Rb qb Sb cb cnt rb sb g) sz) := by
  refine Met.ofW (cc := cX8_say) (maxL := 2) (ret := (some .int)) (by decide +kernel) rfl ?_
  intro Gp Ge Gs Gm Ga Gw Gt Gc G1 Bd gml gv
  obtain ⟨rfl, hsz, hP, hK, hD0⟩ := gv
  have gx := Bd.exec
  have gb := Bd.bytes
  have gr := Bd.returns
  have gts := atoms_spec (ws := wsX8_say) Bd.pre
  have gown : Gs.vm.findClass RX8 = some Gm.cls := findClass_of_methodNamed Bd.named
  have glk := Bd.notSynchronized
  subst hsz
  have hD := hD0.self (sz := Gs.heap.size)
  generalize hAe : va_A (wX h fl e1 e2 pd sg cI k1 k2 rv n N R q S c na Na Ra qa Sa ca nb Nb Rb qb Sb cb cnt rb sb g) Gs.heap.size = A at hD ⊢
  have hA : ∀ q : Nat, Gs.heap.size ≤ q → A q := fun q h => by rw [← hAe]; exact Or.inr h
  have hS : va_S A Gs.heap Gs.heap [] := va_S.rf
  have hP : va_P D vwCl (wX h fl e1 e2 pd sg cI k1 k2 rv n N R q S c na Na Ra qa Sa ca nb Nb Rb qb Sb cb cnt rb sb g) Gs.heap := hP
  have hl := lv_entry ([.ref h, .int (zI a)]) (n := 2) (Nat.le_of_ble_eq_true rfl)
  rw [lg_entry_eq]
  generalize (lg_sl ([.ref h, .int (zI a)]) ++ List.replicate (2 - (lg_sl ([.ref h, .int (zI a)])).length) Slot.unset).toArray = ls at hl ⊢
  have hl : lv_has ls 2 [(0, .ref h), (1, .int (zI a))] := hl
  have i4 : ∀ w ∈ wsX40, w ∈ wsX8_say := by decide +kernel
  have i8 : ∀ w ∈ wsX80, w ∈ wsX8_say := by decide +kernel
  refine lv_iload_n gx gb dX8_say_0 rfl (lv_at hl 1 rfl) ?_
  refine lv_bipush (v := nI 33) gx gb dX8_say_1 (by decide) ?_
  refine lv_icmp_lt (tgt := 12) gx gb dX8_say_3 (by decide) (fun c3 => ?_) (fun c3 => ?_)
  · skip
    rw [zn_lt (by omega) (by omega) (by omega)] at c3
    refine lv_bipush (v := zI (-2)) gx gb dX8_say_12 (by decide) ?_
    have e_cnt : cnt = (if (33 ≤ a ∧ a ≤ 126) ∧ cnt < 60 then cnt + 1 else cnt) := by rw [if_neg (by omega)]
    have e_g : g = (if (33 ≤ a ∧ a ≤ 126) ∧ cnt < 60 then up g cnt a.toNat else g) := by rw [if_neg (by omega)]
    have hP : va_P D vwCl (wX h fl e1 e2 pd sg cI k1 k2 rv n N R q S c na Na Ra qa Sa ca nb Nb Rb qb Sb cb (if (33 ≤ a ∧ a ≤ 126) ∧ cnt < 60 then cnt + 1 else cnt) rb sb (if (33 ≤ a ∧ a ≤ 126) ∧ cnt < 60 then up g cnt a.toNat else g)) Gs.heap := by rw [← e_cnt, ← e_g]; exact hP
    have hD : va_D A (wX h fl e1 e2 pd sg cI k1 k2 rv n N R q S c na Na Ra qa Sa ca nb Nb Rb qb Sb cb (if (33 ≤ a ∧ a ≤ 126) ∧ cnt < 60 then cnt + 1 else cnt) rb sb (if (33 ≤ a ∧ a ≤ 126) ∧ cnt < 60 then up g cnt a.toNat else g)) := by rw [← e_cnt, ← e_g]; exact hD
    exact W.iret (v := zI (-2)) gx gb gr (fun t ht hW => ⟨⟨zI (-2), (), rfl, (by first | (dsimp only; done) | ((try dsimp only); rw [sayZ, if_neg (by omega)])), by rw [ht]; exact hP, va_K.moved hW.alike hK, hD⟩, hS.F ht⟩) hS.2.2 dX8_say_14
  · skip
    rw [zn_lt (by omega) (by omega) (by omega)] at c3
    refine lv_iload_n gx gb dX8_say_6 rfl (lv_at hl 1 rfl) ?_
    refine lv_bipush (v := nI 126) gx gb dX8_say_7 (by decide) ?_
    refine lv_icmp_le (tgt := 15) gx gb dX8_say_9 (by decide) (fun c9 => ?_) (fun c9 => ?_)
    · skip
      rw [zn_le (by omega) (by omega) (by omega)] at c9
      obtain ⟨i, hi⟩ : ∃ i : Nat, a = (i : Int) := ⟨a.toNat, by omega⟩
      rw [show zI a = nI i from by rw [hi, zI_nat]] at hl
      have hl : lv_has ls 2 [(0, .ref h), (1, .int (nI i))] := hl
      refine lv_aload_n gx gb dX8_say_15 rfl (lv_at hl 0 rfl) ?_
      refine va_get (D := D) (ci := 3) (v := .ref pd) (C := RX8) (T := TX8) (N := 7) gx gb gts i8 gown hK hP 0 rfl rfl 5 (by decide) (gts (.fieldLink RX8 32 "SwanSums" "pad" "LSwanSums$Pad;") (by decide +kernel)) (fun _ h9 => h9) rfl dX8_say_16 ?_
      refine lv_iload_n gx gb dX8_say_19 rfl (lv_at hl 1 rfl) ?_
      have hPc := hP.sub (ws' := wP pd sg cI cnt rb sb g) [4, 5] rfl
      have hDc := hD.sub (ws' := wP pd sg cI cnt rb sb g) [4, 5] (by decide) rfl
      have hFc := va_free (wc := wP pd sg cI cnt rb sb g) hD hS hA [4, 5] rfl
      refine va_calli (va_runV (As := [.int (nI i)]) (rest := []) ⟨gx, gb, gml, gown, gts⟩ (kX4_add Gl D cI cJ cZ pd sg cnt rb sb g _ i (by omega)) (cwV 1 gts gX8_say_X4_add rfl rfl rfl (by decide +kernel) ⟨Nat.le_of_ble_eq_true rfl, Nat.le_of_ble_eq_true rfl⟩) ⟨fun a U g mk q => by obtain ⟨q0, q1, qP, qK, qD⟩ := q; exact ⟨q0, q1, qP, va_K.moved (u := U) (U := U.calling g mk a) (Vm.Alike.refl U.vm) qK, qD⟩, va_recv hK hPc (ci := 1) (q0 := 0) rfl rfl, fun U hU hW => ⟨rfl, by rw [hU], by rw [hU]; exact hPc, va_K.moved hW.alike hK, hDc.weaken (fun _ _ _ _ => trivial)⟩⟩ rfl rfl hl.1 rfl (lv_room (Nat.le_of_ble_eq_true rfl)) dX8_say_20 ⟨Nat.le_of_ble_eq_true rfl, Nat.le_of_ble_eq_true rfl⟩) hS (fun q _ h => hFc q h) hFc (fun r u t H1 locs ht hvm hw hB hz1 hk1 hS => ?_)
      obtain ⟨hP1, hK1, hD1⟩ := hB
      rw [ht] at hP1
      try dsimp only at hw
      try dsimp only at hP1
      try dsimp only at hD1
      have hK := va_K.moved hvm.symm hK1
      obtain ⟨hP, hD⟩ := va_join (wr := [(h, .inr (3, [.ref fl, .ref e1, .ref e2, .int (nI k1), .int (nI k2), .ref pd, rv])), (fl, .inr (0, [.int (nI n), .long (lN N), .int (nI R), .int (nI q), .long (lN S), .int (nI c)])), (e1, .inr (0, [.int (nI na), .long (lN Na), .int (nI Ra), .int (nI qa), .long (lN Sa), .int (nI ca)])), (e2, .inr (0, [.int (nI nb), .long (lN Nb), .int (nI Rb), .int (nI qb), .long (lN Sb), .int (nI cb)]))]) (w1 := wP pd sg cI (if cnt < 60 then cnt + 1 else cnt) rb sb (if cnt < 60 then up g cnt i else g)) hP hD [4, 5] [0, 1, 2, 3] rfl rfl (by decide) (by decide) hk1 hFc hP1 hD1
      have hP := hP.sub (ws' := wX h fl e1 e2 pd sg cI k1 k2 rv n N R q S c na Na Ra qa Sa ca nb Nb Rb qb Sb cb (if cnt < 60 then cnt + 1 else cnt) rb sb (if cnt < 60 then up g cnt i else g)) [0, 1, 2, 3, 4, 5] rfl
      have hD := hD.sub (ws' := wX h fl e1 e2 pd sg cI k1 k2 rv n N R q S c na Na Ra qa Sa ca nb Nb Rb qb Sb cb (if cnt < 60 then cnt + 1 else cnt) rb sb (if cnt < 60 then up g cnt i else g)) [0, 1, 2, 3, 4, 5] (by decide) rfl
      have hK := va_K.moved (Vm.Alike.refl Gs.vm) hK
      generalize H1 = H at hP hS ⊢
      have hr20 := hw
      subst hr20
      refine lv_if_eq (tgt := 36) gx gb dX8_say_23 (by decide) (fun c23 => ?_) (fun c23 => ?_)
      · skip
        rw [b0_eq] at c23
        simp only [decide_eq_false_iff_not, Decidable.not_not] at c23
        refine lv_bipush (v := zI (-4)) gx gb dX8_say_36 (by decide) ?_
        have e_cnt : (if cnt < 60 then cnt + 1 else cnt) = (if (33 ≤ a ∧ a ≤ 126) ∧ cnt < 60 then cnt + 1 else cnt) := by first | (rw [if_pos c23, if_pos (by omega)]; done) | (rw [if_neg c23, if_neg (by omega)])
        have e_g : (if cnt < 60 then up g cnt i else g) = (if (33 ≤ a ∧ a ≤ 126) ∧ cnt < 60 then up g cnt a.toNat else g) := by first | (rw [if_pos c23, if_pos (by omega), hi]; rfl) | (rw [if_neg c23, if_neg (by omega)])
        have hP : va_P D vwCl (wX h fl e1 e2 pd sg cI k1 k2 rv n N R q S c na Na Ra qa Sa ca nb Nb Rb qb Sb cb (if (33 ≤ a ∧ a ≤ 126) ∧ cnt < 60 then cnt + 1 else cnt) rb sb (if (33 ≤ a ∧ a ≤ 126) ∧ cnt < 60 then up g cnt a.toNat else g)) H := by rw [← e_cnt, ← e_g]; exact hP
        have hD : va_D A (wX h fl e1 e2 pd sg cI k1 k2 rv n N R q S c na Na Ra qa Sa ca nb Nb Rb qb Sb cb (if (33 ≤ a ∧ a ≤ 126) ∧ cnt < 60 then cnt + 1 else cnt) rb sb (if (33 ≤ a ∧ a ≤ 126) ∧ cnt < 60 then up g cnt a.toNat else g)) := by rw [← e_cnt, ← e_g]; exact hD
        exact W.iret (v := zI (-4)) gx gb gr (fun t ht hW => ⟨⟨zI (-4), (), rfl, (by first | (dsimp only; done) | ((try dsimp only); first | (rw [sayZ, if_pos (by omega), if_pos (by omega), if_pos (by omega)]; exact (zI_nat (cnt + 1)).symm) | (rw [sayZ, if_pos (by omega), if_neg (by omega)]))), by rw [ht]; exact hP, va_K.moved hW.alike hK, hD⟩, hS.F ht⟩) hS.2.2 dX8_say_38
      · skip
        rw [b0_eq] at c23
        simp only [decide_eq_false_iff_not, Decidable.not_not] at c23
        refine lv_aload_n gx gb dX8_say_26 rfl (lv_at hl 0 rfl) ?_
        refine va_get (D := D) (ci := 3) (v := .ref pd) (C := RX8) (T := TX8) (N := 7) gx gb gts i8 gown hK hP 0 rfl rfl 5 (by decide) (gts (.fieldLink RX8 32 "SwanSums" "pad" "LSwanSums$Pad;") (by decide +kernel)) (fun _ h9 => h9) rfl dX8_say_27 ?_
        refine va_get (D := D) (ci := 1) (v := .int (nI (if cnt < 60 then cnt + 1 else cnt))) (C := RX4) (T := TX4) (N := 4) gx gb gts i4 gown hK hP 4 rfl rfl 1 (by decide) (gts (.fieldLink RX8 69 "SwanSums$Pad" "count" "I") (by decide +kernel)) (fun _ h9 => h9) rfl dX8_say_30 ?_
        refine lv_goto (tgt := 38) gx gb dX8_say_33 (by decide) ?_
        have e_cnt : (if cnt < 60 then cnt + 1 else cnt) = (if (33 ≤ a ∧ a ≤ 126) ∧ cnt < 60 then cnt + 1 else cnt) := by first | (rw [if_pos c23, if_pos (by omega)]; done) | (rw [if_neg c23, if_neg (by omega)])
        have e_g : (if cnt < 60 then up g cnt i else g) = (if (33 ≤ a ∧ a ≤ 126) ∧ cnt < 60 then up g cnt a.toNat else g) := by first | (rw [if_pos c23, if_pos (by omega), hi]; rfl) | (rw [if_neg c23, if_neg (by omega)])
        have hP : va_P D vwCl (wX h fl e1 e2 pd sg cI k1 k2 rv n N R q S c na Na Ra qa Sa ca nb Nb Rb qb Sb cb (if (33 ≤ a ∧ a ≤ 126) ∧ cnt < 60 then cnt + 1 else cnt) rb sb (if (33 ≤ a ∧ a ≤ 126) ∧ cnt < 60 then up g cnt a.toNat else g)) H := by rw [← e_cnt, ← e_g]; exact hP
        have hD : va_D A (wX h fl e1 e2 pd sg cI k1 k2 rv n N R q S c na Na Ra qa Sa ca nb Nb Rb qb Sb cb (if (33 ≤ a ∧ a ≤ 126) ∧ cnt < 60 then cnt + 1 else cnt) rb sb (if (33 ≤ a ∧ a ≤ 126) ∧ cnt < 60 then up g cnt a.toNat else g)) := by rw [← e_cnt, ← e_g]; exact hD
        exact W.iret (v := nI (if cnt < 60 then cnt + 1 else cnt)) gx gb gr (fun t ht hW => ⟨⟨nI (if cnt < 60 then cnt + 1 else cnt), (), rfl, (by first | (dsimp only; done) | ((try dsimp only); first | (rw [sayZ, if_pos (by omega), if_pos (by omega), if_pos (by omega)]; exact (zI_nat (cnt + 1)).symm) | (rw [sayZ, if_pos (by omega), if_neg (by omega)]))), by rw [ht]; exact hP, va_K.moved hW.alike hK, hD⟩, hS.F ht⟩) hS.2.2 dX8_say_38
    · skip
      rw [zn_le (by omega) (by omega) (by omega)] at c9
      refine lv_bipush (v := zI (-2)) gx gb dX8_say_12 (by decide) ?_
      have e_cnt : cnt = (if (33 ≤ a ∧ a ≤ 126) ∧ cnt < 60 then cnt + 1 else cnt) := by rw [if_neg (by omega)]
      have e_g : g = (if (33 ≤ a ∧ a ≤ 126) ∧ cnt < 60 then up g cnt a.toNat else g) := by rw [if_neg (by omega)]
      have hP : va_P D vwCl (wX h fl e1 e2 pd sg cI k1 k2 rv n N R q S c na Na Ra qa Sa ca nb Nb Rb qb Sb cb (if (33 ≤ a ∧ a ≤ 126) ∧ cnt < 60 then cnt + 1 else cnt) rb sb (if (33 ≤ a ∧ a ≤ 126) ∧ cnt < 60 then up g cnt a.toNat else g)) Gs.heap := by rw [← e_cnt, ← e_g]; exact hP
      have hD : va_D A (wX h fl e1 e2 pd sg cI k1 k2 rv n N R q S c na Na Ra qa Sa ca nb Nb Rb qb Sb cb (if (33 ≤ a ∧ a ≤ 126) ∧ cnt < 60 then cnt + 1 else cnt) rb sb (if (33 ≤ a ∧ a ≤ 126) ∧ cnt < 60 then up g cnt a.toNat else g)) := by rw [← e_cnt, ← e_g]; exact hD
      exact W.iret (v := zI (-2)) gx gb gr (fun t ht hW => ⟨⟨zI (-2), (), rfl, (by first | (dsimp only; done) | ((try dsimp only); rw [sayZ, if_neg (by omega)])), by rw [ht]; exact hP, va_K.moved hW.alike hK, hD⟩, hS.F ht⟩) hS.2.2 dX8_say_14

set_option maxHeartbeats 4000000 in
set_option maxRecDepth 100000 in
theorem kX8_wipe (Gl : Launch) (D : va_G) (cI cJ cZ : ClassId) (h : Nat) (fl : Nat) (e1 : Nat) (e2 : Nat) (pd : Nat) (sg : Nat) (k1 : Nat) (k2 : Nat) (rv : Value) (n : Nat) (N : Nat) (R : Nat) (q : Nat) (S : Nat) (c : Nat) (na : Nat) (Na : Nat) (Ra : Nat) (qa : Nat) (Sa : Nat) (ca : Nat) (nb : Nat) (Nb : Nat) (Rb : Nat) (qb : Nat) (Sb : Nat) (cb : Nat) (cnt : Nat) (rb : Nat) (sb : Nat) (g : Nat → Nat) (sz : Nat) : Met Gl yX8_wipe wsX8_wipe ({ frames := 0, cells := 0, slots := 0, locals := 0 } : Room) (va_Pc [.ref h] (fun U => U.heap.size = sz ∧ va_P D vwCl (wX h fl e1 e2 pd sg cI k1 k2 rv n N R q S c na Na Ra qa Sa ca nb Nb Rb qb Sb cb cnt rb sb g) U.heap ∧ va_K D vwCl [(cI, .int), (cJ, .long), (cZ, .boolean)] U ∧ va_D (fun _ => True) (wX h fl e1 e2 pd sg cI k1 k2 rv n N R q S c na Na Ra qa Sa ca nb Nb Rb qb Sb cb cnt rb sb g))) (va_Qi (fun (r : Int32) (u : Unit) => r = nI cnt) (fun (u : Unit) t => va_P D vwCl (wX h fl e1 e2 pd sg cI k1 k2 rv n N R q S c na Na Ra qa Sa ca nb Nb Rb qb Sb cb 0 rb sb g) t.heap ∧ va_K D vwCl [(cI, .int), (cJ, .long), (cZ, .boolean)] t ∧ va_D (va_A (wX h fl e1 e2 pd sg cI k1 k2 rv n N R q S c na Na Ra qa Sa ca nb Nb Rb qb Sb cb cnt rb sb g) sz) (wX h fl e1 e2 pd sg cI k1 k2 rv n N R q S c na Na Ra qa Sa ca nb Nb Rb qb Sb cb 0 rb sb g)) (va_A (wX h fl e1 e2 pd sg cI k1 k2 rv n N R q S c na Na Ra qa Sa ca nb Nb Rb qb Sb cb cnt rb sb g) sz)) 0 0 (va_A (wX h fl e1 e2 pd sg cI k1 k2 rv n N R q S c na Na Ra qa Sa ca nb Nb Rb qb Sb cb cnt rb sb g) sz) := by
  refine Met.ofW (cc := cX8_wipe) (maxL := 2) (ret := (some .int)) (by decide +kernel) rfl ?_
  intro Gp Ge Gs Gm Ga Gw Gt Gc G1 Bd gml gv
  obtain ⟨rfl, hsz, hP, hK, hD0⟩ := gv
  have gx := Bd.exec
  have gb := Bd.bytes
  have gr := Bd.returns
  have gts := atoms_spec (ws := wsX8_wipe) Bd.pre
  have gown : Gs.vm.findClass RX8 = some Gm.cls := findClass_of_methodNamed Bd.named
  have glk := Bd.notSynchronized
  subst hsz
  have hD := hD0.self (sz := Gs.heap.size)
  generalize hAe : va_A (wX h fl e1 e2 pd sg cI k1 k2 rv n N R q S c na Na Ra qa Sa ca nb Nb Rb qb Sb cb cnt rb sb g) Gs.heap.size = A at hD ⊢
  have hA : ∀ q : Nat, Gs.heap.size ≤ q → A q := fun q h => by rw [← hAe]; exact Or.inr h
  have hS : va_S A Gs.heap Gs.heap [] := va_S.rf
  have hP : va_P D vwCl (wX h fl e1 e2 pd sg cI k1 k2 rv n N R q S c na Na Ra qa Sa ca nb Nb Rb qb Sb cb cnt rb sb g) Gs.heap := hP
  have hl := lv_entry ([.ref h]) (n := 2) (Nat.le_of_ble_eq_true rfl)
  rw [lg_entry_eq]
  generalize (lg_sl ([.ref h]) ++ List.replicate (2 - (lg_sl ([.ref h])).length) Slot.unset).toArray = ls at hl ⊢
  have hl : lv_has ls 2 [(0, .ref h)] := hl
  have i4 : ∀ w ∈ wsX40, w ∈ wsX8_wipe := by decide +kernel
  have i8 : ∀ w ∈ wsX80, w ∈ wsX8_wipe := by decide +kernel
  refine lv_aload_n gx gb dX8_wipe_0 rfl (lv_at hl 0 rfl) ?_
  refine va_get (D := D) (ci := 3) (v := .ref pd) (C := RX8) (T := TX8) (N := 7) gx gb gts i8 gown hK hP 0 rfl rfl 5 (by decide) (gts (.fieldLink RX8 32 "SwanSums" "pad" "LSwanSums$Pad;") (by decide +kernel)) (fun _ h9 => h9) rfl dX8_wipe_1 ?_
  refine va_get (D := D) (ci := 1) (v := .int (nI cnt)) (C := RX4) (T := TX4) (N := 4) gx gb gts i4 gown hK hP 4 rfl rfl 1 (by decide) (gts (.fieldLink RX8 69 "SwanSums$Pad" "count" "I") (by decide +kernel)) (fun _ h9 => h9) rfl dX8_wipe_4 ?_
  refine lv_istore_n (lv' := [(1, .int (nI cnt)), (0, .ref h)]) gx gb dX8_wipe_7 rfl hl (by decide) rfl (fun ls hl => ?_)
  refine lv_aload_n gx gb dX8_wipe_8 rfl (lv_at hl 1 rfl) ?_
  refine va_get (D := D) (ci := 3) (v := .ref pd) (C := RX8) (T := TX8) (N := 7) gx gb gts i8 gown hK hP 0 rfl rfl 5 (by decide) (gts (.fieldLink RX8 32 "SwanSums" "pad" "LSwanSums$Pad;") (by decide +kernel)) (fun _ h9 => h9) rfl dX8_wipe_9 ?_
  refine lv_iconst (v := nI 0) gx gb dX8_wipe_12 (by decide) ?_
  refine va_put (D := D) (ci := 1) (v := .int (nI 0)) (ty := .int) (C := RX4) (T := TX4) (N := 4) gx gb gts i4 tyX4 tyX4_ok nmX4 gown hK hP hD hS 4 rfl rfl 1 (by decide) (gts (.fieldLink RX8 69 "SwanSums$Pad" "count" "I") (by decide +kernel)) (fun _ h9 => h9) rfl (by decide +kernel) rfl rfl (Nat.le_of_ble_eq_true rfl) dX8_wipe_13 (fun H locs hP hD hS => ?_)
  have hP : va_P D vwCl (wX h fl e1 e2 pd sg cI k1 k2 rv n N R q S c na Na Ra qa Sa ca nb Nb Rb qb Sb cb 0 rb sb g) H := hP
  have hD : va_D A (wX h fl e1 e2 pd sg cI k1 k2 rv n N R q S c na Na Ra qa Sa ca nb Nb Rb qb Sb cb 0 rb sb g) := hD
  refine lv_iload_n gx gb dX8_wipe_16 rfl (lv_at hl 0 rfl) ?_
  exact W.iret (v := nI cnt) gx gb gr (fun t ht hW => ⟨⟨nI cnt, (), rfl, (by first | (dsimp only; done) | ((try dsimp only); rfl)), by rw [ht]; exact hP, va_K.moved hW.alike hK, hD⟩, hS.F ht⟩) hS.2.2 dX8_wipe_17

set_option maxHeartbeats 4000000 in
set_option maxRecDepth 100000 in
theorem kX8_fault (Gl : Launch) (D : va_G) (cI cJ cZ : ClassId) (h : Nat) (fl : Nat) (e1 : Nat) (e2 : Nat) (pd : Nat) (sg : Nat) (k1 : Nat) (k2 : Nat) (rv : Value) (n : Nat) (N : Nat) (R : Nat) (q : Nat) (S : Nat) (c : Nat) (na : Nat) (Na : Nat) (Ra : Nat) (qa : Nat) (Sa : Nat) (ca : Nat) (nb : Nat) (Nb : Nat) (Rb : Nat) (qb : Nat) (Sb : Nat) (cb : Nat) (cnt : Nat) (rb : Nat) (sb : Nat) (g : Nat → Nat) (hcn : cnt ≤ 60) (hg : ∀ k, k < cnt → g k < 127) : Met Gl yX8_fault wsX8_fault ({ frames := 2, cells := 0, slots := 0, locals := 46 } : Room) (va_Pc [.ref h] (fun U => va_P D vwCl (wX h fl e1 e2 pd sg cI k1 k2 rv n N R q S c na Na Ra qa Sa ca nb Nb Rb qb Sb cb cnt rb sb g) U.heap ∧ va_K D vwCl [(cI, .int), (cJ, .long), (cZ, .boolean)] U)) (vp_Si (fun r : Int32 => r = zI (fltZ g cnt))) 0 0 (fun _ => False) := by
  refine Met.ofW (cc := cX8_fault) (maxL := 1) (ret := (some .int)) (by decide +kernel) rfl ?_
  intro Gp Ge Gs Gm Ga Gw Gt Gc G1 Bd gml gv
  obtain ⟨rfl, hP, hK⟩ := gv
  have gx := Bd.exec
  have gb := Bd.bytes
  have gr := Bd.returns
  have gts := atoms_spec (ws := wsX8_fault) Bd.pre
  have gown : Gs.vm.findClass RX8 = some Gm.cls := findClass_of_methodNamed Bd.named
  have glk := Bd.notSynchronized
  have hl := lv_entry ([.ref h]) (n := 1) (Nat.le_of_ble_eq_true rfl)
  rw [lg_entry_eq]
  generalize (lg_sl ([.ref h]) ++ List.replicate (1 - (lg_sl ([.ref h])).length) Slot.unset).toArray = ls at hl ⊢
  have hl : lv_has ls 1 [(0, .ref h)] := hl
  have i8 : ∀ w ∈ wsX80, w ∈ wsX8_fault := by decide +kernel
  refine lv_aload_n gx gb dX8_fault_0 rfl (lv_at hl 0 rfl) ?_
  refine va_get (D := D) (ci := 3) (v := .ref pd) (C := RX8) (T := TX8) (N := 7) gx gb gts i8 gown hK hP 0 rfl rfl 5 (by decide) (gts (.fieldLink RX8 32 "SwanSums" "pad" "LSwanSums$Pad;") (by decide +kernel)) (fun _ h9 => h9) rfl dX8_fault_1 ?_
  have hPc := hP.sub (ws' := wP pd sg cI cnt rb sb g) [4, 5] rfl
  refine vp_callSi (W.runV (As := []) (rest := []) ⟨gx, gb, gml, gown, gts⟩ (kX4_firstFault Gl D cI cJ cZ pd sg cnt rb sb g  (by omega) (by omega)) (cwV 0 gts gX8_fault_X4_firstFault rfl rfl rfl (by decide +kernel) ⟨Nat.le_of_ble_eq_true rfl, Nat.le_of_ble_eq_true rfl⟩) ⟨fun a U g mk q => ⟨q.1, q.2.1, va_K.moved (u := U) (U := U.calling g mk a) (Vm.Alike.refl U.vm) q.2.2⟩, va_recv hK hPc (ci := 1) (q0 := 0) rfl rfl, fun U hU hW => ⟨rfl, by rw [hU]; exact hPc, va_K.moved hW.alike hK⟩⟩ rfl rfl hl.1 rfl (lv_room (Nat.le_of_ble_eq_true rfl)) dX8_fault_4 ⟨Nat.le_of_ble_eq_true rfl, Nat.le_of_ble_eq_true rfl⟩) (fun r hw => ?_)
  have hr4 := hw
  subst hr4
  exact W.iret (v := zI (fltZ g cnt)) gx gb gr (fun t ht hW => ⟨zI (fltZ g cnt), rfl, (by first | (dsimp only; done) | ((try dsimp only); rfl)), ht⟩) (fun q h => by cases h) dX8_fault_7

set_option maxHeartbeats 4000000 in
set_option maxRecDepth 100000 in
theorem kX8_judge (Gl : Launch) (D : va_G) (cI cJ cZ : ClassId) (h : Nat) (fl : Nat) (e1 : Nat) (e2 : Nat) (pd : Nat) (sg : Nat) (k1 : Nat) (k2 : Nat) (rv : Value) (n : Nat) (N : Nat) (q : Nat) (S : Nat) (c : Nat) (na : Nat) (Na : Nat) (Ra : Nat) (qa : Nat) (Sa : Nat) (ca : Nat) (nb : Nat) (Nb : Nat) (Rb : Nat) (qb : Nat) (Sb : Nat) (cb : Nat) (cnt : Nat) (rb : Nat) (sb : Nat) (g : Nat → Nat) (sz : Nat) (plc : Nat → Nat) (hcn : cnt ≤ 60) (hg : ∀ k, k < cnt → g k < 127) (hn1 : 1 ≤ n) (hn7 : n ≤ 7) (hq1 : 1 ≤ q) (hqn : q ≤ n) (hp : ∀ k, k < q → plc k < n) : Met Gl yX8_judge wsX8_judge ({ frames := 5, cells := 0, slots := 0, locals := 118 } : Room) (va_Pc [.ref h] (fun U => U.heap.size = sz ∧ va_P D vwCl (wX h fl e1 e2 pd sg cI k1 k2 rv n N (pk 8 plc q) q S c na Na Ra qa Sa ca nb Nb Rb qb Sb cb cnt rb sb g) U.heap ∧ va_K D vwCl [(cI, .int), (cJ, .long), (cZ, .boolean)] U ∧ va_D (fun _ => True) (wX h fl e1 e2 pd sg cI k1 k2 rv n N (pk 8 plc q) q S c na Na Ra qa Sa ca nb Nb Rb qb Sb cb cnt rb sb g))) (va_Qi (fun (r : Int32) (u : (Nat) × (Nat)) => r = zI (judZ g cnt plc q)) (fun (u : (Nat) × (Nat)) t => va_P D vwCl (wX h fl e1 e2 pd sg cI k1 k2 rv n N (pk 8 plc q) q S c na Na Ra qa Sa ca nb Nb Rb qb Sb cb cnt u.1 u.2 g) t.heap ∧ va_K D vwCl [(cI, .int), (cJ, .long), (cZ, .boolean)] t ∧ va_D (va_A (wX h fl e1 e2 pd sg cI k1 k2 rv n N (pk 8 plc q) q S c na Na Ra qa Sa ca nb Nb Rb qb Sb cb cnt rb sb g) sz) (wX h fl e1 e2 pd sg cI k1 k2 rv n N (pk 8 plc q) q S c na Na Ra qa Sa ca nb Nb Rb qb Sb cb cnt u.1 u.2 g)) (va_A (wX h fl e1 e2 pd sg cI k1 k2 rv n N (pk 8 plc q) q S c na Na Ra qa Sa ca nb Nb Rb qb Sb cb cnt rb sb g) sz)) 0 0 (va_A (wX h fl e1 e2 pd sg cI k1 k2 rv n N (pk 8 plc q) q S c na Na Ra qa Sa ca nb Nb Rb qb Sb cb cnt rb sb g) sz) := by
  refine Met.ofW (cc := cX8_judge) (maxL := 1) (ret := (some .int)) (by decide +kernel) rfl ?_
  intro Gp Ge Gs Gm Ga Gw Gt Gc G1 Bd gml gv
  obtain ⟨rfl, hsz, hP, hK, hD0⟩ := gv
  have gx := Bd.exec
  have gb := Bd.bytes
  have gr := Bd.returns
  have gts := atoms_spec (ws := wsX8_judge) Bd.pre
  have gown : Gs.vm.findClass RX8 = some Gm.cls := findClass_of_methodNamed Bd.named
  have glk := Bd.notSynchronized
  subst hsz
  have hD := hD0.self (sz := Gs.heap.size)
  generalize hAe : va_A (wX h fl e1 e2 pd sg cI k1 k2 rv n N (pk 8 plc q) q S c na Na Ra qa Sa ca nb Nb Rb qb Sb cb cnt rb sb g) Gs.heap.size = A at hD ⊢
  have hA : ∀ q : Nat, Gs.heap.size ≤ q → A q := fun q h => by rw [← hAe]; exact Or.inr h
  have hS : va_S A Gs.heap Gs.heap [] := va_S.rf
  have hP : va_P D vwCl (wX h fl e1 e2 pd sg cI k1 k2 rv n N (pk 8 plc q) q S c na Na Ra qa Sa ca nb Nb Rb qb Sb cb cnt rb sb g) Gs.heap := hP
  have hl := lv_entry ([.ref h]) (n := 1) (Nat.le_of_ble_eq_true rfl)
  rw [lg_entry_eq]
  generalize (lg_sl ([.ref h]) ++ List.replicate (1 - (lg_sl ([.ref h])).length) Slot.unset).toArray = ls at hl ⊢
  have hl : lv_has ls 1 [(0, .ref h)] := hl
  have i1 : ∀ w ∈ wsX10, w ∈ wsX8_judge := by decide +kernel
  have i8 : ∀ w ∈ wsX80, w ∈ wsX8_judge := by decide +kernel
  have hp8 : ∀ k, k < q → plc k < 8 := fun k hk => by have := hp k hk; omega
  have hR8 := pk8_lt hp8 (by omega)
  refine lv_aload_n gx gb dX8_judge_0 rfl (lv_at hl 0 rfl) ?_
  refine va_get (D := D) (ci := 3) (v := .ref pd) (C := RX8) (T := TX8) (N := 7) gx gb gts i8 gown hK hP 0 rfl rfl 5 (by decide) (gts (.fieldLink RX8 32 "SwanSums" "pad" "LSwanSums$Pad;") (by decide +kernel)) (fun _ h9 => h9) rfl dX8_judge_1 ?_
  have hPc := hP.sub (ws' := wP pd sg cI cnt rb sb g) [4, 5] rfl
  refine vp_callSi (W.runV (As := []) (rest := []) ⟨gx, gb, gml, gown, gts⟩ (kX4_firstFault Gl D cI cJ cZ pd sg cnt rb sb g  (by omega) (by omega)) (cwV 0 gts gX8_judge_X4_firstFault rfl rfl rfl (by decide +kernel) ⟨Nat.le_of_ble_eq_true rfl, Nat.le_of_ble_eq_true rfl⟩) ⟨fun a U g mk q => ⟨q.1, q.2.1, va_K.moved (u := U) (U := U.calling g mk a) (Vm.Alike.refl U.vm) q.2.2⟩, va_recv hK hPc (ci := 1) (q0 := 0) rfl rfl, fun U hU hW => ⟨rfl, by rw [hU]; exact hPc, va_K.moved hW.alike hK⟩⟩ rfl rfl hl.1 rfl (lv_room (Nat.le_of_ble_eq_true rfl)) dX8_judge_4 ⟨Nat.le_of_ble_eq_true rfl, Nat.le_of_ble_eq_true rfl⟩) (fun r hw => ?_)
  have hr4 := hw
  subst hr4
  have hfb := fltZ_bd g cnt
  refine lv_bipush (v := zI (-6)) gx gb dX8_judge_7 (by decide) ?_
  refine lv_icmp_eq (tgt := 15) gx gb dX8_judge_9 (by decide) (fun c9 => ?_) (fun c9 => ?_)
  · skip
    rw [zI_eq (by omega) (by omega) (by omega) (by omega)] at c9
    have hf6 : fltZ g cnt = -6 := by omega
    have hcq := cq_le g cnt
    refine lv_aload_n gx gb dX8_judge_15 rfl (lv_at hl 0 rfl) ?_
    refine va_get (D := D) (ci := 3) (v := .ref pd) (C := RX8) (T := TX8) (N := 7) gx gb gts i8 gown hK hP 0 rfl rfl 5 (by decide) (gts (.fieldLink RX8 32 "SwanSums" "pad" "LSwanSums$Pad;") (by decide +kernel)) (fun _ h9 => h9) rfl dX8_judge_16 ?_
    have hPc := hP.sub (ws' := wP pd sg cI cnt rb sb g) [4, 5] rfl
    refine vp_callSi (W.runV (As := []) (rest := []) ⟨gx, gb, gml, gown, gts⟩ (kX4_gaps Gl D cI cJ cZ pd sg cnt rb sb g  (by omega) (by omega)) (cwV 0 gts gX8_judge_X4_gaps rfl rfl rfl (by decide +kernel) ⟨Nat.le_of_ble_eq_true rfl, Nat.le_of_ble_eq_true rfl⟩) ⟨fun a U g mk q => ⟨q.1, q.2.1, va_K.moved (u := U) (U := U.calling g mk a) (Vm.Alike.refl U.vm) q.2.2⟩, va_recv hK hPc (ci := 1) (q0 := 0) rfl rfl, fun U hU hW => ⟨rfl, by rw [hU]; exact hPc, va_K.moved hW.alike hK⟩⟩ rfl rfl hl.1 rfl (lv_room (Nat.le_of_ble_eq_true rfl)) dX8_judge_19 ⟨Nat.le_of_ble_eq_true rfl, Nat.le_of_ble_eq_true rfl⟩) (fun r hw => ?_)
    have hr19 := hw
    subst hr19
    refine lv_if_le (tgt := 28) gx gb dX8_judge_22 (by decide) (fun c22 => ?_) (fun c22 => ?_)
    · skip
      rw [n0_le (by omega)] at c22
      refine lv_aload_n gx gb dX8_judge_28 rfl (lv_at hl 0 rfl) ?_
      refine va_get (D := D) (ci := 3) (v := .ref pd) (C := RX8) (T := TX8) (N := 7) gx gb gts i8 gown hK hP 0 rfl rfl 5 (by decide) (gts (.fieldLink RX8 32 "SwanSums" "pad" "LSwanSums$Pad;") (by decide +kernel)) (fun _ h9 => h9) rfl dX8_judge_29 ?_
      refine lv_aload_n gx gb dX8_judge_32 rfl (lv_at hl 0 rfl) ?_
      refine va_get (D := D) (ci := 3) (v := .ref fl) (C := RX8) (T := TX8) (N := 7) gx gb gts i8 gown hK hP 0 rfl rfl 0 (by decide) (gts (.fieldLink RX8 12 "SwanSums" "flock" "LSwanSums$Flock;") (by decide +kernel)) (fun _ h9 => h9) rfl dX8_judge_33 ?_
      refine va_get (D := D) (ci := 0) (v := .int (nI (pk 8 plc q))) (C := RX1) (T := TX1) (N := 6) gx gb gts i1 gown hK hP 1 rfl rfl 2 (by decide) (gts (.fieldLink RX8 79 "SwanSums$Flock" "row" "I") (by decide +kernel)) (fun _ h9 => h9) rfl dX8_judge_36 ?_
      refine lv_aload_n gx gb dX8_judge_39 rfl (lv_at hl 0 rfl) ?_
      refine va_get (D := D) (ci := 3) (v := .ref fl) (C := RX8) (T := TX8) (N := 7) gx gb gts i8 gown hK hP 0 rfl rfl 0 (by decide) (gts (.fieldLink RX8 12 "SwanSums" "flock" "LSwanSums$Flock;") (by decide +kernel)) (fun _ h9 => h9) rfl dX8_judge_40 ?_
      refine va_get (D := D) (ci := 0) (v := .int (nI q)) (C := RX1) (T := TX1) (N := 6) gx gb gts i1 gown hK hP 1 rfl rfl 3 (by decide) (gts (.fieldLink RX8 82 "SwanSums$Flock" "size" "I") (by decide +kernel)) (fun _ h9 => h9) rfl dX8_judge_43 ?_
      refine lv_iconst (v := nI 0) gx gb dX8_judge_46 (by decide) ?_
      have hPc := hP.sub (ws' := wP pd sg cI cnt rb sb g) [4, 5] rfl
      have hDc := hD.sub (ws' := wP pd sg cI cnt rb sb g) [4, 5] (by decide) rfl
      have hFc := va_free (wc := wP pd sg cI cnt rb sb g) hD hS hA [4, 5] rfl
      refine va_calli (va_runV (As := [.int (nI (pk 8 plc q)), .int (nI q), .int (nI 0)]) (rest := []) ⟨gx, gb, gml, gown, gts⟩ (kX4_pass Gl D cI cJ cZ pd sg cnt rb sb g _ plc q 0 (evn g cnt) (by omega) (by omega) (by exact wf_evn hf6) (by omega) (by omega) (by exact hp8) (by omega)) (cwV 3 gts gX8_judge_X4_pass rfl rfl rfl (by decide +kernel) ⟨Nat.le_of_ble_eq_true rfl, Nat.le_of_ble_eq_true rfl⟩) ⟨fun a U g mk q => by obtain ⟨q0, q1, qP, qK, qD⟩ := q; exact ⟨q0, q1, qP, va_K.moved (u := U) (U := U.calling g mk a) (Vm.Alike.refl U.vm) qK, qD⟩, va_recv hK hPc (ci := 1) (q0 := 0) rfl rfl, fun U hU hW => ⟨rfl, by rw [hU], by rw [hU]; exact hPc, va_K.moved hW.alike hK, hDc.weaken (fun _ _ _ _ => trivial)⟩⟩ rfl rfl hl.1 rfl (lv_room (Nat.le_of_ble_eq_true rfl)) dX8_judge_47 ⟨Nat.le_of_ble_eq_true rfl, Nat.le_of_ble_eq_true rfl⟩) hS (fun q _ h => hFc q h) hFc (fun r u t H1 locs ht hvm hw hB hz1 hk1 hS => ?_)
      obtain ⟨hP1, hK1, hD1⟩ := hB
      rw [ht] at hP1
      try dsimp only at hw
      try dsimp only at hP1
      try dsimp only at hD1
      have hK := va_K.moved hvm.symm hK1
      obtain ⟨hP, hD⟩ := va_join (wr := [(h, .inr (3, [.ref fl, .ref e1, .ref e2, .int (nI k1), .int (nI k2), .ref pd, rv])), (fl, .inr (0, [.int (nI n), .long (lN N), .int (nI (pk 8 plc q)), .int (nI q), .long (lN S), .int (nI c)])), (e1, .inr (0, [.int (nI na), .long (lN Na), .int (nI Ra), .int (nI qa), .long (lN Sa), .int (nI ca)])), (e2, .inr (0, [.int (nI nb), .long (lN Nb), .int (nI Rb), .int (nI qb), .long (lN Sb), .int (nI cb)]))]) (w1 := wP pd sg cI cnt (pk 8 (dst (fun j => dg q 0 (cq g cnt - 1 - j)) g plc q (dayN (fun j => dg q 0 (cq g cnt - 1 - j)) g plc q (evn g cnt))).1 (dst (fun j => dg q 0 (cq g cnt - 1 - j)) g plc q (dayN (fun j => dg q 0 (cq g cnt - 1 - j)) g plc q (evn g cnt))).2) ((dst (fun j => dg q 0 (cq g cnt - 1 - j)) g plc q (dayN (fun j => dg q 0 (cq g cnt - 1 - j)) g plc q (evn g cnt))).2) g) hP hD [4, 5] [0, 1, 2, 3] rfl rfl (by decide) (by decide) hk1 hFc hP1 hD1
      have hP := hP.sub (ws' := wX h fl e1 e2 pd sg cI k1 k2 rv n N (pk 8 plc q) q S c na Na Ra qa Sa ca nb Nb Rb qb Sb cb cnt (pk 8 (dst (fun j => dg q 0 (cq g cnt - 1 - j)) g plc q (dayN (fun j => dg q 0 (cq g cnt - 1 - j)) g plc q (evn g cnt))).1 (dst (fun j => dg q 0 (cq g cnt - 1 - j)) g plc q (dayN (fun j => dg q 0 (cq g cnt - 1 - j)) g plc q (evn g cnt))).2) ((dst (fun j => dg q 0 (cq g cnt - 1 - j)) g plc q (dayN (fun j => dg q 0 (cq g cnt - 1 - j)) g plc q (evn g cnt))).2) g) [0, 1, 2, 3, 4, 5] rfl
      have hD := hD.sub (ws' := wX h fl e1 e2 pd sg cI k1 k2 rv n N (pk 8 plc q) q S c na Na Ra qa Sa ca nb Nb Rb qb Sb cb cnt (pk 8 (dst (fun j => dg q 0 (cq g cnt - 1 - j)) g plc q (dayN (fun j => dg q 0 (cq g cnt - 1 - j)) g plc q (evn g cnt))).1 (dst (fun j => dg q 0 (cq g cnt - 1 - j)) g plc q (dayN (fun j => dg q 0 (cq g cnt - 1 - j)) g plc q (evn g cnt))).2) ((dst (fun j => dg q 0 (cq g cnt - 1 - j)) g plc q (dayN (fun j => dg q 0 (cq g cnt - 1 - j)) g plc q (evn g cnt))).2) g) [0, 1, 2, 3, 4, 5] (by decide) rfl
      have hK := va_K.moved (Vm.Alike.refl Gs.vm) hK
      generalize H1 = H at hP hS ⊢
      have hr47 := hw
      subst hr47
      exact W.iret (v := zI (dayZ (fun j => dg q 0 (cq g cnt - 1 - j)) g plc q (evn g cnt))) gx gb gr (fun t ht hW => ⟨⟨zI (dayZ (fun j => dg q 0 (cq g cnt - 1 - j)) g plc q (evn g cnt)), (pk 8 (dst (fun j => dg q 0 (cq g cnt - 1 - j)) g plc q (dayN (fun j => dg q 0 (cq g cnt - 1 - j)) g plc q (evn g cnt))).1 (dst (fun j => dg q 0 (cq g cnt - 1 - j)) g plc q (dayN (fun j => dg q 0 (cq g cnt - 1 - j)) g plc q (evn g cnt))).2, (dst (fun j => dg q 0 (cq g cnt - 1 - j)) g plc q (dayN (fun j => dg q 0 (cq g cnt - 1 - j)) g plc q (evn g cnt))).2), rfl, (by first | (dsimp only; done) | ((try dsimp only); rw [judZ, if_pos hf6, if_pos (by omega), D0_cls])), by rw [ht]; exact hP, va_K.moved hW.alike hK, hD⟩, hS.F ht⟩) hS.2.2 dX8_judge_50
    · skip
      rw [n0_le (by omega)] at c22
      refine lv_bipush (v := zI (-3)) gx gb dX8_judge_25 (by decide) ?_
      exact W.iret (v := zI (-3)) gx gb gr (fun t ht hW => ⟨⟨zI (-3), (rb, sb), rfl, (by first | (dsimp only; done) | ((try dsimp only); rw [judZ, if_pos hf6, if_neg (by omega)])), by rw [ht]; exact hP, va_K.moved hW.alike hK, hD⟩, hS.F ht⟩) hS.2.2 dX8_judge_27
  · skip
    rw [zI_eq (by omega) (by omega) (by omega) (by omega)] at c9
    have hn6 : ¬ fltZ g cnt = -6 := by omega
    refine lv_bipush (v := zI (-5)) gx gb dX8_judge_12 (by decide) ?_
    exact W.iret (v := zI (-5)) gx gb gr (fun t ht hW => ⟨⟨zI (-5), (rb, sb), rfl, (by first | (dsimp only; done) | ((try dsimp only); rw [judZ, if_neg hn6])), by rw [ht]; exact hP, va_K.moved hW.alike hK, hD⟩, hS.F ht⟩) hS.2.2 dX8_judge_14

set_option maxHeartbeats 4000000 in
set_option maxRecDepth 100000 in
theorem kX8_refusalOfDay (Gl : Launch) (D : va_G) (cI cJ cZ : ClassId) (h : Nat) (fl : Nat) (e1 : Nat) (e2 : Nat) (pd : Nat) (sg : Nat) (k1 : Nat) (k2 : Nat) (rv : Value) (n : Nat) (N : Nat) (q : Nat) (S : Nat) (c : Nat) (na : Nat) (Na : Nat) (Ra : Nat) (qa : Nat) (Sa : Nat) (ca : Nat) (nb : Nat) (Nb : Nat) (Rb : Nat) (qb : Nat) (Sb : Nat) (cb : Nat) (cnt : Nat) (rb : Nat) (sb : Nat) (g : Nat → Nat) (sz : Nat) (plc : Nat → Nat) (hcn : cnt ≤ 60) (hg : ∀ k, k < cnt → g k < 127) (hn1 : 1 ≤ n) (hn7 : n ≤ 7) (hq1 : 1 ≤ q) (hqn : q ≤ n) (hp : ∀ k, k < q → plc k < n) : Met Gl yX8_refusalOfDay wsX8_refusalOfDay ({ frames := 5, cells := 0, slots := 0, locals := 118 } : Room) (va_Pc [.ref h] (fun U => U.heap.size = sz ∧ va_P D vwCl (wX h fl e1 e2 pd sg cI k1 k2 rv n N (pk 8 plc q) q S c na Na Ra qa Sa ca nb Nb Rb qb Sb cb cnt rb sb g) U.heap ∧ va_K D vwCl [(cI, .int), (cJ, .long), (cZ, .boolean)] U ∧ va_D (fun _ => True) (wX h fl e1 e2 pd sg cI k1 k2 rv n N (pk 8 plc q) q S c na Na Ra qa Sa ca nb Nb Rb qb Sb cb cnt rb sb g))) (va_Qi (fun (r : Int32) (u : (Nat) × (Nat)) => r = zI (if barZ g cnt plc q = 0 then -6 else barZ g cnt plc q) ∧ (barZ g cnt plc q = 0 → u.2 = sizB g cnt plc q ∧ u.1 = pk 8 (rowB g cnt plc q) (sizB g cnt plc q))) (fun (u : (Nat) × (Nat)) t => va_P D vwCl (wX h fl e1 e2 pd sg cI k1 k2 rv n N (pk 8 plc q) q S c na Na Ra qa Sa ca nb Nb Rb qb Sb cb cnt u.1 u.2 g) t.heap ∧ va_K D vwCl [(cI, .int), (cJ, .long), (cZ, .boolean)] t ∧ va_D (va_A (wX h fl e1 e2 pd sg cI k1 k2 rv n N (pk 8 plc q) q S c na Na Ra qa Sa ca nb Nb Rb qb Sb cb cnt rb sb g) sz) (wX h fl e1 e2 pd sg cI k1 k2 rv n N (pk 8 plc q) q S c na Na Ra qa Sa ca nb Nb Rb qb Sb cb cnt u.1 u.2 g)) (va_A (wX h fl e1 e2 pd sg cI k1 k2 rv n N (pk 8 plc q) q S c na Na Ra qa Sa ca nb Nb Rb qb Sb cb cnt rb sb g) sz)) 0 0 (va_A (wX h fl e1 e2 pd sg cI k1 k2 rv n N (pk 8 plc q) q S c na Na Ra qa Sa ca nb Nb Rb qb Sb cb cnt rb sb g) sz) := by
  refine Met.ofW (cc := cX8_refusalOfDay) (maxL := 1) (ret := (some .int)) (by decide +kernel) rfl ?_
  intro Gp Ge Gs Gm Ga Gw Gt Gc G1 Bd gml gv
  obtain ⟨rfl, hsz, hP, hK, hD0⟩ := gv
  have gx := Bd.exec
  have gb := Bd.bytes
  have gr := Bd.returns
  have gts := atoms_spec (ws := wsX8_refusalOfDay) Bd.pre
  have gown : Gs.vm.findClass RX8 = some Gm.cls := findClass_of_methodNamed Bd.named
  have glk := Bd.notSynchronized
  subst hsz
  have hD := hD0.self (sz := Gs.heap.size)
  generalize hAe : va_A (wX h fl e1 e2 pd sg cI k1 k2 rv n N (pk 8 plc q) q S c na Na Ra qa Sa ca nb Nb Rb qb Sb cb cnt rb sb g) Gs.heap.size = A at hD ⊢
  have hA : ∀ q : Nat, Gs.heap.size ≤ q → A q := fun q h => by rw [← hAe]; exact Or.inr h
  have hS : va_S A Gs.heap Gs.heap [] := va_S.rf
  have hP : va_P D vwCl (wX h fl e1 e2 pd sg cI k1 k2 rv n N (pk 8 plc q) q S c na Na Ra qa Sa ca nb Nb Rb qb Sb cb cnt rb sb g) Gs.heap := hP
  have hl := lv_entry ([.ref h]) (n := 1) (Nat.le_of_ble_eq_true rfl)
  rw [lg_entry_eq]
  generalize (lg_sl ([.ref h]) ++ List.replicate (1 - (lg_sl ([.ref h])).length) Slot.unset).toArray = ls at hl ⊢
  have hl : lv_has ls 1 [(0, .ref h)] := hl
  have i1 : ∀ w ∈ wsX10, w ∈ wsX8_refusalOfDay := by decide +kernel
  have i8 : ∀ w ∈ wsX80, w ∈ wsX8_refusalOfDay := by decide +kernel
  have hp8 : ∀ k, k < q → plc k < 8 := fun k hk => by have := hp k hk; omega
  have hR8 := pk8_lt hp8 (by omega)
  refine lv_aload_n gx gb dX8_refusalOfDay_0 rfl (lv_at hl 0 rfl) ?_
  refine va_get (D := D) (ci := 3) (v := .ref pd) (C := RX8) (T := TX8) (N := 7) gx gb gts i8 gown hK hP 0 rfl rfl 5 (by decide) (gts (.fieldLink RX8 32 "SwanSums" "pad" "LSwanSums$Pad;") (by decide +kernel)) (fun _ h9 => h9) rfl dX8_refusalOfDay_1 ?_
  have hPc := hP.sub (ws' := wP pd sg cI cnt rb sb g) [4, 5] rfl
  refine vp_callSi (W.runV (As := []) (rest := []) ⟨gx, gb, gml, gown, gts⟩ (kX4_firstFault Gl D cI cJ cZ pd sg cnt rb sb g  (by omega) (by omega)) (cwV 0 gts gX8_refusalOfDay_X4_firstFault rfl rfl rfl (by decide +kernel) ⟨Nat.le_of_ble_eq_true rfl, Nat.le_of_ble_eq_true rfl⟩) ⟨fun a U g mk q => ⟨q.1, q.2.1, va_K.moved (u := U) (U := U.calling g mk a) (Vm.Alike.refl U.vm) q.2.2⟩, va_recv hK hPc (ci := 1) (q0 := 0) rfl rfl, fun U hU hW => ⟨rfl, by rw [hU]; exact hPc, va_K.moved hW.alike hK⟩⟩ rfl rfl hl.1 rfl (lv_room (Nat.le_of_ble_eq_true rfl)) dX8_refusalOfDay_4 ⟨Nat.le_of_ble_eq_true rfl, Nat.le_of_ble_eq_true rfl⟩) (fun r hw => ?_)
  have hr4 := hw
  subst hr4
  have hfb := fltZ_bd g cnt
  refine lv_bipush (v := zI (-6)) gx gb dX8_refusalOfDay_7 (by decide) ?_
  refine lv_icmp_eq (tgt := 15) gx gb dX8_refusalOfDay_9 (by decide) (fun c9 => ?_) (fun c9 => ?_)
  · skip
    rw [zI_eq (by omega) (by omega) (by omega) (by omega)] at c9
    have hf6 : fltZ g cnt = -6 := by omega
    have hcq := cq_le g cnt
    refine lv_aload_n gx gb dX8_refusalOfDay_15 rfl (lv_at hl 0 rfl) ?_
    refine va_get (D := D) (ci := 3) (v := .ref pd) (C := RX8) (T := TX8) (N := 7) gx gb gts i8 gown hK hP 0 rfl rfl 5 (by decide) (gts (.fieldLink RX8 32 "SwanSums" "pad" "LSwanSums$Pad;") (by decide +kernel)) (fun _ h9 => h9) rfl dX8_refusalOfDay_16 ?_
    have hPc := hP.sub (ws' := wP pd sg cI cnt rb sb g) [4, 5] rfl
    refine vp_callSi (W.runV (As := []) (rest := []) ⟨gx, gb, gml, gown, gts⟩ (kX4_gaps Gl D cI cJ cZ pd sg cnt rb sb g  (by omega) (by omega)) (cwV 0 gts gX8_refusalOfDay_X4_gaps rfl rfl rfl (by decide +kernel) ⟨Nat.le_of_ble_eq_true rfl, Nat.le_of_ble_eq_true rfl⟩) ⟨fun a U g mk q => ⟨q.1, q.2.1, va_K.moved (u := U) (U := U.calling g mk a) (Vm.Alike.refl U.vm) q.2.2⟩, va_recv hK hPc (ci := 1) (q0 := 0) rfl rfl, fun U hU hW => ⟨rfl, by rw [hU]; exact hPc, va_K.moved hW.alike hK⟩⟩ rfl rfl hl.1 rfl (lv_room (Nat.le_of_ble_eq_true rfl)) dX8_refusalOfDay_19 ⟨Nat.le_of_ble_eq_true rfl, Nat.le_of_ble_eq_true rfl⟩) (fun r hw => ?_)
    have hr19 := hw
    subst hr19
    refine lv_if_le (tgt := 28) gx gb dX8_refusalOfDay_22 (by decide) (fun c22 => ?_) (fun c22 => ?_)
    · skip
      rw [n0_le (by omega)] at c22
      have hc0 : cq g cnt = 0 := by omega
      refine lv_aload_n gx gb dX8_refusalOfDay_28 rfl (lv_at hl 0 rfl) ?_
      refine va_get (D := D) (ci := 3) (v := .ref pd) (C := RX8) (T := TX8) (N := 7) gx gb gts i8 gown hK hP 0 rfl rfl 5 (by decide) (gts (.fieldLink RX8 32 "SwanSums" "pad" "LSwanSums$Pad;") (by decide +kernel)) (fun _ h9 => h9) rfl dX8_refusalOfDay_29 ?_
      refine lv_aload_n gx gb dX8_refusalOfDay_32 rfl (lv_at hl 0 rfl) ?_
      refine va_get (D := D) (ci := 3) (v := .ref fl) (C := RX8) (T := TX8) (N := 7) gx gb gts i8 gown hK hP 0 rfl rfl 0 (by decide) (gts (.fieldLink RX8 12 "SwanSums" "flock" "LSwanSums$Flock;") (by decide +kernel)) (fun _ h9 => h9) rfl dX8_refusalOfDay_33 ?_
      refine va_get (D := D) (ci := 0) (v := .int (nI (pk 8 plc q))) (C := RX1) (T := TX1) (N := 6) gx gb gts i1 gown hK hP 1 rfl rfl 2 (by decide) (gts (.fieldLink RX8 79 "SwanSums$Flock" "row" "I") (by decide +kernel)) (fun _ h9 => h9) rfl dX8_refusalOfDay_36 ?_
      refine lv_aload_n gx gb dX8_refusalOfDay_39 rfl (lv_at hl 0 rfl) ?_
      refine va_get (D := D) (ci := 3) (v := .ref fl) (C := RX8) (T := TX8) (N := 7) gx gb gts i8 gown hK hP 0 rfl rfl 0 (by decide) (gts (.fieldLink RX8 12 "SwanSums" "flock" "LSwanSums$Flock;") (by decide +kernel)) (fun _ h9 => h9) rfl dX8_refusalOfDay_40 ?_
      refine va_get (D := D) (ci := 0) (v := .int (nI q)) (C := RX1) (T := TX1) (N := 6) gx gb gts i1 gown hK hP 1 rfl rfl 3 (by decide) (gts (.fieldLink RX8 82 "SwanSums$Flock" "size" "I") (by decide +kernel)) (fun _ h9 => h9) rfl dX8_refusalOfDay_43 ?_
      refine lv_iconst (v := nI 0) gx gb dX8_refusalOfDay_46 (by decide) ?_
      have hPc := hP.sub (ws' := wP pd sg cI cnt rb sb g) [4, 5] rfl
      have hDc := hD.sub (ws' := wP pd sg cI cnt rb sb g) [4, 5] (by decide) rfl
      have hFc := va_free (wc := wP pd sg cI cnt rb sb g) hD hS hA [4, 5] rfl
      refine va_calli (va_runV (As := [.int (nI (pk 8 plc q)), .int (nI q), .int (nI 0)]) (rest := []) ⟨gx, gb, gml, gown, gts⟩ (kX4_pass Gl D cI cJ cZ pd sg cnt rb sb g _ plc q 0 (evn g cnt) (by omega) (by omega) (by exact wf_evn hf6) (by omega) (by omega) (by exact hp8) (by omega)) (cwV 3 gts gX8_refusalOfDay_X4_pass rfl rfl rfl (by decide +kernel) ⟨Nat.le_of_ble_eq_true rfl, Nat.le_of_ble_eq_true rfl⟩) ⟨fun a U g mk q => by obtain ⟨q0, q1, qP, qK, qD⟩ := q; exact ⟨q0, q1, qP, va_K.moved (u := U) (U := U.calling g mk a) (Vm.Alike.refl U.vm) qK, qD⟩, va_recv hK hPc (ci := 1) (q0 := 0) rfl rfl, fun U hU hW => ⟨rfl, by rw [hU], by rw [hU]; exact hPc, va_K.moved hW.alike hK, hDc.weaken (fun _ _ _ _ => trivial)⟩⟩ rfl rfl hl.1 rfl (lv_room (Nat.le_of_ble_eq_true rfl)) dX8_refusalOfDay_47 ⟨Nat.le_of_ble_eq_true rfl, Nat.le_of_ble_eq_true rfl⟩) hS (fun q _ h => hFc q h) hFc (fun r u t H1 locs ht hvm hw hB hz1 hk1 hS => ?_)
      obtain ⟨hP1, hK1, hD1⟩ := hB
      rw [ht] at hP1
      try dsimp only at hw
      try dsimp only at hP1
      try dsimp only at hD1
      have hK := va_K.moved hvm.symm hK1
      obtain ⟨hP, hD⟩ := va_join (wr := [(h, .inr (3, [.ref fl, .ref e1, .ref e2, .int (nI k1), .int (nI k2), .ref pd, rv])), (fl, .inr (0, [.int (nI n), .long (lN N), .int (nI (pk 8 plc q)), .int (nI q), .long (lN S), .int (nI c)])), (e1, .inr (0, [.int (nI na), .long (lN Na), .int (nI Ra), .int (nI qa), .long (lN Sa), .int (nI ca)])), (e2, .inr (0, [.int (nI nb), .long (lN Nb), .int (nI Rb), .int (nI qb), .long (lN Sb), .int (nI cb)]))]) (w1 := wP pd sg cI cnt (pk 8 (dst (fun j => dg q 0 (cq g cnt - 1 - j)) g plc q (dayN (fun j => dg q 0 (cq g cnt - 1 - j)) g plc q (evn g cnt))).1 (dst (fun j => dg q 0 (cq g cnt - 1 - j)) g plc q (dayN (fun j => dg q 0 (cq g cnt - 1 - j)) g plc q (evn g cnt))).2) ((dst (fun j => dg q 0 (cq g cnt - 1 - j)) g plc q (dayN (fun j => dg q 0 (cq g cnt - 1 - j)) g plc q (evn g cnt))).2) g) hP hD [4, 5] [0, 1, 2, 3] rfl rfl (by decide) (by decide) hk1 hFc hP1 hD1
      have hP := hP.sub (ws' := wX h fl e1 e2 pd sg cI k1 k2 rv n N (pk 8 plc q) q S c na Na Ra qa Sa ca nb Nb Rb qb Sb cb cnt (pk 8 (dst (fun j => dg q 0 (cq g cnt - 1 - j)) g plc q (dayN (fun j => dg q 0 (cq g cnt - 1 - j)) g plc q (evn g cnt))).1 (dst (fun j => dg q 0 (cq g cnt - 1 - j)) g plc q (dayN (fun j => dg q 0 (cq g cnt - 1 - j)) g plc q (evn g cnt))).2) ((dst (fun j => dg q 0 (cq g cnt - 1 - j)) g plc q (dayN (fun j => dg q 0 (cq g cnt - 1 - j)) g plc q (evn g cnt))).2) g) [0, 1, 2, 3, 4, 5] rfl
      have hD := hD.sub (ws' := wX h fl e1 e2 pd sg cI k1 k2 rv n N (pk 8 plc q) q S c na Na Ra qa Sa ca nb Nb Rb qb Sb cb cnt (pk 8 (dst (fun j => dg q 0 (cq g cnt - 1 - j)) g plc q (dayN (fun j => dg q 0 (cq g cnt - 1 - j)) g plc q (evn g cnt))).1 (dst (fun j => dg q 0 (cq g cnt - 1 - j)) g plc q (dayN (fun j => dg q 0 (cq g cnt - 1 - j)) g plc q (evn g cnt))).2) ((dst (fun j => dg q 0 (cq g cnt - 1 - j)) g plc q (dayN (fun j => dg q 0 (cq g cnt - 1 - j)) g plc q (evn g cnt))).2) g) [0, 1, 2, 3, 4, 5] (by decide) rfl
      have hK := va_K.moved (Vm.Alike.refl Gs.vm) hK
      generalize H1 = H at hP hS ⊢
      have hr47 := hw
      subst hr47
      refine lv_evi (zI (dayZ D0 g plc q (evn g cnt))) (congrArg zI (by rw [D0_cls])) ?_
      have hdb := dayZ_bd D0 g plc q (evn g cnt)
      have hcw := evn_le g cnt
      refine lv_bipush (v := zI (-6)) gx gb dX8_refusalOfDay_50 (by decide) ?_
      refine lv_icmp_ne (tgt := 60) gx gb dX8_refusalOfDay_52 (by decide) (fun c52 => ?_) (fun c52 => ?_)
      · skip
        rw [zI_eq (by omega) (by omega) (by omega) (by omega)] at c52
        have hb : barZ g cnt plc q = -5 := by rw [barZ, if_pos hf6, if_pos hc0, if_neg c52]
        refine lv_bipush (v := zI (-5)) gx gb dX8_refusalOfDay_60 (by decide) ?_
        exact W.iret (v := zI (-5)) gx gb gr (fun t ht hW => ⟨⟨zI (-5), (pk 8 (dst (fun j => dg q 0 (cq g cnt - 1 - j)) g plc q (dayN (fun j => dg q 0 (cq g cnt - 1 - j)) g plc q (evn g cnt))).1 (dst (fun j => dg q 0 (cq g cnt - 1 - j)) g plc q (dayN (fun j => dg q 0 (cq g cnt - 1 - j)) g plc q (evn g cnt))).2, (dst (fun j => dg q 0 (cq g cnt - 1 - j)) g plc q (dayN (fun j => dg q 0 (cq g cnt - 1 - j)) g plc q (evn g cnt))).2), rfl, (by first | (dsimp only; done) | ((try dsimp only); first | exact ⟨by rw [if_neg (by omega), hb], fun h => by omega⟩ | exact ⟨by rw [if_pos hb], fun _ => by rw [D0_cls, dayN_n (dayZ_m6 c52)]; exact ⟨rfl, rfl⟩⟩)), by rw [ht]; exact hP, va_K.moved hW.alike hK, hD⟩, hS.F ht⟩) hS.2.2 dX8_refusalOfDay_62
      · skip
        rw [zI_eq (by omega) (by omega) (by omega) (by omega)] at c52
        have hb : barZ g cnt plc q = 0 := by rw [barZ, if_pos hf6, if_pos hc0, if_pos c52]
        refine lv_bipush (v := zI (-6)) gx gb dX8_refusalOfDay_55 (by decide) ?_
        refine lv_goto (tgt := 62) gx gb dX8_refusalOfDay_57 (by decide) ?_
        exact W.iret (v := zI (-6)) gx gb gr (fun t ht hW => ⟨⟨zI (-6), (pk 8 (dst (fun j => dg q 0 (cq g cnt - 1 - j)) g plc q (dayN (fun j => dg q 0 (cq g cnt - 1 - j)) g plc q (evn g cnt))).1 (dst (fun j => dg q 0 (cq g cnt - 1 - j)) g plc q (dayN (fun j => dg q 0 (cq g cnt - 1 - j)) g plc q (evn g cnt))).2, (dst (fun j => dg q 0 (cq g cnt - 1 - j)) g plc q (dayN (fun j => dg q 0 (cq g cnt - 1 - j)) g plc q (evn g cnt))).2), rfl, (by first | (dsimp only; done) | ((try dsimp only); first | exact ⟨by rw [if_neg (by omega), hb], fun h => by omega⟩ | exact ⟨by rw [if_pos hb], fun _ => by rw [D0_cls, dayN_n (dayZ_m6 c52)]; exact ⟨rfl, rfl⟩⟩)), by rw [ht]; exact hP, va_K.moved hW.alike hK, hD⟩, hS.F ht⟩) hS.2.2 dX8_refusalOfDay_62
    · skip
      rw [n0_le (by omega)] at c22
      have hb : barZ g cnt plc q = -3 := by rw [barZ, if_pos hf6, if_neg (by omega)]
      refine lv_bipush (v := zI (-3)) gx gb dX8_refusalOfDay_25 (by decide) ?_
      exact W.iret (v := zI (-3)) gx gb gr (fun t ht hW => ⟨⟨zI (-3), (rb, sb), rfl, (by first | (dsimp only; done) | ((try dsimp only); exact ⟨by rw [if_neg (by omega), hb], fun h => by omega⟩)), by rw [ht]; exact hP, va_K.moved hW.alike hK, hD⟩, hS.F ht⟩) hS.2.2 dX8_refusalOfDay_27
  · skip
    rw [zI_eq (by omega) (by omega) (by omega) (by omega)] at c9
    have hn6 : ¬ fltZ g cnt = -6 := by omega
    have hb : barZ g cnt plc q = -5 := by rw [barZ, if_neg hn6]
    refine lv_bipush (v := zI (-5)) gx gb dX8_refusalOfDay_12 (by decide) ?_
    exact W.iret (v := zI (-5)) gx gb gr (fun t ht hW => ⟨⟨zI (-5), (rb, sb), rfl, (by first | (dsimp only; done) | ((try dsimp only); exact ⟨by rw [if_neg (by omega), hb], fun h => by omega⟩)), by rw [ht]; exact hP, va_K.moved hW.alike hK, hD⟩, hS.F ht⟩) hS.2.2 dX8_refusalOfDay_14

set_option maxHeartbeats 4000000 in
set_option maxRecDepth 100000 in
theorem kX8_done (Gl : Launch) (D : va_G) (cI cJ cZ : ClassId) (h : Nat) (fl : Nat) (e1 : Nat) (e2 : Nat) (pd : Nat) (sg : Nat) (k1 : Nat) (k2 : Nat) (rv : Value) (n : Nat) (N : Nat) (q : Nat) (S : Nat) (c : Nat) (na : Nat) (Na : Nat) (Ra : Nat) (qa : Nat) (Sa : Nat) (ca : Nat) (nb : Nat) (Nb : Nat) (Rb : Nat) (qb : Nat) (Sb : Nat) (cb : Nat) (cnt : Nat) (rb : Nat) (sb : Nat) (g : Nat → Nat) (sz : Nat) (plc : Nat → Nat) (hcn : cnt ≤ 60) (hg : ∀ k, k < cnt → g k < 127) (hn1 : 1 ≤ n) (hn7 : n ≤ 7) (hq1 : 1 ≤ q) (hqn : q ≤ n) (hp : ∀ k, k < q → plc k < n) : Met Gl yX8_done wsX8_done ({ frames := 6, cells := 0, slots := 0, locals := 138 } : Room) (va_Pc [.ref h] (fun U => U.heap.size = sz ∧ va_P D vwCl (wX h fl e1 e2 pd sg cI k1 k2 rv n N (pk 8 plc q) q S c na Na Ra qa Sa ca nb Nb Rb qb Sb cb cnt rb sb g) U.heap ∧ va_K D vwCl [(cI, .int), (cJ, .long), (cZ, .boolean)] U ∧ va_D (fun _ => True) (wX h fl e1 e2 pd sg cI k1 k2 rv n N (pk 8 plc q) q S c na Na Ra qa Sa ca nb Nb Rb qb Sb cb cnt rb sb g))) (va_Qi (fun (r : Int32) (u : (Nat) × (Nat)) => r = zI (donZ g cnt plc q)) (fun (u : (Nat) × (Nat)) t => va_P D vwCl (wX h fl e1 e2 pd sg cI k1 k2 rv n N (if barZ g cnt plc q = 0 then pk 8 (rowB g cnt plc q) (sizB g cnt plc q) else pk 8 plc q) (if barZ g cnt plc q = 0 then sizB g cnt plc q else q) S c na Na Ra qa Sa ca nb Nb Rb qb Sb cb (if barZ g cnt plc q = 0 then 0 else cnt) u.1 u.2 g) t.heap ∧ va_K D vwCl [(cI, .int), (cJ, .long), (cZ, .boolean)] t ∧ va_D (va_A (wX h fl e1 e2 pd sg cI k1 k2 rv n N (pk 8 plc q) q S c na Na Ra qa Sa ca nb Nb Rb qb Sb cb cnt rb sb g) sz) (wX h fl e1 e2 pd sg cI k1 k2 rv n N (if barZ g cnt plc q = 0 then pk 8 (rowB g cnt plc q) (sizB g cnt plc q) else pk 8 plc q) (if barZ g cnt plc q = 0 then sizB g cnt plc q else q) S c na Na Ra qa Sa ca nb Nb Rb qb Sb cb (if barZ g cnt plc q = 0 then 0 else cnt) u.1 u.2 g)) (va_A (wX h fl e1 e2 pd sg cI k1 k2 rv n N (pk 8 plc q) q S c na Na Ra qa Sa ca nb Nb Rb qb Sb cb cnt rb sb g) sz)) 0 0 (va_A (wX h fl e1 e2 pd sg cI k1 k2 rv n N (pk 8 plc q) q S c na Na Ra qa Sa ca nb Nb Rb qb Sb cb cnt rb sb g) sz) := by
  refine Met.ofW (cc := cX8_done) (maxL := 3) (ret := (some .int)) (by decide +kernel) rfl ?_
  intro Gp Ge Gs Gm Ga Gw Gt Gc G1 Bd gml gv
  obtain ⟨rfl, hsz, hP, hK, hD0⟩ := gv
  have gx := Bd.exec
  have gb := Bd.bytes
  have gr := Bd.returns
  have gts := atoms_spec (ws := wsX8_done) Bd.pre
  have gown : Gs.vm.findClass RX8 = some Gm.cls := findClass_of_methodNamed Bd.named
  have glk := Bd.notSynchronized
  subst hsz
  have hD := hD0.self (sz := Gs.heap.size)
  generalize hAe : va_A (wX h fl e1 e2 pd sg cI k1 k2 rv n N (pk 8 plc q) q S c na Na Ra qa Sa ca nb Nb Rb qb Sb cb cnt rb sb g) Gs.heap.size = A at hD ⊢
  have hA : ∀ q : Nat, Gs.heap.size ≤ q → A q := fun q h => by rw [← hAe]; exact Or.inr h
  have hS : va_S A Gs.heap Gs.heap [] := va_S.rf
  have hP : va_P D vwCl (wX h fl e1 e2 pd sg cI k1 k2 rv n N (pk 8 plc q) q S c na Na Ra qa Sa ca nb Nb Rb qb Sb cb cnt rb sb g) Gs.heap := hP
  have hl := lv_entry ([.ref h]) (n := 3) (Nat.le_of_ble_eq_true rfl)
  rw [lg_entry_eq]
  generalize (lg_sl ([.ref h]) ++ List.replicate (3 - (lg_sl ([.ref h])).length) Slot.unset).toArray = ls at hl ⊢
  have hl : lv_has ls 3 [(0, .ref h)] := hl
  have i1 : ∀ w ∈ wsX10, w ∈ wsX8_done := by decide +kernel
  have i4 : ∀ w ∈ wsX40, w ∈ wsX8_done := by decide +kernel
  have i8 : ∀ w ∈ wsX80, w ∈ wsX8_done := by decide +kernel
  have hp8 : ∀ k, k < q → plc k < 8 := fun k hk => by have := hp k hk; omega
  have hR8 := pk8_lt hp8 (by omega)
  refine lv_aload_n gx gb dX8_done_0 rfl (lv_at hl 0 rfl) ?_
  have hPc := hP.sub (ws' := wX h fl e1 e2 pd sg cI k1 k2 rv n N (pk 8 plc q) q S c na Na Ra qa Sa ca nb Nb Rb qb Sb cb cnt rb sb g) [0, 1, 2, 3, 4, 5] rfl
  have hDc := hD.sub (ws' := wX h fl e1 e2 pd sg cI k1 k2 rv n N (pk 8 plc q) q S c na Na Ra qa Sa ca nb Nb Rb qb Sb cb cnt rb sb g) [0, 1, 2, 3, 4, 5] (by decide) rfl
  have hFc := va_free (wc := wX h fl e1 e2 pd sg cI k1 k2 rv n N (pk 8 plc q) q S c na Na Ra qa Sa ca nb Nb Rb qb Sb cb cnt rb sb g) hD hS hA [0, 1, 2, 3, 4, 5] rfl
  refine va_calli (va_runV (As := []) (rest := []) ⟨gx, gb, gml, gown, gts⟩ (kX8_refusalOfDay Gl D cI cJ cZ h fl e1 e2 pd sg k1 k2 rv n N q S c na Na Ra qa Sa ca nb Nb Rb qb Sb cb cnt rb sb g _ plc (by omega) (by omega) (by omega) (by omega) (by omega) (by omega) (by omega)) (cwV 0 gts gX8_done_X8_refusalOfDay rfl rfl rfl (by decide +kernel) ⟨Nat.le_of_ble_eq_true rfl, Nat.le_of_ble_eq_true rfl⟩) ⟨fun a U g mk q => by obtain ⟨q0, q1, qP, qK, qD⟩ := q; exact ⟨q0, q1, qP, va_K.moved (u := U) (U := U.calling g mk a) (Vm.Alike.refl U.vm) qK, qD⟩, va_recv hK hPc (ci := 3) (q0 := 0) rfl rfl, fun U hU hW => ⟨rfl, by rw [hU], by rw [hU]; exact hPc, va_K.moved hW.alike hK, hDc.weaken (fun _ _ _ _ => trivial)⟩⟩ rfl rfl hl.1 rfl (lv_room (Nat.le_of_ble_eq_true rfl)) dX8_done_1 ⟨Nat.le_of_ble_eq_true rfl, Nat.le_of_ble_eq_true rfl⟩) hS (fun q _ h => hFc q h) hFc (fun r u t H1 locs ht hvm hw hB hz1 hk1 hS => ?_)
  obtain ⟨rb_1, sb_1⟩ := u
  obtain ⟨hP1, hK1, hD1⟩ := hB
  rw [ht] at hP1
  try dsimp only at hw
  try dsimp only at hP1
  try dsimp only at hD1
  have hK := va_K.moved hvm.symm hK1
  obtain ⟨hP, hD⟩ := va_join (wr := []) (w1 := wX h fl e1 e2 pd sg cI k1 k2 rv n N (pk 8 plc q) q S c na Na Ra qa Sa ca nb Nb Rb qb Sb cb cnt rb_1 sb_1 g) hP hD [0, 1, 2, 3, 4, 5] [] rfl rfl (by decide) (by decide) hk1 hFc hP1 hD1
  have hP := hP.sub (ws' := wX h fl e1 e2 pd sg cI k1 k2 rv n N (pk 8 plc q) q S c na Na Ra qa Sa ca nb Nb Rb qb Sb cb cnt rb_1 sb_1 g) [0, 1, 2, 3, 4, 5] rfl
  have hD := hD.sub (ws' := wX h fl e1 e2 pd sg cI k1 k2 rv n N (pk 8 plc q) q S c na Na Ra qa Sa ca nb Nb Rb qb Sb cb cnt rb_1 sb_1 g) [0, 1, 2, 3, 4, 5] (by decide) rfl
  have hK := va_K.moved (Vm.Alike.refl Gs.vm) hK
  generalize H1 = H at hP hS ⊢
  obtain ⟨hr1, hw⟩ := hw
  subst hr1
  have hw4 := hw
  have hbb := barZ_bd g cnt plc q
  have hsb := sizB_bd g cnt plc hq1
  refine lv_istore_n (lv' := [(1, .int (zI (if barZ g cnt plc q = 0 then -6 else barZ g cnt plc q))), (0, .ref h)]) gx gb dX8_done_4 rfl hl (by decide) rfl (fun ls hl => ?_)
  have hif : (if barZ g cnt plc q = 0 then (-6 : Int) else barZ g cnt plc q) = -6 ∨ (if barZ g cnt plc q = 0 then (-6 : Int) else barZ g cnt plc q) = -3 ∨ (if barZ g cnt plc q = 0 then (-6 : Int) else barZ g cnt plc q) = -5 := by split <;> omega
  refine lv_iload_n gx gb dX8_done_5 rfl (lv_at hl 0 rfl) ?_
  refine lv_bipush (v := zI (-6)) gx gb dX8_done_6 (by decide) ?_
  refine lv_icmp_eq (tgt := 13) gx gb dX8_done_8 (by decide) (fun c8 => ?_) (fun c8 => ?_)
  · skip
    rw [zI_eq (by omega) (by omega) (by omega) (by omega)] at c8
    have hb0 : barZ g cnt plc q = 0 := by split at c8 <;> omega
    obtain ⟨hz1, hrb⟩ := hw4 hb0
    subst hz1
    subst hrb
    have hrB := rowB_in (pad := g) (w := cnt) (q := q) (P := fun x => x < n) hp
    have hrB8 : ∀ k, k < sizB g cnt plc q → rowB g cnt plc q k < 8 := fun k hk => by have := hrB k hk; omega
    have hrl := pk8_lt hrB8 (by omega)
    refine lv_aload_n gx gb dX8_done_13 rfl (lv_at hl 1 rfl) ?_
    refine va_get (D := D) (ci := 3) (v := .ref pd) (C := RX8) (T := TX8) (N := 7) gx gb gts i8 gown hK hP 0 rfl rfl 5 (by decide) (gts (.fieldLink RX8 32 "SwanSums" "pad" "LSwanSums$Pad;") (by decide +kernel)) (fun _ h9 => h9) rfl dX8_done_14 ?_
    have hPc := hP.sub (ws' := wP pd sg cI cnt (pk 8 (rowB g cnt plc q) (sizB g cnt plc q)) (sizB g cnt plc q) g) [4, 5] rfl
    refine vp_callSi (W.runV (As := []) (rest := []) ⟨gx, gb, gml, gown, gts⟩ (kX4_events Gl D cI cJ cZ pd sg cnt (pk 8 (rowB g cnt plc q) (sizB g cnt plc q)) (sizB g cnt plc q) g  (by omega) (by omega)) (cwV 0 gts gX8_done_X4_events rfl rfl rfl (by decide +kernel) ⟨Nat.le_of_ble_eq_true rfl, Nat.le_of_ble_eq_true rfl⟩) ⟨fun a U g mk q => ⟨q.1, q.2.1, va_K.moved (u := U) (U := U.calling g mk a) (Vm.Alike.refl U.vm) q.2.2⟩, va_recv hK hPc (ci := 1) (q0 := 0) rfl rfl, fun U hU hW => ⟨rfl, by rw [hU]; exact hPc, va_K.moved hW.alike hK⟩⟩ rfl rfl hl.1 rfl (lv_room (Nat.le_of_ble_eq_true rfl)) dX8_done_17 ⟨Nat.le_of_ble_eq_true rfl, Nat.le_of_ble_eq_true rfl⟩) (fun r hw => ?_)
    have hr17 := hw
    subst hr17
    refine lv_istore_n (lv' := [(2, .int (nI (evn g cnt))), (1, .int (zI (if barZ g cnt plc q = 0 then -6 else barZ g cnt plc q))), (0, .ref h)]) gx gb dX8_done_20 rfl hl (by decide) rfl (fun ls hl => ?_)
    refine lv_aload_n gx gb dX8_done_21 rfl (lv_at hl 2 rfl) ?_
    refine va_get (D := D) (ci := 3) (v := .ref fl) (C := RX8) (T := TX8) (N := 7) gx gb gts i8 gown hK hP 0 rfl rfl 0 (by decide) (gts (.fieldLink RX8 12 "SwanSums" "flock" "LSwanSums$Flock;") (by decide +kernel)) (fun _ h9 => h9) rfl dX8_done_22 ?_
    refine lv_aload_n gx gb dX8_done_25 rfl (lv_at hl 2 rfl) ?_
    refine va_get (D := D) (ci := 3) (v := .ref pd) (C := RX8) (T := TX8) (N := 7) gx gb gts i8 gown hK hP 0 rfl rfl 5 (by decide) (gts (.fieldLink RX8 32 "SwanSums" "pad" "LSwanSums$Pad;") (by decide +kernel)) (fun _ h9 => h9) rfl dX8_done_26 ?_
    refine va_get (D := D) (ci := 1) (v := .int (nI (pk 8 (rowB g cnt plc q) (sizB g cnt plc q)))) (C := RX4) (T := TX4) (N := 4) gx gb gts i4 gown hK hP 4 rfl rfl 2 (by decide) (gts (.fieldLink RX8 95 "SwanSums$Pad" "rowBehind" "I") (by decide +kernel)) (fun _ h9 => h9) rfl dX8_done_29 ?_
    refine va_put (D := D) (ci := 0) (v := .int (nI (pk 8 (rowB g cnt plc q) (sizB g cnt plc q)))) (ty := .int) (C := RX1) (T := TX1) (N := 6) gx gb gts i1 tyX1 tyX1_ok nmX1 gown hK hP hD hS 1 rfl rfl 2 (by decide) (gts (.fieldLink RX8 79 "SwanSums$Flock" "row" "I") (by decide +kernel)) (fun _ h9 => h9) rfl (by decide +kernel) rfl rfl (Nat.le_of_ble_eq_true rfl) dX8_done_32 (fun H locs hP hD hS => ?_)
    have hP : va_P D vwCl (wX h fl e1 e2 pd sg cI k1 k2 rv n N (pk 8 (rowB g cnt plc q) (sizB g cnt plc q)) q S c na Na Ra qa Sa ca nb Nb Rb qb Sb cb cnt (pk 8 (rowB g cnt plc q) (sizB g cnt plc q)) (sizB g cnt plc q) g) H := hP
    have hD : va_D A (wX h fl e1 e2 pd sg cI k1 k2 rv n N (pk 8 (rowB g cnt plc q) (sizB g cnt plc q)) q S c na Na Ra qa Sa ca nb Nb Rb qb Sb cb cnt (pk 8 (rowB g cnt plc q) (sizB g cnt plc q)) (sizB g cnt plc q) g) := hD
    refine lv_aload_n gx gb dX8_done_35 rfl (lv_at hl 2 rfl) ?_
    refine va_get (D := D) (ci := 3) (v := .ref fl) (C := RX8) (T := TX8) (N := 7) gx gb gts i8 gown hK hP 0 rfl rfl 0 (by decide) (gts (.fieldLink RX8 12 "SwanSums" "flock" "LSwanSums$Flock;") (by decide +kernel)) (fun _ h9 => h9) rfl dX8_done_36 ?_
    refine lv_aload_n gx gb dX8_done_39 rfl (lv_at hl 2 rfl) ?_
    refine va_get (D := D) (ci := 3) (v := .ref pd) (C := RX8) (T := TX8) (N := 7) gx gb gts i8 gown hK hP 0 rfl rfl 5 (by decide) (gts (.fieldLink RX8 32 "SwanSums" "pad" "LSwanSums$Pad;") (by decide +kernel)) (fun _ h9 => h9) rfl dX8_done_40 ?_
    refine va_get (D := D) (ci := 1) (v := .int (nI (sizB g cnt plc q))) (C := RX4) (T := TX4) (N := 4) gx gb gts i4 gown hK hP 4 rfl rfl 3 (by decide) (gts (.fieldLink RX8 98 "SwanSums$Pad" "sizeBehind" "I") (by decide +kernel)) (fun _ h9 => h9) rfl dX8_done_43 ?_
    refine va_put (D := D) (ci := 0) (v := .int (nI (sizB g cnt plc q))) (ty := .int) (C := RX1) (T := TX1) (N := 6) gx gb gts i1 tyX1 tyX1_ok nmX1 gown hK hP hD hS 1 rfl rfl 3 (by decide) (gts (.fieldLink RX8 82 "SwanSums$Flock" "size" "I") (by decide +kernel)) (fun _ h9 => h9) rfl (by decide +kernel) rfl rfl (Nat.le_of_ble_eq_true rfl) dX8_done_46 (fun H locs hP hD hS => ?_)
    have hP : va_P D vwCl (wX h fl e1 e2 pd sg cI k1 k2 rv n N (pk 8 (rowB g cnt plc q) (sizB g cnt plc q)) (sizB g cnt plc q) S c na Na Ra qa Sa ca nb Nb Rb qb Sb cb cnt (pk 8 (rowB g cnt plc q) (sizB g cnt plc q)) (sizB g cnt plc q) g) H := hP
    have hD : va_D A (wX h fl e1 e2 pd sg cI k1 k2 rv n N (pk 8 (rowB g cnt plc q) (sizB g cnt plc q)) (sizB g cnt plc q) S c na Na Ra qa Sa ca nb Nb Rb qb Sb cb cnt (pk 8 (rowB g cnt plc q) (sizB g cnt plc q)) (sizB g cnt plc q) g) := hD
    refine lv_aload_n gx gb dX8_done_49 rfl (lv_at hl 2 rfl) ?_
    refine va_get (D := D) (ci := 3) (v := .ref pd) (C := RX8) (T := TX8) (N := 7) gx gb gts i8 gown hK hP 0 rfl rfl 5 (by decide) (gts (.fieldLink RX8 32 "SwanSums" "pad" "LSwanSums$Pad;") (by decide +kernel)) (fun _ h9 => h9) rfl dX8_done_50 ?_
    refine lv_iconst (v := nI 0) gx gb dX8_done_53 (by decide) ?_
    refine va_put (D := D) (ci := 1) (v := .int (nI 0)) (ty := .int) (C := RX4) (T := TX4) (N := 4) gx gb gts i4 tyX4 tyX4_ok nmX4 gown hK hP hD hS 4 rfl rfl 1 (by decide) (gts (.fieldLink RX8 69 "SwanSums$Pad" "count" "I") (by decide +kernel)) (fun _ h9 => h9) rfl (by decide +kernel) rfl rfl (Nat.le_of_ble_eq_true rfl) dX8_done_54 (fun H locs hP hD hS => ?_)
    have hP : va_P D vwCl (wX h fl e1 e2 pd sg cI k1 k2 rv n N (pk 8 (rowB g cnt plc q) (sizB g cnt plc q)) (sizB g cnt plc q) S c na Na Ra qa Sa ca nb Nb Rb qb Sb cb 0 (pk 8 (rowB g cnt plc q) (sizB g cnt plc q)) (sizB g cnt plc q) g) H := hP
    have hD : va_D A (wX h fl e1 e2 pd sg cI k1 k2 rv n N (pk 8 (rowB g cnt plc q) (sizB g cnt plc q)) (sizB g cnt plc q) S c na Na Ra qa Sa ca nb Nb Rb qb Sb cb 0 (pk 8 (rowB g cnt plc q) (sizB g cnt plc q)) (sizB g cnt plc q) g) := hD
    refine lv_iload_n gx gb dX8_done_57 rfl (lv_at hl 0 rfl) ?_
    have e_R : (pk 8 (rowB g cnt plc q) (sizB g cnt plc q)) = (if barZ g cnt plc q = 0 then pk 8 (rowB g cnt plc q) (sizB g cnt plc q) else pk 8 plc q) := by rw [if_pos hb0]
    have e_q : (sizB g cnt plc q) = (if barZ g cnt plc q = 0 then sizB g cnt plc q else q) := by rw [if_pos hb0]
    have e_cnt : 0 = (if barZ g cnt plc q = 0 then 0 else cnt) := by rw [if_pos hb0]
    have hP : va_P D vwCl (wX h fl e1 e2 pd sg cI k1 k2 rv n N (if barZ g cnt plc q = 0 then pk 8 (rowB g cnt plc q) (sizB g cnt plc q) else pk 8 plc q) (if barZ g cnt plc q = 0 then sizB g cnt plc q else q) S c na Na Ra qa Sa ca nb Nb Rb qb Sb cb (if barZ g cnt plc q = 0 then 0 else cnt) (pk 8 (rowB g cnt plc q) (sizB g cnt plc q)) (sizB g cnt plc q) g) H := by rw [← e_R, ← e_q, ← e_cnt]; exact hP
    have hD : va_D A (wX h fl e1 e2 pd sg cI k1 k2 rv n N (if barZ g cnt plc q = 0 then pk 8 (rowB g cnt plc q) (sizB g cnt plc q) else pk 8 plc q) (if barZ g cnt plc q = 0 then sizB g cnt plc q else q) S c na Na Ra qa Sa ca nb Nb Rb qb Sb cb (if barZ g cnt plc q = 0 then 0 else cnt) (pk 8 (rowB g cnt plc q) (sizB g cnt plc q)) (sizB g cnt plc q) g) := by rw [← e_R, ← e_q, ← e_cnt]; exact hD
    exact W.iret (v := nI (evn g cnt)) gx gb gr (fun t ht hW => ⟨⟨nI (evn g cnt), (pk 8 (rowB g cnt plc q) (sizB g cnt plc q), sizB g cnt plc q), rfl, (by first | (dsimp only; done) | ((try dsimp only); rw [donZ, if_pos hb0, zI_nat])), by rw [ht]; exact hP, va_K.moved hW.alike hK, hD⟩, hS.F ht⟩) hS.2.2 dX8_done_58
  · skip
    rw [zI_eq (by omega) (by omega) (by omega) (by omega)] at c8
    have hb0 : ¬ barZ g cnt plc q = 0 := fun h => c8 (if_pos h)
    refine lv_iload_n gx gb dX8_done_11 rfl (lv_at hl 0 rfl) ?_
    have e_R : (pk 8 plc q) = (if barZ g cnt plc q = 0 then pk 8 (rowB g cnt plc q) (sizB g cnt plc q) else pk 8 plc q) := by rw [if_neg hb0]
    have e_q : q = (if barZ g cnt plc q = 0 then sizB g cnt plc q else q) := by rw [if_neg hb0]
    have e_cnt : cnt = (if barZ g cnt plc q = 0 then 0 else cnt) := by rw [if_neg hb0]
    have hP : va_P D vwCl (wX h fl e1 e2 pd sg cI k1 k2 rv n N (if barZ g cnt plc q = 0 then pk 8 (rowB g cnt plc q) (sizB g cnt plc q) else pk 8 plc q) (if barZ g cnt plc q = 0 then sizB g cnt plc q else q) S c na Na Ra qa Sa ca nb Nb Rb qb Sb cb (if barZ g cnt plc q = 0 then 0 else cnt) rb_1 sb_1 g) H := by rw [← e_R, ← e_q, ← e_cnt]; exact hP
    have hD : va_D A (wX h fl e1 e2 pd sg cI k1 k2 rv n N (if barZ g cnt plc q = 0 then pk 8 (rowB g cnt plc q) (sizB g cnt plc q) else pk 8 plc q) (if barZ g cnt plc q = 0 then sizB g cnt plc q else q) S c na Na Ra qa Sa ca nb Nb Rb qb Sb cb (if barZ g cnt plc q = 0 then 0 else cnt) rb_1 sb_1 g) := by rw [← e_R, ← e_q, ← e_cnt]; exact hD
    exact W.iret (v := zI (if barZ g cnt plc q = 0 then -6 else barZ g cnt plc q)) gx gb gr (fun t ht hW => ⟨⟨zI (if barZ g cnt plc q = 0 then -6 else barZ g cnt plc q), (rb_1, sb_1), rfl, (by first | (dsimp only; done) | ((try dsimp only); rw [donZ, if_neg hb0, if_neg hb0])), by rw [ht]; exact hP, va_K.moved hW.alike hK, hD⟩, hS.F ht⟩) hS.2.2 dX8_done_12

set_option maxHeartbeats 4000000 in
set_option maxRecDepth 100000 in
theorem kX8_at (Gl : Launch) (D : va_G) (cI cJ cZ : ClassId) (h : Nat) (fl : Nat) (e1 : Nat) (e2 : Nat) (pd : Nat) (sg : Nat) (k1 : Nat) (k2 : Nat) (rv : Value) (n : Nat) (N : Nat) (q : Nat) (S : Nat) (c : Nat) (na : Nat) (Na : Nat) (Ra : Nat) (qa : Nat) (Sa : Nat) (ca : Nat) (nb : Nat) (Nb : Nat) (Rb : Nat) (qb : Nat) (Sb : Nat) (cb : Nat) (cnt : Nat) (rb : Nat) (sb : Nat) (g : Nat → Nat) (plc : Nat → Nat) (a : Int) (hl_a : -2147483648 ≤ a) (hu_a : a < 2147483648) (hn1 : 1 ≤ n) (hn7 : n ≤ 7) (hq1 : 1 ≤ q) (hqn : q ≤ n) (hp : ∀ k, k < q → plc k < n) : Met Gl yX8_at wsX8_at ({ frames := 1, cells := 0, slots := 0, locals := 21 } : Room) (va_Pc [.ref h, .int (zI a)] (fun U => va_P D vwCl (wX h fl e1 e2 pd sg cI k1 k2 rv n N (pk 8 plc q) q S c na Na Ra qa Sa ca nb Nb Rb qb Sb cb cnt rb sb g) U.heap ∧ va_K D vwCl [(cI, .int), (cJ, .long), (cZ, .boolean)] U)) (vp_Si (fun r : Int32 => r = zI (atZ plc q a))) 0 0 (fun _ => False) := by
  refine Met.ofW (cc := cX8_at) (maxL := 2) (ret := (some .int)) (by decide +kernel) rfl ?_
  intro Gp Ge Gs Gm Ga Gw Gt Gc G1 Bd gml gv
  obtain ⟨rfl, hP, hK⟩ := gv
  have gx := Bd.exec
  have gb := Bd.bytes
  have gr := Bd.returns
  have gts := atoms_spec (ws := wsX8_at) Bd.pre
  have gown : Gs.vm.findClass RX8 = some Gm.cls := findClass_of_methodNamed Bd.named
  have glk := Bd.notSynchronized
  have hl := lv_entry ([.ref h, .int (zI a)]) (n := 2) (Nat.le_of_ble_eq_true rfl)
  rw [lg_entry_eq]
  generalize (lg_sl ([.ref h, .int (zI a)]) ++ List.replicate (2 - (lg_sl ([.ref h, .int (zI a)])).length) Slot.unset).toArray = ls at hl ⊢
  have hl : lv_has ls 2 [(0, .ref h), (1, .int (zI a))] := hl
  have i1 : ∀ w ∈ wsX10, w ∈ wsX8_at := by decide +kernel
  have i8 : ∀ w ∈ wsX80, w ∈ wsX8_at := by decide +kernel
  have hp8 : ∀ k, k < q → plc k < 8 := fun k hk => by have := hp k hk; omega
  have hR8 := pk8_lt hp8 (by omega)
  refine lv_iload_n gx gb dX8_at_0 rfl (lv_at hl 1 rfl) ?_
  refine lv_if_lt (tgt := 15) gx gb dX8_at_1 (by decide) (fun c1 => ?_) (fun c1 => ?_)
  · skip
    rw [z0_lt (by omega) (by omega)] at c1
    refine lv_iconst (v := zI (-1)) gx gb dX8_at_15 (by decide) ?_
    exact W.iret (v := zI (-1)) gx gb gr (fun t ht hW => ⟨zI (-1), rfl, (by first | (dsimp only; done) | ((try dsimp only); rw [atZ, if_neg (by omega)])), ht⟩) (fun q h => by cases h) dX8_at_16
  · skip
    rw [z0_lt (by omega) (by omega)] at c1
    refine lv_iload_n gx gb dX8_at_4 rfl (lv_at hl 1 rfl) ?_
    refine lv_aload_n gx gb dX8_at_5 rfl (lv_at hl 0 rfl) ?_
    refine va_get (D := D) (ci := 3) (v := .ref fl) (C := RX8) (T := TX8) (N := 7) gx gb gts i8 gown hK hP 0 rfl rfl 0 (by decide) (gts (.fieldLink RX8 12 "SwanSums" "flock" "LSwanSums$Flock;") (by decide +kernel)) (fun _ h9 => h9) rfl dX8_at_6 ?_
    refine va_get (D := D) (ci := 0) (v := .int (nI q)) (C := RX1) (T := TX1) (N := 6) gx gb gts i1 gown hK hP 1 rfl rfl 3 (by decide) (gts (.fieldLink RX8 82 "SwanSums$Flock" "size" "I") (by decide +kernel)) (fun _ h9 => h9) rfl dX8_at_9 ?_
    refine lv_icmp_lt (tgt := 17) gx gb dX8_at_12 (by decide) (fun c12 => ?_) (fun c12 => ?_)
    · skip
      rw [zn_lt (by omega) (by omega) (by omega)] at c12
      obtain ⟨i, hi⟩ : ∃ i : Nat, a = (i : Int) := ⟨a.toNat, by omega⟩
      rw [show zI a = nI i from by rw [hi, zI_nat]] at hl
      have hl : lv_has ls 2 [(0, .ref h), (1, .int (nI i))] := hl
      refine lv_aload_n gx gb dX8_at_17 rfl (lv_at hl 0 rfl) ?_
      refine va_get (D := D) (ci := 3) (v := .ref fl) (C := RX8) (T := TX8) (N := 7) gx gb gts i8 gown hK hP 0 rfl rfl 0 (by decide) (gts (.fieldLink RX8 12 "SwanSums" "flock" "LSwanSums$Flock;") (by decide +kernel)) (fun _ h9 => h9) rfl dX8_at_18 ?_
      refine va_get (D := D) (ci := 0) (v := .int (nI (pk 8 plc q))) (C := RX1) (T := TX1) (N := 6) gx gb gts i1 gown hK hP 1 rfl rfl 2 (by decide) (gts (.fieldLink RX8 79 "SwanSums$Flock" "row" "I") (by decide +kernel)) (fun _ h9 => h9) rfl dX8_at_21 ?_
      refine lv_iload_n gx gb dX8_at_24 rfl (lv_at hl 1 rfl) ?_
      refine vp_callSi (W.runS (As := [.int (nI (pk 8 plc q)), .int (nI i)]) (rest := []) ⟨gx, gb, gml, gown, gts⟩ (kX6_who Gl (pk 8 plc q) i (by omega) (by omega)) (va_cwS 2 gts gX8_at_X6_who rfl rfl rfl (by decide +kernel) ⟨Nat.le_of_ble_eq_true rfl, Nat.le_of_ble_eq_true rfl⟩) ⟨fun _ _ _ _ h => h, fun U hU hW => ⟨rfl, trivial⟩⟩ rfl rfl hl.1 rfl (lv_room (Nat.le_of_ble_eq_true rfl)) dX8_at_25 ⟨Nat.le_of_ble_eq_true rfl, Nat.le_of_ble_eq_true rfl⟩) (fun r hw => ?_)
      have hr25 := hw
      subst hr25
      exact W.iret (v := nI (dg 8 (pk 8 plc q) i)) gx gb gr (fun t ht hW => ⟨nI (dg 8 (pk 8 plc q) i), rfl, (by first | (dsimp only; done) | ((try dsimp only); rw [atZ, if_pos (by omega), hi, dg_pk hp8 (by omega)]; exact (zI_nat _).symm)), ht⟩) (fun q h => by cases h) dX8_at_28
    · skip
      rw [zn_lt (by omega) (by omega) (by omega)] at c12
      refine lv_iconst (v := zI (-1)) gx gb dX8_at_15 (by decide) ?_
      exact W.iret (v := zI (-1)) gx gb gr (fun t ht hW => ⟨zI (-1), rfl, (by first | (dsimp only; done) | ((try dsimp only); rw [atZ, if_neg (by omega)])), ht⟩) (fun q h => by cases h) dX8_at_16

set_option maxHeartbeats 4000000 in
set_option maxRecDepth 100000 in
theorem kX8_behind (Gl : Launch) (D : va_G) (cI cJ cZ : ClassId) (h : Nat) (fl : Nat) (e1 : Nat) (e2 : Nat) (pd : Nat) (sg : Nat) (k1 : Nat) (k2 : Nat) (rv : Value) (n : Nat) (N : Nat) (q : Nat) (S : Nat) (c : Nat) (na : Nat) (Na : Nat) (Ra : Nat) (qa : Nat) (Sa : Nat) (ca : Nat) (nb : Nat) (Nb : Nat) (Rb : Nat) (qb : Nat) (Sb : Nat) (cb : Nat) (cnt : Nat) (rb : Nat) (sb : Nat) (g : Nat → Nat) (sz : Nat) (plc : Nat → Nat) (a : Int) (hl_a : -2147483648 ≤ a) (hu_a : a < 2147483648) (hcn : cnt ≤ 60) (hg : ∀ k, k < cnt → g k < 127) (hn1 : 1 ≤ n) (hn7 : n ≤ 7) (hq1 : 1 ≤ q) (hqn : q ≤ n) (hp : ∀ k, k < q → plc k < n) : Met Gl yX8_behind wsX8_behind ({ frames := 6, cells := 0, slots := 0, locals := 138 } : Room) (va_Pc [.ref h, .int (zI a)] (fun U => U.heap.size = sz ∧ va_P D vwCl (wX h fl e1 e2 pd sg cI k1 k2 rv n N (pk 8 plc q) q S c na Na Ra qa Sa ca nb Nb Rb qb Sb cb cnt rb sb g) U.heap ∧ va_K D vwCl [(cI, .int), (cJ, .long), (cZ, .boolean)] U ∧ va_D (fun _ => True) (wX h fl e1 e2 pd sg cI k1 k2 rv n N (pk 8 plc q) q S c na Na Ra qa Sa ca nb Nb Rb qb Sb cb cnt rb sb g))) (va_Qi (fun (r : Int32) (u : (Nat) × (Nat)) => r = zI (behZ g cnt plc q a)) (fun (u : (Nat) × (Nat)) t => va_P D vwCl (wX h fl e1 e2 pd sg cI k1 k2 rv n N (pk 8 plc q) q S c na Na Ra qa Sa ca nb Nb Rb qb Sb cb cnt u.1 u.2 g) t.heap ∧ va_K D vwCl [(cI, .int), (cJ, .long), (cZ, .boolean)] t ∧ va_D (va_A (wX h fl e1 e2 pd sg cI k1 k2 rv n N (pk 8 plc q) q S c na Na Ra qa Sa ca nb Nb Rb qb Sb cb cnt rb sb g) sz) (wX h fl e1 e2 pd sg cI k1 k2 rv n N (pk 8 plc q) q S c na Na Ra qa Sa ca nb Nb Rb qb Sb cb cnt u.1 u.2 g)) (va_A (wX h fl e1 e2 pd sg cI k1 k2 rv n N (pk 8 plc q) q S c na Na Ra qa Sa ca nb Nb Rb qb Sb cb cnt rb sb g) sz)) 0 0 (va_A (wX h fl e1 e2 pd sg cI k1 k2 rv n N (pk 8 plc q) q S c na Na Ra qa Sa ca nb Nb Rb qb Sb cb cnt rb sb g) sz) := by
  refine Met.ofW (cc := cX8_behind) (maxL := 3) (ret := (some .int)) (by decide +kernel) rfl ?_
  intro Gp Ge Gs Gm Ga Gw Gt Gc G1 Bd gml gv
  obtain ⟨rfl, hsz, hP, hK, hD0⟩ := gv
  have gx := Bd.exec
  have gb := Bd.bytes
  have gr := Bd.returns
  have gts := atoms_spec (ws := wsX8_behind) Bd.pre
  have gown : Gs.vm.findClass RX8 = some Gm.cls := findClass_of_methodNamed Bd.named
  have glk := Bd.notSynchronized
  subst hsz
  have hD := hD0.self (sz := Gs.heap.size)
  generalize hAe : va_A (wX h fl e1 e2 pd sg cI k1 k2 rv n N (pk 8 plc q) q S c na Na Ra qa Sa ca nb Nb Rb qb Sb cb cnt rb sb g) Gs.heap.size = A at hD ⊢
  have hA : ∀ q : Nat, Gs.heap.size ≤ q → A q := fun q h => by rw [← hAe]; exact Or.inr h
  have hS : va_S A Gs.heap Gs.heap [] := va_S.rf
  have hP : va_P D vwCl (wX h fl e1 e2 pd sg cI k1 k2 rv n N (pk 8 plc q) q S c na Na Ra qa Sa ca nb Nb Rb qb Sb cb cnt rb sb g) Gs.heap := hP
  have hl := lv_entry ([.ref h, .int (zI a)]) (n := 3) (Nat.le_of_ble_eq_true rfl)
  rw [lg_entry_eq]
  generalize (lg_sl ([.ref h, .int (zI a)]) ++ List.replicate (3 - (lg_sl ([.ref h, .int (zI a)])).length) Slot.unset).toArray = ls at hl ⊢
  have hl : lv_has ls 3 [(0, .ref h), (1, .int (zI a))] := hl
  have i4 : ∀ w ∈ wsX40, w ∈ wsX8_behind := by decide +kernel
  have i8 : ∀ w ∈ wsX80, w ∈ wsX8_behind := by decide +kernel
  have hp8 : ∀ k, k < q → plc k < 8 := fun k hk => by have := hp k hk; omega
  have hR8 := pk8_lt hp8 (by omega)
  refine lv_aload_n gx gb dX8_behind_0 rfl (lv_at hl 0 rfl) ?_
  have hPc := hP.sub (ws' := wX h fl e1 e2 pd sg cI k1 k2 rv n N (pk 8 plc q) q S c na Na Ra qa Sa ca nb Nb Rb qb Sb cb cnt rb sb g) [0, 1, 2, 3, 4, 5] rfl
  have hDc := hD.sub (ws' := wX h fl e1 e2 pd sg cI k1 k2 rv n N (pk 8 plc q) q S c na Na Ra qa Sa ca nb Nb Rb qb Sb cb cnt rb sb g) [0, 1, 2, 3, 4, 5] (by decide) rfl
  have hFc := va_free (wc := wX h fl e1 e2 pd sg cI k1 k2 rv n N (pk 8 plc q) q S c na Na Ra qa Sa ca nb Nb Rb qb Sb cb cnt rb sb g) hD hS hA [0, 1, 2, 3, 4, 5] rfl
  refine va_calli (va_runV (As := []) (rest := []) ⟨gx, gb, gml, gown, gts⟩ (kX8_refusalOfDay Gl D cI cJ cZ h fl e1 e2 pd sg k1 k2 rv n N q S c na Na Ra qa Sa ca nb Nb Rb qb Sb cb cnt rb sb g _ plc (by omega) (by omega) (by omega) (by omega) (by omega) (by omega) (by omega)) (cwV 0 gts gX8_behind_X8_refusalOfDay rfl rfl rfl (by decide +kernel) ⟨Nat.le_of_ble_eq_true rfl, Nat.le_of_ble_eq_true rfl⟩) ⟨fun a U g mk q => by obtain ⟨q0, q1, qP, qK, qD⟩ := q; exact ⟨q0, q1, qP, va_K.moved (u := U) (U := U.calling g mk a) (Vm.Alike.refl U.vm) qK, qD⟩, va_recv hK hPc (ci := 3) (q0 := 0) rfl rfl, fun U hU hW => ⟨rfl, by rw [hU], by rw [hU]; exact hPc, va_K.moved hW.alike hK, hDc.weaken (fun _ _ _ _ => trivial)⟩⟩ rfl rfl hl.1 rfl (lv_room (Nat.le_of_ble_eq_true rfl)) dX8_behind_1 ⟨Nat.le_of_ble_eq_true rfl, Nat.le_of_ble_eq_true rfl⟩) hS (fun q _ h => hFc q h) hFc (fun r u t H1 locs ht hvm hw hB hz1 hk1 hS => ?_)
  obtain ⟨rb_1, sb_1⟩ := u
  obtain ⟨hP1, hK1, hD1⟩ := hB
  rw [ht] at hP1
  try dsimp only at hw
  try dsimp only at hP1
  try dsimp only at hD1
  have hK := va_K.moved hvm.symm hK1
  obtain ⟨hP, hD⟩ := va_join (wr := []) (w1 := wX h fl e1 e2 pd sg cI k1 k2 rv n N (pk 8 plc q) q S c na Na Ra qa Sa ca nb Nb Rb qb Sb cb cnt rb_1 sb_1 g) hP hD [0, 1, 2, 3, 4, 5] [] rfl rfl (by decide) (by decide) hk1 hFc hP1 hD1
  have hP := hP.sub (ws' := wX h fl e1 e2 pd sg cI k1 k2 rv n N (pk 8 plc q) q S c na Na Ra qa Sa ca nb Nb Rb qb Sb cb cnt rb_1 sb_1 g) [0, 1, 2, 3, 4, 5] rfl
  have hD := hD.sub (ws' := wX h fl e1 e2 pd sg cI k1 k2 rv n N (pk 8 plc q) q S c na Na Ra qa Sa ca nb Nb Rb qb Sb cb cnt rb_1 sb_1 g) [0, 1, 2, 3, 4, 5] (by decide) rfl
  have hK := va_K.moved (Vm.Alike.refl Gs.vm) hK
  generalize H1 = H at hP hS ⊢
  obtain ⟨hr1, hw⟩ := hw
  subst hr1
  have hw4 := hw
  have hbb := barZ_bd g cnt plc q
  have hsb := sizB_bd g cnt plc hq1
  refine lv_istore_n (lv' := [(2, .int (zI (if barZ g cnt plc q = 0 then -6 else barZ g cnt plc q))), (0, .ref h), (1, .int (zI a))]) gx gb dX8_behind_4 rfl hl (by decide) rfl (fun ls hl => ?_)
  have hif : (if barZ g cnt plc q = 0 then (-6 : Int) else barZ g cnt plc q) = -6 ∨ (if barZ g cnt plc q = 0 then (-6 : Int) else barZ g cnt plc q) = -3 ∨ (if barZ g cnt plc q = 0 then (-6 : Int) else barZ g cnt plc q) = -5 := by split <;> omega
  refine lv_iload_n gx gb dX8_behind_5 rfl (lv_at hl 0 rfl) ?_
  refine lv_bipush (v := zI (-6)) gx gb dX8_behind_6 (by decide) ?_
  refine lv_icmp_eq (tgt := 13) gx gb dX8_behind_8 (by decide) (fun c8 => ?_) (fun c8 => ?_)
  · skip
    rw [zI_eq (by omega) (by omega) (by omega) (by omega)] at c8
    have hb0 : barZ g cnt plc q = 0 := by split at c8 <;> omega
    obtain ⟨hz1, hrb⟩ := hw4 hb0
    subst hz1
    subst hrb
    have hrB := rowB_in (pad := g) (w := cnt) (q := q) (P := fun x => x < n) hp
    have hrB8 : ∀ k, k < sizB g cnt plc q → rowB g cnt plc q k < 8 := fun k hk => by have := hrB k hk; omega
    have hrl := pk8_lt hrB8 (by omega)
    refine lv_iload_n gx gb dX8_behind_13 rfl (lv_at hl 2 rfl) ?_
    refine lv_iconst (v := zI (-1)) gx gb dX8_behind_14 (by decide) ?_
    refine lv_icmp_ne (tgt := 26) gx gb dX8_behind_15 (by decide) (fun c15 => ?_) (fun c15 => ?_)
    · skip
      rw [zI_eq (by omega) (by omega) (by omega) (by omega)] at c15
      refine lv_iload_n gx gb dX8_behind_26 rfl (lv_at hl 2 rfl) ?_
      refine lv_if_lt (tgt := 41) gx gb dX8_behind_27 (by decide) (fun c27 => ?_) (fun c27 => ?_)
      · skip
        rw [z0_lt (by omega) (by omega)] at c27
        refine lv_bipush (v := zI (-6)) gx gb dX8_behind_41 (by decide) ?_
        exact W.iret (v := zI (-6)) gx gb gr (fun t ht hW => ⟨⟨zI (-6), (pk 8 (rowB g cnt plc q) (sizB g cnt plc q), sizB g cnt plc q), rfl, (by first | (dsimp only; done) | ((try dsimp only); rw [behZ, if_pos hb0, if_neg (by omega), if_neg (by omega)])), by rw [ht]; exact hP, va_K.moved hW.alike hK, hD⟩, hS.F ht⟩) hS.2.2 dX8_behind_43
      · skip
        rw [z0_lt (by omega) (by omega)] at c27
        refine lv_iload_n gx gb dX8_behind_30 rfl (lv_at hl 2 rfl) ?_
        refine lv_aload_n gx gb dX8_behind_31 rfl (lv_at hl 1 rfl) ?_
        refine va_get (D := D) (ci := 3) (v := .ref pd) (C := RX8) (T := TX8) (N := 7) gx gb gts i8 gown hK hP 0 rfl rfl 5 (by decide) (gts (.fieldLink RX8 32 "SwanSums" "pad" "LSwanSums$Pad;") (by decide +kernel)) (fun _ h9 => h9) rfl dX8_behind_32 ?_
        refine va_get (D := D) (ci := 1) (v := .int (nI (sizB g cnt plc q))) (C := RX4) (T := TX4) (N := 4) gx gb gts i4 gown hK hP 4 rfl rfl 3 (by decide) (gts (.fieldLink RX8 98 "SwanSums$Pad" "sizeBehind" "I") (by decide +kernel)) (fun _ h9 => h9) rfl dX8_behind_35 ?_
        refine lv_icmp_lt (tgt := 44) gx gb dX8_behind_38 (by decide) (fun c38 => ?_) (fun c38 => ?_)
        · skip
          rw [zn_lt (by omega) (by omega) (by omega)] at c38
          obtain ⟨i, hi⟩ : ∃ i : Nat, a = (i : Int) := ⟨a.toNat, by omega⟩
          rw [show zI a = nI i from by rw [hi, zI_nat]] at hl
          have hl : lv_has ls 3 [(2, .int (zI (if barZ g cnt plc q = 0 then -6 else barZ g cnt plc q))), (0, .ref h), (1, .int (nI i))] := hl
          refine lv_aload_n gx gb dX8_behind_44 rfl (lv_at hl 1 rfl) ?_
          refine va_get (D := D) (ci := 3) (v := .ref pd) (C := RX8) (T := TX8) (N := 7) gx gb gts i8 gown hK hP 0 rfl rfl 5 (by decide) (gts (.fieldLink RX8 32 "SwanSums" "pad" "LSwanSums$Pad;") (by decide +kernel)) (fun _ h9 => h9) rfl dX8_behind_45 ?_
          refine va_get (D := D) (ci := 1) (v := .int (nI (pk 8 (rowB g cnt plc q) (sizB g cnt plc q)))) (C := RX4) (T := TX4) (N := 4) gx gb gts i4 gown hK hP 4 rfl rfl 2 (by decide) (gts (.fieldLink RX8 95 "SwanSums$Pad" "rowBehind" "I") (by decide +kernel)) (fun _ h9 => h9) rfl dX8_behind_48 ?_
          refine lv_iload_n gx gb dX8_behind_51 rfl (lv_at hl 2 rfl) ?_
          refine vp_callSi (W.runS (As := [.int (nI (pk 8 (rowB g cnt plc q) (sizB g cnt plc q))), .int (nI i)]) (rest := []) ⟨gx, gb, gml, gown, gts⟩ (kX6_who Gl (pk 8 (rowB g cnt plc q) (sizB g cnt plc q)) i (by omega) (by omega)) (va_cwS 2 gts gX8_behind_X6_who rfl rfl rfl (by decide +kernel) ⟨Nat.le_of_ble_eq_true rfl, Nat.le_of_ble_eq_true rfl⟩) ⟨fun _ _ _ _ h => h, fun U hU hW => ⟨rfl, trivial⟩⟩ rfl rfl hl.1 rfl (lv_room (Nat.le_of_ble_eq_true rfl)) dX8_behind_52 ⟨Nat.le_of_ble_eq_true rfl, Nat.le_of_ble_eq_true rfl⟩) (fun r hw => ?_)
          have hr52 := hw
          subst hr52
          exact W.iret (v := nI (dg 8 (pk 8 (rowB g cnt plc q) (sizB g cnt plc q)) i)) gx gb gr (fun t ht hW => ⟨⟨nI (dg 8 (pk 8 (rowB g cnt plc q) (sizB g cnt plc q)) i), (pk 8 (rowB g cnt plc q) (sizB g cnt plc q), sizB g cnt plc q), rfl, (by first | (dsimp only; done) | ((try dsimp only); rw [behZ, if_pos hb0, if_neg (by omega), if_pos (by omega), hi, dg_pk hrB8 (by omega)]; exact (zI_nat _).symm)), by rw [ht]; exact hP, va_K.moved hW.alike hK, hD⟩, hS.F ht⟩) hS.2.2 dX8_behind_55
        · skip
          rw [zn_lt (by omega) (by omega) (by omega)] at c38
          refine lv_bipush (v := zI (-6)) gx gb dX8_behind_41 (by decide) ?_
          exact W.iret (v := zI (-6)) gx gb gr (fun t ht hW => ⟨⟨zI (-6), (pk 8 (rowB g cnt plc q) (sizB g cnt plc q), sizB g cnt plc q), rfl, (by first | (dsimp only; done) | ((try dsimp only); rw [behZ, if_pos hb0, if_neg (by omega), if_neg (by omega)])), by rw [ht]; exact hP, va_K.moved hW.alike hK, hD⟩, hS.F ht⟩) hS.2.2 dX8_behind_43
    · skip
      rw [zI_eq (by omega) (by omega) (by omega) (by omega)] at c15
      refine lv_aload_n gx gb dX8_behind_18 rfl (lv_at hl 1 rfl) ?_
      refine va_get (D := D) (ci := 3) (v := .ref pd) (C := RX8) (T := TX8) (N := 7) gx gb gts i8 gown hK hP 0 rfl rfl 5 (by decide) (gts (.fieldLink RX8 32 "SwanSums" "pad" "LSwanSums$Pad;") (by decide +kernel)) (fun _ h9 => h9) rfl dX8_behind_19 ?_
      refine va_get (D := D) (ci := 1) (v := .int (nI (sizB g cnt plc q))) (C := RX4) (T := TX4) (N := 4) gx gb gts i4 gown hK hP 4 rfl rfl 3 (by decide) (gts (.fieldLink RX8 98 "SwanSums$Pad" "sizeBehind" "I") (by decide +kernel)) (fun _ h9 => h9) rfl dX8_behind_22 ?_
      exact W.iret (v := nI (sizB g cnt plc q)) gx gb gr (fun t ht hW => ⟨⟨nI (sizB g cnt plc q), (pk 8 (rowB g cnt plc q) (sizB g cnt plc q), sizB g cnt plc q), rfl, (by first | (dsimp only; done) | ((try dsimp only); rw [behZ, if_pos hb0, if_pos (by omega), zI_nat])), by rw [ht]; exact hP, va_K.moved hW.alike hK, hD⟩, hS.F ht⟩) hS.2.2 dX8_behind_25
  · skip
    rw [zI_eq (by omega) (by omega) (by omega) (by omega)] at c8
    have hb0 : ¬ barZ g cnt plc q = 0 := fun h => c8 (if_pos h)
    refine lv_iload_n gx gb dX8_behind_11 rfl (lv_at hl 0 rfl) ?_
    exact W.iret (v := zI (if barZ g cnt plc q = 0 then -6 else barZ g cnt plc q)) gx gb gr (fun t ht hW => ⟨⟨zI (if barZ g cnt plc q = 0 then -6 else barZ g cnt plc q), (rb_1, sb_1), rfl, (by first | (dsimp only; done) | ((try dsimp only); rw [behZ, if_neg hb0, if_neg hb0])), by rw [ht]; exact hP, va_K.moved hW.alike hK, hD⟩, hS.F ht⟩) hS.2.2 dX8_behind_12

set_option maxHeartbeats 4000000 in
set_option maxRecDepth 100000 in
theorem kX8_taught (Gl : Launch) (D : va_G) (cI cJ cZ : ClassId) (h : Nat) (fl : Nat) (e1 : Nat) (e2 : Nat) (pd : Nat) (sg : Nat) (k1 : Nat) (k2 : Nat) (rv : Value) (n : Nat) (q : Nat) (S : Nat) (c : Nat) (na : Nat) (Na : Nat) (Ra : Nat) (qa : Nat) (Sa : Nat) (ca : Nat) (nb : Nat) (Nb : Nat) (Rb : Nat) (qb : Nat) (Sb : Nat) (cb : Nat) (cnt : Nat) (rb : Nat) (sb : Nat) (g : Nat → Nat) (sz : Nat) (num plc : Nat → Nat) (a : Int) (hl_a : -2147483648 ≤ a) (hu_a : a < 2147483648) (hcn : cnt ≤ 60) (hg : ∀ k, k < cnt → g k < 127) (hn1 : 1 ≤ n) (hn7 : n ≤ 7) (hq1 : 1 ≤ q) (hqn : q ≤ n) (hp : ∀ k, k < q → plc k < n) (hnum : ∀ k, k < n → num k ≤ 99) : Met Gl yX8_taught wsX8_taught ({ frames := 6, cells := 0, slots := 0, locals := 138 } : Room) (va_Pc [.ref h, .int (zI a)] (fun U => U.heap.size = sz ∧ va_P D vwCl (wX h fl e1 e2 pd sg cI k1 k2 rv n (pk 256 num n) (pk 8 plc q) q S c na Na Ra qa Sa ca nb Nb Rb qb Sb cb cnt rb sb g) U.heap ∧ va_K D vwCl [(cI, .int), (cJ, .long), (cZ, .boolean)] U ∧ va_D (fun _ => True) (wX h fl e1 e2 pd sg cI k1 k2 rv n (pk 256 num n) (pk 8 plc q) q S c na Na Ra qa Sa ca nb Nb Rb qb Sb cb cnt rb sb g))) (va_Qi (fun (r : Int32) (u : (Nat) × (Nat)) => r = zI (tghZ num g cnt plc q a)) (fun (u : (Nat) × (Nat)) t => va_P D vwCl (wX h fl e1 e2 pd sg cI k1 k2 rv n (pk 256 num n) (pk 8 plc q) q S c na Na Ra qa Sa ca nb Nb Rb qb Sb cb cnt u.1 u.2 g) t.heap ∧ va_K D vwCl [(cI, .int), (cJ, .long), (cZ, .boolean)] t ∧ va_D (va_A (wX h fl e1 e2 pd sg cI k1 k2 rv n (pk 256 num n) (pk 8 plc q) q S c na Na Ra qa Sa ca nb Nb Rb qb Sb cb cnt rb sb g) sz) (wX h fl e1 e2 pd sg cI k1 k2 rv n (pk 256 num n) (pk 8 plc q) q S c na Na Ra qa Sa ca nb Nb Rb qb Sb cb cnt u.1 u.2 g)) (va_A (wX h fl e1 e2 pd sg cI k1 k2 rv n (pk 256 num n) (pk 8 plc q) q S c na Na Ra qa Sa ca nb Nb Rb qb Sb cb cnt rb sb g) sz)) 0 0 (va_A (wX h fl e1 e2 pd sg cI k1 k2 rv n (pk 256 num n) (pk 8 plc q) q S c na Na Ra qa Sa ca nb Nb Rb qb Sb cb cnt rb sb g) sz) := by
  refine Met.ofW (cc := cX8_taught) (maxL := 3) (ret := (some .int)) (by decide +kernel) rfl ?_
  intro Gp Ge Gs Gm Ga Gw Gt Gc G1 Bd gml gv
  obtain ⟨rfl, hsz, hP, hK, hD0⟩ := gv
  have gx := Bd.exec
  have gb := Bd.bytes
  have gr := Bd.returns
  have gts := atoms_spec (ws := wsX8_taught) Bd.pre
  have gown : Gs.vm.findClass RX8 = some Gm.cls := findClass_of_methodNamed Bd.named
  have glk := Bd.notSynchronized
  subst hsz
  have hD := hD0.self (sz := Gs.heap.size)
  generalize hAe : va_A (wX h fl e1 e2 pd sg cI k1 k2 rv n (pk 256 num n) (pk 8 plc q) q S c na Na Ra qa Sa ca nb Nb Rb qb Sb cb cnt rb sb g) Gs.heap.size = A at hD ⊢
  have hA : ∀ q : Nat, Gs.heap.size ≤ q → A q := fun q h => by rw [← hAe]; exact Or.inr h
  have hS : va_S A Gs.heap Gs.heap [] := va_S.rf
  have hP : va_P D vwCl (wX h fl e1 e2 pd sg cI k1 k2 rv n (pk 256 num n) (pk 8 plc q) q S c na Na Ra qa Sa ca nb Nb Rb qb Sb cb cnt rb sb g) Gs.heap := hP
  have hl := lv_entry ([.ref h, .int (zI a)]) (n := 3) (Nat.le_of_ble_eq_true rfl)
  rw [lg_entry_eq]
  generalize (lg_sl ([.ref h, .int (zI a)]) ++ List.replicate (3 - (lg_sl ([.ref h, .int (zI a)])).length) Slot.unset).toArray = ls at hl ⊢
  have hl : lv_has ls 3 [(0, .ref h), (1, .int (zI a))] := hl
  have i1 : ∀ w ∈ wsX10, w ∈ wsX8_taught := by decide +kernel
  have i4 : ∀ w ∈ wsX40, w ∈ wsX8_taught := by decide +kernel
  have i8 : ∀ w ∈ wsX80, w ∈ wsX8_taught := by decide +kernel
  have hp8 : ∀ k, k < q → plc k < 8 := fun k hk => by have := hp k hk; omega
  have hR8 := pk8_lt hp8 (by omega)
  have hn256 : ∀ k, k < n → num k < 256 := fun k hk => by have := hnum k hk; omega
  have hN63 := pk256_lt hn256 (by omega)
  refine lv_iload_n gx gb dX8_taught_0 rfl (lv_at hl 1 rfl) ?_
  refine lv_if_lt (tgt := 9) gx gb dX8_taught_1 (by decide) (fun c1 => ?_) (fun c1 => ?_)
  · skip
    rw [z0_lt (by omega) (by omega)] at c1
    refine lv_bipush (v := zI (-2)) gx gb dX8_taught_9 (by decide) ?_
    exact W.iret (v := zI (-2)) gx gb gr (fun t ht hW => ⟨⟨zI (-2), (rb, sb), rfl, (by first | (dsimp only; done) | ((try dsimp only); rw [tghZ, if_neg (by omega), if_neg (by omega)])), by rw [ht]; exact hP, va_K.moved hW.alike hK, hD⟩, hS.F ht⟩) hS.2.2 dX8_taught_11
  · skip
    rw [z0_lt (by omega) (by omega)] at c1
    refine lv_iload_n gx gb dX8_taught_4 rfl (lv_at hl 1 rfl) ?_
    refine lv_iconst (v := nI 1) gx gb dX8_taught_5 (by decide) ?_
    refine lv_icmp_le (tgt := 12) gx gb dX8_taught_6 (by decide) (fun c6 => ?_) (fun c6 => ?_)
    · skip
      rw [zn_le (by omega) (by omega) (by omega)] at c6
      refine lv_iload_n gx gb dX8_taught_12 rfl (lv_at hl 1 rfl) ?_
      refine lv_if_ne (tgt := 34) gx gb dX8_taught_13 (by decide) (fun c13 => ?_) (fun c13 => ?_)
      · skip
        rw [z0_eq (by omega) (by omega)] at c13
        refine lv_aload_n gx gb dX8_taught_34 rfl (lv_at hl 0 rfl) ?_
        have hPc := hP.sub (ws' := wX h fl e1 e2 pd sg cI k1 k2 rv n (pk 256 num n) (pk 8 plc q) q S c na Na Ra qa Sa ca nb Nb Rb qb Sb cb cnt rb sb g) [0, 1, 2, 3, 4, 5] rfl
        have hDc := hD.sub (ws' := wX h fl e1 e2 pd sg cI k1 k2 rv n (pk 256 num n) (pk 8 plc q) q S c na Na Ra qa Sa ca nb Nb Rb qb Sb cb cnt rb sb g) [0, 1, 2, 3, 4, 5] (by decide) rfl
        have hFc := va_free (wc := wX h fl e1 e2 pd sg cI k1 k2 rv n (pk 256 num n) (pk 8 plc q) q S c na Na Ra qa Sa ca nb Nb Rb qb Sb cb cnt rb sb g) hD hS hA [0, 1, 2, 3, 4, 5] rfl
        refine va_calli (va_runV (As := []) (rest := []) ⟨gx, gb, gml, gown, gts⟩ (kX8_refusalOfDay Gl D cI cJ cZ h fl e1 e2 pd sg k1 k2 rv n (pk 256 num n) q S c na Na Ra qa Sa ca nb Nb Rb qb Sb cb cnt rb sb g _ plc (by omega) (by omega) (by omega) (by omega) (by omega) (by omega) (by omega)) (cwV 0 gts gX8_taught_X8_refusalOfDay rfl rfl rfl (by decide +kernel) ⟨Nat.le_of_ble_eq_true rfl, Nat.le_of_ble_eq_true rfl⟩) ⟨fun a U g mk q => by obtain ⟨q0, q1, qP, qK, qD⟩ := q; exact ⟨q0, q1, qP, va_K.moved (u := U) (U := U.calling g mk a) (Vm.Alike.refl U.vm) qK, qD⟩, va_recv hK hPc (ci := 3) (q0 := 0) rfl rfl, fun U hU hW => ⟨rfl, by rw [hU], by rw [hU]; exact hPc, va_K.moved hW.alike hK, hDc.weaken (fun _ _ _ _ => trivial)⟩⟩ rfl rfl hl.1 rfl (lv_room (Nat.le_of_ble_eq_true rfl)) dX8_taught_35 ⟨Nat.le_of_ble_eq_true rfl, Nat.le_of_ble_eq_true rfl⟩) hS (fun q _ h => hFc q h) hFc (fun r u t H1 locs ht hvm hw hB hz1 hk1 hS => ?_)
        obtain ⟨rb_35, sb_35⟩ := u
        obtain ⟨hP1, hK1, hD1⟩ := hB
        rw [ht] at hP1
        try dsimp only at hw
        try dsimp only at hP1
        try dsimp only at hD1
        have hK := va_K.moved hvm.symm hK1
        obtain ⟨hP, hD⟩ := va_join (wr := []) (w1 := wX h fl e1 e2 pd sg cI k1 k2 rv n (pk 256 num n) (pk 8 plc q) q S c na Na Ra qa Sa ca nb Nb Rb qb Sb cb cnt rb_35 sb_35 g) hP hD [0, 1, 2, 3, 4, 5] [] rfl rfl (by decide) (by decide) hk1 hFc hP1 hD1
        have hP := hP.sub (ws' := wX h fl e1 e2 pd sg cI k1 k2 rv n (pk 256 num n) (pk 8 plc q) q S c na Na Ra qa Sa ca nb Nb Rb qb Sb cb cnt rb_35 sb_35 g) [0, 1, 2, 3, 4, 5] rfl
        have hD := hD.sub (ws' := wX h fl e1 e2 pd sg cI k1 k2 rv n (pk 256 num n) (pk 8 plc q) q S c na Na Ra qa Sa ca nb Nb Rb qb Sb cb cnt rb_35 sb_35 g) [0, 1, 2, 3, 4, 5] (by decide) rfl
        have hK := va_K.moved (Vm.Alike.refl Gs.vm) hK
        generalize H1 = H at hP hS ⊢
        obtain ⟨hr35, hw⟩ := hw
        subst hr35
        have hw4 := hw
        have hbb := barZ_bd g cnt plc q
        have hsb := sizB_bd g cnt plc hq1
        refine lv_istore_n (lv' := [(2, .int (zI (if barZ g cnt plc q = 0 then -6 else barZ g cnt plc q))), (0, .ref h), (1, .int (zI a))]) gx gb dX8_taught_38 rfl hl (by decide) rfl (fun ls hl => ?_)
        have hif : (if barZ g cnt plc q = 0 then (-6 : Int) else barZ g cnt plc q) = -6 ∨ (if barZ g cnt plc q = 0 then (-6 : Int) else barZ g cnt plc q) = -3 ∨ (if barZ g cnt plc q = 0 then (-6 : Int) else barZ g cnt plc q) = -5 := by split <;> omega
        refine lv_iload_n gx gb dX8_taught_39 rfl (lv_at hl 0 rfl) ?_
        refine lv_bipush (v := zI (-6)) gx gb dX8_taught_40 (by decide) ?_
        refine lv_icmp_eq (tgt := 47) gx gb dX8_taught_42 (by decide) (fun c42 => ?_) (fun c42 => ?_)
        · skip
          rw [zI_eq (by omega) (by omega) (by omega) (by omega)] at c42
          have hb0 : barZ g cnt plc q = 0 := by split at c42 <;> omega
          obtain ⟨hz1, hrb⟩ := hw4 hb0
          subst hz1
          subst hrb
          have hrB := rowB_in (pad := g) (w := cnt) (q := q) (P := fun x => x < n) hp
          have hrB8 : ∀ k, k < sizB g cnt plc q → rowB g cnt plc q k < 8 := fun k hk => by have := hrB k hk; omega
          have hrl := pk8_lt hrB8 (by omega)
          refine lv_aload_n gx gb dX8_taught_47 rfl (lv_at hl 1 rfl) ?_
          refine va_get (D := D) (ci := 3) (v := .ref fl) (C := RX8) (T := TX8) (N := 7) gx gb gts i8 gown hK hP 0 rfl rfl 0 (by decide) (gts (.fieldLink RX8 12 "SwanSums" "flock" "LSwanSums$Flock;") (by decide +kernel)) (fun _ h9 => h9) rfl dX8_taught_48 ?_
          refine va_get (D := D) (ci := 0) (v := .long (lN (pk 256 num n))) (C := RX1) (T := TX1) (N := 6) gx gb gts i1 gown hK hP 1 rfl rfl 1 (by decide) (gts (.fieldLink RX8 52 "SwanSums$Flock" "numbers" "J") (by decide +kernel)) (fun _ h9 => h9) rfl dX8_taught_51 ?_
          refine lv_aload_n gx gb dX8_taught_54 rfl (lv_at hl 1 rfl) ?_
          refine va_get (D := D) (ci := 3) (v := .ref pd) (C := RX8) (T := TX8) (N := 7) gx gb gts i8 gown hK hP 0 rfl rfl 5 (by decide) (gts (.fieldLink RX8 32 "SwanSums" "pad" "LSwanSums$Pad;") (by decide +kernel)) (fun _ h9 => h9) rfl dX8_taught_55 ?_
          refine va_get (D := D) (ci := 1) (v := .int (nI (pk 8 (rowB g cnt plc q) (sizB g cnt plc q)))) (C := RX4) (T := TX4) (N := 4) gx gb gts i4 gown hK hP 4 rfl rfl 2 (by decide) (gts (.fieldLink RX8 95 "SwanSums$Pad" "rowBehind" "I") (by decide +kernel)) (fun _ h9 => h9) rfl dX8_taught_58 ?_
          refine lv_aload_n gx gb dX8_taught_61 rfl (lv_at hl 1 rfl) ?_
          refine va_get (D := D) (ci := 3) (v := .ref pd) (C := RX8) (T := TX8) (N := 7) gx gb gts i8 gown hK hP 0 rfl rfl 5 (by decide) (gts (.fieldLink RX8 32 "SwanSums" "pad" "LSwanSums$Pad;") (by decide +kernel)) (fun _ h9 => h9) rfl dX8_taught_62 ?_
          refine va_get (D := D) (ci := 1) (v := .int (nI (sizB g cnt plc q))) (C := RX4) (T := TX4) (N := 4) gx gb gts i4 gown hK hP 4 rfl rfl 3 (by decide) (gts (.fieldLink RX8 98 "SwanSums$Pad" "sizeBehind" "I") (by decide +kernel)) (fun _ h9 => h9) rfl dX8_taught_65 ?_
          refine vp_callSl (W.runS (As := [.long (lN (pk 256 num n)), .int (nI (pk 8 (rowB g cnt plc q) (sizB g cnt plc q))), .int (nI (sizB g cnt plc q))]) (rest := []) ⟨gx, gb, gml, gown, gts⟩ (kX3_inOrder Gl (pk 256 num n) (pk 8 (rowB g cnt plc q) (sizB g cnt plc q)) (sizB g cnt plc q) (by omega) (by omega) (by omega)) (va_cwS 3 gts gX8_taught_X3_inOrder rfl rfl rfl (by decide +kernel) ⟨Nat.le_of_ble_eq_true rfl, Nat.le_of_ble_eq_true rfl⟩) ⟨fun _ _ _ _ h => h, fun U hU hW => ⟨rfl, trivial⟩⟩ rfl rfl hl.1 rfl (lv_room (Nat.le_of_ble_eq_true rfl)) dX8_taught_68 ⟨Nat.le_of_ble_eq_true rfl, Nat.le_of_ble_eq_true rfl⟩) (fun r hw => ?_)
          have hr68 := hw
          subst hr68
          refine lv_evl (lN (pk 256 (fun p => num (rowB g cnt plc q p)) (sizB g cnt plc q))) (congrArg lN (lin_eq hn7 hnum hrB)) ?_
          have hld := lin_dg hnum hrB
          have hl63 := pk256_lt (f := fun p => num (rowB g cnt plc q p)) (z := sizB g cnt plc q) (fun i hi => by have := hnum _ (hrB i hi); show num (rowB g cnt plc q i) < 256; omega) (by omega)
          refine lv_aload_n gx gb dX8_taught_71 rfl (lv_at hl 1 rfl) ?_
          refine va_get (D := D) (ci := 3) (v := .ref pd) (C := RX8) (T := TX8) (N := 7) gx gb gts i8 gown hK hP 0 rfl rfl 5 (by decide) (gts (.fieldLink RX8 32 "SwanSums" "pad" "LSwanSums$Pad;") (by decide +kernel)) (fun _ h9 => h9) rfl dX8_taught_72 ?_
          refine va_get (D := D) (ci := 1) (v := .int (nI (sizB g cnt plc q))) (C := RX4) (T := TX4) (N := 4) gx gb gts i4 gown hK hP 4 rfl rfl 3 (by decide) (gts (.fieldLink RX8 98 "SwanSums$Pad" "sizeBehind" "I") (by decide +kernel)) (fun _ h9 => h9) rfl dX8_taught_75 ?_
          refine vp_callSi (W.runS (As := [.long (lN (pk 256 (fun p => num (rowB g cnt plc q p)) (sizB g cnt plc q))), .int (nI (sizB g cnt plc q))]) (rest := []) ⟨gx, gb, gml, gown, gts⟩ (kX2_asBits Gl (pk 256 (fun p => num (rowB g cnt plc q p)) (sizB g cnt plc q)) (sizB g cnt plc q) (by omega) (by omega) (by omega) (by exact pk99 (fun x hx => hnum _ (hrB x hx)))) (va_cwS 2 gts gX8_taught_X2_asBits rfl rfl rfl (by decide +kernel) ⟨Nat.le_of_ble_eq_true rfl, Nat.le_of_ble_eq_true rfl⟩) ⟨fun _ _ _ _ h => h, fun U hU hW => ⟨rfl, trivial⟩⟩ rfl rfl hl.1 rfl (lv_room (Nat.le_of_ble_eq_true rfl)) dX8_taught_78 ⟨Nat.le_of_ble_eq_true rfl, Nat.le_of_ble_eq_true rfl⟩) (fun r hw => ?_)
          have hr78 := hw
          subst hr78
          exact W.iret (v := nI (tbits (dg 256 (pk 256 (fun p => num (rowB g cnt plc q p)) (sizB g cnt plc q))) (sizB g cnt plc q) 7)) gx gb gr (fun t ht hW => ⟨⟨nI (tbits (dg 256 (pk 256 (fun p => num (rowB g cnt plc q p)) (sizB g cnt plc q))) (sizB g cnt plc q) 7), (pk 8 (rowB g cnt plc q) (sizB g cnt plc q), sizB g cnt plc q), rfl, (by first | (dsimp only; done) | ((try dsimp only); rw [tghZ, if_neg (by omega), if_pos (by omega), if_pos hb0, zI_nat, tbits_cong hsb.1 hld])), by rw [ht]; exact hP, va_K.moved hW.alike hK, hD⟩, hS.F ht⟩) hS.2.2 dX8_taught_81
        · skip
          rw [zI_eq (by omega) (by omega) (by omega) (by omega)] at c42
          have hb0 : ¬ barZ g cnt plc q = 0 := fun h => c42 (if_pos h)
          refine lv_iload_n gx gb dX8_taught_45 rfl (lv_at hl 0 rfl) ?_
          exact W.iret (v := zI (if barZ g cnt plc q = 0 then -6 else barZ g cnt plc q)) gx gb gr (fun t ht hW => ⟨⟨zI (if barZ g cnt plc q = 0 then -6 else barZ g cnt plc q), (rb_35, sb_35), rfl, (by first | (dsimp only; done) | ((try dsimp only); rw [if_neg hb0, tghZ, if_neg (by omega), if_pos (by omega), if_neg hb0])), by rw [ht]; exact hP, va_K.moved hW.alike hK, hD⟩, hS.F ht⟩) hS.2.2 dX8_taught_46
      · skip
        rw [z0_eq (by omega) (by omega)] at c13
        refine lv_aload_n gx gb dX8_taught_16 rfl (lv_at hl 0 rfl) ?_
        refine va_get (D := D) (ci := 3) (v := .ref fl) (C := RX8) (T := TX8) (N := 7) gx gb gts i8 gown hK hP 0 rfl rfl 0 (by decide) (gts (.fieldLink RX8 12 "SwanSums" "flock" "LSwanSums$Flock;") (by decide +kernel)) (fun _ h9 => h9) rfl dX8_taught_17 ?_
        have hPc := hP.sub (ws' := wF fl n (pk 256 num n) (pk 8 plc q) q S c) [1] rfl
        refine vp_callSl (W.runV (As := []) (rest := []) ⟨gx, gb, gml, gown, gts⟩ (kX1_line Gl D cI cJ cZ fl n (pk 256 num n) (pk 8 plc q) q S c  (by omega) (by omega) (by omega)) (cwV 0 gts gX8_taught_X1_line rfl rfl rfl (by decide +kernel) ⟨Nat.le_of_ble_eq_true rfl, Nat.le_of_ble_eq_true rfl⟩) ⟨fun a U g mk q => ⟨q.1, q.2.1, va_K.moved (u := U) (U := U.calling g mk a) (Vm.Alike.refl U.vm) q.2.2⟩, va_recv hK hPc (ci := 0) (q0 := 0) rfl rfl, fun U hU hW => ⟨rfl, by rw [hU]; exact hPc, va_K.moved hW.alike hK⟩⟩ rfl rfl hl.1 rfl (lv_room (Nat.le_of_ble_eq_true rfl)) dX8_taught_20 ⟨Nat.le_of_ble_eq_true rfl, Nat.le_of_ble_eq_true rfl⟩) (fun r hw => ?_)
        have hr20 := hw
        subst hr20
        refine lv_evl (lN (pk 256 (fun p => num (plc p)) q)) (congrArg lN (lin_eq hn7 hnum hp)) ?_
        have hld := lin_dg hnum hp
        have hl63 := pk256_lt (f := fun p => num (plc p)) (z := q) (fun i hi => by have := hnum _ (hp i hi); show num (plc i) < 256; omega) (by omega)
        refine lv_aload_n gx gb dX8_taught_23 rfl (lv_at hl 0 rfl) ?_
        refine va_get (D := D) (ci := 3) (v := .ref fl) (C := RX8) (T := TX8) (N := 7) gx gb gts i8 gown hK hP 0 rfl rfl 0 (by decide) (gts (.fieldLink RX8 12 "SwanSums" "flock" "LSwanSums$Flock;") (by decide +kernel)) (fun _ h9 => h9) rfl dX8_taught_24 ?_
        refine va_get (D := D) (ci := 0) (v := .int (nI q)) (C := RX1) (T := TX1) (N := 6) gx gb gts i1 gown hK hP 1 rfl rfl 3 (by decide) (gts (.fieldLink RX8 82 "SwanSums$Flock" "size" "I") (by decide +kernel)) (fun _ h9 => h9) rfl dX8_taught_27 ?_
        refine vp_callSi (W.runS (As := [.long (lN (pk 256 (fun p => num (plc p)) q)), .int (nI q)]) (rest := []) ⟨gx, gb, gml, gown, gts⟩ (kX2_asBits Gl (pk 256 (fun p => num (plc p)) q) q (by omega) (by omega) (by omega) (by exact pk99 (fun x hx => hnum _ (hp x hx)))) (va_cwS 2 gts gX8_taught_X2_asBits rfl rfl rfl (by decide +kernel) ⟨Nat.le_of_ble_eq_true rfl, Nat.le_of_ble_eq_true rfl⟩) ⟨fun _ _ _ _ h => h, fun U hU hW => ⟨rfl, trivial⟩⟩ rfl rfl hl.1 rfl (lv_room (Nat.le_of_ble_eq_true rfl)) dX8_taught_30 ⟨Nat.le_of_ble_eq_true rfl, Nat.le_of_ble_eq_true rfl⟩) (fun r hw => ?_)
        have hr30 := hw
        subst hr30
        exact W.iret (v := nI (tbits (dg 256 (pk 256 (fun p => num (plc p)) q)) q 7)) gx gb gr (fun t ht hW => ⟨⟨nI (tbits (dg 256 (pk 256 (fun p => num (plc p)) q)) q 7), (rb, sb), rfl, (by first | (dsimp only; done) | ((try dsimp only); rw [tghZ, if_pos (by omega), zI_nat, tbits_cong hq1 hld])), by rw [ht]; exact hP, va_K.moved hW.alike hK, hD⟩, hS.F ht⟩) hS.2.2 dX8_taught_33
    · skip
      rw [zn_le (by omega) (by omega) (by omega)] at c6
      refine lv_bipush (v := zI (-2)) gx gb dX8_taught_9 (by decide) ?_
      exact W.iret (v := zI (-2)) gx gb gr (fun t ht hW => ⟨⟨zI (-2), (rb, sb), rfl, (by first | (dsimp only; done) | ((try dsimp only); rw [tghZ, if_neg (by omega), if_neg (by omega)])), by rw [ht]; exact hP, va_K.moved hW.alike hK, hD⟩, hS.F ht⟩) hS.2.2 dX8_taught_11

set_option maxHeartbeats 4000000 in
set_option maxRecDepth 100000 in
theorem kX8_longest (Gl : Launch) (D : va_G) (cI cJ cZ : ClassId) (h : Nat) (fl : Nat) (e1 : Nat) (e2 : Nat) (pd : Nat) (sg : Nat) (k1 : Nat) (k2 : Nat) (rv : Value) (n : Nat) (q : Nat) (S : Nat) (c : Nat) (na : Nat) (Na : Nat) (Ra : Nat) (qa : Nat) (Sa : Nat) (ca : Nat) (nb : Nat) (Nb : Nat) (Rb : Nat) (qb : Nat) (Sb : Nat) (cb : Nat) (cnt : Nat) (rb : Nat) (sb : Nat) (g : Nat → Nat) (num : Nat → Nat) (plc : Nat → Nat) (hn1 : 1 ≤ n) (hn7 : n ≤ 7) (hq1 : 1 ≤ q) (hqn : q ≤ n) (hp : ∀ k, k < q → plc k < n) (hnum : ∀ k, k < n → num k ≤ 99) : Met Gl yX8_longest wsX8_longest ({ frames := 3, cells := 0, slots := 0, locals := 68 } : Room) (va_Pc [.ref h] (fun U => va_P D vwCl (wX h fl e1 e2 pd sg cI k1 k2 rv n (pk 256 num n) (pk 8 plc q) q S c na Na Ra qa Sa ca nb Nb Rb qb Sb cb cnt rb sb g) U.heap ∧ va_K D vwCl [(cI, .int), (cJ, .long), (cZ, .boolean)] U)) (vp_Si (fun r : Int32 => r = nI (lrise (fun p => num (plc p)) q))) 0 0 (fun _ => False) := by
  refine Met.ofW (cc := cX8_longest) (maxL := 1) (ret := (some .int)) (by decide +kernel) rfl ?_
  intro Gp Ge Gs Gm Ga Gw Gt Gc G1 Bd gml gv
  obtain ⟨rfl, hP, hK⟩ := gv
  have gx := Bd.exec
  have gb := Bd.bytes
  have gr := Bd.returns
  have gts := atoms_spec (ws := wsX8_longest) Bd.pre
  have gown : Gs.vm.findClass RX8 = some Gm.cls := findClass_of_methodNamed Bd.named
  have glk := Bd.notSynchronized
  have hl := lv_entry ([.ref h]) (n := 1) (Nat.le_of_ble_eq_true rfl)
  rw [lg_entry_eq]
  generalize (lg_sl ([.ref h]) ++ List.replicate (1 - (lg_sl ([.ref h])).length) Slot.unset).toArray = ls at hl ⊢
  have hl : lv_has ls 1 [(0, .ref h)] := hl
  have i1 : ∀ w ∈ wsX10, w ∈ wsX8_longest := by decide +kernel
  have i8 : ∀ w ∈ wsX80, w ∈ wsX8_longest := by decide +kernel
  have hp8 : ∀ k, k < q → plc k < 8 := fun k hk => by have := hp k hk; omega
  have hR8 := pk8_lt hp8 (by omega)
  have hn256 : ∀ k, k < n → num k < 256 := fun k hk => by have := hnum k hk; omega
  have hN63 := pk256_lt hn256 (by omega)
  refine lv_aload_n gx gb dX8_longest_0 rfl (lv_at hl 0 rfl) ?_
  refine va_get (D := D) (ci := 3) (v := .ref fl) (C := RX8) (T := TX8) (N := 7) gx gb gts i8 gown hK hP 0 rfl rfl 0 (by decide) (gts (.fieldLink RX8 12 "SwanSums" "flock" "LSwanSums$Flock;") (by decide +kernel)) (fun _ h9 => h9) rfl dX8_longest_1 ?_
  have hPc := hP.sub (ws' := wF fl n (pk 256 num n) (pk 8 plc q) q S c) [1] rfl
  refine vp_callSl (W.runV (As := []) (rest := []) ⟨gx, gb, gml, gown, gts⟩ (kX1_line Gl D cI cJ cZ fl n (pk 256 num n) (pk 8 plc q) q S c  (by omega) (by omega) (by omega)) (cwV 0 gts gX8_longest_X1_line rfl rfl rfl (by decide +kernel) ⟨Nat.le_of_ble_eq_true rfl, Nat.le_of_ble_eq_true rfl⟩) ⟨fun a U g mk q => ⟨q.1, q.2.1, va_K.moved (u := U) (U := U.calling g mk a) (Vm.Alike.refl U.vm) q.2.2⟩, va_recv hK hPc (ci := 0) (q0 := 0) rfl rfl, fun U hU hW => ⟨rfl, by rw [hU]; exact hPc, va_K.moved hW.alike hK⟩⟩ rfl rfl hl.1 rfl (lv_room (Nat.le_of_ble_eq_true rfl)) dX8_longest_4 ⟨Nat.le_of_ble_eq_true rfl, Nat.le_of_ble_eq_true rfl⟩) (fun r hw => ?_)
  have hr4 := hw
  subst hr4
  refine lv_evl (lN (pk 256 (fun p => num (plc p)) q)) (congrArg lN (lin_eq hn7 hnum hp)) ?_
  have hld := lin_dg hnum hp
  have hl63 := pk256_lt (f := fun p => num (plc p)) (z := q) (fun i hi => by have := hnum _ (hp i hi); show num (plc i) < 256; omega) (by omega)
  refine lv_aload_n gx gb dX8_longest_7 rfl (lv_at hl 0 rfl) ?_
  refine va_get (D := D) (ci := 3) (v := .ref fl) (C := RX8) (T := TX8) (N := 7) gx gb gts i8 gown hK hP 0 rfl rfl 0 (by decide) (gts (.fieldLink RX8 12 "SwanSums" "flock" "LSwanSums$Flock;") (by decide +kernel)) (fun _ h9 => h9) rfl dX8_longest_8 ?_
  refine va_get (D := D) (ci := 0) (v := .int (nI q)) (C := RX1) (T := TX1) (N := 6) gx gb gts i1 gown hK hP 1 rfl rfl 3 (by decide) (gts (.fieldLink RX8 82 "SwanSums$Flock" "size" "I") (by decide +kernel)) (fun _ h9 => h9) rfl dX8_longest_11 ?_
  refine vp_callSi (W.runS (As := [.long (lN (pk 256 (fun p => num (plc p)) q)), .int (nI q)]) (rest := []) ⟨gx, gb, gml, gown, gts⟩ (kX3_longestRise Gl (pk 256 (fun p => num (plc p)) q) q (by omega) (by omega) (by omega)) (va_cwS 2 gts gX8_longest_X3_longestRise rfl rfl rfl (by decide +kernel) ⟨Nat.le_of_ble_eq_true rfl, Nat.le_of_ble_eq_true rfl⟩) ⟨fun _ _ _ _ h => h, fun U hU hW => ⟨rfl, trivial⟩⟩ rfl rfl hl.1 rfl (lv_room (Nat.le_of_ble_eq_true rfl)) dX8_longest_14 ⟨Nat.le_of_ble_eq_true rfl, Nat.le_of_ble_eq_true rfl⟩) (fun r hw => ?_)
  have hr14 := hw
  subst hr14
  exact W.iret (v := nI (lrise (dg 256 (pk 256 (fun p => num (plc p)) q)) q)) gx gb gr (fun t ht hW => ⟨nI (lrise (dg 256 (pk 256 (fun p => num (plc p)) q)) q), rfl, (by first | (dsimp only; done) | ((try dsimp only); exact congrArg nI (lrise_cong hq1 hld))), ht⟩) (fun q h => by cases h) dX8_longest_17

set_option maxHeartbeats 4000000 in
set_option maxRecDepth 100000 in
theorem kX8_forget (Gl : Launch) (D : va_G) (cI cJ cZ : ClassId) (h : Nat) (fl : Nat) (e1 : Nat) (e2 : Nat) (pd : Nat) (sg : Nat) (k1 : Nat) (k2 : Nat) (rv : Value) (n : Nat) (N : Nat) (R : Nat) (q : Nat) (S : Nat) (c : Nat) (na : Nat) (Na : Nat) (Ra : Nat) (qa : Nat) (Sa : Nat) (ca : Nat) (nb : Nat) (Nb : Nat) (Rb : Nat) (qb : Nat) (Sb : Nat) (cb : Nat) (cnt : Nat) (rb : Nat) (sb : Nat) (g : Nat → Nat) (sz : Nat) : Met Gl yX8_forget wsX8_forget ({ frames := 1, cells := 0, slots := 0, locals := 20 } : Room) (va_Pc [.ref h] (fun U => U.heap.size = sz ∧ va_P D vwCl (wX h fl e1 e2 pd sg cI k1 k2 rv n N R q S c na Na Ra qa Sa ca nb Nb Rb qb Sb cb cnt rb sb g) U.heap ∧ va_K D vwCl [(cI, .int), (cJ, .long), (cZ, .boolean)] U ∧ va_D (fun _ => True) (wX h fl e1 e2 pd sg cI k1 k2 rv n N R q S c na Na Ra qa Sa ca nb Nb Rb qb Sb cb cnt rb sb g))) (va_Qi (fun (r : Int32) (u : Unit) => r = nI c) (fun (u : Unit) t => va_P D vwCl (wX h fl e1 e2 pd sg cI k1 k2 rv n N R q 0 0 na Na Ra qa Sa ca nb Nb Rb qb Sb cb cnt rb sb g) t.heap ∧ va_K D vwCl [(cI, .int), (cJ, .long), (cZ, .boolean)] t ∧ va_D (va_A (wX h fl e1 e2 pd sg cI k1 k2 rv n N R q S c na Na Ra qa Sa ca nb Nb Rb qb Sb cb cnt rb sb g) sz) (wX h fl e1 e2 pd sg cI k1 k2 rv n N R q 0 0 na Na Ra qa Sa ca nb Nb Rb qb Sb cb cnt rb sb g)) (va_A (wX h fl e1 e2 pd sg cI k1 k2 rv n N R q S c na Na Ra qa Sa ca nb Nb Rb qb Sb cb cnt rb sb g) sz)) 0 0 (va_A (wX h fl e1 e2 pd sg cI k1 k2 rv n N R q S c na Na Ra qa Sa ca nb Nb Rb qb Sb cb cnt rb sb g) sz) := by
  refine Met.ofW (cc := cX8_forget) (maxL := 2) (ret := (some .int)) (by decide +kernel) rfl ?_
  intro Gp Ge Gs Gm Ga Gw Gt Gc G1 Bd gml gv
  obtain ⟨rfl, hsz, hP, hK, hD0⟩ := gv
  have gx := Bd.exec
  have gb := Bd.bytes
  have gr := Bd.returns
  have gts := atoms_spec (ws := wsX8_forget) Bd.pre
  have gown : Gs.vm.findClass RX8 = some Gm.cls := findClass_of_methodNamed Bd.named
  have glk := Bd.notSynchronized
  subst hsz
  have hD := hD0.self (sz := Gs.heap.size)
  generalize hAe : va_A (wX h fl e1 e2 pd sg cI k1 k2 rv n N R q S c na Na Ra qa Sa ca nb Nb Rb qb Sb cb cnt rb sb g) Gs.heap.size = A at hD ⊢
  have hA : ∀ q : Nat, Gs.heap.size ≤ q → A q := fun q h => by rw [← hAe]; exact Or.inr h
  have hS : va_S A Gs.heap Gs.heap [] := va_S.rf
  have hP : va_P D vwCl (wX h fl e1 e2 pd sg cI k1 k2 rv n N R q S c na Na Ra qa Sa ca nb Nb Rb qb Sb cb cnt rb sb g) Gs.heap := hP
  have hl := lv_entry ([.ref h]) (n := 2) (Nat.le_of_ble_eq_true rfl)
  rw [lg_entry_eq]
  generalize (lg_sl ([.ref h]) ++ List.replicate (2 - (lg_sl ([.ref h])).length) Slot.unset).toArray = ls at hl ⊢
  have hl : lv_has ls 2 [(0, .ref h)] := hl
  have i1 : ∀ w ∈ wsX10, w ∈ wsX8_forget := by decide +kernel
  have i8 : ∀ w ∈ wsX80, w ∈ wsX8_forget := by decide +kernel
  refine lv_aload_n gx gb dX8_forget_0 rfl (lv_at hl 0 rfl) ?_
  refine va_get (D := D) (ci := 3) (v := .ref fl) (C := RX8) (T := TX8) (N := 7) gx gb gts i8 gown hK hP 0 rfl rfl 0 (by decide) (gts (.fieldLink RX8 12 "SwanSums" "flock" "LSwanSums$Flock;") (by decide +kernel)) (fun _ h9 => h9) rfl dX8_forget_1 ?_
  refine va_get (D := D) (ci := 0) (v := .int (nI c)) (C := RX1) (T := TX1) (N := 6) gx gb gts i1 gown hK hP 1 rfl rfl 5 (by decide) (gts (.fieldLink RX8 182 "SwanSums$Flock" "sightCount" "I") (by decide +kernel)) (fun _ h9 => h9) rfl dX8_forget_4 ?_
  refine lv_istore_n (lv' := [(1, .int (nI c)), (0, .ref h)]) gx gb dX8_forget_7 rfl hl (by decide) rfl (fun ls hl => ?_)
  refine lv_aload_n gx gb dX8_forget_8 rfl (lv_at hl 1 rfl) ?_
  refine va_get (D := D) (ci := 3) (v := .ref fl) (C := RX8) (T := TX8) (N := 7) gx gb gts i8 gown hK hP 0 rfl rfl 0 (by decide) (gts (.fieldLink RX8 12 "SwanSums" "flock" "LSwanSums$Flock;") (by decide +kernel)) (fun _ h9 => h9) rfl dX8_forget_9 ?_
  have hPc := hP.sub (ws' := wF fl n N R q S c) [1] rfl
  have hDc := hD.sub (ws' := wF fl n N R q S c) [1] (by decide) rfl
  have hFc := va_free (wc := wF fl n N R q S c) hD hS hA [1] rfl
  refine va_callv (va_runV (As := []) (rest := []) ⟨gx, gb, gml, gown, gts⟩ (kX1_dropSights Gl D cI cJ cZ fl n N R q S c _  ) (cwV 0 gts gX8_forget_X1_dropSights rfl rfl rfl (by decide +kernel) ⟨Nat.le_of_ble_eq_true rfl, Nat.le_of_ble_eq_true rfl⟩) ⟨fun a U g mk q => by obtain ⟨q0, q1, qP, qK, qD⟩ := q; exact ⟨q0, q1, qP, va_K.moved (u := U) (U := U.calling g mk a) (Vm.Alike.refl U.vm) qK, qD⟩, va_recv hK hPc (ci := 0) (q0 := 0) rfl rfl, fun U hU hW => ⟨rfl, by rw [hU], by rw [hU]; exact hPc, va_K.moved hW.alike hK, hDc.weaken (fun _ _ _ _ => trivial)⟩⟩ rfl rfl hl.1 rfl (lv_room (Nat.le_of_ble_eq_true rfl)) dX8_forget_12 ⟨Nat.le_of_ble_eq_true rfl, Nat.le_of_ble_eq_true rfl⟩) hS (fun q _ h => hFc q h) hFc (fun u t H1 locs ht hvm hw hB hz1 hk1 hS => ?_)
  obtain ⟨hP1, hK1, hD1⟩ := hB
  rw [ht] at hP1
  try dsimp only at hw
  try dsimp only at hP1
  try dsimp only at hD1
  have hK := va_K.moved hvm.symm hK1
  obtain ⟨hP, hD⟩ := va_join (wr := [(h, .inr (3, [.ref fl, .ref e1, .ref e2, .int (nI k1), .int (nI k2), .ref pd, rv])), (e1, .inr (0, [.int (nI na), .long (lN Na), .int (nI Ra), .int (nI qa), .long (lN Sa), .int (nI ca)])), (e2, .inr (0, [.int (nI nb), .long (lN Nb), .int (nI Rb), .int (nI qb), .long (lN Sb), .int (nI cb)])), (pd, .inr (1, [.ref sg, .int (nI cnt), .int (nI rb), .int (nI sb)])), (sg, .inl (cI, 60, .inl (aN g)))]) (w1 := wF fl n N R q 0 0) hP hD [1] [0, 2, 3, 4, 5] rfl rfl (by decide) (by decide) hk1 hFc hP1 hD1
  have hP := hP.sub (ws' := wX h fl e1 e2 pd sg cI k1 k2 rv n N R q 0 0 na Na Ra qa Sa ca nb Nb Rb qb Sb cb cnt rb sb g) [0, 5, 1, 2, 3, 4] rfl
  have hD := hD.sub (ws' := wX h fl e1 e2 pd sg cI k1 k2 rv n N R q 0 0 na Na Ra qa Sa ca nb Nb Rb qb Sb cb cnt rb sb g) [0, 5, 1, 2, 3, 4] (by decide) rfl
  have hK := va_K.moved (Vm.Alike.refl Gs.vm) hK
  generalize H1 = H at hP hS ⊢
  refine lv_iload_n gx gb dX8_forget_15 rfl (lv_at hl 0 rfl) ?_
  exact W.iret (v := nI c) gx gb gr (fun t ht hW => ⟨⟨nI c, (), rfl, (by first | (dsimp only; done) | ((try dsimp only); rfl)), by rw [ht]; exact hP, va_K.moved hW.alike hK, hD⟩, hS.F ht⟩) hS.2.2 dX8_forget_16

set_option maxHeartbeats 4000000 in
set_option maxRecDepth 100000 in
theorem kX8_seen (Gl : Launch) (D : va_G) (cI cJ cZ : ClassId) (h : Nat) (fl : Nat) (e1 : Nat) (e2 : Nat) (pd : Nat) (sg : Nat) (k1 : Nat) (k2 : Nat) (rv : Value) (n : Nat) (N : Nat) (R : Nat) (q : Nat) (S : Nat) (c : Nat) (na : Nat) (Na : Nat) (Ra : Nat) (qa : Nat) (Sa : Nat) (ca : Nat) (nb : Nat) (Nb : Nat) (Rb : Nat) (qb : Nat) (Sb : Nat) (cb : Nat) (cnt : Nat) (rb : Nat) (sb : Nat) (g : Nat → Nat) (sz : Nat) (a b : Int) (hl_a : -2147483648 ≤ a) (hu_a : a < 2147483648) (hl_b : -2147483648 ≤ b) (hu_b : b < 2147483648) (hn7 : n ≤ 7) (hc : c ≤ 6) : Met Gl yX8_seen wsX8_seen ({ frames := 1, cells := 0, slots := 0, locals := 22 } : Room) (va_Pc [.ref h, .int (zI a), .int (zI b)] (fun U => U.heap.size = sz ∧ va_P D vwCl (wX h fl e1 e2 pd sg cI k1 k2 rv n N R q S c na Na Ra qa Sa ca nb Nb Rb qb Sb cb cnt rb sb g) U.heap ∧ va_K D vwCl [(cI, .int), (cJ, .long), (cZ, .boolean)] U ∧ va_D (fun _ => True) (wX h fl e1 e2 pd sg cI k1 k2 rv n N R q S c na Na Ra qa Sa ca nb Nb Rb qb Sb cb cnt rb sb g))) (va_Qi (fun (r : Int32) (u : Unit) => r = zI (seeZ n c a b)) (fun (u : Unit) t => va_P D vwCl (wX h fl e1 e2 pd sg cI k1 k2 rv n N R q (if (0 ≤ a ∧ a < n) ∧ (0 ≤ b ∧ b ≤ 6) ∧ c < 6 then S ||| (8 * a.toNat + b.toNat) * 2 ^ (6 * c) else S) (if (0 ≤ a ∧ a < n) ∧ (0 ≤ b ∧ b ≤ 6) ∧ c < 6 then c + 1 else c) na Na Ra qa Sa ca nb Nb Rb qb Sb cb cnt rb sb g) t.heap ∧ va_K D vwCl [(cI, .int), (cJ, .long), (cZ, .boolean)] t ∧ va_D (va_A (wX h fl e1 e2 pd sg cI k1 k2 rv n N R q S c na Na Ra qa Sa ca nb Nb Rb qb Sb cb cnt rb sb g) sz) (wX h fl e1 e2 pd sg cI k1 k2 rv n N R q (if (0 ≤ a ∧ a < n) ∧ (0 ≤ b ∧ b ≤ 6) ∧ c < 6 then S ||| (8 * a.toNat + b.toNat) * 2 ^ (6 * c) else S) (if (0 ≤ a ∧ a < n) ∧ (0 ≤ b ∧ b ≤ 6) ∧ c < 6 then c + 1 else c) na Na Ra qa Sa ca nb Nb Rb qb Sb cb cnt rb sb g)) (va_A (wX h fl e1 e2 pd sg cI k1 k2 rv n N R q S c na Na Ra qa Sa ca nb Nb Rb qb Sb cb cnt rb sb g) sz)) 0 0 (va_A (wX h fl e1 e2 pd sg cI k1 k2 rv n N R q S c na Na Ra qa Sa ca nb Nb Rb qb Sb cb cnt rb sb g) sz) := by
  refine Met.ofW (cc := cX8_seen) (maxL := 3) (ret := (some .int)) (by decide +kernel) rfl ?_
  intro Gp Ge Gs Gm Ga Gw Gt Gc G1 Bd gml gv
  obtain ⟨rfl, hsz, hP, hK, hD0⟩ := gv
  have gx := Bd.exec
  have gb := Bd.bytes
  have gr := Bd.returns
  have gts := atoms_spec (ws := wsX8_seen) Bd.pre
  have gown : Gs.vm.findClass RX8 = some Gm.cls := findClass_of_methodNamed Bd.named
  have glk := Bd.notSynchronized
  subst hsz
  have hD := hD0.self (sz := Gs.heap.size)
  generalize hAe : va_A (wX h fl e1 e2 pd sg cI k1 k2 rv n N R q S c na Na Ra qa Sa ca nb Nb Rb qb Sb cb cnt rb sb g) Gs.heap.size = A at hD ⊢
  have hA : ∀ q : Nat, Gs.heap.size ≤ q → A q := fun q h => by rw [← hAe]; exact Or.inr h
  have hS : va_S A Gs.heap Gs.heap [] := va_S.rf
  have hP : va_P D vwCl (wX h fl e1 e2 pd sg cI k1 k2 rv n N R q S c na Na Ra qa Sa ca nb Nb Rb qb Sb cb cnt rb sb g) Gs.heap := hP
  have hl := lv_entry ([.ref h, .int (zI a), .int (zI b)]) (n := 3) (Nat.le_of_ble_eq_true rfl)
  rw [lg_entry_eq]
  generalize (lg_sl ([.ref h, .int (zI a), .int (zI b)]) ++ List.replicate (3 - (lg_sl ([.ref h, .int (zI a), .int (zI b)])).length) Slot.unset).toArray = ls at hl ⊢
  have hl : lv_has ls 3 [(0, .ref h), (1, .int (zI a)), (2, .int (zI b))] := hl
  have i1 : ∀ w ∈ wsX10, w ∈ wsX8_seen := by decide +kernel
  have i8 : ∀ w ∈ wsX80, w ∈ wsX8_seen := by decide +kernel
  refine lv_aload_n gx gb dX8_seen_0 rfl (lv_at hl 0 rfl) ?_
  refine va_get (D := D) (ci := 3) (v := .ref fl) (C := RX8) (T := TX8) (N := 7) gx gb gts i8 gown hK hP 0 rfl rfl 0 (by decide) (gts (.fieldLink RX8 12 "SwanSums" "flock" "LSwanSums$Flock;") (by decide +kernel)) (fun _ h9 => h9) rfl dX8_seen_1 ?_
  refine lv_iload_n gx gb dX8_seen_4 rfl (lv_at hl 1 rfl) ?_
  have hPc := hP.sub (ws' := wF fl n N R q S c) [1] rfl
  refine vp_callSi (W.runV (As := [.int (zI a)]) (rest := []) ⟨gx, gb, gml, gown, gts⟩ (kX1_has Gl D cI cJ cZ fl n N R q S c a (by omega) (by omega) (by omega)) (cwV 1 gts gX8_seen_X1_has rfl rfl rfl (by decide +kernel) ⟨Nat.le_of_ble_eq_true rfl, Nat.le_of_ble_eq_true rfl⟩) ⟨fun a U g mk q => ⟨q.1, q.2.1, va_K.moved (u := U) (U := U.calling g mk a) (Vm.Alike.refl U.vm) q.2.2⟩, va_recv hK hPc (ci := 0) (q0 := 0) rfl rfl, fun U hU hW => ⟨rfl, by rw [hU]; exact hPc, va_K.moved hW.alike hK⟩⟩ rfl rfl hl.1 rfl (lv_room (Nat.le_of_ble_eq_true rfl)) dX8_seen_5 ⟨Nat.le_of_ble_eq_true rfl, Nat.le_of_ble_eq_true rfl⟩) (fun r hw => ?_)
  have hr5 := hw
  subst hr5
  refine lv_if_ne (tgt := 13) gx gb dX8_seen_8 (by decide) (fun c8 => ?_) (fun c8 => ?_)
  · skip
    rw [b0_eq] at c8
    simp only [decide_eq_false_iff_not, Decidable.not_not] at c8
    refine lv_iload_n gx gb dX8_seen_13 rfl (lv_at hl 2 rfl) ?_
    refine lv_if_lt (tgt := 23) gx gb dX8_seen_14 (by decide) (fun c14 => ?_) (fun c14 => ?_)
    · skip
      rw [z0_lt (by omega) (by omega)] at c14
      refine lv_bipush (v := zI (-2)) gx gb dX8_seen_23 (by decide) ?_
      have e_S : S = (if (0 ≤ a ∧ a < n) ∧ (0 ≤ b ∧ b ≤ 6) ∧ c < 6 then S ||| (8 * a.toNat + b.toNat) * 2 ^ (6 * c) else S) := by rw [if_neg (by omega)]
      have e_c : c = (if (0 ≤ a ∧ a < n) ∧ (0 ≤ b ∧ b ≤ 6) ∧ c < 6 then c + 1 else c) := by rw [if_neg (by omega)]
      have hP : va_P D vwCl (wX h fl e1 e2 pd sg cI k1 k2 rv n N R q (if (0 ≤ a ∧ a < n) ∧ (0 ≤ b ∧ b ≤ 6) ∧ c < 6 then S ||| (8 * a.toNat + b.toNat) * 2 ^ (6 * c) else S) (if (0 ≤ a ∧ a < n) ∧ (0 ≤ b ∧ b ≤ 6) ∧ c < 6 then c + 1 else c) na Na Ra qa Sa ca nb Nb Rb qb Sb cb cnt rb sb g) Gs.heap := by rw [← e_S, ← e_c]; exact hP
      have hD : va_D A (wX h fl e1 e2 pd sg cI k1 k2 rv n N R q (if (0 ≤ a ∧ a < n) ∧ (0 ≤ b ∧ b ≤ 6) ∧ c < 6 then S ||| (8 * a.toNat + b.toNat) * 2 ^ (6 * c) else S) (if (0 ≤ a ∧ a < n) ∧ (0 ≤ b ∧ b ≤ 6) ∧ c < 6 then c + 1 else c) na Na Ra qa Sa ca nb Nb Rb qb Sb cb cnt rb sb g) := by rw [← e_S, ← e_c]; exact hD
      exact W.iret (v := zI (-2)) gx gb gr (fun t ht hW => ⟨⟨zI (-2), (), rfl, (by first | (dsimp only; done) | ((try dsimp only); rw [seeZ, if_pos (by omega), if_neg (by omega)])), by rw [ht]; exact hP, va_K.moved hW.alike hK, hD⟩, hS.F ht⟩) hS.2.2 dX8_seen_25
    · skip
      rw [z0_lt (by omega) (by omega)] at c14
      refine lv_iload_n gx gb dX8_seen_17 rfl (lv_at hl 2 rfl) ?_
      refine lv_bipush (v := nI 7) gx gb dX8_seen_18 (by decide) ?_
      refine lv_icmp_lt (tgt := 26) gx gb dX8_seen_20 (by decide) (fun c20 => ?_) (fun c20 => ?_)
      · skip
        rw [zn_lt (by omega) (by omega) (by omega)] at c20
        obtain ⟨i, hi⟩ : ∃ i : Nat, a = (i : Int) := ⟨a.toNat, by omega⟩
        rw [show zI a = nI i from by rw [hi, zI_nat]] at hl
        obtain ⟨j, hj⟩ : ∃ j : Nat, b = (j : Int) := ⟨b.toNat, by omega⟩
        rw [show zI b = nI j from by rw [hj, zI_nat]] at hl
        have hl : lv_has ls 3 [(0, .ref h), (1, .int (nI i)), (2, .int (nI j))] := hl
        refine lv_aload_n gx gb dX8_seen_26 rfl (lv_at hl 0 rfl) ?_
        refine va_get (D := D) (ci := 3) (v := .ref fl) (C := RX8) (T := TX8) (N := 7) gx gb gts i8 gown hK hP 0 rfl rfl 0 (by decide) (gts (.fieldLink RX8 12 "SwanSums" "flock" "LSwanSums$Flock;") (by decide +kernel)) (fun _ h9 => h9) rfl dX8_seen_27 ?_
        refine lv_iload_n gx gb dX8_seen_30 rfl (lv_at hl 1 rfl) ?_
        refine lv_iload_n gx gb dX8_seen_31 rfl (lv_at hl 2 rfl) ?_
        have hPc := hP.sub (ws' := wF fl n N R q S c) [1] rfl
        have hDc := hD.sub (ws' := wF fl n N R q S c) [1] (by decide) rfl
        have hFc := va_free (wc := wF fl n N R q S c) hD hS hA [1] rfl
        refine va_calli (va_runV (As := [.int (nI i), .int (nI j)]) (rest := []) ⟨gx, gb, gml, gown, gts⟩ (kX1_addSight Gl D cI cJ cZ fl n N R q S c _ i j (by omega) (by omega) (by omega)) (cwV 2 gts gX8_seen_X1_addSight rfl rfl rfl (by decide +kernel) ⟨Nat.le_of_ble_eq_true rfl, Nat.le_of_ble_eq_true rfl⟩) ⟨fun a U g mk q => by obtain ⟨q0, q1, qP, qK, qD⟩ := q; exact ⟨q0, q1, qP, va_K.moved (u := U) (U := U.calling g mk a) (Vm.Alike.refl U.vm) qK, qD⟩, va_recv hK hPc (ci := 0) (q0 := 0) rfl rfl, fun U hU hW => ⟨rfl, by rw [hU], by rw [hU]; exact hPc, va_K.moved hW.alike hK, hDc.weaken (fun _ _ _ _ => trivial)⟩⟩ rfl rfl hl.1 rfl (lv_room (Nat.le_of_ble_eq_true rfl)) dX8_seen_32 ⟨Nat.le_of_ble_eq_true rfl, Nat.le_of_ble_eq_true rfl⟩) hS (fun q _ h => hFc q h) hFc (fun r u t H1 locs ht hvm hw hB hz1 hk1 hS => ?_)
        obtain ⟨hP1, hK1, hD1⟩ := hB
        rw [ht] at hP1
        try dsimp only at hw
        try dsimp only at hP1
        try dsimp only at hD1
        have hK := va_K.moved hvm.symm hK1
        obtain ⟨hP, hD⟩ := va_join (wr := [(h, .inr (3, [.ref fl, .ref e1, .ref e2, .int (nI k1), .int (nI k2), .ref pd, rv])), (e1, .inr (0, [.int (nI na), .long (lN Na), .int (nI Ra), .int (nI qa), .long (lN Sa), .int (nI ca)])), (e2, .inr (0, [.int (nI nb), .long (lN Nb), .int (nI Rb), .int (nI qb), .long (lN Sb), .int (nI cb)])), (pd, .inr (1, [.ref sg, .int (nI cnt), .int (nI rb), .int (nI sb)])), (sg, .inl (cI, 60, .inl (aN g)))]) (w1 := wF fl n N R q (if c < 6 then S ||| (8 * i + j) * 2 ^ (6 * c) else S) (if c < 6 then c + 1 else c)) hP hD [1] [0, 2, 3, 4, 5] rfl rfl (by decide) (by decide) hk1 hFc hP1 hD1
        have hP := hP.sub (ws' := wX h fl e1 e2 pd sg cI k1 k2 rv n N R q (if c < 6 then S ||| (8 * i + j) * 2 ^ (6 * c) else S) (if c < 6 then c + 1 else c) na Na Ra qa Sa ca nb Nb Rb qb Sb cb cnt rb sb g) [0, 5, 1, 2, 3, 4] rfl
        have hD := hD.sub (ws' := wX h fl e1 e2 pd sg cI k1 k2 rv n N R q (if c < 6 then S ||| (8 * i + j) * 2 ^ (6 * c) else S) (if c < 6 then c + 1 else c) na Na Ra qa Sa ca nb Nb Rb qb Sb cb cnt rb sb g) [0, 5, 1, 2, 3, 4] (by decide) rfl
        have hK := va_K.moved (Vm.Alike.refl Gs.vm) hK
        generalize H1 = H at hP hS ⊢
        have hr32 := hw
        subst hr32
        refine lv_if_eq (tgt := 48) gx gb dX8_seen_35 (by decide) (fun c35 => ?_) (fun c35 => ?_)
        · skip
          rw [b0_eq] at c35
          simp only [decide_eq_false_iff_not, Decidable.not_not] at c35
          refine lv_bipush (v := zI (-4)) gx gb dX8_seen_48 (by decide) ?_
          have e_S : (if c < 6 then S ||| (8 * i + j) * 2 ^ (6 * c) else S) = (if (0 ≤ a ∧ a < n) ∧ (0 ≤ b ∧ b ≤ 6) ∧ c < 6 then S ||| (8 * a.toNat + b.toNat) * 2 ^ (6 * c) else S) := by first | (rw [if_pos c35, if_pos (by omega), hi, hj]; rfl) | (rw [if_neg c35, if_neg (by omega)])
          have e_c : (if c < 6 then c + 1 else c) = (if (0 ≤ a ∧ a < n) ∧ (0 ≤ b ∧ b ≤ 6) ∧ c < 6 then c + 1 else c) := by first | (rw [if_pos c35, if_pos (by omega)]) | (rw [if_neg c35, if_neg (by omega)])
          have hP : va_P D vwCl (wX h fl e1 e2 pd sg cI k1 k2 rv n N R q (if (0 ≤ a ∧ a < n) ∧ (0 ≤ b ∧ b ≤ 6) ∧ c < 6 then S ||| (8 * a.toNat + b.toNat) * 2 ^ (6 * c) else S) (if (0 ≤ a ∧ a < n) ∧ (0 ≤ b ∧ b ≤ 6) ∧ c < 6 then c + 1 else c) na Na Ra qa Sa ca nb Nb Rb qb Sb cb cnt rb sb g) H := by rw [← e_S, ← e_c]; exact hP
          have hD : va_D A (wX h fl e1 e2 pd sg cI k1 k2 rv n N R q (if (0 ≤ a ∧ a < n) ∧ (0 ≤ b ∧ b ≤ 6) ∧ c < 6 then S ||| (8 * a.toNat + b.toNat) * 2 ^ (6 * c) else S) (if (0 ≤ a ∧ a < n) ∧ (0 ≤ b ∧ b ≤ 6) ∧ c < 6 then c + 1 else c) na Na Ra qa Sa ca nb Nb Rb qb Sb cb cnt rb sb g) := by rw [← e_S, ← e_c]; exact hD
          exact W.iret (v := zI (-4)) gx gb gr (fun t ht hW => ⟨⟨zI (-4), (), rfl, (by first | (dsimp only; done) | ((try dsimp only); first | (rw [if_pos c35, seeZ, if_pos (by omega), if_pos (by omega), if_pos c35]; exact (zI_nat (c + 1)).symm) | (rw [seeZ, if_pos (by omega), if_pos (by omega), if_neg c35]))), by rw [ht]; exact hP, va_K.moved hW.alike hK, hD⟩, hS.F ht⟩) hS.2.2 dX8_seen_50
        · skip
          rw [b0_eq] at c35
          simp only [decide_eq_false_iff_not, Decidable.not_not] at c35
          refine lv_aload_n gx gb dX8_seen_38 rfl (lv_at hl 0 rfl) ?_
          refine va_get (D := D) (ci := 3) (v := .ref fl) (C := RX8) (T := TX8) (N := 7) gx gb gts i8 gown hK hP 0 rfl rfl 0 (by decide) (gts (.fieldLink RX8 12 "SwanSums" "flock" "LSwanSums$Flock;") (by decide +kernel)) (fun _ h9 => h9) rfl dX8_seen_39 ?_
          refine va_get (D := D) (ci := 0) (v := .int (nI (if c < 6 then c + 1 else c))) (C := RX1) (T := TX1) (N := 6) gx gb gts i1 gown hK hP 1 rfl rfl 5 (by decide) (gts (.fieldLink RX8 182 "SwanSums$Flock" "sightCount" "I") (by decide +kernel)) (fun _ h9 => h9) rfl dX8_seen_42 ?_
          refine lv_goto (tgt := 50) gx gb dX8_seen_45 (by decide) ?_
          have e_S : (if c < 6 then S ||| (8 * i + j) * 2 ^ (6 * c) else S) = (if (0 ≤ a ∧ a < n) ∧ (0 ≤ b ∧ b ≤ 6) ∧ c < 6 then S ||| (8 * a.toNat + b.toNat) * 2 ^ (6 * c) else S) := by first | (rw [if_pos c35, if_pos (by omega), hi, hj]; rfl) | (rw [if_neg c35, if_neg (by omega)])
          have e_c : (if c < 6 then c + 1 else c) = (if (0 ≤ a ∧ a < n) ∧ (0 ≤ b ∧ b ≤ 6) ∧ c < 6 then c + 1 else c) := by first | (rw [if_pos c35, if_pos (by omega)]) | (rw [if_neg c35, if_neg (by omega)])
          have hP : va_P D vwCl (wX h fl e1 e2 pd sg cI k1 k2 rv n N R q (if (0 ≤ a ∧ a < n) ∧ (0 ≤ b ∧ b ≤ 6) ∧ c < 6 then S ||| (8 * a.toNat + b.toNat) * 2 ^ (6 * c) else S) (if (0 ≤ a ∧ a < n) ∧ (0 ≤ b ∧ b ≤ 6) ∧ c < 6 then c + 1 else c) na Na Ra qa Sa ca nb Nb Rb qb Sb cb cnt rb sb g) H := by rw [← e_S, ← e_c]; exact hP
          have hD : va_D A (wX h fl e1 e2 pd sg cI k1 k2 rv n N R q (if (0 ≤ a ∧ a < n) ∧ (0 ≤ b ∧ b ≤ 6) ∧ c < 6 then S ||| (8 * a.toNat + b.toNat) * 2 ^ (6 * c) else S) (if (0 ≤ a ∧ a < n) ∧ (0 ≤ b ∧ b ≤ 6) ∧ c < 6 then c + 1 else c) na Na Ra qa Sa ca nb Nb Rb qb Sb cb cnt rb sb g) := by rw [← e_S, ← e_c]; exact hD
          exact W.iret (v := nI (if c < 6 then c + 1 else c)) gx gb gr (fun t ht hW => ⟨⟨nI (if c < 6 then c + 1 else c), (), rfl, (by first | (dsimp only; done) | ((try dsimp only); first | (rw [if_pos c35, seeZ, if_pos (by omega), if_pos (by omega), if_pos c35]; exact (zI_nat (c + 1)).symm) | (rw [seeZ, if_pos (by omega), if_pos (by omega), if_neg c35]))), by rw [ht]; exact hP, va_K.moved hW.alike hK, hD⟩, hS.F ht⟩) hS.2.2 dX8_seen_50
      · skip
        rw [zn_lt (by omega) (by omega) (by omega)] at c20
        refine lv_bipush (v := zI (-2)) gx gb dX8_seen_23 (by decide) ?_
        have e_S : S = (if (0 ≤ a ∧ a < n) ∧ (0 ≤ b ∧ b ≤ 6) ∧ c < 6 then S ||| (8 * a.toNat + b.toNat) * 2 ^ (6 * c) else S) := by rw [if_neg (by omega)]
        have e_c : c = (if (0 ≤ a ∧ a < n) ∧ (0 ≤ b ∧ b ≤ 6) ∧ c < 6 then c + 1 else c) := by rw [if_neg (by omega)]
        have hP : va_P D vwCl (wX h fl e1 e2 pd sg cI k1 k2 rv n N R q (if (0 ≤ a ∧ a < n) ∧ (0 ≤ b ∧ b ≤ 6) ∧ c < 6 then S ||| (8 * a.toNat + b.toNat) * 2 ^ (6 * c) else S) (if (0 ≤ a ∧ a < n) ∧ (0 ≤ b ∧ b ≤ 6) ∧ c < 6 then c + 1 else c) na Na Ra qa Sa ca nb Nb Rb qb Sb cb cnt rb sb g) Gs.heap := by rw [← e_S, ← e_c]; exact hP
        have hD : va_D A (wX h fl e1 e2 pd sg cI k1 k2 rv n N R q (if (0 ≤ a ∧ a < n) ∧ (0 ≤ b ∧ b ≤ 6) ∧ c < 6 then S ||| (8 * a.toNat + b.toNat) * 2 ^ (6 * c) else S) (if (0 ≤ a ∧ a < n) ∧ (0 ≤ b ∧ b ≤ 6) ∧ c < 6 then c + 1 else c) na Na Ra qa Sa ca nb Nb Rb qb Sb cb cnt rb sb g) := by rw [← e_S, ← e_c]; exact hD
        exact W.iret (v := zI (-2)) gx gb gr (fun t ht hW => ⟨⟨zI (-2), (), rfl, (by first | (dsimp only; done) | ((try dsimp only); rw [seeZ, if_pos (by omega), if_neg (by omega)])), by rw [ht]; exact hP, va_K.moved hW.alike hK, hD⟩, hS.F ht⟩) hS.2.2 dX8_seen_25
  · skip
    rw [b0_eq] at c8
    simp only [decide_eq_false_iff_not, Decidable.not_not] at c8
    refine lv_iconst (v := zI (-1)) gx gb dX8_seen_11 (by decide) ?_
    have e_S : S = (if (0 ≤ a ∧ a < n) ∧ (0 ≤ b ∧ b ≤ 6) ∧ c < 6 then S ||| (8 * a.toNat + b.toNat) * 2 ^ (6 * c) else S) := by rw [if_neg (by omega)]
    have e_c : c = (if (0 ≤ a ∧ a < n) ∧ (0 ≤ b ∧ b ≤ 6) ∧ c < 6 then c + 1 else c) := by rw [if_neg (by omega)]
    have hP : va_P D vwCl (wX h fl e1 e2 pd sg cI k1 k2 rv n N R q (if (0 ≤ a ∧ a < n) ∧ (0 ≤ b ∧ b ≤ 6) ∧ c < 6 then S ||| (8 * a.toNat + b.toNat) * 2 ^ (6 * c) else S) (if (0 ≤ a ∧ a < n) ∧ (0 ≤ b ∧ b ≤ 6) ∧ c < 6 then c + 1 else c) na Na Ra qa Sa ca nb Nb Rb qb Sb cb cnt rb sb g) Gs.heap := by rw [← e_S, ← e_c]; exact hP
    have hD : va_D A (wX h fl e1 e2 pd sg cI k1 k2 rv n N R q (if (0 ≤ a ∧ a < n) ∧ (0 ≤ b ∧ b ≤ 6) ∧ c < 6 then S ||| (8 * a.toNat + b.toNat) * 2 ^ (6 * c) else S) (if (0 ≤ a ∧ a < n) ∧ (0 ≤ b ∧ b ≤ 6) ∧ c < 6 then c + 1 else c) na Na Ra qa Sa ca nb Nb Rb qb Sb cb cnt rb sb g) := by rw [← e_S, ← e_c]; exact hD
    exact W.iret (v := zI (-1)) gx gb gr (fun t ht hW => ⟨⟨zI (-1), (), rfl, (by first | (dsimp only; done) | ((try dsimp only); rw [seeZ, if_neg (by omega)])), by rw [ht]; exact hP, va_K.moved hW.alike hK, hD⟩, hS.F ht⟩) hS.2.2 dX8_seen_12

set_option maxHeartbeats 4000000 in
set_option maxRecDepth 100000 in
theorem kX8_told (Gl : Launch) (D : va_G) (cI cJ cZ : ClassId) (h : Nat) (fl : Nat) (e1 : Nat) (e2 : Nat) (pd : Nat) (sg : Nat) (k1 : Nat) (k2 : Nat) (rv : Value) (n : Nat) (R : Nat) (q : Nat) (S : Nat) (c : Nat) (na : Nat) (Na : Nat) (Ra : Nat) (qa : Nat) (Sa : Nat) (ca : Nat) (nb : Nat) (Nb : Nat) (Rb : Nat) (qb : Nat) (Sb : Nat) (cb : Nat) (cnt : Nat) (rb : Nat) (sb : Nat) (g : Nat → Nat) (num : Nat → Nat) (a : Int) (hl_a : -2147483648 ≤ a) (hu_a : a < 2147483648) (hn7 : n ≤ 7) (hnum : ∀ k, k < n → num k ≤ 99) : Met Gl yX8_told wsX8_told ({ frames := 1, cells := 0, slots := 0, locals := 22 } : Room) (va_Pc [.ref h, .int (zI a)] (fun U => va_P D vwCl (wX h fl e1 e2 pd sg cI k1 k2 rv n (pk 256 num n) R q S c na Na Ra qa Sa ca nb Nb Rb qb Sb cb cnt rb sb g) U.heap ∧ va_K D vwCl [(cI, .int), (cJ, .long), (cZ, .boolean)] U)) (vp_Si (fun r : Int32 => r = zI (tolZ cnt n q c num a))) 0 0 (fun _ => False) := by
  refine Met.ofW (cc := cX8_told) (maxL := 2) (ret := (some .int)) (by decide +kernel) rfl ?_
  intro Gp Ge Gs Gm Ga Gw Gt Gc G1 Bd gml gv
  obtain ⟨rfl, hP, hK⟩ := gv
  have gx := Bd.exec
  have gb := Bd.bytes
  have gr := Bd.returns
  have gts := atoms_spec (ws := wsX8_told) Bd.pre
  have gown : Gs.vm.findClass RX8 = some Gm.cls := findClass_of_methodNamed Bd.named
  have glk := Bd.notSynchronized
  have hl := lv_entry ([.ref h, .int (zI a)]) (n := 2) (Nat.le_of_ble_eq_true rfl)
  rw [lg_entry_eq]
  generalize (lg_sl ([.ref h, .int (zI a)]) ++ List.replicate (2 - (lg_sl ([.ref h, .int (zI a)])).length) Slot.unset).toArray = ls at hl ⊢
  have hl : lv_has ls 2 [(0, .ref h), (1, .int (zI a))] := hl
  have i1 : ∀ w ∈ wsX10, w ∈ wsX8_told := by decide +kernel
  have i4 : ∀ w ∈ wsX40, w ∈ wsX8_told := by decide +kernel
  have i8 : ∀ w ∈ wsX80, w ∈ wsX8_told := by decide +kernel
  have hn256 : ∀ k, k < n → num k < 256 := fun k hk => by have := hnum k hk; omega
  have hN63 := pk256_lt hn256 (by omega)
  refine lv_iload_n gx gb dX8_told_0 rfl (lv_at hl 1 rfl) ?_
  rcases (show a = 0 ∨ a = 1 ∨ a = 2 ∨ a = 3 ∨ (a < 0 ∨ 3 < a) by omega) with rfl | rfl | rfl | rfl | ho
  · skip
    refine lv_tableIn (tgt := 32) (off := 31) gx gb dX8_told_1 (by decide) (by decide) (by decide) (by decide) ?_
    refine lv_aload_n gx gb dX8_told_32 rfl (lv_at hl 0 rfl) ?_
    refine va_get (D := D) (ci := 3) (v := .ref pd) (C := RX8) (T := TX8) (N := 7) gx gb gts i8 gown hK hP 0 rfl rfl 5 (by decide) (gts (.fieldLink RX8 32 "SwanSums" "pad" "LSwanSums$Pad;") (by decide +kernel)) (fun _ h9 => h9) rfl dX8_told_33 ?_
    refine va_get (D := D) (ci := 1) (v := .int (nI cnt)) (C := RX4) (T := TX4) (N := 4) gx gb gts i4 gown hK hP 4 rfl rfl 1 (by decide) (gts (.fieldLink RX8 69 "SwanSums$Pad" "count" "I") (by decide +kernel)) (fun _ h9 => h9) rfl dX8_told_36 ?_
    exact W.iret (v := nI cnt) gx gb gr (fun t ht hW => ⟨nI cnt, rfl, (by first | (dsimp only; done) | ((try dsimp only); exact (zI_nat _).symm)), ht⟩) (fun q h => by cases h) dX8_told_39
  · skip
    refine lv_tableIn (tgt := 40) (off := 39) gx gb dX8_told_1 (by decide) (by decide) (by decide) (by decide) ?_
    refine lv_aload_n gx gb dX8_told_40 rfl (lv_at hl 0 rfl) ?_
    refine va_get (D := D) (ci := 3) (v := .ref fl) (C := RX8) (T := TX8) (N := 7) gx gb gts i8 gown hK hP 0 rfl rfl 0 (by decide) (gts (.fieldLink RX8 12 "SwanSums" "flock" "LSwanSums$Flock;") (by decide +kernel)) (fun _ h9 => h9) rfl dX8_told_41 ?_
    refine va_get (D := D) (ci := 0) (v := .int (nI n)) (C := RX1) (T := TX1) (N := 6) gx gb gts i1 gown hK hP 1 rfl rfl 0 (by decide) (gts (.fieldLink RX8 44 "SwanSums$Flock" "all" "I") (by decide +kernel)) (fun _ h9 => h9) rfl dX8_told_44 ?_
    exact W.iret (v := nI n) gx gb gr (fun t ht hW => ⟨nI n, rfl, (by first | (dsimp only; done) | ((try dsimp only); exact (zI_nat _).symm)), ht⟩) (fun q h => by cases h) dX8_told_47
  · skip
    refine lv_tableIn (tgt := 48) (off := 47) gx gb dX8_told_1 (by decide) (by decide) (by decide) (by decide) ?_
    refine lv_aload_n gx gb dX8_told_48 rfl (lv_at hl 0 rfl) ?_
    refine va_get (D := D) (ci := 3) (v := .ref fl) (C := RX8) (T := TX8) (N := 7) gx gb gts i8 gown hK hP 0 rfl rfl 0 (by decide) (gts (.fieldLink RX8 12 "SwanSums" "flock" "LSwanSums$Flock;") (by decide +kernel)) (fun _ h9 => h9) rfl dX8_told_49 ?_
    refine va_get (D := D) (ci := 0) (v := .int (nI q)) (C := RX1) (T := TX1) (N := 6) gx gb gts i1 gown hK hP 1 rfl rfl 3 (by decide) (gts (.fieldLink RX8 82 "SwanSums$Flock" "size" "I") (by decide +kernel)) (fun _ h9 => h9) rfl dX8_told_52 ?_
    exact W.iret (v := nI q) gx gb gr (fun t ht hW => ⟨nI q, rfl, (by first | (dsimp only; done) | ((try dsimp only); exact (zI_nat _).symm)), ht⟩) (fun q h => by cases h) dX8_told_55
  · skip
    refine lv_tableIn (tgt := 56) (off := 55) gx gb dX8_told_1 (by decide) (by decide) (by decide) (by decide) ?_
    refine lv_aload_n gx gb dX8_told_56 rfl (lv_at hl 0 rfl) ?_
    refine va_get (D := D) (ci := 3) (v := .ref fl) (C := RX8) (T := TX8) (N := 7) gx gb gts i8 gown hK hP 0 rfl rfl 0 (by decide) (gts (.fieldLink RX8 12 "SwanSums" "flock" "LSwanSums$Flock;") (by decide +kernel)) (fun _ h9 => h9) rfl dX8_told_57 ?_
    refine va_get (D := D) (ci := 0) (v := .int (nI c)) (C := RX1) (T := TX1) (N := 6) gx gb gts i1 gown hK hP 1 rfl rfl 5 (by decide) (gts (.fieldLink RX8 182 "SwanSums$Flock" "sightCount" "I") (by decide +kernel)) (fun _ h9 => h9) rfl dX8_told_60 ?_
    exact W.iret (v := nI c) gx gb gr (fun t ht hW => ⟨nI c, rfl, (by first | (dsimp only; done) | ((try dsimp only); exact (zI_nat _).symm)), ht⟩) (fun q h => by cases h) dX8_told_63
  · skip
    refine lv_tableOut (tgt := 64) gx gb dX8_told_1 (by rw [zI_toInt (by omega) (by omega)]; omega) (by decide) ?_
    refine lv_iload_n gx gb dX8_told_64 rfl (lv_at hl 1 rfl) ?_
    refine lv_bipush (v := nI 10) gx gb dX8_told_65 (by decide) ?_
    refine lv_icmp_lt (tgt := 84) gx gb dX8_told_67 (by decide) (fun c67 => ?_) (fun c67 => ?_)
    · skip
      rw [zn_lt (by omega) (by omega) (by omega)] at c67
      refine lv_bipush (v := zI (-2)) gx gb dX8_told_84 (by decide) ?_
      exact W.iret (v := zI (-2)) gx gb gr (fun t ht hW => ⟨zI (-2), rfl, (by first | (dsimp only; done) | ((try dsimp only); simp only [tolZ]; rw [if_neg (by omega), if_neg (by omega), if_neg (by omega), if_neg (by omega), if_neg (by omega)])), ht⟩) (fun q h => by cases h) dX8_told_86
    · skip
      rw [zn_lt (by omega) (by omega) (by omega)] at c67
      refine lv_aload_n gx gb dX8_told_70 rfl (lv_at hl 0 rfl) ?_
      refine va_get (D := D) (ci := 3) (v := .ref fl) (C := RX8) (T := TX8) (N := 7) gx gb gts i8 gown hK hP 0 rfl rfl 0 (by decide) (gts (.fieldLink RX8 12 "SwanSums" "flock" "LSwanSums$Flock;") (by decide +kernel)) (fun _ h9 => h9) rfl dX8_told_71 ?_
      refine lv_iload_n gx gb dX8_told_74 rfl (lv_at hl 1 rfl) ?_
      refine lv_bipush (v := nI 10) gx gb dX8_told_75 (by decide) ?_
      refine lv_isub gx gb dX8_told_77 ?_
      refine lv_evi (zI (a - ((10 : Nat) : Int))) (by rw [nI_zc 10]; exact zI_sub a ((10 : Nat) : Int)) ?_
      have hPc := hP.sub (ws' := wF fl n (pk 256 num n) R q S c) [1] rfl
      refine vp_callSi (W.runV (As := [.int (zI (a - ((10 : Nat) : Int)))]) (rest := []) ⟨gx, gb, gml, gown, gts⟩ (kX1_has Gl D cI cJ cZ fl n (pk 256 num n) R q S c (a - ((10 : Nat) : Int)) (by omega) (by omega) (by omega)) (cwV 1 gts gX8_told_X1_has rfl rfl rfl (by decide +kernel) ⟨Nat.le_of_ble_eq_true rfl, Nat.le_of_ble_eq_true rfl⟩) ⟨fun a U g mk q => ⟨q.1, q.2.1, va_K.moved (u := U) (U := U.calling g mk a) (Vm.Alike.refl U.vm) q.2.2⟩, va_recv hK hPc (ci := 0) (q0 := 0) rfl rfl, fun U hU hW => ⟨rfl, by rw [hU]; exact hPc, va_K.moved hW.alike hK⟩⟩ rfl rfl hl.1 rfl (lv_room (Nat.le_of_ble_eq_true rfl)) dX8_told_78 ⟨Nat.le_of_ble_eq_true rfl, Nat.le_of_ble_eq_true rfl⟩) (fun r hw => ?_)
      have hr78 := hw
      subst hr78
      refine lv_if_ne (tgt := 87) gx gb dX8_told_81 (by decide) (fun c81 => ?_) (fun c81 => ?_)
      · skip
        rw [b0_eq] at c81
        simp only [decide_eq_false_iff_not, Decidable.not_not] at c81
        obtain ⟨i, hi⟩ : ∃ i : Nat, a = (i : Int) := ⟨a.toNat, by omega⟩
        rw [show zI a = nI i from by rw [hi, zI_nat]] at hl
        have hl : lv_has ls 2 [(0, .ref h), (1, .int (nI i))] := hl
        refine lv_aload_n gx gb dX8_told_87 rfl (lv_at hl 0 rfl) ?_
        refine va_get (D := D) (ci := 3) (v := .ref fl) (C := RX8) (T := TX8) (N := 7) gx gb gts i8 gown hK hP 0 rfl rfl 0 (by decide) (gts (.fieldLink RX8 12 "SwanSums" "flock" "LSwanSums$Flock;") (by decide +kernel)) (fun _ h9 => h9) rfl dX8_told_88 ?_
        refine va_get (D := D) (ci := 0) (v := .long (lN (pk 256 num n))) (C := RX1) (T := TX1) (N := 6) gx gb gts i1 gown hK hP 1 rfl rfl 1 (by decide) (gts (.fieldLink RX8 52 "SwanSums$Flock" "numbers" "J") (by decide +kernel)) (fun _ h9 => h9) rfl dX8_told_91 ?_
        refine lv_iload_n gx gb dX8_told_94 rfl (lv_at hl 1 rfl) ?_
        refine lv_bipush (v := nI 10) gx gb dX8_told_95 (by decide) ?_
        refine lv_isub gx gb dX8_told_97 ?_
        refine lv_evi (nI (i - 10)) (e_sub (by omega)) ?_
        refine vp_callSi (W.runS (As := [.long (lN (pk 256 num n)), .int (nI (i - 10))]) (rest := []) ⟨gx, gb, gml, gown, gts⟩ (kX3_numberAt Gl (pk 256 num n) (i - 10) (by omega) (by omega)) (va_cwS 2 gts gX8_told_X3_numberAt rfl rfl rfl (by decide +kernel) ⟨Nat.le_of_ble_eq_true rfl, Nat.le_of_ble_eq_true rfl⟩) ⟨fun _ _ _ _ h => h, fun U hU hW => ⟨rfl, trivial⟩⟩ rfl rfl hl.1 rfl (lv_room (Nat.le_of_ble_eq_true rfl)) dX8_told_98 ⟨Nat.le_of_ble_eq_true rfl, Nat.le_of_ble_eq_true rfl⟩) (fun r hw => ?_)
        have hr98 := hw
        subst hr98
        exact W.iret (v := nI (dg 256 (pk 256 num n) (i - 10))) gx gb gr (fun t ht hW => ⟨nI (dg 256 (pk 256 num n) (i - 10)), rfl, (by first | (dsimp only; done) | ((try dsimp only); simp only [tolZ]; rw [if_neg (by omega), if_neg (by omega), if_neg (by omega), if_neg (by omega), if_pos (by omega), hi, show ((i : Int) - 10).toNat = i - 10 by omega, dg_pk hn256 (by omega), zI_nat])), ht⟩) (fun q h => by cases h) dX8_told_101
      · skip
        rw [b0_eq] at c81
        simp only [decide_eq_false_iff_not, Decidable.not_not] at c81
        refine lv_bipush (v := zI (-2)) gx gb dX8_told_84 (by decide) ?_
        exact W.iret (v := zI (-2)) gx gb gr (fun t ht hW => ⟨zI (-2), rfl, (by first | (dsimp only; done) | ((try dsimp only); simp only [tolZ]; rw [if_neg (by omega), if_neg (by omega), if_neg (by omega), if_neg (by omega), if_neg (by omega)])), ht⟩) (fun q h => by cases h) dX8_told_86

set_option maxHeartbeats 4000000 in
set_option maxRecDepth 100000 in
theorem kX8_image (Gl : Launch) (D : va_G) (cI cJ cZ : ClassId) (h : Nat) (fl : Nat) (e1 : Nat) (e2 : Nat) (pd : Nat) (sg : Nat) (k1 : Nat) (k2 : Nat) (rv : Value) (n : Nat) (N : Nat) (R : Nat) (q : Nat) (S : Nat) (c : Nat) (na : Nat) (Na : Nat) (Ra : Nat) (qa : Nat) (Sa : Nat) (ca : Nat) (nb : Nat) (Nb : Nat) (Rb : Nat) (qb : Nat) (Sb : Nat) (cb : Nat) (cnt : Nat) (rb : Nat) (sb : Nat) (g : Nat → Nat) (sz : Nat) (a : Int) (hl_a : -2147483648 ≤ a) (hu_a : a < 2147483648) : Met Gl yX8_image wsX8_image ({ frames := 1, cells := 0, slots := 0, locals := 21 } : Room) (va_Pc [.ref h, .int (zI a)] (fun U => U.heap.size = sz ∧ va_P D vwCl (wX h fl e1 e2 pd sg cI k1 k2 rv n N R q S c na Na Ra qa Sa ca nb Nb Rb qb Sb cb cnt rb sb g) U.heap ∧ va_K D vwCl [(cI, .int), (cJ, .long), (cZ, .boolean)] U ∧ va_D (fun _ => True) (wX h fl e1 e2 pd sg cI k1 k2 rv n N R q S c na Na Ra qa Sa ca nb Nb Rb qb Sb cb cnt rb sb g))) (va_Qi (fun (r : Int32) (u : Unit) => r = zI (if 0 ≤ a ∧ a ≤ 1 then 1 else -2)) (fun (u : Unit) t => va_P D vwCl (wX h fl e1 e2 pd sg cI (if a = 0 then 1 else k1) (if a = 1 then 1 else k2) rv n N R q S c (if a = 0 then n else na) (if a = 0 then N else Na) (if a = 0 then R else Ra) (if a = 0 then q else qa) (if a = 0 then S else Sa) (if a = 0 then c else ca) (if a = 1 then n else nb) (if a = 1 then N else Nb) (if a = 1 then R else Rb) (if a = 1 then q else qb) (if a = 1 then S else Sb) (if a = 1 then c else cb) cnt rb sb g) t.heap ∧ va_K D vwCl [(cI, .int), (cJ, .long), (cZ, .boolean)] t ∧ va_D (va_A (wX h fl e1 e2 pd sg cI k1 k2 rv n N R q S c na Na Ra qa Sa ca nb Nb Rb qb Sb cb cnt rb sb g) sz) (wX h fl e1 e2 pd sg cI (if a = 0 then 1 else k1) (if a = 1 then 1 else k2) rv n N R q S c (if a = 0 then n else na) (if a = 0 then N else Na) (if a = 0 then R else Ra) (if a = 0 then q else qa) (if a = 0 then S else Sa) (if a = 0 then c else ca) (if a = 1 then n else nb) (if a = 1 then N else Nb) (if a = 1 then R else Rb) (if a = 1 then q else qb) (if a = 1 then S else Sb) (if a = 1 then c else cb) cnt rb sb g)) (va_A (wX h fl e1 e2 pd sg cI k1 k2 rv n N R q S c na Na Ra qa Sa ca nb Nb Rb qb Sb cb cnt rb sb g) sz)) 0 0 (va_A (wX h fl e1 e2 pd sg cI k1 k2 rv n N R q S c na Na Ra qa Sa ca nb Nb Rb qb Sb cb cnt rb sb g) sz) := by
  refine Met.ofW (cc := cX8_image) (maxL := 2) (ret := (some .int)) (by decide +kernel) rfl ?_
  intro Gp Ge Gs Gm Ga Gw Gt Gc G1 Bd gml gv
  obtain ⟨rfl, hsz, hP, hK, hD0⟩ := gv
  have gx := Bd.exec
  have gb := Bd.bytes
  have gr := Bd.returns
  have gts := atoms_spec (ws := wsX8_image) Bd.pre
  have gown : Gs.vm.findClass RX8 = some Gm.cls := findClass_of_methodNamed Bd.named
  have glk := Bd.notSynchronized
  subst hsz
  have hD := hD0.self (sz := Gs.heap.size)
  generalize hAe : va_A (wX h fl e1 e2 pd sg cI k1 k2 rv n N R q S c na Na Ra qa Sa ca nb Nb Rb qb Sb cb cnt rb sb g) Gs.heap.size = A at hD ⊢
  have hA : ∀ q : Nat, Gs.heap.size ≤ q → A q := fun q h => by rw [← hAe]; exact Or.inr h
  have hS : va_S A Gs.heap Gs.heap [] := va_S.rf
  have hP : va_P D vwCl (wX h fl e1 e2 pd sg cI k1 k2 rv n N R q S c na Na Ra qa Sa ca nb Nb Rb qb Sb cb cnt rb sb g) Gs.heap := hP
  have hl := lv_entry ([.ref h, .int (zI a)]) (n := 2) (Nat.le_of_ble_eq_true rfl)
  rw [lg_entry_eq]
  generalize (lg_sl ([.ref h, .int (zI a)]) ++ List.replicate (2 - (lg_sl ([.ref h, .int (zI a)])).length) Slot.unset).toArray = ls at hl ⊢
  have hl : lv_has ls 2 [(0, .ref h), (1, .int (zI a))] := hl
  have i8 : ∀ w ∈ wsX80, w ∈ wsX8_image := by decide +kernel
  refine lv_iload_n gx gb dX8_image_0 rfl (lv_at hl 1 rfl) ?_
  refine lv_if_lt (tgt := 9) gx gb dX8_image_1 (by decide) (fun c1 => ?_) (fun c1 => ?_)
  · skip
    rw [z0_lt (by omega) (by omega)] at c1
    refine lv_bipush (v := zI (-2)) gx gb dX8_image_9 (by decide) ?_
    have e_na : na = (if a = 0 then n else na) := by first | rw [if_pos (by omega)] | rw [if_neg (by omega)]
    have e_Na : Na = (if a = 0 then N else Na) := by first | rw [if_pos (by omega)] | rw [if_neg (by omega)]
    have e_Ra : Ra = (if a = 0 then R else Ra) := by first | rw [if_pos (by omega)] | rw [if_neg (by omega)]
    have e_qa : qa = (if a = 0 then q else qa) := by first | rw [if_pos (by omega)] | rw [if_neg (by omega)]
    have e_Sa : Sa = (if a = 0 then S else Sa) := by first | rw [if_pos (by omega)] | rw [if_neg (by omega)]
    have e_ca : ca = (if a = 0 then c else ca) := by first | rw [if_pos (by omega)] | rw [if_neg (by omega)]
    have e_nb : nb = (if a = 1 then n else nb) := by first | rw [if_pos (by omega)] | rw [if_neg (by omega)]
    have e_Nb : Nb = (if a = 1 then N else Nb) := by first | rw [if_pos (by omega)] | rw [if_neg (by omega)]
    have e_Rb : Rb = (if a = 1 then R else Rb) := by first | rw [if_pos (by omega)] | rw [if_neg (by omega)]
    have e_qb : qb = (if a = 1 then q else qb) := by first | rw [if_pos (by omega)] | rw [if_neg (by omega)]
    have e_Sb : Sb = (if a = 1 then S else Sb) := by first | rw [if_pos (by omega)] | rw [if_neg (by omega)]
    have e_cb : cb = (if a = 1 then c else cb) := by first | rw [if_pos (by omega)] | rw [if_neg (by omega)]
    have e_k1 : k1 = (if a = 0 then 1 else k1) := by first | rw [if_pos (by omega)] | rw [if_neg (by omega)]
    have e_k2 : k2 = (if a = 1 then 1 else k2) := by first | rw [if_pos (by omega)] | rw [if_neg (by omega)]
    have hP : va_P D vwCl (wX h fl e1 e2 pd sg cI (if a = 0 then 1 else k1) (if a = 1 then 1 else k2) rv n N R q S c (if a = 0 then n else na) (if a = 0 then N else Na) (if a = 0 then R else Ra) (if a = 0 then q else qa) (if a = 0 then S else Sa) (if a = 0 then c else ca) (if a = 1 then n else nb) (if a = 1 then N else Nb) (if a = 1 then R else Rb) (if a = 1 then q else qb) (if a = 1 then S else Sb) (if a = 1 then c else cb) cnt rb sb g) Gs.heap := by rw [← e_na, ← e_Na, ← e_Ra, ← e_qa, ← e_Sa, ← e_ca, ← e_nb, ← e_Nb, ← e_Rb, ← e_qb, ← e_Sb, ← e_cb, ← e_k1, ← e_k2]; exact hP
    have hD : va_D A (wX h fl e1 e2 pd sg cI (if a = 0 then 1 else k1) (if a = 1 then 1 else k2) rv n N R q S c (if a = 0 then n else na) (if a = 0 then N else Na) (if a = 0 then R else Ra) (if a = 0 then q else qa) (if a = 0 then S else Sa) (if a = 0 then c else ca) (if a = 1 then n else nb) (if a = 1 then N else Nb) (if a = 1 then R else Rb) (if a = 1 then q else qb) (if a = 1 then S else Sb) (if a = 1 then c else cb) cnt rb sb g) := by rw [← e_na, ← e_Na, ← e_Ra, ← e_qa, ← e_Sa, ← e_ca, ← e_nb, ← e_Nb, ← e_Rb, ← e_qb, ← e_Sb, ← e_cb, ← e_k1, ← e_k2]; exact hD
    exact W.iret (v := zI (-2)) gx gb gr (fun t ht hW => ⟨⟨zI (-2), (), rfl, (by first | (dsimp only; done) | ((try dsimp only); rw [if_neg (by omega)])), by rw [ht]; exact hP, va_K.moved hW.alike hK, hD⟩, hS.F ht⟩) hS.2.2 dX8_image_11
  · skip
    rw [z0_lt (by omega) (by omega)] at c1
    refine lv_iload_n gx gb dX8_image_4 rfl (lv_at hl 1 rfl) ?_
    refine lv_iconst (v := nI 1) gx gb dX8_image_5 (by decide) ?_
    refine lv_icmp_le (tgt := 12) gx gb dX8_image_6 (by decide) (fun c6 => ?_) (fun c6 => ?_)
    · skip
      rw [zn_le (by omega) (by omega) (by omega)] at c6
      refine lv_iload_n gx gb dX8_image_12 rfl (lv_at hl 1 rfl) ?_
      refine lv_if_ne (tgt := 35) gx gb dX8_image_13 (by decide) (fun c13 => ?_) (fun c13 => ?_)
      · skip
        rw [z0_eq (by omega) (by omega)] at c13
        refine lv_aload_n gx gb dX8_image_35 rfl (lv_at hl 0 rfl) ?_
        refine va_get (D := D) (ci := 3) (v := .ref e2) (C := RX8) (T := TX8) (N := 7) gx gb gts i8 gown hK hP 0 rfl rfl 2 (by decide) (gts (.fieldLink RX8 19 "SwanSums" "secondImage" "LSwanSums$Flock;") (by decide +kernel)) (fun _ h9 => h9) rfl dX8_image_36 ?_
        refine lv_aload_n gx gb dX8_image_39 rfl (lv_at hl 0 rfl) ?_
        refine va_get (D := D) (ci := 3) (v := .ref fl) (C := RX8) (T := TX8) (N := 7) gx gb gts i8 gown hK hP 0 rfl rfl 0 (by decide) (gts (.fieldLink RX8 12 "SwanSums" "flock" "LSwanSums$Flock;") (by decide +kernel)) (fun _ h9 => h9) rfl dX8_image_40 ?_
        have hPc := hP.sub (ws' := wFF e2 nb Nb Rb qb Sb cb fl n N R q S c) [3, 1] rfl
        have hDc := hD.sub (ws' := wFF e2 nb Nb Rb qb Sb cb fl n N R q S c) [3, 1] (by decide) rfl
        have hFc := va_free (wc := wFF e2 nb Nb Rb qb Sb cb fl n N R q S c) hD hS hA [3, 1] rfl
        refine va_callv (va_runV (As := [.ref fl]) (rest := []) ⟨gx, gb, gml, gown, gts⟩ (kX1_become Gl D cI cJ cZ e2 nb Nb Rb qb Sb cb fl n N R q S c _  ) (cwV 1 gts gX8_image_X1_become rfl rfl rfl (by decide +kernel) ⟨Nat.le_of_ble_eq_true rfl, Nat.le_of_ble_eq_true rfl⟩) ⟨fun a U g mk q => by obtain ⟨q0, q1, qP, qK, qD⟩ := q; exact ⟨q0, q1, qP, va_K.moved (u := U) (U := U.calling g mk a) (Vm.Alike.refl U.vm) qK, qD⟩, va_recv hK hPc (ci := 0) (q0 := 0) rfl rfl, fun U hU hW => ⟨rfl, by rw [hU], by rw [hU]; exact hPc, va_K.moved hW.alike hK, hDc.weaken (fun _ _ _ _ => trivial)⟩⟩ rfl rfl hl.1 rfl (lv_room (Nat.le_of_ble_eq_true rfl)) dX8_image_43 ⟨Nat.le_of_ble_eq_true rfl, Nat.le_of_ble_eq_true rfl⟩) hS (fun q _ h => hFc q h) hFc (fun u t H1 locs ht hvm hw hB hz1 hk1 hS => ?_)
        obtain ⟨hP1, hK1, hD1⟩ := hB
        rw [ht] at hP1
        try dsimp only at hw
        try dsimp only at hP1
        try dsimp only at hD1
        have hK := va_K.moved hvm.symm hK1
        obtain ⟨hP, hD⟩ := va_join (wr := [(h, .inr (3, [.ref fl, .ref e1, .ref e2, .int (nI k1), .int (nI k2), .ref pd, rv])), (e1, .inr (0, [.int (nI na), .long (lN Na), .int (nI Ra), .int (nI qa), .long (lN Sa), .int (nI ca)])), (pd, .inr (1, [.ref sg, .int (nI cnt), .int (nI rb), .int (nI sb)])), (sg, .inl (cI, 60, .inl (aN g)))]) (w1 := wFF e2 n N R q S c fl n N R q S c) hP hD [3, 1] [0, 2, 4, 5] rfl rfl (by decide) (by decide) hk1 hFc hP1 hD1
        have hP := hP.sub (ws' := wX h fl e1 e2 pd sg cI k1 k2 rv n N R q S c na Na Ra qa Sa ca n N R q S c cnt rb sb g) [0, 5, 1, 4, 2, 3] rfl
        have hD := hD.sub (ws' := wX h fl e1 e2 pd sg cI k1 k2 rv n N R q S c na Na Ra qa Sa ca n N R q S c cnt rb sb g) [0, 5, 1, 4, 2, 3] (by decide) rfl
        have hK := va_K.moved (Vm.Alike.refl Gs.vm) hK
        generalize H1 = H at hP hS ⊢
        refine lv_aload_n gx gb dX8_image_46 rfl (lv_at hl 0 rfl) ?_
        refine lv_iconst (v := nI 1) gx gb dX8_image_47 (by decide) ?_
        refine va_put (D := D) (ci := 3) (v := .int (nI 1)) (ty := .boolean) (C := RX8) (T := TX8) (N := 7) gx gb gts i8 tyX8 tyX8_ok nmX8 gown hK hP hD hS 0 rfl rfl 4 (by decide) (gts (.fieldLink RX8 26 "SwanSums" "secondKept" "Z") (by decide +kernel)) (fun _ h9 => h9) rfl (by decide +kernel) (by decide) (by decide) (Nat.le_of_ble_eq_true rfl) dX8_image_48 (fun H locs hP hD hS => ?_)
        have hP : va_P D vwCl (wX h fl e1 e2 pd sg cI k1 1 rv n N R q S c na Na Ra qa Sa ca n N R q S c cnt rb sb g) H := hP
        have hD : va_D A (wX h fl e1 e2 pd sg cI k1 1 rv n N R q S c na Na Ra qa Sa ca n N R q S c cnt rb sb g) := hD
        refine lv_iconst (v := nI 1) gx gb dX8_image_51 (by decide) ?_
        have e_na : na = (if a = 0 then n else na) := by first | rw [if_pos (by omega)] | rw [if_neg (by omega)]
        have e_Na : Na = (if a = 0 then N else Na) := by first | rw [if_pos (by omega)] | rw [if_neg (by omega)]
        have e_Ra : Ra = (if a = 0 then R else Ra) := by first | rw [if_pos (by omega)] | rw [if_neg (by omega)]
        have e_qa : qa = (if a = 0 then q else qa) := by first | rw [if_pos (by omega)] | rw [if_neg (by omega)]
        have e_Sa : Sa = (if a = 0 then S else Sa) := by first | rw [if_pos (by omega)] | rw [if_neg (by omega)]
        have e_ca : ca = (if a = 0 then c else ca) := by first | rw [if_pos (by omega)] | rw [if_neg (by omega)]
        have e_nb : n = (if a = 1 then n else nb) := by first | rw [if_pos (by omega)] | rw [if_neg (by omega)]
        have e_Nb : N = (if a = 1 then N else Nb) := by first | rw [if_pos (by omega)] | rw [if_neg (by omega)]
        have e_Rb : R = (if a = 1 then R else Rb) := by first | rw [if_pos (by omega)] | rw [if_neg (by omega)]
        have e_qb : q = (if a = 1 then q else qb) := by first | rw [if_pos (by omega)] | rw [if_neg (by omega)]
        have e_Sb : S = (if a = 1 then S else Sb) := by first | rw [if_pos (by omega)] | rw [if_neg (by omega)]
        have e_cb : c = (if a = 1 then c else cb) := by first | rw [if_pos (by omega)] | rw [if_neg (by omega)]
        have e_k1 : k1 = (if a = 0 then 1 else k1) := by first | rw [if_pos (by omega)] | rw [if_neg (by omega)]
        have e_k2 : 1 = (if a = 1 then 1 else k2) := by first | rw [if_pos (by omega)] | rw [if_neg (by omega)]
        have hP : va_P D vwCl (wX h fl e1 e2 pd sg cI (if a = 0 then 1 else k1) (if a = 1 then 1 else k2) rv n N R q S c (if a = 0 then n else na) (if a = 0 then N else Na) (if a = 0 then R else Ra) (if a = 0 then q else qa) (if a = 0 then S else Sa) (if a = 0 then c else ca) (if a = 1 then n else nb) (if a = 1 then N else Nb) (if a = 1 then R else Rb) (if a = 1 then q else qb) (if a = 1 then S else Sb) (if a = 1 then c else cb) cnt rb sb g) H := by rw [← e_na, ← e_Na, ← e_Ra, ← e_qa, ← e_Sa, ← e_ca, ← e_nb, ← e_Nb, ← e_Rb, ← e_qb, ← e_Sb, ← e_cb, ← e_k1, ← e_k2]; exact hP
        have hD : va_D A (wX h fl e1 e2 pd sg cI (if a = 0 then 1 else k1) (if a = 1 then 1 else k2) rv n N R q S c (if a = 0 then n else na) (if a = 0 then N else Na) (if a = 0 then R else Ra) (if a = 0 then q else qa) (if a = 0 then S else Sa) (if a = 0 then c else ca) (if a = 1 then n else nb) (if a = 1 then N else Nb) (if a = 1 then R else Rb) (if a = 1 then q else qb) (if a = 1 then S else Sb) (if a = 1 then c else cb) cnt rb sb g) := by rw [← e_na, ← e_Na, ← e_Ra, ← e_qa, ← e_Sa, ← e_ca, ← e_nb, ← e_Nb, ← e_Rb, ← e_qb, ← e_Sb, ← e_cb, ← e_k1, ← e_k2]; exact hD
        exact W.iret (v := nI 1) gx gb gr (fun t ht hW => ⟨⟨nI 1, (), rfl, (by first | (dsimp only; done) | ((try dsimp only); rw [if_pos (by omega)]; rfl)), by rw [ht]; exact hP, va_K.moved hW.alike hK, hD⟩, hS.F ht⟩) hS.2.2 dX8_image_52
      · skip
        rw [z0_eq (by omega) (by omega)] at c13
        refine lv_aload_n gx gb dX8_image_16 rfl (lv_at hl 0 rfl) ?_
        refine va_get (D := D) (ci := 3) (v := .ref e1) (C := RX8) (T := TX8) (N := 7) gx gb gts i8 gown hK hP 0 rfl rfl 1 (by decide) (gts (.fieldLink RX8 16 "SwanSums" "firstImage" "LSwanSums$Flock;") (by decide +kernel)) (fun _ h9 => h9) rfl dX8_image_17 ?_
        refine lv_aload_n gx gb dX8_image_20 rfl (lv_at hl 0 rfl) ?_
        refine va_get (D := D) (ci := 3) (v := .ref fl) (C := RX8) (T := TX8) (N := 7) gx gb gts i8 gown hK hP 0 rfl rfl 0 (by decide) (gts (.fieldLink RX8 12 "SwanSums" "flock" "LSwanSums$Flock;") (by decide +kernel)) (fun _ h9 => h9) rfl dX8_image_21 ?_
        have hPc := hP.sub (ws' := wFF e1 na Na Ra qa Sa ca fl n N R q S c) [2, 1] rfl
        have hDc := hD.sub (ws' := wFF e1 na Na Ra qa Sa ca fl n N R q S c) [2, 1] (by decide) rfl
        have hFc := va_free (wc := wFF e1 na Na Ra qa Sa ca fl n N R q S c) hD hS hA [2, 1] rfl
        refine va_callv (va_runV (As := [.ref fl]) (rest := []) ⟨gx, gb, gml, gown, gts⟩ (kX1_become Gl D cI cJ cZ e1 na Na Ra qa Sa ca fl n N R q S c _  ) (cwV 1 gts gX8_image_X1_become rfl rfl rfl (by decide +kernel) ⟨Nat.le_of_ble_eq_true rfl, Nat.le_of_ble_eq_true rfl⟩) ⟨fun a U g mk q => by obtain ⟨q0, q1, qP, qK, qD⟩ := q; exact ⟨q0, q1, qP, va_K.moved (u := U) (U := U.calling g mk a) (Vm.Alike.refl U.vm) qK, qD⟩, va_recv hK hPc (ci := 0) (q0 := 0) rfl rfl, fun U hU hW => ⟨rfl, by rw [hU], by rw [hU]; exact hPc, va_K.moved hW.alike hK, hDc.weaken (fun _ _ _ _ => trivial)⟩⟩ rfl rfl hl.1 rfl (lv_room (Nat.le_of_ble_eq_true rfl)) dX8_image_24 ⟨Nat.le_of_ble_eq_true rfl, Nat.le_of_ble_eq_true rfl⟩) hS (fun q _ h => hFc q h) hFc (fun u t H1 locs ht hvm hw hB hz1 hk1 hS => ?_)
        obtain ⟨hP1, hK1, hD1⟩ := hB
        rw [ht] at hP1
        try dsimp only at hw
        try dsimp only at hP1
        try dsimp only at hD1
        have hK := va_K.moved hvm.symm hK1
        obtain ⟨hP, hD⟩ := va_join (wr := [(h, .inr (3, [.ref fl, .ref e1, .ref e2, .int (nI k1), .int (nI k2), .ref pd, rv])), (e2, .inr (0, [.int (nI nb), .long (lN Nb), .int (nI Rb), .int (nI qb), .long (lN Sb), .int (nI cb)])), (pd, .inr (1, [.ref sg, .int (nI cnt), .int (nI rb), .int (nI sb)])), (sg, .inl (cI, 60, .inl (aN g)))]) (w1 := wFF e1 n N R q S c fl n N R q S c) hP hD [2, 1] [0, 3, 4, 5] rfl rfl (by decide) (by decide) hk1 hFc hP1 hD1
        have hP := hP.sub (ws' := wX h fl e1 e2 pd sg cI k1 k2 rv n N R q S c n N R q S c nb Nb Rb qb Sb cb cnt rb sb g) [0, 5, 4, 1, 2, 3] rfl
        have hD := hD.sub (ws' := wX h fl e1 e2 pd sg cI k1 k2 rv n N R q S c n N R q S c nb Nb Rb qb Sb cb cnt rb sb g) [0, 5, 4, 1, 2, 3] (by decide) rfl
        have hK := va_K.moved (Vm.Alike.refl Gs.vm) hK
        generalize H1 = H at hP hS ⊢
        refine lv_aload_n gx gb dX8_image_27 rfl (lv_at hl 0 rfl) ?_
        refine lv_iconst (v := nI 1) gx gb dX8_image_28 (by decide) ?_
        refine va_put (D := D) (ci := 3) (v := .int (nI 1)) (ty := .boolean) (C := RX8) (T := TX8) (N := 7) gx gb gts i8 tyX8 tyX8_ok nmX8 gown hK hP hD hS 0 rfl rfl 3 (by decide) (gts (.fieldLink RX8 22 "SwanSums" "firstKept" "Z") (by decide +kernel)) (fun _ h9 => h9) rfl (by decide +kernel) (by decide) (by decide) (Nat.le_of_ble_eq_true rfl) dX8_image_29 (fun H locs hP hD hS => ?_)
        have hP : va_P D vwCl (wX h fl e1 e2 pd sg cI 1 k2 rv n N R q S c n N R q S c nb Nb Rb qb Sb cb cnt rb sb g) H := hP
        have hD : va_D A (wX h fl e1 e2 pd sg cI 1 k2 rv n N R q S c n N R q S c nb Nb Rb qb Sb cb cnt rb sb g) := hD
        refine lv_goto (tgt := 51) gx gb dX8_image_32 (by decide) ?_
        refine lv_iconst (v := nI 1) gx gb dX8_image_51 (by decide) ?_
        have e_na : n = (if a = 0 then n else na) := by first | rw [if_pos (by omega)] | rw [if_neg (by omega)]
        have e_Na : N = (if a = 0 then N else Na) := by first | rw [if_pos (by omega)] | rw [if_neg (by omega)]
        have e_Ra : R = (if a = 0 then R else Ra) := by first | rw [if_pos (by omega)] | rw [if_neg (by omega)]
        have e_qa : q = (if a = 0 then q else qa) := by first | rw [if_pos (by omega)] | rw [if_neg (by omega)]
        have e_Sa : S = (if a = 0 then S else Sa) := by first | rw [if_pos (by omega)] | rw [if_neg (by omega)]
        have e_ca : c = (if a = 0 then c else ca) := by first | rw [if_pos (by omega)] | rw [if_neg (by omega)]
        have e_nb : nb = (if a = 1 then n else nb) := by first | rw [if_pos (by omega)] | rw [if_neg (by omega)]
        have e_Nb : Nb = (if a = 1 then N else Nb) := by first | rw [if_pos (by omega)] | rw [if_neg (by omega)]
        have e_Rb : Rb = (if a = 1 then R else Rb) := by first | rw [if_pos (by omega)] | rw [if_neg (by omega)]
        have e_qb : qb = (if a = 1 then q else qb) := by first | rw [if_pos (by omega)] | rw [if_neg (by omega)]
        have e_Sb : Sb = (if a = 1 then S else Sb) := by first | rw [if_pos (by omega)] | rw [if_neg (by omega)]
        have e_cb : cb = (if a = 1 then c else cb) := by first | rw [if_pos (by omega)] | rw [if_neg (by omega)]
        have e_k1 : 1 = (if a = 0 then 1 else k1) := by first | rw [if_pos (by omega)] | rw [if_neg (by omega)]
        have e_k2 : k2 = (if a = 1 then 1 else k2) := by first | rw [if_pos (by omega)] | rw [if_neg (by omega)]
        have hP : va_P D vwCl (wX h fl e1 e2 pd sg cI (if a = 0 then 1 else k1) (if a = 1 then 1 else k2) rv n N R q S c (if a = 0 then n else na) (if a = 0 then N else Na) (if a = 0 then R else Ra) (if a = 0 then q else qa) (if a = 0 then S else Sa) (if a = 0 then c else ca) (if a = 1 then n else nb) (if a = 1 then N else Nb) (if a = 1 then R else Rb) (if a = 1 then q else qb) (if a = 1 then S else Sb) (if a = 1 then c else cb) cnt rb sb g) H := by rw [← e_na, ← e_Na, ← e_Ra, ← e_qa, ← e_Sa, ← e_ca, ← e_nb, ← e_Nb, ← e_Rb, ← e_qb, ← e_Sb, ← e_cb, ← e_k1, ← e_k2]; exact hP
        have hD : va_D A (wX h fl e1 e2 pd sg cI (if a = 0 then 1 else k1) (if a = 1 then 1 else k2) rv n N R q S c (if a = 0 then n else na) (if a = 0 then N else Na) (if a = 0 then R else Ra) (if a = 0 then q else qa) (if a = 0 then S else Sa) (if a = 0 then c else ca) (if a = 1 then n else nb) (if a = 1 then N else Nb) (if a = 1 then R else Rb) (if a = 1 then q else qb) (if a = 1 then S else Sb) (if a = 1 then c else cb) cnt rb sb g) := by rw [← e_na, ← e_Na, ← e_Ra, ← e_qa, ← e_Sa, ← e_ca, ← e_nb, ← e_Nb, ← e_Rb, ← e_qb, ← e_Sb, ← e_cb, ← e_k1, ← e_k2]; exact hD
        exact W.iret (v := nI 1) gx gb gr (fun t ht hW => ⟨⟨nI 1, (), rfl, (by first | (dsimp only; done) | ((try dsimp only); rw [if_pos (by omega)]; rfl)), by rw [ht]; exact hP, va_K.moved hW.alike hK, hD⟩, hS.F ht⟩) hS.2.2 dX8_image_52
    · skip
      rw [zn_le (by omega) (by omega) (by omega)] at c6
      refine lv_bipush (v := zI (-2)) gx gb dX8_image_9 (by decide) ?_
      have e_na : na = (if a = 0 then n else na) := by first | rw [if_pos (by omega)] | rw [if_neg (by omega)]
      have e_Na : Na = (if a = 0 then N else Na) := by first | rw [if_pos (by omega)] | rw [if_neg (by omega)]
      have e_Ra : Ra = (if a = 0 then R else Ra) := by first | rw [if_pos (by omega)] | rw [if_neg (by omega)]
      have e_qa : qa = (if a = 0 then q else qa) := by first | rw [if_pos (by omega)] | rw [if_neg (by omega)]
      have e_Sa : Sa = (if a = 0 then S else Sa) := by first | rw [if_pos (by omega)] | rw [if_neg (by omega)]
      have e_ca : ca = (if a = 0 then c else ca) := by first | rw [if_pos (by omega)] | rw [if_neg (by omega)]
      have e_nb : nb = (if a = 1 then n else nb) := by first | rw [if_pos (by omega)] | rw [if_neg (by omega)]
      have e_Nb : Nb = (if a = 1 then N else Nb) := by first | rw [if_pos (by omega)] | rw [if_neg (by omega)]
      have e_Rb : Rb = (if a = 1 then R else Rb) := by first | rw [if_pos (by omega)] | rw [if_neg (by omega)]
      have e_qb : qb = (if a = 1 then q else qb) := by first | rw [if_pos (by omega)] | rw [if_neg (by omega)]
      have e_Sb : Sb = (if a = 1 then S else Sb) := by first | rw [if_pos (by omega)] | rw [if_neg (by omega)]
      have e_cb : cb = (if a = 1 then c else cb) := by first | rw [if_pos (by omega)] | rw [if_neg (by omega)]
      have e_k1 : k1 = (if a = 0 then 1 else k1) := by first | rw [if_pos (by omega)] | rw [if_neg (by omega)]
      have e_k2 : k2 = (if a = 1 then 1 else k2) := by first | rw [if_pos (by omega)] | rw [if_neg (by omega)]
      have hP : va_P D vwCl (wX h fl e1 e2 pd sg cI (if a = 0 then 1 else k1) (if a = 1 then 1 else k2) rv n N R q S c (if a = 0 then n else na) (if a = 0 then N else Na) (if a = 0 then R else Ra) (if a = 0 then q else qa) (if a = 0 then S else Sa) (if a = 0 then c else ca) (if a = 1 then n else nb) (if a = 1 then N else Nb) (if a = 1 then R else Rb) (if a = 1 then q else qb) (if a = 1 then S else Sb) (if a = 1 then c else cb) cnt rb sb g) Gs.heap := by rw [← e_na, ← e_Na, ← e_Ra, ← e_qa, ← e_Sa, ← e_ca, ← e_nb, ← e_Nb, ← e_Rb, ← e_qb, ← e_Sb, ← e_cb, ← e_k1, ← e_k2]; exact hP
      have hD : va_D A (wX h fl e1 e2 pd sg cI (if a = 0 then 1 else k1) (if a = 1 then 1 else k2) rv n N R q S c (if a = 0 then n else na) (if a = 0 then N else Na) (if a = 0 then R else Ra) (if a = 0 then q else qa) (if a = 0 then S else Sa) (if a = 0 then c else ca) (if a = 1 then n else nb) (if a = 1 then N else Nb) (if a = 1 then R else Rb) (if a = 1 then q else qb) (if a = 1 then S else Sb) (if a = 1 then c else cb) cnt rb sb g) := by rw [← e_na, ← e_Na, ← e_Ra, ← e_qa, ← e_Sa, ← e_ca, ← e_nb, ← e_Nb, ← e_Rb, ← e_qb, ← e_Sb, ← e_cb, ← e_k1, ← e_k2]; exact hD
      exact W.iret (v := zI (-2)) gx gb gr (fun t ht hW => ⟨⟨zI (-2), (), rfl, (by first | (dsimp only; done) | ((try dsimp only); rw [if_neg (by omega)])), by rw [ht]; exact hP, va_K.moved hW.alike hK, hD⟩, hS.F ht⟩) hS.2.2 dX8_image_11

set_option maxHeartbeats 4000000 in
set_option maxRecDepth 100000 in
theorem kX8_restore (Gl : Launch) (D : va_G) (cI cJ cZ : ClassId) (h : Nat) (fl : Nat) (e1 : Nat) (e2 : Nat) (pd : Nat) (sg : Nat) (k1 : Nat) (k2 : Nat) (rv : Value) (n : Nat) (N : Nat) (R : Nat) (q : Nat) (S : Nat) (c : Nat) (na : Nat) (Na : Nat) (Ra : Nat) (qa : Nat) (Sa : Nat) (ca : Nat) (nb : Nat) (Nb : Nat) (Rb : Nat) (qb : Nat) (Sb : Nat) (cb : Nat) (cnt : Nat) (rb : Nat) (sb : Nat) (g : Nat → Nat) (sz : Nat) (a : Int) (hl_a : -2147483648 ≤ a) (hu_a : a < 2147483648) (hk1 : k1 ≤ 1) (hk2 : k2 ≤ 1) : Met Gl yX8_restore wsX8_restore ({ frames := 1, cells := 0, slots := 0, locals := 21 } : Room) (va_Pc [.ref h, .int (zI a)] (fun U => U.heap.size = sz ∧ va_P D vwCl (wX h fl e1 e2 pd sg cI k1 k2 rv n N R q S c na Na Ra qa Sa ca nb Nb Rb qb Sb cb cnt rb sb g) U.heap ∧ va_K D vwCl [(cI, .int), (cJ, .long), (cZ, .boolean)] U ∧ va_D (fun _ => True) (wX h fl e1 e2 pd sg cI k1 k2 rv n N R q S c na Na Ra qa Sa ca nb Nb Rb qb Sb cb cnt rb sb g))) (va_Qi (fun (r : Int32) (u : Unit) => r = zI (if 0 ≤ a ∧ a ≤ 1 then (if (a = 0 ∧ k1 ≠ 0) ∨ (a = 1 ∧ k2 ≠ 0) then 1 else -3) else -2)) (fun (u : Unit) t => va_P D vwCl (wX h fl e1 e2 pd sg cI k1 k2 rv (if a = 0 ∧ k1 ≠ 0 then na else if a = 1 ∧ k2 ≠ 0 then nb else n) (if a = 0 ∧ k1 ≠ 0 then Na else if a = 1 ∧ k2 ≠ 0 then Nb else N) (if a = 0 ∧ k1 ≠ 0 then Ra else if a = 1 ∧ k2 ≠ 0 then Rb else R) (if a = 0 ∧ k1 ≠ 0 then qa else if a = 1 ∧ k2 ≠ 0 then qb else q) (if a = 0 ∧ k1 ≠ 0 then Sa else if a = 1 ∧ k2 ≠ 0 then Sb else S) (if a = 0 ∧ k1 ≠ 0 then ca else if a = 1 ∧ k2 ≠ 0 then cb else c) na Na Ra qa Sa ca nb Nb Rb qb Sb cb cnt rb sb g) t.heap ∧ va_K D vwCl [(cI, .int), (cJ, .long), (cZ, .boolean)] t ∧ va_D (va_A (wX h fl e1 e2 pd sg cI k1 k2 rv n N R q S c na Na Ra qa Sa ca nb Nb Rb qb Sb cb cnt rb sb g) sz) (wX h fl e1 e2 pd sg cI k1 k2 rv (if a = 0 ∧ k1 ≠ 0 then na else if a = 1 ∧ k2 ≠ 0 then nb else n) (if a = 0 ∧ k1 ≠ 0 then Na else if a = 1 ∧ k2 ≠ 0 then Nb else N) (if a = 0 ∧ k1 ≠ 0 then Ra else if a = 1 ∧ k2 ≠ 0 then Rb else R) (if a = 0 ∧ k1 ≠ 0 then qa else if a = 1 ∧ k2 ≠ 0 then qb else q) (if a = 0 ∧ k1 ≠ 0 then Sa else if a = 1 ∧ k2 ≠ 0 then Sb else S) (if a = 0 ∧ k1 ≠ 0 then ca else if a = 1 ∧ k2 ≠ 0 then cb else c) na Na Ra qa Sa ca nb Nb Rb qb Sb cb cnt rb sb g)) (va_A (wX h fl e1 e2 pd sg cI k1 k2 rv n N R q S c na Na Ra qa Sa ca nb Nb Rb qb Sb cb cnt rb sb g) sz)) 0 0 (va_A (wX h fl e1 e2 pd sg cI k1 k2 rv n N R q S c na Na Ra qa Sa ca nb Nb Rb qb Sb cb cnt rb sb g) sz) := by
  refine Met.ofW (cc := cX8_restore) (maxL := 3) (ret := (some .int)) (by decide +kernel) rfl ?_
  intro Gp Ge Gs Gm Ga Gw Gt Gc G1 Bd gml gv
  obtain ⟨rfl, hsz, hP, hK, hD0⟩ := gv
  have gx := Bd.exec
  have gb := Bd.bytes
  have gr := Bd.returns
  have gts := atoms_spec (ws := wsX8_restore) Bd.pre
  have gown : Gs.vm.findClass RX8 = some Gm.cls := findClass_of_methodNamed Bd.named
  have glk := Bd.notSynchronized
  subst hsz
  have hD := hD0.self (sz := Gs.heap.size)
  generalize hAe : va_A (wX h fl e1 e2 pd sg cI k1 k2 rv n N R q S c na Na Ra qa Sa ca nb Nb Rb qb Sb cb cnt rb sb g) Gs.heap.size = A at hD ⊢
  have hA : ∀ q : Nat, Gs.heap.size ≤ q → A q := fun q h => by rw [← hAe]; exact Or.inr h
  have hS : va_S A Gs.heap Gs.heap [] := va_S.rf
  have hP : va_P D vwCl (wX h fl e1 e2 pd sg cI k1 k2 rv n N R q S c na Na Ra qa Sa ca nb Nb Rb qb Sb cb cnt rb sb g) Gs.heap := hP
  have hl := lv_entry ([.ref h, .int (zI a)]) (n := 3) (Nat.le_of_ble_eq_true rfl)
  rw [lg_entry_eq]
  generalize (lg_sl ([.ref h, .int (zI a)]) ++ List.replicate (3 - (lg_sl ([.ref h, .int (zI a)])).length) Slot.unset).toArray = ls at hl ⊢
  have hl : lv_has ls 3 [(0, .ref h), (1, .int (zI a))] := hl
  have i8 : ∀ w ∈ wsX80, w ∈ wsX8_restore := by decide +kernel
  refine lv_iload_n gx gb dX8_restore_0 rfl (lv_at hl 1 rfl) ?_
  refine lv_if_lt (tgt := 9) gx gb dX8_restore_1 (by decide) (fun c1 => ?_) (fun c1 => ?_)
  · skip
    rw [z0_lt (by omega) (by omega)] at c1
    refine lv_bipush (v := zI (-2)) gx gb dX8_restore_9 (by decide) ?_
    have e_n : n = (if a = 0 ∧ k1 ≠ 0 then na else if a = 1 ∧ k2 ≠ 0 then nb else n) := by first | (rw [if_pos (by omega)]; done) | (rw [if_neg (by omega), if_pos (by omega)]; done) | (rw [if_neg (by omega), if_neg (by omega)])
    have e_N : N = (if a = 0 ∧ k1 ≠ 0 then Na else if a = 1 ∧ k2 ≠ 0 then Nb else N) := by first | (rw [if_pos (by omega)]; done) | (rw [if_neg (by omega), if_pos (by omega)]; done) | (rw [if_neg (by omega), if_neg (by omega)])
    have e_R : R = (if a = 0 ∧ k1 ≠ 0 then Ra else if a = 1 ∧ k2 ≠ 0 then Rb else R) := by first | (rw [if_pos (by omega)]; done) | (rw [if_neg (by omega), if_pos (by omega)]; done) | (rw [if_neg (by omega), if_neg (by omega)])
    have e_q : q = (if a = 0 ∧ k1 ≠ 0 then qa else if a = 1 ∧ k2 ≠ 0 then qb else q) := by first | (rw [if_pos (by omega)]; done) | (rw [if_neg (by omega), if_pos (by omega)]; done) | (rw [if_neg (by omega), if_neg (by omega)])
    have e_S : S = (if a = 0 ∧ k1 ≠ 0 then Sa else if a = 1 ∧ k2 ≠ 0 then Sb else S) := by first | (rw [if_pos (by omega)]; done) | (rw [if_neg (by omega), if_pos (by omega)]; done) | (rw [if_neg (by omega), if_neg (by omega)])
    have e_c : c = (if a = 0 ∧ k1 ≠ 0 then ca else if a = 1 ∧ k2 ≠ 0 then cb else c) := by first | (rw [if_pos (by omega)]; done) | (rw [if_neg (by omega), if_pos (by omega)]; done) | (rw [if_neg (by omega), if_neg (by omega)])
    have hP : va_P D vwCl (wX h fl e1 e2 pd sg cI k1 k2 rv (if a = 0 ∧ k1 ≠ 0 then na else if a = 1 ∧ k2 ≠ 0 then nb else n) (if a = 0 ∧ k1 ≠ 0 then Na else if a = 1 ∧ k2 ≠ 0 then Nb else N) (if a = 0 ∧ k1 ≠ 0 then Ra else if a = 1 ∧ k2 ≠ 0 then Rb else R) (if a = 0 ∧ k1 ≠ 0 then qa else if a = 1 ∧ k2 ≠ 0 then qb else q) (if a = 0 ∧ k1 ≠ 0 then Sa else if a = 1 ∧ k2 ≠ 0 then Sb else S) (if a = 0 ∧ k1 ≠ 0 then ca else if a = 1 ∧ k2 ≠ 0 then cb else c) na Na Ra qa Sa ca nb Nb Rb qb Sb cb cnt rb sb g) Gs.heap := by rw [← e_n, ← e_N, ← e_R, ← e_q, ← e_S, ← e_c]; exact hP
    have hD : va_D A (wX h fl e1 e2 pd sg cI k1 k2 rv (if a = 0 ∧ k1 ≠ 0 then na else if a = 1 ∧ k2 ≠ 0 then nb else n) (if a = 0 ∧ k1 ≠ 0 then Na else if a = 1 ∧ k2 ≠ 0 then Nb else N) (if a = 0 ∧ k1 ≠ 0 then Ra else if a = 1 ∧ k2 ≠ 0 then Rb else R) (if a = 0 ∧ k1 ≠ 0 then qa else if a = 1 ∧ k2 ≠ 0 then qb else q) (if a = 0 ∧ k1 ≠ 0 then Sa else if a = 1 ∧ k2 ≠ 0 then Sb else S) (if a = 0 ∧ k1 ≠ 0 then ca else if a = 1 ∧ k2 ≠ 0 then cb else c) na Na Ra qa Sa ca nb Nb Rb qb Sb cb cnt rb sb g) := by rw [← e_n, ← e_N, ← e_R, ← e_q, ← e_S, ← e_c]; exact hD
    exact W.iret (v := zI (-2)) gx gb gr (fun t ht hW => ⟨⟨zI (-2), (), rfl, (by first | (dsimp only; done) | ((try dsimp only); rw [if_neg (by omega)])), by rw [ht]; exact hP, va_K.moved hW.alike hK, hD⟩, hS.F ht⟩) hS.2.2 dX8_restore_11
  · skip
    rw [z0_lt (by omega) (by omega)] at c1
    refine lv_iload_n gx gb dX8_restore_4 rfl (lv_at hl 1 rfl) ?_
    refine lv_iconst (v := nI 1) gx gb dX8_restore_5 (by decide) ?_
    refine lv_icmp_le (tgt := 12) gx gb dX8_restore_6 (by decide) (fun c6 => ?_) (fun c6 => ?_)
    · skip
      rw [zn_le (by omega) (by omega) (by omega)] at c6
      refine lv_iload_n gx gb dX8_restore_12 rfl (lv_at hl 1 rfl) ?_
      refine lv_if_ne (tgt := 23) gx gb dX8_restore_13 (by decide) (fun c13 => ?_) (fun c13 => ?_)
      · skip
        rw [z0_eq (by omega) (by omega)] at c13
        refine lv_aload_n gx gb dX8_restore_23 rfl (lv_at hl 0 rfl) ?_
        refine va_get (D := D) (ci := 3) (v := .int (nI k2)) (C := RX8) (T := TX8) (N := 7) gx gb gts i8 gown hK hP 0 rfl rfl 4 (by decide) (gts (.fieldLink RX8 26 "SwanSums" "secondKept" "Z") (by decide +kernel)) (fun _ h9 => h9) rfl dX8_restore_24 ?_
        refine lv_istore_n (lv' := [(2, .int (nI k2)), (0, .ref h), (1, .int (zI a))]) gx gb dX8_restore_27 rfl hl (by decide) rfl (fun ls hl => ?_)
        refine lv_iload_n gx gb dX8_restore_28 rfl (lv_at hl 0 rfl) ?_
        refine lv_if_ne (tgt := 35) gx gb dX8_restore_29 (by decide) (fun c29 => ?_) (fun c29 => ?_)
        · skip
          rw [n0_eq (by omega)] at c29
          refine lv_iload_n gx gb dX8_restore_35 rfl (lv_at hl 2 rfl) ?_
          refine lv_if_ne (tgt := 53) gx gb dX8_restore_36 (by decide) (fun c36 => ?_) (fun c36 => ?_)
          · skip
            rw [z0_eq (by omega) (by omega)] at c36
            refine lv_aload_n gx gb dX8_restore_53 rfl (lv_at hl 1 rfl) ?_
            refine va_get (D := D) (ci := 3) (v := .ref fl) (C := RX8) (T := TX8) (N := 7) gx gb gts i8 gown hK hP 0 rfl rfl 0 (by decide) (gts (.fieldLink RX8 12 "SwanSums" "flock" "LSwanSums$Flock;") (by decide +kernel)) (fun _ h9 => h9) rfl dX8_restore_54 ?_
            refine lv_aload_n gx gb dX8_restore_57 rfl (lv_at hl 1 rfl) ?_
            refine va_get (D := D) (ci := 3) (v := .ref e2) (C := RX8) (T := TX8) (N := 7) gx gb gts i8 gown hK hP 0 rfl rfl 2 (by decide) (gts (.fieldLink RX8 19 "SwanSums" "secondImage" "LSwanSums$Flock;") (by decide +kernel)) (fun _ h9 => h9) rfl dX8_restore_58 ?_
            have hPc := hP.sub (ws' := wFF fl n N R q S c e2 nb Nb Rb qb Sb cb) [1, 3] rfl
            have hDc := hD.sub (ws' := wFF fl n N R q S c e2 nb Nb Rb qb Sb cb) [1, 3] (by decide) rfl
            have hFc := va_free (wc := wFF fl n N R q S c e2 nb Nb Rb qb Sb cb) hD hS hA [1, 3] rfl
            refine va_callv (va_runV (As := [.ref e2]) (rest := []) ⟨gx, gb, gml, gown, gts⟩ (kX1_become Gl D cI cJ cZ fl n N R q S c e2 nb Nb Rb qb Sb cb _  ) (cwV 1 gts gX8_restore_X1_become rfl rfl rfl (by decide +kernel) ⟨Nat.le_of_ble_eq_true rfl, Nat.le_of_ble_eq_true rfl⟩) ⟨fun a U g mk q => by obtain ⟨q0, q1, qP, qK, qD⟩ := q; exact ⟨q0, q1, qP, va_K.moved (u := U) (U := U.calling g mk a) (Vm.Alike.refl U.vm) qK, qD⟩, va_recv hK hPc (ci := 0) (q0 := 0) rfl rfl, fun U hU hW => ⟨rfl, by rw [hU], by rw [hU]; exact hPc, va_K.moved hW.alike hK, hDc.weaken (fun _ _ _ _ => trivial)⟩⟩ rfl rfl hl.1 rfl (lv_room (Nat.le_of_ble_eq_true rfl)) dX8_restore_61 ⟨Nat.le_of_ble_eq_true rfl, Nat.le_of_ble_eq_true rfl⟩) hS (fun q _ h => hFc q h) hFc (fun u t H1 locs ht hvm hw hB hz1 hk1 hS => ?_)
            obtain ⟨hP1, hK1, hD1⟩ := hB
            rw [ht] at hP1
            try dsimp only at hw
            try dsimp only at hP1
            try dsimp only at hD1
            have hK := va_K.moved hvm.symm hK1
            obtain ⟨hP, hD⟩ := va_join (wr := [(h, .inr (3, [.ref fl, .ref e1, .ref e2, .int (nI k1), .int (nI k2), .ref pd, rv])), (e1, .inr (0, [.int (nI na), .long (lN Na), .int (nI Ra), .int (nI qa), .long (lN Sa), .int (nI ca)])), (pd, .inr (1, [.ref sg, .int (nI cnt), .int (nI rb), .int (nI sb)])), (sg, .inl (cI, 60, .inl (aN g)))]) (w1 := wFF fl nb Nb Rb qb Sb cb e2 nb Nb Rb qb Sb cb) hP hD [1, 3] [0, 2, 4, 5] rfl rfl (by decide) (by decide) hk1 hFc hP1 hD1
            have hP := hP.sub (ws' := wX h fl e1 e2 pd sg cI k1 k2 rv nb Nb Rb qb Sb cb na Na Ra qa Sa ca nb Nb Rb qb Sb cb cnt rb sb g) [0, 4, 1, 5, 2, 3] rfl
            have hD := hD.sub (ws' := wX h fl e1 e2 pd sg cI k1 k2 rv nb Nb Rb qb Sb cb na Na Ra qa Sa ca nb Nb Rb qb Sb cb cnt rb sb g) [0, 4, 1, 5, 2, 3] (by decide) rfl
            have hK := va_K.moved (Vm.Alike.refl Gs.vm) hK
            generalize H1 = H at hP hS ⊢
            refine lv_iconst (v := nI 1) gx gb dX8_restore_64 (by decide) ?_
            have e_n : nb = (if a = 0 ∧ k1 ≠ 0 then na else if a = 1 ∧ k2 ≠ 0 then nb else n) := by first | (rw [if_pos (by omega)]; done) | (rw [if_neg (by omega), if_pos (by omega)]; done) | (rw [if_neg (by omega), if_neg (by omega)])
            have e_N : Nb = (if a = 0 ∧ k1 ≠ 0 then Na else if a = 1 ∧ k2 ≠ 0 then Nb else N) := by first | (rw [if_pos (by omega)]; done) | (rw [if_neg (by omega), if_pos (by omega)]; done) | (rw [if_neg (by omega), if_neg (by omega)])
            have e_R : Rb = (if a = 0 ∧ k1 ≠ 0 then Ra else if a = 1 ∧ k2 ≠ 0 then Rb else R) := by first | (rw [if_pos (by omega)]; done) | (rw [if_neg (by omega), if_pos (by omega)]; done) | (rw [if_neg (by omega), if_neg (by omega)])
            have e_q : qb = (if a = 0 ∧ k1 ≠ 0 then qa else if a = 1 ∧ k2 ≠ 0 then qb else q) := by first | (rw [if_pos (by omega)]; done) | (rw [if_neg (by omega), if_pos (by omega)]; done) | (rw [if_neg (by omega), if_neg (by omega)])
            have e_S : Sb = (if a = 0 ∧ k1 ≠ 0 then Sa else if a = 1 ∧ k2 ≠ 0 then Sb else S) := by first | (rw [if_pos (by omega)]; done) | (rw [if_neg (by omega), if_pos (by omega)]; done) | (rw [if_neg (by omega), if_neg (by omega)])
            have e_c : cb = (if a = 0 ∧ k1 ≠ 0 then ca else if a = 1 ∧ k2 ≠ 0 then cb else c) := by first | (rw [if_pos (by omega)]; done) | (rw [if_neg (by omega), if_pos (by omega)]; done) | (rw [if_neg (by omega), if_neg (by omega)])
            have hP : va_P D vwCl (wX h fl e1 e2 pd sg cI k1 k2 rv (if a = 0 ∧ k1 ≠ 0 then na else if a = 1 ∧ k2 ≠ 0 then nb else n) (if a = 0 ∧ k1 ≠ 0 then Na else if a = 1 ∧ k2 ≠ 0 then Nb else N) (if a = 0 ∧ k1 ≠ 0 then Ra else if a = 1 ∧ k2 ≠ 0 then Rb else R) (if a = 0 ∧ k1 ≠ 0 then qa else if a = 1 ∧ k2 ≠ 0 then qb else q) (if a = 0 ∧ k1 ≠ 0 then Sa else if a = 1 ∧ k2 ≠ 0 then Sb else S) (if a = 0 ∧ k1 ≠ 0 then ca else if a = 1 ∧ k2 ≠ 0 then cb else c) na Na Ra qa Sa ca nb Nb Rb qb Sb cb cnt rb sb g) H := by rw [← e_n, ← e_N, ← e_R, ← e_q, ← e_S, ← e_c]; exact hP
            have hD : va_D A (wX h fl e1 e2 pd sg cI k1 k2 rv (if a = 0 ∧ k1 ≠ 0 then na else if a = 1 ∧ k2 ≠ 0 then nb else n) (if a = 0 ∧ k1 ≠ 0 then Na else if a = 1 ∧ k2 ≠ 0 then Nb else N) (if a = 0 ∧ k1 ≠ 0 then Ra else if a = 1 ∧ k2 ≠ 0 then Rb else R) (if a = 0 ∧ k1 ≠ 0 then qa else if a = 1 ∧ k2 ≠ 0 then qb else q) (if a = 0 ∧ k1 ≠ 0 then Sa else if a = 1 ∧ k2 ≠ 0 then Sb else S) (if a = 0 ∧ k1 ≠ 0 then ca else if a = 1 ∧ k2 ≠ 0 then cb else c) na Na Ra qa Sa ca nb Nb Rb qb Sb cb cnt rb sb g) := by rw [← e_n, ← e_N, ← e_R, ← e_q, ← e_S, ← e_c]; exact hD
            exact W.iret (v := nI 1) gx gb gr (fun t ht hW => ⟨⟨nI 1, (), rfl, (by first | (dsimp only; done) | ((try dsimp only); rw [if_pos (by omega), if_pos (by omega)]; rfl)), by rw [ht]; exact hP, va_K.moved hW.alike hK, hD⟩, hS.F ht⟩) hS.2.2 dX8_restore_65
          · skip
            rw [z0_eq (by omega) (by omega)] at c36
            refine lv_aload_n gx gb dX8_restore_39 rfl (lv_at hl 1 rfl) ?_
            refine va_get (D := D) (ci := 3) (v := .ref fl) (C := RX8) (T := TX8) (N := 7) gx gb gts i8 gown hK hP 0 rfl rfl 0 (by decide) (gts (.fieldLink RX8 12 "SwanSums" "flock" "LSwanSums$Flock;") (by decide +kernel)) (fun _ h9 => h9) rfl dX8_restore_40 ?_
            refine lv_aload_n gx gb dX8_restore_43 rfl (lv_at hl 1 rfl) ?_
            refine va_get (D := D) (ci := 3) (v := .ref e1) (C := RX8) (T := TX8) (N := 7) gx gb gts i8 gown hK hP 0 rfl rfl 1 (by decide) (gts (.fieldLink RX8 16 "SwanSums" "firstImage" "LSwanSums$Flock;") (by decide +kernel)) (fun _ h9 => h9) rfl dX8_restore_44 ?_
            have hPc := hP.sub (ws' := wFF fl n N R q S c e1 na Na Ra qa Sa ca) [1, 2] rfl
            have hDc := hD.sub (ws' := wFF fl n N R q S c e1 na Na Ra qa Sa ca) [1, 2] (by decide) rfl
            have hFc := va_free (wc := wFF fl n N R q S c e1 na Na Ra qa Sa ca) hD hS hA [1, 2] rfl
            refine va_callv (va_runV (As := [.ref e1]) (rest := []) ⟨gx, gb, gml, gown, gts⟩ (kX1_become Gl D cI cJ cZ fl n N R q S c e1 na Na Ra qa Sa ca _  ) (cwV 1 gts gX8_restore_X1_become rfl rfl rfl (by decide +kernel) ⟨Nat.le_of_ble_eq_true rfl, Nat.le_of_ble_eq_true rfl⟩) ⟨fun a U g mk q => by obtain ⟨q0, q1, qP, qK, qD⟩ := q; exact ⟨q0, q1, qP, va_K.moved (u := U) (U := U.calling g mk a) (Vm.Alike.refl U.vm) qK, qD⟩, va_recv hK hPc (ci := 0) (q0 := 0) rfl rfl, fun U hU hW => ⟨rfl, by rw [hU], by rw [hU]; exact hPc, va_K.moved hW.alike hK, hDc.weaken (fun _ _ _ _ => trivial)⟩⟩ rfl rfl hl.1 rfl (lv_room (Nat.le_of_ble_eq_true rfl)) dX8_restore_47 ⟨Nat.le_of_ble_eq_true rfl, Nat.le_of_ble_eq_true rfl⟩) hS (fun q _ h => hFc q h) hFc (fun u t H1 locs ht hvm hw hB hz1 hk1 hS => ?_)
            obtain ⟨hP1, hK1, hD1⟩ := hB
            rw [ht] at hP1
            try dsimp only at hw
            try dsimp only at hP1
            try dsimp only at hD1
            have hK := va_K.moved hvm.symm hK1
            obtain ⟨hP, hD⟩ := va_join (wr := [(h, .inr (3, [.ref fl, .ref e1, .ref e2, .int (nI k1), .int (nI k2), .ref pd, rv])), (e2, .inr (0, [.int (nI nb), .long (lN Nb), .int (nI Rb), .int (nI qb), .long (lN Sb), .int (nI cb)])), (pd, .inr (1, [.ref sg, .int (nI cnt), .int (nI rb), .int (nI sb)])), (sg, .inl (cI, 60, .inl (aN g)))]) (w1 := wFF fl na Na Ra qa Sa ca e1 na Na Ra qa Sa ca) hP hD [1, 2] [0, 3, 4, 5] rfl rfl (by decide) (by decide) hk1 hFc hP1 hD1
            have hP := hP.sub (ws' := wX h fl e1 e2 pd sg cI k1 k2 rv na Na Ra qa Sa ca na Na Ra qa Sa ca nb Nb Rb qb Sb cb cnt rb sb g) [0, 4, 5, 1, 2, 3] rfl
            have hD := hD.sub (ws' := wX h fl e1 e2 pd sg cI k1 k2 rv na Na Ra qa Sa ca na Na Ra qa Sa ca nb Nb Rb qb Sb cb cnt rb sb g) [0, 4, 5, 1, 2, 3] (by decide) rfl
            have hK := va_K.moved (Vm.Alike.refl Gs.vm) hK
            generalize H1 = H at hP hS ⊢
            refine lv_goto (tgt := 64) gx gb dX8_restore_50 (by decide) ?_
            refine lv_iconst (v := nI 1) gx gb dX8_restore_64 (by decide) ?_
            have e_n : na = (if a = 0 ∧ k1 ≠ 0 then na else if a = 1 ∧ k2 ≠ 0 then nb else n) := by first | (rw [if_pos (by omega)]; done) | (rw [if_neg (by omega), if_pos (by omega)]; done) | (rw [if_neg (by omega), if_neg (by omega)])
            have e_N : Na = (if a = 0 ∧ k1 ≠ 0 then Na else if a = 1 ∧ k2 ≠ 0 then Nb else N) := by first | (rw [if_pos (by omega)]; done) | (rw [if_neg (by omega), if_pos (by omega)]; done) | (rw [if_neg (by omega), if_neg (by omega)])
            have e_R : Ra = (if a = 0 ∧ k1 ≠ 0 then Ra else if a = 1 ∧ k2 ≠ 0 then Rb else R) := by first | (rw [if_pos (by omega)]; done) | (rw [if_neg (by omega), if_pos (by omega)]; done) | (rw [if_neg (by omega), if_neg (by omega)])
            have e_q : qa = (if a = 0 ∧ k1 ≠ 0 then qa else if a = 1 ∧ k2 ≠ 0 then qb else q) := by first | (rw [if_pos (by omega)]; done) | (rw [if_neg (by omega), if_pos (by omega)]; done) | (rw [if_neg (by omega), if_neg (by omega)])
            have e_S : Sa = (if a = 0 ∧ k1 ≠ 0 then Sa else if a = 1 ∧ k2 ≠ 0 then Sb else S) := by first | (rw [if_pos (by omega)]; done) | (rw [if_neg (by omega), if_pos (by omega)]; done) | (rw [if_neg (by omega), if_neg (by omega)])
            have e_c : ca = (if a = 0 ∧ k1 ≠ 0 then ca else if a = 1 ∧ k2 ≠ 0 then cb else c) := by first | (rw [if_pos (by omega)]; done) | (rw [if_neg (by omega), if_pos (by omega)]; done) | (rw [if_neg (by omega), if_neg (by omega)])
            have hP : va_P D vwCl (wX h fl e1 e2 pd sg cI k1 k2 rv (if a = 0 ∧ k1 ≠ 0 then na else if a = 1 ∧ k2 ≠ 0 then nb else n) (if a = 0 ∧ k1 ≠ 0 then Na else if a = 1 ∧ k2 ≠ 0 then Nb else N) (if a = 0 ∧ k1 ≠ 0 then Ra else if a = 1 ∧ k2 ≠ 0 then Rb else R) (if a = 0 ∧ k1 ≠ 0 then qa else if a = 1 ∧ k2 ≠ 0 then qb else q) (if a = 0 ∧ k1 ≠ 0 then Sa else if a = 1 ∧ k2 ≠ 0 then Sb else S) (if a = 0 ∧ k1 ≠ 0 then ca else if a = 1 ∧ k2 ≠ 0 then cb else c) na Na Ra qa Sa ca nb Nb Rb qb Sb cb cnt rb sb g) H := by rw [← e_n, ← e_N, ← e_R, ← e_q, ← e_S, ← e_c]; exact hP
            have hD : va_D A (wX h fl e1 e2 pd sg cI k1 k2 rv (if a = 0 ∧ k1 ≠ 0 then na else if a = 1 ∧ k2 ≠ 0 then nb else n) (if a = 0 ∧ k1 ≠ 0 then Na else if a = 1 ∧ k2 ≠ 0 then Nb else N) (if a = 0 ∧ k1 ≠ 0 then Ra else if a = 1 ∧ k2 ≠ 0 then Rb else R) (if a = 0 ∧ k1 ≠ 0 then qa else if a = 1 ∧ k2 ≠ 0 then qb else q) (if a = 0 ∧ k1 ≠ 0 then Sa else if a = 1 ∧ k2 ≠ 0 then Sb else S) (if a = 0 ∧ k1 ≠ 0 then ca else if a = 1 ∧ k2 ≠ 0 then cb else c) na Na Ra qa Sa ca nb Nb Rb qb Sb cb cnt rb sb g) := by rw [← e_n, ← e_N, ← e_R, ← e_q, ← e_S, ← e_c]; exact hD
            exact W.iret (v := nI 1) gx gb gr (fun t ht hW => ⟨⟨nI 1, (), rfl, (by first | (dsimp only; done) | ((try dsimp only); rw [if_pos (by omega), if_pos (by omega)]; rfl)), by rw [ht]; exact hP, va_K.moved hW.alike hK, hD⟩, hS.F ht⟩) hS.2.2 dX8_restore_65
        · skip
          rw [n0_eq (by omega)] at c29
          refine lv_bipush (v := zI (-3)) gx gb dX8_restore_32 (by decide) ?_
          have e_n : n = (if a = 0 ∧ k1 ≠ 0 then na else if a = 1 ∧ k2 ≠ 0 then nb else n) := by first | (rw [if_pos (by omega)]; done) | (rw [if_neg (by omega), if_pos (by omega)]; done) | (rw [if_neg (by omega), if_neg (by omega)])
          have e_N : N = (if a = 0 ∧ k1 ≠ 0 then Na else if a = 1 ∧ k2 ≠ 0 then Nb else N) := by first | (rw [if_pos (by omega)]; done) | (rw [if_neg (by omega), if_pos (by omega)]; done) | (rw [if_neg (by omega), if_neg (by omega)])
          have e_R : R = (if a = 0 ∧ k1 ≠ 0 then Ra else if a = 1 ∧ k2 ≠ 0 then Rb else R) := by first | (rw [if_pos (by omega)]; done) | (rw [if_neg (by omega), if_pos (by omega)]; done) | (rw [if_neg (by omega), if_neg (by omega)])
          have e_q : q = (if a = 0 ∧ k1 ≠ 0 then qa else if a = 1 ∧ k2 ≠ 0 then qb else q) := by first | (rw [if_pos (by omega)]; done) | (rw [if_neg (by omega), if_pos (by omega)]; done) | (rw [if_neg (by omega), if_neg (by omega)])
          have e_S : S = (if a = 0 ∧ k1 ≠ 0 then Sa else if a = 1 ∧ k2 ≠ 0 then Sb else S) := by first | (rw [if_pos (by omega)]; done) | (rw [if_neg (by omega), if_pos (by omega)]; done) | (rw [if_neg (by omega), if_neg (by omega)])
          have e_c : c = (if a = 0 ∧ k1 ≠ 0 then ca else if a = 1 ∧ k2 ≠ 0 then cb else c) := by first | (rw [if_pos (by omega)]; done) | (rw [if_neg (by omega), if_pos (by omega)]; done) | (rw [if_neg (by omega), if_neg (by omega)])
          have hP : va_P D vwCl (wX h fl e1 e2 pd sg cI k1 k2 rv (if a = 0 ∧ k1 ≠ 0 then na else if a = 1 ∧ k2 ≠ 0 then nb else n) (if a = 0 ∧ k1 ≠ 0 then Na else if a = 1 ∧ k2 ≠ 0 then Nb else N) (if a = 0 ∧ k1 ≠ 0 then Ra else if a = 1 ∧ k2 ≠ 0 then Rb else R) (if a = 0 ∧ k1 ≠ 0 then qa else if a = 1 ∧ k2 ≠ 0 then qb else q) (if a = 0 ∧ k1 ≠ 0 then Sa else if a = 1 ∧ k2 ≠ 0 then Sb else S) (if a = 0 ∧ k1 ≠ 0 then ca else if a = 1 ∧ k2 ≠ 0 then cb else c) na Na Ra qa Sa ca nb Nb Rb qb Sb cb cnt rb sb g) Gs.heap := by rw [← e_n, ← e_N, ← e_R, ← e_q, ← e_S, ← e_c]; exact hP
          have hD : va_D A (wX h fl e1 e2 pd sg cI k1 k2 rv (if a = 0 ∧ k1 ≠ 0 then na else if a = 1 ∧ k2 ≠ 0 then nb else n) (if a = 0 ∧ k1 ≠ 0 then Na else if a = 1 ∧ k2 ≠ 0 then Nb else N) (if a = 0 ∧ k1 ≠ 0 then Ra else if a = 1 ∧ k2 ≠ 0 then Rb else R) (if a = 0 ∧ k1 ≠ 0 then qa else if a = 1 ∧ k2 ≠ 0 then qb else q) (if a = 0 ∧ k1 ≠ 0 then Sa else if a = 1 ∧ k2 ≠ 0 then Sb else S) (if a = 0 ∧ k1 ≠ 0 then ca else if a = 1 ∧ k2 ≠ 0 then cb else c) na Na Ra qa Sa ca nb Nb Rb qb Sb cb cnt rb sb g) := by rw [← e_n, ← e_N, ← e_R, ← e_q, ← e_S, ← e_c]; exact hD
          exact W.iret (v := zI (-3)) gx gb gr (fun t ht hW => ⟨⟨zI (-3), (), rfl, (by first | (dsimp only; done) | ((try dsimp only); rw [if_pos (by omega), if_neg (by omega)])), by rw [ht]; exact hP, va_K.moved hW.alike hK, hD⟩, hS.F ht⟩) hS.2.2 dX8_restore_34
      · skip
        rw [z0_eq (by omega) (by omega)] at c13
        refine lv_aload_n gx gb dX8_restore_16 rfl (lv_at hl 0 rfl) ?_
        refine va_get (D := D) (ci := 3) (v := .int (nI k1)) (C := RX8) (T := TX8) (N := 7) gx gb gts i8 gown hK hP 0 rfl rfl 3 (by decide) (gts (.fieldLink RX8 22 "SwanSums" "firstKept" "Z") (by decide +kernel)) (fun _ h9 => h9) rfl dX8_restore_17 ?_
        refine lv_goto (tgt := 27) gx gb dX8_restore_20 (by decide) ?_
        refine lv_istore_n (lv' := [(2, .int (nI k1)), (0, .ref h), (1, .int (zI a))]) gx gb dX8_restore_27 rfl hl (by decide) rfl (fun ls hl => ?_)
        refine lv_iload_n gx gb dX8_restore_28 rfl (lv_at hl 0 rfl) ?_
        refine lv_if_ne (tgt := 35) gx gb dX8_restore_29 (by decide) (fun c29 => ?_) (fun c29 => ?_)
        · skip
          rw [n0_eq (by omega)] at c29
          refine lv_iload_n gx gb dX8_restore_35 rfl (lv_at hl 2 rfl) ?_
          refine lv_if_ne (tgt := 53) gx gb dX8_restore_36 (by decide) (fun c36 => ?_) (fun c36 => ?_)
          · skip
            rw [z0_eq (by omega) (by omega)] at c36
            refine lv_aload_n gx gb dX8_restore_53 rfl (lv_at hl 1 rfl) ?_
            refine va_get (D := D) (ci := 3) (v := .ref fl) (C := RX8) (T := TX8) (N := 7) gx gb gts i8 gown hK hP 0 rfl rfl 0 (by decide) (gts (.fieldLink RX8 12 "SwanSums" "flock" "LSwanSums$Flock;") (by decide +kernel)) (fun _ h9 => h9) rfl dX8_restore_54 ?_
            refine lv_aload_n gx gb dX8_restore_57 rfl (lv_at hl 1 rfl) ?_
            refine va_get (D := D) (ci := 3) (v := .ref e2) (C := RX8) (T := TX8) (N := 7) gx gb gts i8 gown hK hP 0 rfl rfl 2 (by decide) (gts (.fieldLink RX8 19 "SwanSums" "secondImage" "LSwanSums$Flock;") (by decide +kernel)) (fun _ h9 => h9) rfl dX8_restore_58 ?_
            have hPc := hP.sub (ws' := wFF fl n N R q S c e2 nb Nb Rb qb Sb cb) [1, 3] rfl
            have hDc := hD.sub (ws' := wFF fl n N R q S c e2 nb Nb Rb qb Sb cb) [1, 3] (by decide) rfl
            have hFc := va_free (wc := wFF fl n N R q S c e2 nb Nb Rb qb Sb cb) hD hS hA [1, 3] rfl
            refine va_callv (va_runV (As := [.ref e2]) (rest := []) ⟨gx, gb, gml, gown, gts⟩ (kX1_become Gl D cI cJ cZ fl n N R q S c e2 nb Nb Rb qb Sb cb _  ) (cwV 1 gts gX8_restore_X1_become rfl rfl rfl (by decide +kernel) ⟨Nat.le_of_ble_eq_true rfl, Nat.le_of_ble_eq_true rfl⟩) ⟨fun a U g mk q => by obtain ⟨q0, q1, qP, qK, qD⟩ := q; exact ⟨q0, q1, qP, va_K.moved (u := U) (U := U.calling g mk a) (Vm.Alike.refl U.vm) qK, qD⟩, va_recv hK hPc (ci := 0) (q0 := 0) rfl rfl, fun U hU hW => ⟨rfl, by rw [hU], by rw [hU]; exact hPc, va_K.moved hW.alike hK, hDc.weaken (fun _ _ _ _ => trivial)⟩⟩ rfl rfl hl.1 rfl (lv_room (Nat.le_of_ble_eq_true rfl)) dX8_restore_61 ⟨Nat.le_of_ble_eq_true rfl, Nat.le_of_ble_eq_true rfl⟩) hS (fun q _ h => hFc q h) hFc (fun u t H1 locs ht hvm hw hB hz1 hk1 hS => ?_)
            obtain ⟨hP1, hK1, hD1⟩ := hB
            rw [ht] at hP1
            try dsimp only at hw
            try dsimp only at hP1
            try dsimp only at hD1
            have hK := va_K.moved hvm.symm hK1
            obtain ⟨hP, hD⟩ := va_join (wr := [(h, .inr (3, [.ref fl, .ref e1, .ref e2, .int (nI k1), .int (nI k2), .ref pd, rv])), (e1, .inr (0, [.int (nI na), .long (lN Na), .int (nI Ra), .int (nI qa), .long (lN Sa), .int (nI ca)])), (pd, .inr (1, [.ref sg, .int (nI cnt), .int (nI rb), .int (nI sb)])), (sg, .inl (cI, 60, .inl (aN g)))]) (w1 := wFF fl nb Nb Rb qb Sb cb e2 nb Nb Rb qb Sb cb) hP hD [1, 3] [0, 2, 4, 5] rfl rfl (by decide) (by decide) hk1 hFc hP1 hD1
            have hP := hP.sub (ws' := wX h fl e1 e2 pd sg cI k1 k2 rv nb Nb Rb qb Sb cb na Na Ra qa Sa ca nb Nb Rb qb Sb cb cnt rb sb g) [0, 4, 1, 5, 2, 3] rfl
            have hD := hD.sub (ws' := wX h fl e1 e2 pd sg cI k1 k2 rv nb Nb Rb qb Sb cb na Na Ra qa Sa ca nb Nb Rb qb Sb cb cnt rb sb g) [0, 4, 1, 5, 2, 3] (by decide) rfl
            have hK := va_K.moved (Vm.Alike.refl Gs.vm) hK
            generalize H1 = H at hP hS ⊢
            refine lv_iconst (v := nI 1) gx gb dX8_restore_64 (by decide) ?_
            have e_n : nb = (if a = 0 ∧ k1 ≠ 0 then na else if a = 1 ∧ k2 ≠ 0 then nb else n) := by first | (rw [if_pos (by omega)]; done) | (rw [if_neg (by omega), if_pos (by omega)]; done) | (rw [if_neg (by omega), if_neg (by omega)])
            have e_N : Nb = (if a = 0 ∧ k1 ≠ 0 then Na else if a = 1 ∧ k2 ≠ 0 then Nb else N) := by first | (rw [if_pos (by omega)]; done) | (rw [if_neg (by omega), if_pos (by omega)]; done) | (rw [if_neg (by omega), if_neg (by omega)])
            have e_R : Rb = (if a = 0 ∧ k1 ≠ 0 then Ra else if a = 1 ∧ k2 ≠ 0 then Rb else R) := by first | (rw [if_pos (by omega)]; done) | (rw [if_neg (by omega), if_pos (by omega)]; done) | (rw [if_neg (by omega), if_neg (by omega)])
            have e_q : qb = (if a = 0 ∧ k1 ≠ 0 then qa else if a = 1 ∧ k2 ≠ 0 then qb else q) := by first | (rw [if_pos (by omega)]; done) | (rw [if_neg (by omega), if_pos (by omega)]; done) | (rw [if_neg (by omega), if_neg (by omega)])
            have e_S : Sb = (if a = 0 ∧ k1 ≠ 0 then Sa else if a = 1 ∧ k2 ≠ 0 then Sb else S) := by first | (rw [if_pos (by omega)]; done) | (rw [if_neg (by omega), if_pos (by omega)]; done) | (rw [if_neg (by omega), if_neg (by omega)])
            have e_c : cb = (if a = 0 ∧ k1 ≠ 0 then ca else if a = 1 ∧ k2 ≠ 0 then cb else c) := by first | (rw [if_pos (by omega)]; done) | (rw [if_neg (by omega), if_pos (by omega)]; done) | (rw [if_neg (by omega), if_neg (by omega)])
            have hP : va_P D vwCl (wX h fl e1 e2 pd sg cI k1 k2 rv (if a = 0 ∧ k1 ≠ 0 then na else if a = 1 ∧ k2 ≠ 0 then nb else n) (if a = 0 ∧ k1 ≠ 0 then Na else if a = 1 ∧ k2 ≠ 0 then Nb else N) (if a = 0 ∧ k1 ≠ 0 then Ra else if a = 1 ∧ k2 ≠ 0 then Rb else R) (if a = 0 ∧ k1 ≠ 0 then qa else if a = 1 ∧ k2 ≠ 0 then qb else q) (if a = 0 ∧ k1 ≠ 0 then Sa else if a = 1 ∧ k2 ≠ 0 then Sb else S) (if a = 0 ∧ k1 ≠ 0 then ca else if a = 1 ∧ k2 ≠ 0 then cb else c) na Na Ra qa Sa ca nb Nb Rb qb Sb cb cnt rb sb g) H := by rw [← e_n, ← e_N, ← e_R, ← e_q, ← e_S, ← e_c]; exact hP
            have hD : va_D A (wX h fl e1 e2 pd sg cI k1 k2 rv (if a = 0 ∧ k1 ≠ 0 then na else if a = 1 ∧ k2 ≠ 0 then nb else n) (if a = 0 ∧ k1 ≠ 0 then Na else if a = 1 ∧ k2 ≠ 0 then Nb else N) (if a = 0 ∧ k1 ≠ 0 then Ra else if a = 1 ∧ k2 ≠ 0 then Rb else R) (if a = 0 ∧ k1 ≠ 0 then qa else if a = 1 ∧ k2 ≠ 0 then qb else q) (if a = 0 ∧ k1 ≠ 0 then Sa else if a = 1 ∧ k2 ≠ 0 then Sb else S) (if a = 0 ∧ k1 ≠ 0 then ca else if a = 1 ∧ k2 ≠ 0 then cb else c) na Na Ra qa Sa ca nb Nb Rb qb Sb cb cnt rb sb g) := by rw [← e_n, ← e_N, ← e_R, ← e_q, ← e_S, ← e_c]; exact hD
            exact W.iret (v := nI 1) gx gb gr (fun t ht hW => ⟨⟨nI 1, (), rfl, (by first | (dsimp only; done) | ((try dsimp only); rw [if_pos (by omega), if_pos (by omega)]; rfl)), by rw [ht]; exact hP, va_K.moved hW.alike hK, hD⟩, hS.F ht⟩) hS.2.2 dX8_restore_65
          · skip
            rw [z0_eq (by omega) (by omega)] at c36
            refine lv_aload_n gx gb dX8_restore_39 rfl (lv_at hl 1 rfl) ?_
            refine va_get (D := D) (ci := 3) (v := .ref fl) (C := RX8) (T := TX8) (N := 7) gx gb gts i8 gown hK hP 0 rfl rfl 0 (by decide) (gts (.fieldLink RX8 12 "SwanSums" "flock" "LSwanSums$Flock;") (by decide +kernel)) (fun _ h9 => h9) rfl dX8_restore_40 ?_
            refine lv_aload_n gx gb dX8_restore_43 rfl (lv_at hl 1 rfl) ?_
            refine va_get (D := D) (ci := 3) (v := .ref e1) (C := RX8) (T := TX8) (N := 7) gx gb gts i8 gown hK hP 0 rfl rfl 1 (by decide) (gts (.fieldLink RX8 16 "SwanSums" "firstImage" "LSwanSums$Flock;") (by decide +kernel)) (fun _ h9 => h9) rfl dX8_restore_44 ?_
            have hPc := hP.sub (ws' := wFF fl n N R q S c e1 na Na Ra qa Sa ca) [1, 2] rfl
            have hDc := hD.sub (ws' := wFF fl n N R q S c e1 na Na Ra qa Sa ca) [1, 2] (by decide) rfl
            have hFc := va_free (wc := wFF fl n N R q S c e1 na Na Ra qa Sa ca) hD hS hA [1, 2] rfl
            refine va_callv (va_runV (As := [.ref e1]) (rest := []) ⟨gx, gb, gml, gown, gts⟩ (kX1_become Gl D cI cJ cZ fl n N R q S c e1 na Na Ra qa Sa ca _  ) (cwV 1 gts gX8_restore_X1_become rfl rfl rfl (by decide +kernel) ⟨Nat.le_of_ble_eq_true rfl, Nat.le_of_ble_eq_true rfl⟩) ⟨fun a U g mk q => by obtain ⟨q0, q1, qP, qK, qD⟩ := q; exact ⟨q0, q1, qP, va_K.moved (u := U) (U := U.calling g mk a) (Vm.Alike.refl U.vm) qK, qD⟩, va_recv hK hPc (ci := 0) (q0 := 0) rfl rfl, fun U hU hW => ⟨rfl, by rw [hU], by rw [hU]; exact hPc, va_K.moved hW.alike hK, hDc.weaken (fun _ _ _ _ => trivial)⟩⟩ rfl rfl hl.1 rfl (lv_room (Nat.le_of_ble_eq_true rfl)) dX8_restore_47 ⟨Nat.le_of_ble_eq_true rfl, Nat.le_of_ble_eq_true rfl⟩) hS (fun q _ h => hFc q h) hFc (fun u t H1 locs ht hvm hw hB hz1 hk1 hS => ?_)
            obtain ⟨hP1, hK1, hD1⟩ := hB
            rw [ht] at hP1
            try dsimp only at hw
            try dsimp only at hP1
            try dsimp only at hD1
            have hK := va_K.moved hvm.symm hK1
            obtain ⟨hP, hD⟩ := va_join (wr := [(h, .inr (3, [.ref fl, .ref e1, .ref e2, .int (nI k1), .int (nI k2), .ref pd, rv])), (e2, .inr (0, [.int (nI nb), .long (lN Nb), .int (nI Rb), .int (nI qb), .long (lN Sb), .int (nI cb)])), (pd, .inr (1, [.ref sg, .int (nI cnt), .int (nI rb), .int (nI sb)])), (sg, .inl (cI, 60, .inl (aN g)))]) (w1 := wFF fl na Na Ra qa Sa ca e1 na Na Ra qa Sa ca) hP hD [1, 2] [0, 3, 4, 5] rfl rfl (by decide) (by decide) hk1 hFc hP1 hD1
            have hP := hP.sub (ws' := wX h fl e1 e2 pd sg cI k1 k2 rv na Na Ra qa Sa ca na Na Ra qa Sa ca nb Nb Rb qb Sb cb cnt rb sb g) [0, 4, 5, 1, 2, 3] rfl
            have hD := hD.sub (ws' := wX h fl e1 e2 pd sg cI k1 k2 rv na Na Ra qa Sa ca na Na Ra qa Sa ca nb Nb Rb qb Sb cb cnt rb sb g) [0, 4, 5, 1, 2, 3] (by decide) rfl
            have hK := va_K.moved (Vm.Alike.refl Gs.vm) hK
            generalize H1 = H at hP hS ⊢
            refine lv_goto (tgt := 64) gx gb dX8_restore_50 (by decide) ?_
            refine lv_iconst (v := nI 1) gx gb dX8_restore_64 (by decide) ?_
            have e_n : na = (if a = 0 ∧ k1 ≠ 0 then na else if a = 1 ∧ k2 ≠ 0 then nb else n) := by first | (rw [if_pos (by omega)]; done) | (rw [if_neg (by omega), if_pos (by omega)]; done) | (rw [if_neg (by omega), if_neg (by omega)])
            have e_N : Na = (if a = 0 ∧ k1 ≠ 0 then Na else if a = 1 ∧ k2 ≠ 0 then Nb else N) := by first | (rw [if_pos (by omega)]; done) | (rw [if_neg (by omega), if_pos (by omega)]; done) | (rw [if_neg (by omega), if_neg (by omega)])
            have e_R : Ra = (if a = 0 ∧ k1 ≠ 0 then Ra else if a = 1 ∧ k2 ≠ 0 then Rb else R) := by first | (rw [if_pos (by omega)]; done) | (rw [if_neg (by omega), if_pos (by omega)]; done) | (rw [if_neg (by omega), if_neg (by omega)])
            have e_q : qa = (if a = 0 ∧ k1 ≠ 0 then qa else if a = 1 ∧ k2 ≠ 0 then qb else q) := by first | (rw [if_pos (by omega)]; done) | (rw [if_neg (by omega), if_pos (by omega)]; done) | (rw [if_neg (by omega), if_neg (by omega)])
            have e_S : Sa = (if a = 0 ∧ k1 ≠ 0 then Sa else if a = 1 ∧ k2 ≠ 0 then Sb else S) := by first | (rw [if_pos (by omega)]; done) | (rw [if_neg (by omega), if_pos (by omega)]; done) | (rw [if_neg (by omega), if_neg (by omega)])
            have e_c : ca = (if a = 0 ∧ k1 ≠ 0 then ca else if a = 1 ∧ k2 ≠ 0 then cb else c) := by first | (rw [if_pos (by omega)]; done) | (rw [if_neg (by omega), if_pos (by omega)]; done) | (rw [if_neg (by omega), if_neg (by omega)])
            have hP : va_P D vwCl (wX h fl e1 e2 pd sg cI k1 k2 rv (if a = 0 ∧ k1 ≠ 0 then na else if a = 1 ∧ k2 ≠ 0 then nb else n) (if a = 0 ∧ k1 ≠ 0 then Na else if a = 1 ∧ k2 ≠ 0 then Nb else N) (if a = 0 ∧ k1 ≠ 0 then Ra else if a = 1 ∧ k2 ≠ 0 then Rb else R) (if a = 0 ∧ k1 ≠ 0 then qa else if a = 1 ∧ k2 ≠ 0 then qb else q) (if a = 0 ∧ k1 ≠ 0 then Sa else if a = 1 ∧ k2 ≠ 0 then Sb else S) (if a = 0 ∧ k1 ≠ 0 then ca else if a = 1 ∧ k2 ≠ 0 then cb else c) na Na Ra qa Sa ca nb Nb Rb qb Sb cb cnt rb sb g) H := by rw [← e_n, ← e_N, ← e_R, ← e_q, ← e_S, ← e_c]; exact hP
            have hD : va_D A (wX h fl e1 e2 pd sg cI k1 k2 rv (if a = 0 ∧ k1 ≠ 0 then na else if a = 1 ∧ k2 ≠ 0 then nb else n) (if a = 0 ∧ k1 ≠ 0 then Na else if a = 1 ∧ k2 ≠ 0 then Nb else N) (if a = 0 ∧ k1 ≠ 0 then Ra else if a = 1 ∧ k2 ≠ 0 then Rb else R) (if a = 0 ∧ k1 ≠ 0 then qa else if a = 1 ∧ k2 ≠ 0 then qb else q) (if a = 0 ∧ k1 ≠ 0 then Sa else if a = 1 ∧ k2 ≠ 0 then Sb else S) (if a = 0 ∧ k1 ≠ 0 then ca else if a = 1 ∧ k2 ≠ 0 then cb else c) na Na Ra qa Sa ca nb Nb Rb qb Sb cb cnt rb sb g) := by rw [← e_n, ← e_N, ← e_R, ← e_q, ← e_S, ← e_c]; exact hD
            exact W.iret (v := nI 1) gx gb gr (fun t ht hW => ⟨⟨nI 1, (), rfl, (by first | (dsimp only; done) | ((try dsimp only); rw [if_pos (by omega), if_pos (by omega)]; rfl)), by rw [ht]; exact hP, va_K.moved hW.alike hK, hD⟩, hS.F ht⟩) hS.2.2 dX8_restore_65
        · skip
          rw [n0_eq (by omega)] at c29
          refine lv_bipush (v := zI (-3)) gx gb dX8_restore_32 (by decide) ?_
          have e_n : n = (if a = 0 ∧ k1 ≠ 0 then na else if a = 1 ∧ k2 ≠ 0 then nb else n) := by first | (rw [if_pos (by omega)]; done) | (rw [if_neg (by omega), if_pos (by omega)]; done) | (rw [if_neg (by omega), if_neg (by omega)])
          have e_N : N = (if a = 0 ∧ k1 ≠ 0 then Na else if a = 1 ∧ k2 ≠ 0 then Nb else N) := by first | (rw [if_pos (by omega)]; done) | (rw [if_neg (by omega), if_pos (by omega)]; done) | (rw [if_neg (by omega), if_neg (by omega)])
          have e_R : R = (if a = 0 ∧ k1 ≠ 0 then Ra else if a = 1 ∧ k2 ≠ 0 then Rb else R) := by first | (rw [if_pos (by omega)]; done) | (rw [if_neg (by omega), if_pos (by omega)]; done) | (rw [if_neg (by omega), if_neg (by omega)])
          have e_q : q = (if a = 0 ∧ k1 ≠ 0 then qa else if a = 1 ∧ k2 ≠ 0 then qb else q) := by first | (rw [if_pos (by omega)]; done) | (rw [if_neg (by omega), if_pos (by omega)]; done) | (rw [if_neg (by omega), if_neg (by omega)])
          have e_S : S = (if a = 0 ∧ k1 ≠ 0 then Sa else if a = 1 ∧ k2 ≠ 0 then Sb else S) := by first | (rw [if_pos (by omega)]; done) | (rw [if_neg (by omega), if_pos (by omega)]; done) | (rw [if_neg (by omega), if_neg (by omega)])
          have e_c : c = (if a = 0 ∧ k1 ≠ 0 then ca else if a = 1 ∧ k2 ≠ 0 then cb else c) := by first | (rw [if_pos (by omega)]; done) | (rw [if_neg (by omega), if_pos (by omega)]; done) | (rw [if_neg (by omega), if_neg (by omega)])
          have hP : va_P D vwCl (wX h fl e1 e2 pd sg cI k1 k2 rv (if a = 0 ∧ k1 ≠ 0 then na else if a = 1 ∧ k2 ≠ 0 then nb else n) (if a = 0 ∧ k1 ≠ 0 then Na else if a = 1 ∧ k2 ≠ 0 then Nb else N) (if a = 0 ∧ k1 ≠ 0 then Ra else if a = 1 ∧ k2 ≠ 0 then Rb else R) (if a = 0 ∧ k1 ≠ 0 then qa else if a = 1 ∧ k2 ≠ 0 then qb else q) (if a = 0 ∧ k1 ≠ 0 then Sa else if a = 1 ∧ k2 ≠ 0 then Sb else S) (if a = 0 ∧ k1 ≠ 0 then ca else if a = 1 ∧ k2 ≠ 0 then cb else c) na Na Ra qa Sa ca nb Nb Rb qb Sb cb cnt rb sb g) Gs.heap := by rw [← e_n, ← e_N, ← e_R, ← e_q, ← e_S, ← e_c]; exact hP
          have hD : va_D A (wX h fl e1 e2 pd sg cI k1 k2 rv (if a = 0 ∧ k1 ≠ 0 then na else if a = 1 ∧ k2 ≠ 0 then nb else n) (if a = 0 ∧ k1 ≠ 0 then Na else if a = 1 ∧ k2 ≠ 0 then Nb else N) (if a = 0 ∧ k1 ≠ 0 then Ra else if a = 1 ∧ k2 ≠ 0 then Rb else R) (if a = 0 ∧ k1 ≠ 0 then qa else if a = 1 ∧ k2 ≠ 0 then qb else q) (if a = 0 ∧ k1 ≠ 0 then Sa else if a = 1 ∧ k2 ≠ 0 then Sb else S) (if a = 0 ∧ k1 ≠ 0 then ca else if a = 1 ∧ k2 ≠ 0 then cb else c) na Na Ra qa Sa ca nb Nb Rb qb Sb cb cnt rb sb g) := by rw [← e_n, ← e_N, ← e_R, ← e_q, ← e_S, ← e_c]; exact hD
          exact W.iret (v := zI (-3)) gx gb gr (fun t ht hW => ⟨⟨zI (-3), (), rfl, (by first | (dsimp only; done) | ((try dsimp only); rw [if_pos (by omega), if_neg (by omega)])), by rw [ht]; exact hP, va_K.moved hW.alike hK, hD⟩, hS.F ht⟩) hS.2.2 dX8_restore_34
    · skip
      rw [zn_le (by omega) (by omega) (by omega)] at c6
      refine lv_bipush (v := zI (-2)) gx gb dX8_restore_9 (by decide) ?_
      have e_n : n = (if a = 0 ∧ k1 ≠ 0 then na else if a = 1 ∧ k2 ≠ 0 then nb else n) := by first | (rw [if_pos (by omega)]; done) | (rw [if_neg (by omega), if_pos (by omega)]; done) | (rw [if_neg (by omega), if_neg (by omega)])
      have e_N : N = (if a = 0 ∧ k1 ≠ 0 then Na else if a = 1 ∧ k2 ≠ 0 then Nb else N) := by first | (rw [if_pos (by omega)]; done) | (rw [if_neg (by omega), if_pos (by omega)]; done) | (rw [if_neg (by omega), if_neg (by omega)])
      have e_R : R = (if a = 0 ∧ k1 ≠ 0 then Ra else if a = 1 ∧ k2 ≠ 0 then Rb else R) := by first | (rw [if_pos (by omega)]; done) | (rw [if_neg (by omega), if_pos (by omega)]; done) | (rw [if_neg (by omega), if_neg (by omega)])
      have e_q : q = (if a = 0 ∧ k1 ≠ 0 then qa else if a = 1 ∧ k2 ≠ 0 then qb else q) := by first | (rw [if_pos (by omega)]; done) | (rw [if_neg (by omega), if_pos (by omega)]; done) | (rw [if_neg (by omega), if_neg (by omega)])
      have e_S : S = (if a = 0 ∧ k1 ≠ 0 then Sa else if a = 1 ∧ k2 ≠ 0 then Sb else S) := by first | (rw [if_pos (by omega)]; done) | (rw [if_neg (by omega), if_pos (by omega)]; done) | (rw [if_neg (by omega), if_neg (by omega)])
      have e_c : c = (if a = 0 ∧ k1 ≠ 0 then ca else if a = 1 ∧ k2 ≠ 0 then cb else c) := by first | (rw [if_pos (by omega)]; done) | (rw [if_neg (by omega), if_pos (by omega)]; done) | (rw [if_neg (by omega), if_neg (by omega)])
      have hP : va_P D vwCl (wX h fl e1 e2 pd sg cI k1 k2 rv (if a = 0 ∧ k1 ≠ 0 then na else if a = 1 ∧ k2 ≠ 0 then nb else n) (if a = 0 ∧ k1 ≠ 0 then Na else if a = 1 ∧ k2 ≠ 0 then Nb else N) (if a = 0 ∧ k1 ≠ 0 then Ra else if a = 1 ∧ k2 ≠ 0 then Rb else R) (if a = 0 ∧ k1 ≠ 0 then qa else if a = 1 ∧ k2 ≠ 0 then qb else q) (if a = 0 ∧ k1 ≠ 0 then Sa else if a = 1 ∧ k2 ≠ 0 then Sb else S) (if a = 0 ∧ k1 ≠ 0 then ca else if a = 1 ∧ k2 ≠ 0 then cb else c) na Na Ra qa Sa ca nb Nb Rb qb Sb cb cnt rb sb g) Gs.heap := by rw [← e_n, ← e_N, ← e_R, ← e_q, ← e_S, ← e_c]; exact hP
      have hD : va_D A (wX h fl e1 e2 pd sg cI k1 k2 rv (if a = 0 ∧ k1 ≠ 0 then na else if a = 1 ∧ k2 ≠ 0 then nb else n) (if a = 0 ∧ k1 ≠ 0 then Na else if a = 1 ∧ k2 ≠ 0 then Nb else N) (if a = 0 ∧ k1 ≠ 0 then Ra else if a = 1 ∧ k2 ≠ 0 then Rb else R) (if a = 0 ∧ k1 ≠ 0 then qa else if a = 1 ∧ k2 ≠ 0 then qb else q) (if a = 0 ∧ k1 ≠ 0 then Sa else if a = 1 ∧ k2 ≠ 0 then Sb else S) (if a = 0 ∧ k1 ≠ 0 then ca else if a = 1 ∧ k2 ≠ 0 then cb else c) na Na Ra qa Sa ca nb Nb Rb qb Sb cb cnt rb sb g) := by rw [← e_n, ← e_N, ← e_R, ← e_q, ← e_S, ← e_c]; exact hD
      exact W.iret (v := zI (-2)) gx gb gr (fun t ht hW => ⟨⟨zI (-2), (), rfl, (by first | (dsimp only; done) | ((try dsimp only); rw [if_neg (by omega)])), by rw [ht]; exact hP, va_K.moved hW.alike hK, hD⟩, hS.F ht⟩) hS.2.2 dX8_restore_11

