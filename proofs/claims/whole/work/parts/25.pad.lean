abbrev wF (fl : Nat) (n : Nat) (N : Nat) (R : Nat) (q : Nat) (S : Nat) (c : Nat) : va_W := [(fl, .inr (0, [.int (nI n), .long (lN N), .int (nI R), .int (nI q), .long (lN S), .int (nI c)]))]
abbrev wFF (fl : Nat) (n : Nat) (N : Nat) (R : Nat) (q : Nat) (S : Nat) (c : Nat) (f2 : Nat) (nx : Nat) (Nx : Nat) (Rx : Nat) (qx : Nat) (Sx : Nat) (cx : Nat) : va_W := [(fl, .inr (0, [.int (nI n), .long (lN N), .int (nI R), .int (nI q), .long (lN S), .int (nI c)])), (f2, .inr (0, [.int (nI nx), .long (lN Nx), .int (nI Rx), .int (nI qx), .long (lN Sx), .int (nI cx)]))]
abbrev wP (pd : Nat) (sg : Nat) (cI : ClassId) (cnt : Nat) (rb : Nat) (sb : Nat) (g : Nat → Nat) : va_W := [(pd, .inr (1, [.ref sg, .int (nI cnt), .int (nI rb), .int (nI sb)])), (sg, .inl (cI, 60, .inl (aN g)))]
set_option maxHeartbeats 4000000 in
set_option maxRecDepth 100000 in
theorem kX1_dropSights (Gl : Launch) (D : va_G) (cI cJ cZ : ClassId) (fl : Nat) (n : Nat) (N : Nat) (R : Nat) (q : Nat) (S : Nat) (c : Nat) (sz : Nat) : Met Gl yX1_dropSights wsX1_dropSights ({ frames := 0, cells := 0, slots := 0, locals := 0 } : Room) (va_Pc [.ref fl] (fun U => U.heap.size = sz ∧ va_P D vwCl (wF fl n N R q S c) U.heap ∧ va_K D vwCl [(cI, .int), (cJ, .long), (cZ, .boolean)] U ∧ va_D (fun _ => True) (wF fl n N R q S c))) (va_Qv (fun u : Unit => True) (fun (u : Unit) t => va_P D vwCl (wF fl n N R q 0 0) t.heap ∧ va_K D vwCl [(cI, .int), (cJ, .long), (cZ, .boolean)] t ∧ va_D (va_A (wF fl n N R q S c) sz) (wF fl n N R q 0 0)) (va_A (wF fl n N R q S c) sz)) 0 0 (va_A (wF fl n N R q S c) sz) := by
  refine Met.ofW (cc := cX1_dropSights) (maxL := 1) (ret := none) (by decide +kernel) rfl ?_
  intro Gp Ge Gs Gm Ga Gw Gt Gc G1 Bd gml gv
  obtain ⟨rfl, hsz, hP, hK, hD0⟩ := gv
  have gx := Bd.exec
  have gb := Bd.bytes
  have gr := Bd.returns
  have gts := atoms_spec (ws := wsX1_dropSights) Bd.pre
  have gown : Gs.vm.findClass RX1 = some Gm.cls := findClass_of_methodNamed Bd.named
  have glk := Bd.notSynchronized
  subst hsz
  have hD := hD0.self (sz := Gs.heap.size)
  generalize hAe : va_A (wF fl n N R q S c) Gs.heap.size = A at hD ⊢
  have hA : ∀ q : Nat, Gs.heap.size ≤ q → A q := fun q h => by rw [← hAe]; exact Or.inr h
  have hS : va_S A Gs.heap Gs.heap [] := va_S.rf
  have hP : va_P D vwCl (wF fl n N R q S c) Gs.heap := hP
  have hl := lv_entry ([.ref fl]) (n := 1) (Nat.le_of_ble_eq_true rfl)
  rw [lg_entry_eq]
  generalize (lg_sl ([.ref fl]) ++ List.replicate (1 - (lg_sl ([.ref fl])).length) Slot.unset).toArray = ls at hl ⊢
  have hl : lv_has ls 1 [(0, .ref fl)] := hl
  have i1 : ∀ w ∈ wsX10, w ∈ wsX1_dropSights := by decide +kernel
  refine lv_aload_n gx gb dX1_dropSights_0 rfl (lv_at hl 0 rfl) ?_
  refine lv_lconst (v := lN 0) gx gb dX1_dropSights_1 rfl ?_
  refine va_put (D := D) (ci := 0) (v := .long (lN 0)) (ty := .long) (C := RX1) (T := TX1) (N := 6) gx gb gts i1 tyX1 tyX1_ok nmX1 gown hK hP hD hS 0 rfl rfl 4 (by decide) (gts (.fieldLink RX1 23 "SwanSums$Flock" "sights" "J") (by decide +kernel)) (fun _ h9 => h9) rfl (by decide +kernel) rfl rfl (Nat.le_of_ble_eq_true rfl) dX1_dropSights_2 (fun H locs hP hD hS => ?_)
  have hP : va_P D vwCl (wF fl n N R q 0 c) H := hP
  have hD : va_D A (wF fl n N R q 0 c) := hD
  refine lv_aload_n gx gb dX1_dropSights_5 rfl (lv_at hl 0 rfl) ?_
  refine lv_iconst (v := nI 0) gx gb dX1_dropSights_6 (by decide) ?_
  refine va_put (D := D) (ci := 0) (v := .int (nI 0)) (ty := .int) (C := RX1) (T := TX1) (N := 6) gx gb gts i1 tyX1 tyX1_ok nmX1 gown hK hP hD hS 0 rfl rfl 5 (by decide) (gts (.fieldLink RX1 26 "SwanSums$Flock" "sightCount" "I") (by decide +kernel)) (fun _ h9 => h9) rfl (by decide +kernel) rfl rfl (Nat.le_of_ble_eq_true rfl) dX1_dropSights_7 (fun H locs hP hD hS => ?_)
  have hP : va_P D vwCl (wF fl n N R q 0 0) H := hP
  have hD : va_D A (wF fl n N R q 0 0) := hD
  exact W.vret gx gb gr (fun t ht hW => ⟨⟨(), rfl, (by first | (dsimp only; done) | ((try dsimp only); trivial)), by rw [ht]; exact hP, va_K.moved hW.alike hK, hD⟩, hS.F ht⟩) hS.2.2 dX1_dropSights_10

set_option maxHeartbeats 4000000 in
set_option maxRecDepth 100000 in
theorem kX1_begin (Gl : Launch) (D : va_G) (cI cJ cZ : ClassId) (fl : Nat) (n : Nat) (N : Nat) (R : Nat) (q : Nat) (S : Nat) (c : Nat) (sz : Nat) (k : Nat) (hk : k ≤ 7) : Met Gl yX1_begin wsX1_begin ({ frames := 1, cells := 0, slots := 0, locals := 23 } : Room) (va_Pc [.ref fl, .int (nI k)] (fun U => U.heap.size = sz ∧ va_P D vwCl (wF fl n N R q S c) U.heap ∧ va_K D vwCl [(cI, .int), (cJ, .long), (cZ, .boolean)] U ∧ va_D (fun _ => True) (wF fl n N R q S c))) (va_Qv (fun u : Unit => True) (fun (u : Unit) t => va_P D vwCl (wF fl k (pk 256 (fun i => i + 1) k) (pk 8 (fun i => i) k) k 0 0) t.heap ∧ va_K D vwCl [(cI, .int), (cJ, .long), (cZ, .boolean)] t ∧ va_D (va_A (wF fl n N R q S c) sz) (wF fl k (pk 256 (fun i => i + 1) k) (pk 8 (fun i => i) k) k 0 0)) (va_A (wF fl n N R q S c) sz)) 0 0 (va_A (wF fl n N R q S c) sz) := by
  refine Met.ofW (cc := cX1_begin) (maxL := 2) (ret := none) (by decide +kernel) rfl ?_
  intro Gp Ge Gs Gm Ga Gw Gt Gc G1 Bd gml gv
  obtain ⟨rfl, hsz, hP, hK, hD0⟩ := gv
  have gx := Bd.exec
  have gb := Bd.bytes
  have gr := Bd.returns
  have gts := atoms_spec (ws := wsX1_begin) Bd.pre
  have gown : Gs.vm.findClass RX1 = some Gm.cls := findClass_of_methodNamed Bd.named
  have glk := Bd.notSynchronized
  subst hsz
  have hD := hD0.self (sz := Gs.heap.size)
  generalize hAe : va_A (wF fl n N R q S c) Gs.heap.size = A at hD ⊢
  have hA : ∀ q : Nat, Gs.heap.size ≤ q → A q := fun q h => by rw [← hAe]; exact Or.inr h
  have hS : va_S A Gs.heap Gs.heap [] := va_S.rf
  have hP : va_P D vwCl (wF fl n N R q S c) Gs.heap := hP
  have hl := lv_entry ([.ref fl, .int (nI k)]) (n := 2) (Nat.le_of_ble_eq_true rfl)
  rw [lg_entry_eq]
  generalize (lg_sl ([.ref fl, .int (nI k)]) ++ List.replicate (2 - (lg_sl ([.ref fl, .int (nI k)])).length) Slot.unset).toArray = ls at hl ⊢
  have hl : lv_has ls 2 [(0, .ref fl), (1, .int (nI k))] := hl
  have i1 : ∀ w ∈ wsX10, w ∈ wsX1_begin := by decide +kernel
  refine lv_aload_n gx gb dX1_begin_0 rfl (lv_at hl 0 rfl) ?_
  refine lv_iload_n gx gb dX1_begin_1 rfl (lv_at hl 1 rfl) ?_
  refine va_put (D := D) (ci := 0) (v := .int (nI k)) (ty := .int) (C := RX1) (T := TX1) (N := 6) gx gb gts i1 tyX1 tyX1_ok nmX1 gown hK hP hD hS 0 rfl rfl 0 (by decide) (gts (.fieldLink RX1 7 "SwanSums$Flock" "all" "I") (by decide +kernel)) (fun _ h9 => h9) rfl (by decide +kernel) rfl rfl (Nat.le_of_ble_eq_true rfl) dX1_begin_2 (fun H locs hP hD hS => ?_)
  have hP : va_P D vwCl (wF fl k N R q S c) H := hP
  have hD : va_D A (wF fl k N R q S c) := hD
  refine lv_aload_n gx gb dX1_begin_5 rfl (lv_at hl 0 rfl) ?_
  refine lv_iload_n gx gb dX1_begin_6 rfl (lv_at hl 1 rfl) ?_
  refine vp_callSl (W.runS (As := [.int (nI k)]) (rest := [.ref fl]) ⟨gx, gb, gml, gown, gts⟩ (kX3_first Gl k (by omega)) (va_cwS 1 gts gX1_begin_X3_first rfl rfl rfl (by decide +kernel) ⟨Nat.le_of_ble_eq_true rfl, Nat.le_of_ble_eq_true rfl⟩) ⟨fun _ _ _ _ h => h, fun U hU hW => ⟨rfl, trivial⟩⟩ rfl rfl hl.1 rfl (lv_room (Nat.le_of_ble_eq_true rfl)) dX1_begin_7 ⟨Nat.le_of_ble_eq_true rfl, Nat.le_of_ble_eq_true rfl⟩) (fun r hw => ?_)
  have hr7 := hw
  subst hr7
  refine va_put (D := D) (ci := 0) (v := .long (lN (pk 256 (fun i => i + 1) k))) (ty := .long) (C := RX1) (T := TX1) (N := 6) gx gb gts i1 tyX1 tyX1_ok nmX1 gown hK hP hD hS 0 rfl rfl 1 (by decide) (gts (.fieldLink RX1 13 "SwanSums$Flock" "numbers" "J") (by decide +kernel)) (fun _ h9 => h9) rfl (by decide +kernel) rfl rfl (Nat.le_of_ble_eq_true rfl) dX1_begin_10 (fun H locs hP hD hS => ?_)
  have hP : va_P D vwCl (wF fl k (pk 256 (fun i => i + 1) k) R q S c) H := hP
  have hD : va_D A (wF fl k (pk 256 (fun i => i + 1) k) R q S c) := hD
  refine lv_aload_n gx gb dX1_begin_13 rfl (lv_at hl 0 rfl) ?_
  refine lv_iload_n gx gb dX1_begin_14 rfl (lv_at hl 1 rfl) ?_
  refine vp_callSi (W.runS (As := [.int (nI k)]) (rest := [.ref fl]) ⟨gx, gb, gml, gown, gts⟩ (kX6_first Gl k (by omega)) (va_cwS 1 gts gX1_begin_X6_first rfl rfl rfl (by decide +kernel) ⟨Nat.le_of_ble_eq_true rfl, Nat.le_of_ble_eq_true rfl⟩) ⟨fun _ _ _ _ h => h, fun U hU hW => ⟨rfl, trivial⟩⟩ rfl rfl hl.1 rfl (lv_room (Nat.le_of_ble_eq_true rfl)) dX1_begin_15 ⟨Nat.le_of_ble_eq_true rfl, Nat.le_of_ble_eq_true rfl⟩) (fun r hw => ?_)
  have hr15 := hw
  subst hr15
  refine va_put (D := D) (ci := 0) (v := .int (nI (pk 8 (fun i => i) k))) (ty := .int) (C := RX1) (T := TX1) (N := 6) gx gb gts i1 tyX1 tyX1_ok nmX1 gown hK hP hD hS 0 rfl rfl 2 (by decide) (gts (.fieldLink RX1 17 "SwanSums$Flock" "row" "I") (by decide +kernel)) (fun _ h9 => h9) rfl (by decide +kernel) rfl rfl (Nat.le_of_ble_eq_true rfl) dX1_begin_18 (fun H locs hP hD hS => ?_)
  have hP : va_P D vwCl (wF fl k (pk 256 (fun i => i + 1) k) (pk 8 (fun i => i) k) q S c) H := hP
  have hD : va_D A (wF fl k (pk 256 (fun i => i + 1) k) (pk 8 (fun i => i) k) q S c) := hD
  refine lv_aload_n gx gb dX1_begin_21 rfl (lv_at hl 0 rfl) ?_
  refine lv_iload_n gx gb dX1_begin_22 rfl (lv_at hl 1 rfl) ?_
  refine va_put (D := D) (ci := 0) (v := .int (nI k)) (ty := .int) (C := RX1) (T := TX1) (N := 6) gx gb gts i1 tyX1 tyX1_ok nmX1 gown hK hP hD hS 0 rfl rfl 3 (by decide) (gts (.fieldLink RX1 20 "SwanSums$Flock" "size" "I") (by decide +kernel)) (fun _ h9 => h9) rfl (by decide +kernel) rfl rfl (Nat.le_of_ble_eq_true rfl) dX1_begin_23 (fun H locs hP hD hS => ?_)
  have hP : va_P D vwCl (wF fl k (pk 256 (fun i => i + 1) k) (pk 8 (fun i => i) k) k S c) H := hP
  have hD : va_D A (wF fl k (pk 256 (fun i => i + 1) k) (pk 8 (fun i => i) k) k S c) := hD
  refine lv_aload_n gx gb dX1_begin_26 rfl (lv_at hl 0 rfl) ?_
  have hPc := hP.sub (ws' := wF fl k (pk 256 (fun i => i + 1) k) (pk 8 (fun i => i) k) k S c) [0] rfl
  have hDc := hD.sub (ws' := wF fl k (pk 256 (fun i => i + 1) k) (pk 8 (fun i => i) k) k S c) [0] (by decide) rfl
  have hFc := va_free (wc := wF fl k (pk 256 (fun i => i + 1) k) (pk 8 (fun i => i) k) k S c) hD hS hA [0] rfl
  refine va_callv (va_runV (As := []) (rest := []) ⟨gx, gb, gml, gown, gts⟩ (kX1_dropSights Gl D cI cJ cZ fl k (pk 256 (fun i => i + 1) k) (pk 8 (fun i => i) k) k S c _  ) (cwV 0 gts gX1_begin_X1_dropSights rfl rfl rfl (by decide +kernel) ⟨Nat.le_of_ble_eq_true rfl, Nat.le_of_ble_eq_true rfl⟩) ⟨fun a U g mk q => by obtain ⟨q0, q1, qP, qK, qD⟩ := q; exact ⟨q0, q1, qP, va_K.moved (u := U) (U := U.calling g mk a) (Vm.Alike.refl U.vm) qK, qD⟩, va_recv hK hPc (ci := 0) (q0 := 0) rfl rfl, fun U hU hW => ⟨rfl, by rw [hU], by rw [hU]; exact hPc, va_K.moved hW.alike hK, hDc.weaken (fun _ _ _ _ => trivial)⟩⟩ rfl rfl hl.1 rfl (lv_room (Nat.le_of_ble_eq_true rfl)) dX1_begin_27 ⟨Nat.le_of_ble_eq_true rfl, Nat.le_of_ble_eq_true rfl⟩) hS (fun q _ h => hFc q h) hFc (fun u t H1 locs ht hvm hw hB hz1 hk1 hS => ?_)
  obtain ⟨hP1, hK1, hD1⟩ := hB
  rw [ht] at hP1
  try dsimp only at hw
  try dsimp only at hP1
  try dsimp only at hD1
  have hK := va_K.moved hvm.symm hK1
  obtain ⟨hP, hD⟩ := va_join (wr := []) (w1 := wF fl k (pk 256 (fun i => i + 1) k) (pk 8 (fun i => i) k) k 0 0) hP hD [0] [] rfl rfl (by decide) (by decide) hk1 hFc hP1 hD1
  have hP := hP.sub (ws' := wF fl k (pk 256 (fun i => i + 1) k) (pk 8 (fun i => i) k) k 0 0) [0] rfl
  have hD := hD.sub (ws' := wF fl k (pk 256 (fun i => i + 1) k) (pk 8 (fun i => i) k) k 0 0) [0] (by decide) rfl
  have hK := va_K.moved (Vm.Alike.refl Gs.vm) hK
  generalize H1 = H at hP hS ⊢
  exact W.vret gx gb gr (fun t ht hW => ⟨⟨(), rfl, (by first | (dsimp only; done) | ((try dsimp only); trivial)), by rw [ht]; exact hP, va_K.moved hW.alike hK, hD⟩, hS.F ht⟩) hS.2.2 dX1_begin_30

set_option maxHeartbeats 4000000 in
set_option maxRecDepth 100000 in
theorem kX1_become (Gl : Launch) (D : va_G) (cI cJ cZ : ClassId) (fl : Nat) (n : Nat) (N : Nat) (R : Nat) (q : Nat) (S : Nat) (c : Nat) (f2 : Nat) (nx : Nat) (Nx : Nat) (Rx : Nat) (qx : Nat) (Sx : Nat) (cx : Nat) (sz : Nat) : Met Gl yX1_become wsX1_become ({ frames := 0, cells := 0, slots := 0, locals := 0 } : Room) (va_Pc [.ref fl, .ref f2] (fun U => U.heap.size = sz ∧ va_P D vwCl (wFF fl n N R q S c f2 nx Nx Rx qx Sx cx) U.heap ∧ va_K D vwCl [(cI, .int), (cJ, .long), (cZ, .boolean)] U ∧ va_D (fun _ => True) (wFF fl n N R q S c f2 nx Nx Rx qx Sx cx))) (va_Qv (fun u : Unit => True) (fun (u : Unit) t => va_P D vwCl (wFF fl nx Nx Rx qx Sx cx f2 nx Nx Rx qx Sx cx) t.heap ∧ va_K D vwCl [(cI, .int), (cJ, .long), (cZ, .boolean)] t ∧ va_D (va_A (wFF fl n N R q S c f2 nx Nx Rx qx Sx cx) sz) (wFF fl nx Nx Rx qx Sx cx f2 nx Nx Rx qx Sx cx)) (va_A (wFF fl n N R q S c f2 nx Nx Rx qx Sx cx) sz)) 0 0 (va_A (wFF fl n N R q S c f2 nx Nx Rx qx Sx cx) sz) := by
  refine Met.ofW (cc := cX1_become) (maxL := 2) (ret := none) (by decide +kernel) rfl ?_
  intro Gp Ge Gs Gm Ga Gw Gt Gc G1 Bd gml gv
  obtain ⟨rfl, hsz, hP, hK, hD0⟩ := gv
  have gx := Bd.exec
  have gb := Bd.bytes
  have gr := Bd.returns
  have gts := atoms_spec (ws := wsX1_become) Bd.pre
  have gown : Gs.vm.findClass RX1 = some Gm.cls := findClass_of_methodNamed Bd.named
  have glk := Bd.notSynchronized
  subst hsz
  have hD := hD0.self (sz := Gs.heap.size)
  generalize hAe : va_A (wFF fl n N R q S c f2 nx Nx Rx qx Sx cx) Gs.heap.size = A at hD ⊢
  have hA : ∀ q : Nat, Gs.heap.size ≤ q → A q := fun q h => by rw [← hAe]; exact Or.inr h
  have hS : va_S A Gs.heap Gs.heap [] := va_S.rf
  have hP : va_P D vwCl (wFF fl n N R q S c f2 nx Nx Rx qx Sx cx) Gs.heap := hP
  have hl := lv_entry ([.ref fl, .ref f2]) (n := 2) (Nat.le_of_ble_eq_true rfl)
  rw [lg_entry_eq]
  generalize (lg_sl ([.ref fl, .ref f2]) ++ List.replicate (2 - (lg_sl ([.ref fl, .ref f2])).length) Slot.unset).toArray = ls at hl ⊢
  have hl : lv_has ls 2 [(0, .ref fl), (1, .ref f2)] := hl
  have i1 : ∀ w ∈ wsX10, w ∈ wsX1_become := by decide +kernel
  refine lv_aload_n gx gb dX1_become_0 rfl (lv_at hl 1 rfl) ?_
  refine lv_ifnonnull (tgt := 5) gx gb dX1_become_1 (by decide) ?_
  refine lv_aload_n gx gb dX1_become_5 rfl (lv_at hl 0 rfl) ?_
  refine lv_aload_n gx gb dX1_become_6 rfl (lv_at hl 1 rfl) ?_
  refine va_get (D := D) (ci := 0) (v := .int (nI nx)) (C := RX1) (T := TX1) (N := 6) gx gb gts i1 gown hK hP 1 rfl rfl 0 (by decide) (gts (.fieldLink RX1 7 "SwanSums$Flock" "all" "I") (by decide +kernel)) (fun _ h9 => h9) rfl dX1_become_7 ?_
  refine va_put (D := D) (ci := 0) (v := .int (nI nx)) (ty := .int) (C := RX1) (T := TX1) (N := 6) gx gb gts i1 tyX1 tyX1_ok nmX1 gown hK hP hD hS 0 rfl rfl 0 (by decide) (gts (.fieldLink RX1 7 "SwanSums$Flock" "all" "I") (by decide +kernel)) (fun _ h9 => h9) rfl (by decide +kernel) rfl rfl (Nat.le_of_ble_eq_true rfl) dX1_become_10 (fun H locs hP hD hS => ?_)
  have hP : va_P D vwCl (wFF fl nx N R q S c f2 nx Nx Rx qx Sx cx) H := hP
  have hD : va_D A (wFF fl nx N R q S c f2 nx Nx Rx qx Sx cx) := hD
  refine lv_aload_n gx gb dX1_become_13 rfl (lv_at hl 0 rfl) ?_
  refine lv_aload_n gx gb dX1_become_14 rfl (lv_at hl 1 rfl) ?_
  refine va_get (D := D) (ci := 0) (v := .long (lN Nx)) (C := RX1) (T := TX1) (N := 6) gx gb gts i1 gown hK hP 1 rfl rfl 1 (by decide) (gts (.fieldLink RX1 13 "SwanSums$Flock" "numbers" "J") (by decide +kernel)) (fun _ h9 => h9) rfl dX1_become_15 ?_
  refine va_put (D := D) (ci := 0) (v := .long (lN Nx)) (ty := .long) (C := RX1) (T := TX1) (N := 6) gx gb gts i1 tyX1 tyX1_ok nmX1 gown hK hP hD hS 0 rfl rfl 1 (by decide) (gts (.fieldLink RX1 13 "SwanSums$Flock" "numbers" "J") (by decide +kernel)) (fun _ h9 => h9) rfl (by decide +kernel) rfl rfl (Nat.le_of_ble_eq_true rfl) dX1_become_18 (fun H locs hP hD hS => ?_)
  have hP : va_P D vwCl (wFF fl nx Nx R q S c f2 nx Nx Rx qx Sx cx) H := hP
  have hD : va_D A (wFF fl nx Nx R q S c f2 nx Nx Rx qx Sx cx) := hD
  refine lv_aload_n gx gb dX1_become_21 rfl (lv_at hl 0 rfl) ?_
  refine lv_aload_n gx gb dX1_become_22 rfl (lv_at hl 1 rfl) ?_
  refine va_get (D := D) (ci := 0) (v := .int (nI Rx)) (C := RX1) (T := TX1) (N := 6) gx gb gts i1 gown hK hP 1 rfl rfl 2 (by decide) (gts (.fieldLink RX1 17 "SwanSums$Flock" "row" "I") (by decide +kernel)) (fun _ h9 => h9) rfl dX1_become_23 ?_
  refine va_put (D := D) (ci := 0) (v := .int (nI Rx)) (ty := .int) (C := RX1) (T := TX1) (N := 6) gx gb gts i1 tyX1 tyX1_ok nmX1 gown hK hP hD hS 0 rfl rfl 2 (by decide) (gts (.fieldLink RX1 17 "SwanSums$Flock" "row" "I") (by decide +kernel)) (fun _ h9 => h9) rfl (by decide +kernel) rfl rfl (Nat.le_of_ble_eq_true rfl) dX1_become_26 (fun H locs hP hD hS => ?_)
  have hP : va_P D vwCl (wFF fl nx Nx Rx q S c f2 nx Nx Rx qx Sx cx) H := hP
  have hD : va_D A (wFF fl nx Nx Rx q S c f2 nx Nx Rx qx Sx cx) := hD
  refine lv_aload_n gx gb dX1_become_29 rfl (lv_at hl 0 rfl) ?_
  refine lv_aload_n gx gb dX1_become_30 rfl (lv_at hl 1 rfl) ?_
  refine va_get (D := D) (ci := 0) (v := .int (nI qx)) (C := RX1) (T := TX1) (N := 6) gx gb gts i1 gown hK hP 1 rfl rfl 3 (by decide) (gts (.fieldLink RX1 20 "SwanSums$Flock" "size" "I") (by decide +kernel)) (fun _ h9 => h9) rfl dX1_become_31 ?_
  refine va_put (D := D) (ci := 0) (v := .int (nI qx)) (ty := .int) (C := RX1) (T := TX1) (N := 6) gx gb gts i1 tyX1 tyX1_ok nmX1 gown hK hP hD hS 0 rfl rfl 3 (by decide) (gts (.fieldLink RX1 20 "SwanSums$Flock" "size" "I") (by decide +kernel)) (fun _ h9 => h9) rfl (by decide +kernel) rfl rfl (Nat.le_of_ble_eq_true rfl) dX1_become_34 (fun H locs hP hD hS => ?_)
  have hP : va_P D vwCl (wFF fl nx Nx Rx qx S c f2 nx Nx Rx qx Sx cx) H := hP
  have hD : va_D A (wFF fl nx Nx Rx qx S c f2 nx Nx Rx qx Sx cx) := hD
  refine lv_aload_n gx gb dX1_become_37 rfl (lv_at hl 0 rfl) ?_
  refine lv_aload_n gx gb dX1_become_38 rfl (lv_at hl 1 rfl) ?_
  refine va_get (D := D) (ci := 0) (v := .long (lN Sx)) (C := RX1) (T := TX1) (N := 6) gx gb gts i1 gown hK hP 1 rfl rfl 4 (by decide) (gts (.fieldLink RX1 23 "SwanSums$Flock" "sights" "J") (by decide +kernel)) (fun _ h9 => h9) rfl dX1_become_39 ?_
  refine va_put (D := D) (ci := 0) (v := .long (lN Sx)) (ty := .long) (C := RX1) (T := TX1) (N := 6) gx gb gts i1 tyX1 tyX1_ok nmX1 gown hK hP hD hS 0 rfl rfl 4 (by decide) (gts (.fieldLink RX1 23 "SwanSums$Flock" "sights" "J") (by decide +kernel)) (fun _ h9 => h9) rfl (by decide +kernel) rfl rfl (Nat.le_of_ble_eq_true rfl) dX1_become_42 (fun H locs hP hD hS => ?_)
  have hP : va_P D vwCl (wFF fl nx Nx Rx qx Sx c f2 nx Nx Rx qx Sx cx) H := hP
  have hD : va_D A (wFF fl nx Nx Rx qx Sx c f2 nx Nx Rx qx Sx cx) := hD
  refine lv_aload_n gx gb dX1_become_45 rfl (lv_at hl 0 rfl) ?_
  refine lv_aload_n gx gb dX1_become_46 rfl (lv_at hl 1 rfl) ?_
  refine va_get (D := D) (ci := 0) (v := .int (nI cx)) (C := RX1) (T := TX1) (N := 6) gx gb gts i1 gown hK hP 1 rfl rfl 5 (by decide) (gts (.fieldLink RX1 26 "SwanSums$Flock" "sightCount" "I") (by decide +kernel)) (fun _ h9 => h9) rfl dX1_become_47 ?_
  refine va_put (D := D) (ci := 0) (v := .int (nI cx)) (ty := .int) (C := RX1) (T := TX1) (N := 6) gx gb gts i1 tyX1 tyX1_ok nmX1 gown hK hP hD hS 0 rfl rfl 5 (by decide) (gts (.fieldLink RX1 26 "SwanSums$Flock" "sightCount" "I") (by decide +kernel)) (fun _ h9 => h9) rfl (by decide +kernel) rfl rfl (Nat.le_of_ble_eq_true rfl) dX1_become_50 (fun H locs hP hD hS => ?_)
  have hP : va_P D vwCl (wFF fl nx Nx Rx qx Sx cx f2 nx Nx Rx qx Sx cx) H := hP
  have hD : va_D A (wFF fl nx Nx Rx qx Sx cx f2 nx Nx Rx qx Sx cx) := hD
  exact W.vret gx gb gr (fun t ht hW => ⟨⟨(), rfl, (by first | (dsimp only; done) | ((try dsimp only); trivial)), by rw [ht]; exact hP, va_K.moved hW.alike hK, hD⟩, hS.F ht⟩) hS.2.2 dX1_become_53

set_option maxHeartbeats 4000000 in
set_option maxRecDepth 100000 in
theorem kX1_has (Gl : Launch) (D : va_G) (cI cJ cZ : ClassId) (fl : Nat) (n : Nat) (N : Nat) (R : Nat) (q : Nat) (S : Nat) (c : Nat) (s : Int) (hl : -2147483648 ≤ s) (hu : s < 2147483648) (hn : n ≤ 7) : Met Gl yX1_has wsX1_has ({ frames := 0, cells := 0, slots := 0, locals := 0 } : Room) (va_Pc [.ref fl, .int (zI s)] (fun U => va_P D vwCl (wF fl n N R q S c) U.heap ∧ va_K D vwCl [(cI, .int), (cJ, .long), (cZ, .boolean)] U)) (vp_Si (fun r : Int32 => r = bI (decide (0 ≤ s ∧ s < (n : Int))))) 0 0 (fun _ => False) := by
  refine Met.ofW (cc := cX1_has) (maxL := 2) (ret := (some .boolean)) (by decide +kernel) rfl ?_
  intro Gp Ge Gs Gm Ga Gw Gt Gc G1 Bd gml gv
  obtain ⟨rfl, hP, hK⟩ := gv
  have gx := Bd.exec
  have gb := Bd.bytes
  have gr := Bd.returns
  have gts := atoms_spec (ws := wsX1_has) Bd.pre
  have gown : Gs.vm.findClass RX1 = some Gm.cls := findClass_of_methodNamed Bd.named
  have glk := Bd.notSynchronized
  have hl := lv_entry ([.ref fl, .int (zI s)]) (n := 2) (Nat.le_of_ble_eq_true rfl)
  rw [lg_entry_eq]
  generalize (lg_sl ([.ref fl, .int (zI s)]) ++ List.replicate (2 - (lg_sl ([.ref fl, .int (zI s)])).length) Slot.unset).toArray = ls at hl ⊢
  have hl : lv_has ls 2 [(0, .ref fl), (1, .int (zI s))] := hl
  have i1 : ∀ w ∈ wsX10, w ∈ wsX1_has := by decide +kernel
  refine lv_iload_n gx gb dX1_has_0 rfl (lv_at hl 1 rfl) ?_
  refine lv_if_lt (tgt := 16) gx gb dX1_has_1 (by decide) (fun c1 => ?_) (fun c1 => ?_)
  · skip
    rw [z0_lt (by omega) (by omega)] at c1
    refine lv_iconst (v := nI 0) gx gb dX1_has_16 (by decide) ?_
    exact W.zret (v := nI 0) gx gb gr (by decide) (fun t ht hW => ⟨nI 0, rfl, (by first | (dsimp only; done) | ((try dsimp only); first | exact bI_t (decide_eq_true (by omega)) | exact bI_f (decide_eq_false (by omega)))), ht⟩) (fun q h => by cases h) dX1_has_17
  · skip
    rw [z0_lt (by omega) (by omega)] at c1
    refine lv_iload_n gx gb dX1_has_4 rfl (lv_at hl 1 rfl) ?_
    refine lv_aload_n gx gb dX1_has_5 rfl (lv_at hl 0 rfl) ?_
    refine va_get (D := D) (ci := 0) (v := .int (nI n)) (C := RX1) (T := TX1) (N := 6) gx gb gts i1 gown hK hP 0 rfl rfl 0 (by decide) (gts (.fieldLink RX1 7 "SwanSums$Flock" "all" "I") (by decide +kernel)) (fun _ h9 => h9) rfl dX1_has_6 ?_
    refine lv_icmp_ge (tgt := 16) gx gb dX1_has_9 (by decide) (fun c9 => ?_) (fun c9 => ?_)
    · skip
      rw [nz_le (by omega) (by omega) (by omega)] at c9
      refine lv_iconst (v := nI 0) gx gb dX1_has_16 (by decide) ?_
      exact W.zret (v := nI 0) gx gb gr (by decide) (fun t ht hW => ⟨nI 0, rfl, (by first | (dsimp only; done) | ((try dsimp only); first | exact bI_t (decide_eq_true (by omega)) | exact bI_f (decide_eq_false (by omega)))), ht⟩) (fun q h => by cases h) dX1_has_17
    · skip
      rw [nz_le (by omega) (by omega) (by omega)] at c9
      refine lv_iconst (v := nI 1) gx gb dX1_has_12 (by decide) ?_
      refine lv_goto (tgt := 17) gx gb dX1_has_13 (by decide) ?_
      exact W.zret (v := nI 1) gx gb gr (by decide) (fun t ht hW => ⟨nI 1, rfl, (by first | (dsimp only; done) | ((try dsimp only); first | exact bI_t (decide_eq_true (by omega)) | exact bI_f (decide_eq_false (by omega)))), ht⟩) (fun q h => by cases h) dX1_has_17

set_option maxHeartbeats 4000000 in
set_option maxRecDepth 100000 in
theorem kX1_placeOf (Gl : Launch) (D : va_G) (cI cJ cZ : ClassId) (fl : Nat) (n : Nat) (N : Nat) (R : Nat) (q : Nat) (S : Nat) (c : Nat) (s : Int) (hl : -2147483648 ≤ s) (hu : s < 2147483648) (hR : R < 2147483648) (hq : q ≤ 7) : Met Gl yX1_placeOf wsX1_placeOf ({ frames := 1, cells := 0, slots := 0, locals := 21 } : Room) (va_Pc [.ref fl, .int (zI s)] (fun U => va_P D vwCl (wF fl n N R q S c) U.heap ∧ va_K D vwCl [(cI, .int), (cJ, .long), (cZ, .boolean)] U)) (vp_Si (fun r : Int32 => ∃ z : Int, r = zI z ∧ plcS R q s z)) 0 0 (fun _ => False) := by
  refine Met.ofW (cc := cX1_placeOf) (maxL := 3) (ret := (some .int)) (by decide +kernel) rfl ?_
  intro Gp Ge Gs Gm Ga Gw Gt Gc G1 Bd gml gv
  obtain ⟨rfl, hP, hK⟩ := gv
  have gx := Bd.exec
  have gb := Bd.bytes
  have gr := Bd.returns
  have gts := atoms_spec (ws := wsX1_placeOf) Bd.pre
  have gown : Gs.vm.findClass RX1 = some Gm.cls := findClass_of_methodNamed Bd.named
  have glk := Bd.notSynchronized
  have hl := lv_entry ([.ref fl, .int (zI s)]) (n := 3) (Nat.le_of_ble_eq_true rfl)
  rw [lg_entry_eq]
  generalize (lg_sl ([.ref fl, .int (zI s)]) ++ List.replicate (3 - (lg_sl ([.ref fl, .int (zI s)])).length) Slot.unset).toArray = ls at hl ⊢
  have hl : lv_has ls 3 [(0, .ref fl), (1, .int (zI s))] := hl
  have i1 : ∀ w ∈ wsX10, w ∈ wsX1_placeOf := by decide +kernel
  refine lv_iconst (v := nI 0) gx gb dX1_placeOf_0 (by decide) ?_
  refine lv_istore_n (lv' := [(2, .int (nI 0)), (0, .ref fl), (1, .int (zI s))]) gx gb dX1_placeOf_1 rfl hl (by decide) rfl (fun ls hl => ?_)
  have L2 : ∀ fu : Nat, ∀ (i : Nat) (hi : i ≤ q) (h0 : ∀ x, x < i → (dg 8 R x : Int) ≠ s), (q - i) < fu → ∀ ls : Array Slot, lv_has ls 3 [(2, .int (nI i)), (0, .ref fl), (1, .int (zI s))] → W Gp Gl Ge (headSpec wsX1_placeOf ({ frames := 1, cells := 0, slots := 0, locals := 21 } : Room)).room Gs Gm ([.ref fl, .int (zI s)] : List Value).toArray Gw Gt Gc Gs.heap [] 0 0 (MQ Gw (vp_Si (fun r : Int32 => ∃ z : Int, r = zI z ∧ plcS R q s z)) ([.ref fl, .int (zI s)] : List Value).toArray Gs 0 0 (fun _ => False)) (F0 Gm 2 ls []) := by
    intro fu
    induction fu with
    | zero => intro i hi h0 hfu; exact absurd hfu (Nat.not_lt_zero _)
    | succ fu ih2 =>
      intro i hi h0 hfu ls hl
      refine lv_iload_n gx gb dX1_placeOf_2 rfl (lv_at hl 0 rfl) ?_
      refine lv_aload_n gx gb dX1_placeOf_3 rfl (lv_at hl 1 rfl) ?_
      refine va_get (D := D) (ci := 0) (v := .int (nI q)) (C := RX1) (T := TX1) (N := 6) gx gb gts i1 gown hK hP 0 rfl rfl 3 (by decide) (gts (.fieldLink RX1 20 "SwanSums$Flock" "size" "I") (by decide +kernel)) (fun _ h9 => h9) rfl dX1_placeOf_4 ?_
      refine lv_icmp_ge (tgt := 30) gx gb dX1_placeOf_7 (by decide) (fun c7 => ?_) (fun c7 => ?_)
      · skip
        rw [nI_leI (by omega) (by omega)] at c7
        refine lv_iconst (v := zI (-1)) gx gb dX1_placeOf_30 (by decide) ?_
        exact W.iret (v := zI (-1)) gx gb gr (fun t ht hW => ⟨zI (-1), rfl, (by first | (dsimp only; done) | ((try dsimp only); exact ⟨-1, rfl, Or.inr ⟨rfl, fun x hx => h0 x (by omega)⟩⟩)), ht⟩) (fun q h => by cases h) dX1_placeOf_31
      · skip
        rw [nI_leI (by omega) (by omega)] at c7
        refine lv_aload_n gx gb dX1_placeOf_10 rfl (lv_at hl 1 rfl) ?_
        refine va_get (D := D) (ci := 0) (v := .int (nI R)) (C := RX1) (T := TX1) (N := 6) gx gb gts i1 gown hK hP 0 rfl rfl 2 (by decide) (gts (.fieldLink RX1 17 "SwanSums$Flock" "row" "I") (by decide +kernel)) (fun _ h9 => h9) rfl dX1_placeOf_11 ?_
        refine lv_iload_n gx gb dX1_placeOf_14 rfl (lv_at hl 0 rfl) ?_
        refine vp_callSi (W.runS (As := [.int (nI R), .int (nI i)]) (rest := []) ⟨gx, gb, gml, gown, gts⟩ (kX6_who Gl R i (by omega) (by omega)) (va_cwS 2 gts gX1_placeOf_X6_who rfl rfl rfl (by decide +kernel) ⟨Nat.le_of_ble_eq_true rfl, Nat.le_of_ble_eq_true rfl⟩) ⟨fun _ _ _ _ h => h, fun U hU hW => ⟨rfl, trivial⟩⟩ rfl rfl hl.1 rfl (lv_room (Nat.le_of_ble_eq_true rfl)) dX1_placeOf_15 ⟨Nat.le_of_ble_eq_true rfl, Nat.le_of_ble_eq_true rfl⟩) (fun r hw => ?_)
        have hr15 := hw
        subst hr15
        have hd8 := dg_lt (b := 8) (by omega) R i
        refine lv_iload_n gx gb dX1_placeOf_18 rfl (lv_at hl 2 rfl) ?_
        refine lv_icmp_ne (tgt := 24) gx gb dX1_placeOf_19 (by decide) (fun c19 => ?_) (fun c19 => ?_)
        · skip
          rw [nz_eq (by omega) (by omega) (by omega)] at c19
          refine lv_iinc (v := nI (i + 1)) (lv' := [(2, .int (nI (i + 1))), (0, .ref fl), (1, .int (zI s))]) gx gb dX1_placeOf_24 hl (k := 0) rfl (nI_add i 1) (by decide) rfl (fun ls hl => ?_)
          refine lv_goto (tgt := 2) gx gb dX1_placeOf_27 (by decide) ?_
          exact ih2 (i + 1) (by omega) (by intro x hx; exact (Nat.lt_or_ge x i).elim (fun h => h0 x h) (fun h => by obtain rfl : x = i := (by omega); exact c19)) (by omega) ls (lv_sub hl [0, 1, 2] rfl)
        · skip
          rw [nz_eq (by omega) (by omega) (by omega)] at c19
          refine lv_iload_n gx gb dX1_placeOf_22 rfl (lv_at hl 0 rfl) ?_
          exact W.iret (v := nI i) gx gb gr (fun t ht hW => ⟨nI i, rfl, (by first | (dsimp only; done) | ((try dsimp only); exact ⟨(i : Int), (zI_nat i).symm, Or.inl ⟨i, rfl, by omega, c19, h0⟩⟩)), ht⟩) (fun q h => by cases h) dX1_placeOf_23
  exact L2 _ 0 (by omega) (by intro x hx; exact absurd hx (Nat.not_lt_zero _)) (Nat.lt_succ_self _) ls (lv_sub hl [0, 1, 2] rfl)

set_option maxHeartbeats 4000000 in
set_option maxRecDepth 100000 in
theorem kX1_line (Gl : Launch) (D : va_G) (cI cJ cZ : ClassId) (fl : Nat) (n : Nat) (N : Nat) (R : Nat) (q : Nat) (S : Nat) (c : Nat) (hN : N < 9223372036854775808) (hR : R < 2147483648) (hq : q ≤ 7) : Met Gl yX1_line wsX1_line ({ frames := 2, cells := 0, slots := 0, locals := 48 } : Room) (va_Pc [.ref fl] (fun U => va_P D vwCl (wF fl n N R q S c) U.heap ∧ va_K D vwCl [(cI, .int), (cJ, .long), (cZ, .boolean)] U)) (vp_Sl (fun r : Int64 => r = lN (pk 256 (fun p => dg 256 N (dg 8 R p)) q))) 0 0 (fun _ => False) := by
  refine Met.ofW (cc := cX1_line) (maxL := 1) (ret := (some .long)) (by decide +kernel) rfl ?_
  intro Gp Ge Gs Gm Ga Gw Gt Gc G1 Bd gml gv
  obtain ⟨rfl, hP, hK⟩ := gv
  have gx := Bd.exec
  have gb := Bd.bytes
  have gr := Bd.returns
  have gts := atoms_spec (ws := wsX1_line) Bd.pre
  have gown : Gs.vm.findClass RX1 = some Gm.cls := findClass_of_methodNamed Bd.named
  have glk := Bd.notSynchronized
  have hl := lv_entry ([.ref fl]) (n := 1) (Nat.le_of_ble_eq_true rfl)
  rw [lg_entry_eq]
  generalize (lg_sl ([.ref fl]) ++ List.replicate (1 - (lg_sl ([.ref fl])).length) Slot.unset).toArray = ls at hl ⊢
  have hl : lv_has ls 1 [(0, .ref fl)] := hl
  have i1 : ∀ w ∈ wsX10, w ∈ wsX1_line := by decide +kernel
  refine lv_aload_n gx gb dX1_line_0 rfl (lv_at hl 0 rfl) ?_
  refine va_get (D := D) (ci := 0) (v := .long (lN N)) (C := RX1) (T := TX1) (N := 6) gx gb gts i1 gown hK hP 0 rfl rfl 1 (by decide) (gts (.fieldLink RX1 13 "SwanSums$Flock" "numbers" "J") (by decide +kernel)) (fun _ h9 => h9) rfl dX1_line_1 ?_
  refine lv_aload_n gx gb dX1_line_4 rfl (lv_at hl 0 rfl) ?_
  refine va_get (D := D) (ci := 0) (v := .int (nI R)) (C := RX1) (T := TX1) (N := 6) gx gb gts i1 gown hK hP 0 rfl rfl 2 (by decide) (gts (.fieldLink RX1 17 "SwanSums$Flock" "row" "I") (by decide +kernel)) (fun _ h9 => h9) rfl dX1_line_5 ?_
  refine lv_aload_n gx gb dX1_line_8 rfl (lv_at hl 0 rfl) ?_
  refine va_get (D := D) (ci := 0) (v := .int (nI q)) (C := RX1) (T := TX1) (N := 6) gx gb gts i1 gown hK hP 0 rfl rfl 3 (by decide) (gts (.fieldLink RX1 20 "SwanSums$Flock" "size" "I") (by decide +kernel)) (fun _ h9 => h9) rfl dX1_line_9 ?_
  refine vp_callSl (W.runS (As := [.long (lN N), .int (nI R), .int (nI q)]) (rest := []) ⟨gx, gb, gml, gown, gts⟩ (kX3_inOrder Gl N R q (by omega) (by omega) (by omega)) (va_cwS 3 gts gX1_line_X3_inOrder rfl rfl rfl (by decide +kernel) ⟨Nat.le_of_ble_eq_true rfl, Nat.le_of_ble_eq_true rfl⟩) ⟨fun _ _ _ _ h => h, fun U hU hW => ⟨rfl, trivial⟩⟩ rfl rfl hl.1 rfl (lv_room (Nat.le_of_ble_eq_true rfl)) dX1_line_12 ⟨Nat.le_of_ble_eq_true rfl, Nat.le_of_ble_eq_true rfl⟩) (fun r hw => ?_)
  have hr12 := hw
  subst hr12
  exact W.lret (v := lN (pk 256 (fun p => dg 256 N (dg 8 R p)) q)) gx gb gr (fun t ht hW => ⟨lN (pk 256 (fun p => dg 256 N (dg 8 R p)) q), rfl, (by first | (dsimp only; done) | ((try dsimp only); rfl)), ht⟩) (fun q h => by cases h) dX1_line_15

set_option maxHeartbeats 4000000 in
set_option maxRecDepth 100000 in
theorem kX1_addSight (Gl : Launch) (D : va_G) (cI cJ cZ : ClassId) (fl : Nat) (n : Nat) (N : Nat) (R : Nat) (q : Nat) (S : Nat) (c : Nat) (sz : Nat) (s p : Nat) (hc : c ≤ 6) (hs : s ≤ 7) (hp : p ≤ 7) : Met Gl yX1_addSight wsX1_addSight ({ frames := 0, cells := 0, slots := 0, locals := 0 } : Room) (va_Pc [.ref fl, .int (nI s), .int (nI p)] (fun U => U.heap.size = sz ∧ va_P D vwCl (wF fl n N R q S c) U.heap ∧ va_K D vwCl [(cI, .int), (cJ, .long), (cZ, .boolean)] U ∧ va_D (fun _ => True) (wF fl n N R q S c))) (va_Qi (fun (r : Int32) (u : Unit) => r = bI (decide (c < 6))) (fun (u : Unit) t => va_P D vwCl (wF fl n N R q (if c < 6 then S ||| (8 * s + p) * 2 ^ (6 * c) else S) (if c < 6 then c + 1 else c)) t.heap ∧ va_K D vwCl [(cI, .int), (cJ, .long), (cZ, .boolean)] t ∧ va_D (va_A (wF fl n N R q S c) sz) (wF fl n N R q (if c < 6 then S ||| (8 * s + p) * 2 ^ (6 * c) else S) (if c < 6 then c + 1 else c))) (va_A (wF fl n N R q S c) sz)) 0 0 (va_A (wF fl n N R q S c) sz) := by
  refine Met.ofW (cc := cX1_addSight) (maxL := 3) (ret := (some .boolean)) (by decide +kernel) rfl ?_
  intro Gp Ge Gs Gm Ga Gw Gt Gc G1 Bd gml gv
  obtain ⟨rfl, hsz, hP, hK, hD0⟩ := gv
  have gx := Bd.exec
  have gb := Bd.bytes
  have gr := Bd.returns
  have gts := atoms_spec (ws := wsX1_addSight) Bd.pre
  have gown : Gs.vm.findClass RX1 = some Gm.cls := findClass_of_methodNamed Bd.named
  have glk := Bd.notSynchronized
  subst hsz
  have hD := hD0.self (sz := Gs.heap.size)
  generalize hAe : va_A (wF fl n N R q S c) Gs.heap.size = A at hD ⊢
  have hA : ∀ q : Nat, Gs.heap.size ≤ q → A q := fun q h => by rw [← hAe]; exact Or.inr h
  have hS : va_S A Gs.heap Gs.heap [] := va_S.rf
  have hP : va_P D vwCl (wF fl n N R q S c) Gs.heap := hP
  have hl := lv_entry ([.ref fl, .int (nI s), .int (nI p)]) (n := 3) (Nat.le_of_ble_eq_true rfl)
  rw [lg_entry_eq]
  generalize (lg_sl ([.ref fl, .int (nI s), .int (nI p)]) ++ List.replicate (3 - (lg_sl ([.ref fl, .int (nI s), .int (nI p)])).length) Slot.unset).toArray = ls at hl ⊢
  have hl : lv_has ls 3 [(0, .ref fl), (1, .int (nI s)), (2, .int (nI p))] := hl
  have i1 : ∀ w ∈ wsX10, w ∈ wsX1_addSight := by decide +kernel
  refine lv_aload_n gx gb dX1_addSight_0 rfl (lv_at hl 0 rfl) ?_
  refine va_get (D := D) (ci := 0) (v := .int (nI c)) (C := RX1) (T := TX1) (N := 6) gx gb gts i1 gown hK hP 0 rfl rfl 5 (by decide) (gts (.fieldLink RX1 26 "SwanSums$Flock" "sightCount" "I") (by decide +kernel)) (fun _ h9 => h9) rfl dX1_addSight_1 ?_
  refine lv_bipush (v := nI 6) gx gb dX1_addSight_4 (by decide) ?_
  refine lv_icmp_lt (tgt := 11) gx gb dX1_addSight_6 (by decide) (fun c6 => ?_) (fun c6 => ?_)
  · skip
    rw [nI_ltI (by omega) (by omega)] at c6
    refine lv_aload_n gx gb dX1_addSight_11 rfl (lv_at hl 0 rfl) ?_
    refine lv_dup gx gb dX1_addSight_12 rfl ?_
    refine va_get (D := D) (ci := 0) (v := .long (lN S)) (C := RX1) (T := TX1) (N := 6) gx gb gts i1 gown hK hP 0 rfl rfl 4 (by decide) (gts (.fieldLink RX1 23 "SwanSums$Flock" "sights" "J") (by decide +kernel)) (fun _ h9 => h9) rfl dX1_addSight_13 ?_
    refine lv_bipush (v := nI 8) gx gb dX1_addSight_16 (by decide) ?_
    refine lv_iload_n gx gb dX1_addSight_18 rfl (lv_at hl 1 rfl) ?_
    refine lv_imul gx gb dX1_addSight_19 ?_
    refine lv_evi (nI (8 * s)) (pk_mul 8 s) ?_
    refine lv_iload_n gx gb dX1_addSight_20 rfl (lv_at hl 2 rfl) ?_
    refine lv_iadd gx gb dX1_addSight_21 ?_
    refine lv_evi (nI ((8 * s) + p)) (nI_add (8 * s) p) ?_
    refine lv_i2l (v := lN ((8 * s) + p)) gx gb dX1_addSight_22 (nI_l (by omega)) ?_
    refine lv_bipush (v := nI 6) gx gb dX1_addSight_23 (by decide) ?_
    refine lv_aload_n gx gb dX1_addSight_25 rfl (lv_at hl 0 rfl) ?_
    refine va_get (D := D) (ci := 0) (v := .int (nI c)) (C := RX1) (T := TX1) (N := 6) gx gb gts i1 gown hK hP 0 rfl rfl 5 (by decide) (gts (.fieldLink RX1 26 "SwanSums$Flock" "sightCount" "I") (by decide +kernel)) (fun _ h9 => h9) rfl dX1_addSight_26 ?_
    refine lv_imul gx gb dX1_addSight_29 ?_
    refine lv_evi (nI (6 * c)) (pk_mul 6 c) ?_
    refine lv_lshl (v := lN (((8 * s) + p) * 2 ^ (6 * c))) gx gb dX1_addSight_30 (e_shlL _ (by omega)) ?_
    refine lv_lor gx gb dX1_addSight_31 ?_
    refine lv_evl (lN (S ||| (((8 * s) + p) * 2 ^ (6 * c)))) (e_orL S (((8 * s) + p) * 2 ^ (6 * c))) ?_
    refine va_put (D := D) (ci := 0) (v := .long (lN (S ||| (((8 * s) + p) * 2 ^ (6 * c))))) (ty := .long) (C := RX1) (T := TX1) (N := 6) gx gb gts i1 tyX1 tyX1_ok nmX1 gown hK hP hD hS 0 rfl rfl 4 (by decide) (gts (.fieldLink RX1 23 "SwanSums$Flock" "sights" "J") (by decide +kernel)) (fun _ h9 => h9) rfl (by decide +kernel) rfl rfl (Nat.le_of_ble_eq_true rfl) dX1_addSight_32 (fun H locs hP hD hS => ?_)
    have hP : va_P D vwCl (wF fl n N R q (S ||| (((8 * s) + p) * 2 ^ (6 * c))) c) H := hP
    have hD : va_D A (wF fl n N R q (S ||| (((8 * s) + p) * 2 ^ (6 * c))) c) := hD
    refine lv_aload_n gx gb dX1_addSight_35 rfl (lv_at hl 0 rfl) ?_
    refine lv_dup gx gb dX1_addSight_36 rfl ?_
    refine va_get (D := D) (ci := 0) (v := .int (nI c)) (C := RX1) (T := TX1) (N := 6) gx gb gts i1 gown hK hP 0 rfl rfl 5 (by decide) (gts (.fieldLink RX1 26 "SwanSums$Flock" "sightCount" "I") (by decide +kernel)) (fun _ h9 => h9) rfl dX1_addSight_37 ?_
    refine lv_iconst (v := nI 1) gx gb dX1_addSight_40 (by decide) ?_
    refine lv_iadd gx gb dX1_addSight_41 ?_
    refine lv_evi (nI (c + 1)) (nI_add c 1) ?_
    refine va_put (D := D) (ci := 0) (v := .int (nI (c + 1))) (ty := .int) (C := RX1) (T := TX1) (N := 6) gx gb gts i1 tyX1 tyX1_ok nmX1 gown hK hP hD hS 0 rfl rfl 5 (by decide) (gts (.fieldLink RX1 26 "SwanSums$Flock" "sightCount" "I") (by decide +kernel)) (fun _ h9 => h9) rfl (by decide +kernel) rfl rfl (Nat.le_of_ble_eq_true rfl) dX1_addSight_42 (fun H locs hP hD hS => ?_)
    have hP : va_P D vwCl (wF fl n N R q (S ||| (((8 * s) + p) * 2 ^ (6 * c))) (c + 1)) H := hP
    have hD : va_D A (wF fl n N R q (S ||| (((8 * s) + p) * 2 ^ (6 * c))) (c + 1)) := hD
    refine lv_iconst (v := nI 1) gx gb dX1_addSight_45 (by decide) ?_
    have e_S : (S ||| (((8 * s) + p) * 2 ^ (6 * c))) = (if c < 6 then S ||| (8 * s + p) * 2 ^ (6 * c) else S) := by first | rw [if_pos c6] | rw [if_neg c6]
    have e_c : (c + 1) = (if c < 6 then c + 1 else c) := by first | rw [if_pos c6] | rw [if_neg c6]
    have hP : va_P D vwCl (wF fl n N R q (if c < 6 then S ||| (8 * s + p) * 2 ^ (6 * c) else S) (if c < 6 then c + 1 else c)) H := by rw [← e_S, ← e_c]; exact hP
    have hD : va_D A (wF fl n N R q (if c < 6 then S ||| (8 * s + p) * 2 ^ (6 * c) else S) (if c < 6 then c + 1 else c)) := by rw [← e_S, ← e_c]; exact hD
    exact W.zret (v := nI 1) gx gb gr (by decide) (fun t ht hW => ⟨⟨nI 1, (), rfl, (by first | (dsimp only; done) | ((try dsimp only); exact bI_t (decide_eq_true c6))), by rw [ht]; exact hP, va_K.moved hW.alike hK, hD⟩, hS.F ht⟩) hS.2.2 dX1_addSight_46
  · skip
    rw [nI_ltI (by omega) (by omega)] at c6
    refine lv_iconst (v := nI 0) gx gb dX1_addSight_9 (by decide) ?_
    have e_S : S = (if c < 6 then S ||| (8 * s + p) * 2 ^ (6 * c) else S) := by first | rw [if_pos c6] | rw [if_neg c6]
    have e_c : c = (if c < 6 then c + 1 else c) := by first | rw [if_pos c6] | rw [if_neg c6]
    have hP : va_P D vwCl (wF fl n N R q (if c < 6 then S ||| (8 * s + p) * 2 ^ (6 * c) else S) (if c < 6 then c + 1 else c)) Gs.heap := by rw [← e_S, ← e_c]; exact hP
    have hD : va_D A (wF fl n N R q (if c < 6 then S ||| (8 * s + p) * 2 ^ (6 * c) else S) (if c < 6 then c + 1 else c)) := by rw [← e_S, ← e_c]; exact hD
    exact W.zret (v := nI 0) gx gb gr (by decide) (fun t ht hW => ⟨⟨nI 0, (), rfl, (by first | (dsimp only; done) | ((try dsimp only); exact bI_f (decide_eq_false c6))), by rw [ht]; exact hP, va_K.moved hW.alike hK, hD⟩, hS.F ht⟩) hS.2.2 dX1_addSight_10

set_option maxHeartbeats 4000000 in
set_option maxRecDepth 100000 in
theorem kX1_sightsHold (Gl : Launch) (D : va_G) (cI cJ cZ : ClassId) (fl : Nat) (n : Nat) (N : Nat) (R : Nat) (q : Nat) (S : Nat) (c : Nat) (rb sb : Nat) (hS : S < 9223372036854775808) (hc : c ≤ 6) (hrb : rb < 2147483648) (hsb : sb ≤ 7) : Met Gl yX1_sightsHold wsX1_sightsHold ({ frames := 1, cells := 0, slots := 0, locals := 21 } : Room) (va_Pc [.ref fl, .int (nI rb), .int (nI sb)] (fun U => va_P D vwCl (wF fl n N R q S c) U.heap ∧ va_K D vwCl [(cI, .int), (cJ, .long), (cZ, .boolean)] U)) (vp_Si (fun r : Int32 => r = bI (decide (∀ k, k < c → dg 64 S k % 8 < sb ∧ dg 8 rb (dg 64 S k % 8) = dg 64 S k / 8)))) 0 0 (fun _ => False) := by
  refine Met.ofW (cc := cX1_sightsHold) (maxL := 6) (ret := (some .boolean)) (by decide +kernel) rfl ?_
  intro Gp Ge Gs Gm Ga Gw Gt Gc G1 Bd gml gv
  obtain ⟨rfl, hP, hK⟩ := gv
  have gx := Bd.exec
  have gb := Bd.bytes
  have gr := Bd.returns
  have gts := atoms_spec (ws := wsX1_sightsHold) Bd.pre
  have gown : Gs.vm.findClass RX1 = some Gm.cls := findClass_of_methodNamed Bd.named
  have glk := Bd.notSynchronized
  have hl := lv_entry ([.ref fl, .int (nI rb), .int (nI sb)]) (n := 6) (Nat.le_of_ble_eq_true rfl)
  rw [lg_entry_eq]
  generalize (lg_sl ([.ref fl, .int (nI rb), .int (nI sb)]) ++ List.replicate (6 - (lg_sl ([.ref fl, .int (nI rb), .int (nI sb)])).length) Slot.unset).toArray = ls at hl ⊢
  have hl : lv_has ls 6 [(0, .ref fl), (1, .int (nI rb)), (2, .int (nI sb))] := hl
  have i1 : ∀ w ∈ wsX10, w ∈ wsX1_sightsHold := by decide +kernel
  refine lv_iconst (v := nI 0) gx gb dX1_sightsHold_0 (by decide) ?_
  refine lv_istore_n (lv' := [(3, .int (nI 0)), (0, .ref fl), (1, .int (nI rb)), (2, .int (nI sb))]) gx gb dX1_sightsHold_1 rfl hl (by decide) rfl (fun ls hl => ?_)
  have L2 : ∀ fu : Nat, ∀ (i : Nat) (hi : i ≤ c) (h0 : ∀ k, k < i → dg 64 S k % 8 < sb ∧ dg 8 rb (dg 64 S k % 8) = dg 64 S k / 8), (c - i) < fu → ∀ ls : Array Slot, lv_has ls 6 [(3, .int (nI i)), (0, .ref fl), (1, .int (nI rb)), (2, .int (nI sb))] → W Gp Gl Ge (headSpec wsX1_sightsHold ({ frames := 1, cells := 0, slots := 0, locals := 21 } : Room)).room Gs Gm ([.ref fl, .int (nI rb), .int (nI sb)] : List Value).toArray Gw Gt Gc Gs.heap [] 0 0 (MQ Gw (vp_Si (fun r : Int32 => r = bI (decide (∀ k, k < c → dg 64 S k % 8 < sb ∧ dg 8 rb (dg 64 S k % 8) = dg 64 S k / 8)))) ([.ref fl, .int (nI rb), .int (nI sb)] : List Value).toArray Gs 0 0 (fun _ => False)) (F0 Gm 2 ls []) := by
    intro fu
    induction fu with
    | zero => intro i hi h0 hfu; exact absurd hfu (Nat.not_lt_zero _)
    | succ fu ih2 =>
      intro i hi h0 hfu ls hl
      refine lv_iload_n gx gb dX1_sightsHold_2 rfl (lv_at hl 0 rfl) ?_
      refine lv_aload_n gx gb dX1_sightsHold_3 rfl (lv_at hl 1 rfl) ?_
      refine va_get (D := D) (ci := 0) (v := .int (nI c)) (C := RX1) (T := TX1) (N := 6) gx gb gts i1 gown hK hP 0 rfl rfl 5 (by decide) (gts (.fieldLink RX1 26 "SwanSums$Flock" "sightCount" "I") (by decide +kernel)) (fun _ h9 => h9) rfl dX1_sightsHold_4 ?_
      refine lv_icmp_ge (tgt := 60) gx gb dX1_sightsHold_7 (by decide) (fun c7 => ?_) (fun c7 => ?_)
      · skip
        rw [nI_leI (by omega) (by omega)] at c7
        refine lv_iconst (v := nI 1) gx gb dX1_sightsHold_60 (by decide) ?_
        exact W.zret (v := nI 1) gx gb gr (by decide) (fun t ht hW => ⟨nI 1, rfl, (by first | (dsimp only; done) | ((try dsimp only); exact bI_t (decide_eq_true (fun k hk => h0 k (by omega))))), ht⟩) (fun q h => by cases h) dX1_sightsHold_61
      · skip
        rw [nI_leI (by omega) (by omega)] at c7
        refine lv_aload_n gx gb dX1_sightsHold_10 rfl (lv_at hl 1 rfl) ?_
        refine va_get (D := D) (ci := 0) (v := .long (lN S)) (C := RX1) (T := TX1) (N := 6) gx gb gts i1 gown hK hP 0 rfl rfl 4 (by decide) (gts (.fieldLink RX1 23 "SwanSums$Flock" "sights" "J") (by decide +kernel)) (fun _ h9 => h9) rfl dX1_sightsHold_11 ?_
        refine lv_bipush (v := nI 6) gx gb dX1_sightsHold_14 (by decide) ?_
        refine lv_iload_n gx gb dX1_sightsHold_16 rfl (lv_at hl 0 rfl) ?_
        refine lv_imul gx gb dX1_sightsHold_17 ?_
        refine lv_evi (nI (6 * i)) (pk_mul 6 i) ?_
        refine lv_lshr (v := lN (S / 2 ^ (6 * i))) gx gb dX1_sightsHold_18 (e_shrL (by omega) (by omega)) ?_
        refine lv_l2i (v := nI (S / 2 ^ (6 * i))) gx gb dX1_sightsHold_19 (lN_i _) ?_
        refine lv_bipush (v := nI 63) gx gb dX1_sightsHold_20 (by decide) ?_
        refine lv_iand gx gb dX1_sightsHold_22 ?_
        refine lv_evi (nI ((S / 2 ^ (6 * i)) % 2 ^ 6)) (e_mask (S / 2 ^ (6 * i)) 6 rfl) ?_
        refine lv_evi (nI (dg 64 S i)) (congrArg nI (by rw [show (2 : Nat) ^ (6 * i) = 64 ^ i from by rw [Nat.pow_mul]]; rfl)) ?_
        have hd64 := dg_lt (b := 64) (by omega) S i
        refine lv_istore (lv' := [(4, .int (nI (dg 64 S i))), (3, .int (nI i)), (0, .ref fl), (1, .int (nI rb)), (2, .int (nI sb))]) gx gb dX1_sightsHold_23 hl (by decide) rfl (fun ls hl => ?_)
        refine lv_iload gx gb dX1_sightsHold_25 (lv_at hl 0 rfl) ?_
        refine lv_bipush (v := nI 8) gx gb dX1_sightsHold_27 (by decide) ?_
        refine lv_irem gx gb dX1_sightsHold_29 (nI_ne0 (by omega) (by omega)) ?_
        refine lv_evi (nI ((dg 64 S i) % 8)) (e_rem (by omega) (by omega) (by omega)) ?_
        refine lv_istore (lv' := [(5, .int (nI ((dg 64 S i) % 8))), (4, .int (nI (dg 64 S i))), (3, .int (nI i)), (0, .ref fl), (1, .int (nI rb)), (2, .int (nI sb))]) gx gb dX1_sightsHold_30 hl (by decide) rfl (fun ls hl => ?_)
        refine lv_iload gx gb dX1_sightsHold_32 (lv_at hl 0 rfl) ?_
        refine lv_iload_n gx gb dX1_sightsHold_34 rfl (lv_at hl 5 rfl) ?_
        refine lv_icmp_ge (tgt := 52) gx gb dX1_sightsHold_35 (by decide) (fun c35 => ?_) (fun c35 => ?_)
        · skip
          rw [nI_leI (by omega) (by omega)] at c35
          refine lv_iconst (v := nI 0) gx gb dX1_sightsHold_52 (by decide) ?_
          exact W.zret (v := nI 0) gx gb gr (by decide) (fun t ht hW => ⟨nI 0, rfl, (by first | (dsimp only; done) | ((try dsimp only); exact bI_f (decide_eq_false (fun hh => by have h9 := hh i (by omega); omega)))), ht⟩) (fun q h => by cases h) dX1_sightsHold_53
        · skip
          rw [nI_leI (by omega) (by omega)] at c35
          refine lv_iload_n gx gb dX1_sightsHold_38 rfl (lv_at hl 4 rfl) ?_
          refine lv_iload gx gb dX1_sightsHold_39 (lv_at hl 0 rfl) ?_
          refine vp_callSi (W.runS (As := [.int (nI rb), .int (nI ((dg 64 S i) % 8))]) (rest := []) ⟨gx, gb, gml, gown, gts⟩ (kX6_who Gl rb ((dg 64 S i) % 8) (by omega) (by omega)) (va_cwS 2 gts gX1_sightsHold_X6_who rfl rfl rfl (by decide +kernel) ⟨Nat.le_of_ble_eq_true rfl, Nat.le_of_ble_eq_true rfl⟩) ⟨fun _ _ _ _ h => h, fun U hU hW => ⟨rfl, trivial⟩⟩ rfl rfl hl.1 rfl (lv_room (Nat.le_of_ble_eq_true rfl)) dX1_sightsHold_41 ⟨Nat.le_of_ble_eq_true rfl, Nat.le_of_ble_eq_true rfl⟩) (fun r hw => ?_)
          have hr41 := hw
          subst hr41
          have hd8 := dg_lt (b := 8) (by omega) rb (dg 64 S i % 8)
          refine lv_iload gx gb dX1_sightsHold_44 (lv_at hl 1 rfl) ?_
          refine lv_bipush (v := nI 8) gx gb dX1_sightsHold_46 (by decide) ?_
          refine lv_idiv gx gb dX1_sightsHold_48 (nI_ne0 (by omega) (by omega)) ?_
          refine lv_evi (nI ((dg 64 S i) / 8)) (e_div (by omega) (by omega) (by omega)) ?_
          refine lv_icmp_eq (tgt := 54) gx gb dX1_sightsHold_49 (by decide) (fun c49 => ?_) (fun c49 => ?_)
          · skip
            rw [nI_eq (by omega) (by omega)] at c49
            refine lv_iinc (v := nI (i + 1)) (lv' := [(3, .int (nI (i + 1))), (5, .int (nI ((dg 64 S i) % 8))), (4, .int (nI (dg 64 S i))), (0, .ref fl), (1, .int (nI rb)), (2, .int (nI sb))]) gx gb dX1_sightsHold_54 hl (k := 2) rfl (nI_add i 1) (by decide) rfl (fun ls hl => ?_)
            refine lv_goto (tgt := 2) gx gb dX1_sightsHold_57 (by decide) ?_
            exact ih2 (i + 1) (by omega) (by intro x hx; exact (Nat.lt_or_ge x i).elim (fun h => h0 x h) (fun h => by obtain rfl : x = i := (by omega); exact ⟨by omega, by omega⟩)) (by omega) ls (lv_sub hl [0, 3, 4, 5] rfl)
          · skip
            rw [nI_eq (by omega) (by omega)] at c49
            refine lv_iconst (v := nI 0) gx gb dX1_sightsHold_52 (by decide) ?_
            exact W.zret (v := nI 0) gx gb gr (by decide) (fun t ht hW => ⟨nI 0, rfl, (by first | (dsimp only; done) | ((try dsimp only); exact bI_f (decide_eq_false (fun hh => by have h9 := hh i (by omega); omega)))), ht⟩) (fun q h => by cases h) dX1_sightsHold_53
  exact L2 _ 0 (by omega) (by intro x hx; exact absurd hx (Nat.not_lt_zero _)) (Nat.lt_succ_self _) ls (lv_sub hl [0, 1, 2, 3] rfl)

set_option maxHeartbeats 4000000 in
set_option maxRecDepth 100000 in
theorem kX4_add (Gl : Launch) (D : va_G) (cI cJ cZ : ClassId) (pd : Nat) (sg : Nat) (cnt : Nat) (rb : Nat) (sb : Nat) (g : Nat → Nat) (sz : Nat) (s : Nat) (hc : cnt ≤ 60) : Met Gl yX4_add wsX4_add ({ frames := 0, cells := 0, slots := 0, locals := 0 } : Room) (va_Pc [.ref pd, .int (nI s)] (fun U => U.heap.size = sz ∧ va_P D vwCl (wP pd sg cI cnt rb sb g) U.heap ∧ va_K D vwCl [(cI, .int), (cJ, .long), (cZ, .boolean)] U ∧ va_D (fun _ => True) (wP pd sg cI cnt rb sb g))) (va_Qi (fun (r : Int32) (u : Unit) => r = bI (decide (cnt < 60))) (fun (u : Unit) t => va_P D vwCl (wP pd sg cI (if cnt < 60 then cnt + 1 else cnt) rb sb (if cnt < 60 then up g cnt s else g)) t.heap ∧ va_K D vwCl [(cI, .int), (cJ, .long), (cZ, .boolean)] t ∧ va_D (va_A (wP pd sg cI cnt rb sb g) sz) (wP pd sg cI (if cnt < 60 then cnt + 1 else cnt) rb sb (if cnt < 60 then up g cnt s else g))) (va_A (wP pd sg cI cnt rb sb g) sz)) 0 0 (va_A (wP pd sg cI cnt rb sb g) sz) := by
  refine Met.ofW (cc := cX4_add) (maxL := 2) (ret := (some .boolean)) (by decide +kernel) rfl ?_
  intro Gp Ge Gs Gm Ga Gw Gt Gc G1 Bd gml gv
  obtain ⟨rfl, hsz, hP, hK, hD0⟩ := gv
  have gx := Bd.exec
  have gb := Bd.bytes
  have gr := Bd.returns
  have gts := atoms_spec (ws := wsX4_add) Bd.pre
  have gown : Gs.vm.findClass RX4 = some Gm.cls := findClass_of_methodNamed Bd.named
  have glk := Bd.notSynchronized
  subst hsz
  have hD := hD0.self (sz := Gs.heap.size)
  generalize hAe : va_A (wP pd sg cI cnt rb sb g) Gs.heap.size = A at hD ⊢
  have hA : ∀ q : Nat, Gs.heap.size ≤ q → A q := fun q h => by rw [← hAe]; exact Or.inr h
  have hS : va_S A Gs.heap Gs.heap [] := va_S.rf
  have hP : va_P D vwCl (wP pd sg cI cnt rb sb g) Gs.heap := hP
  have hl := lv_entry ([.ref pd, .int (nI s)]) (n := 2) (Nat.le_of_ble_eq_true rfl)
  rw [lg_entry_eq]
  generalize (lg_sl ([.ref pd, .int (nI s)]) ++ List.replicate (2 - (lg_sl ([.ref pd, .int (nI s)])).length) Slot.unset).toArray = ls at hl ⊢
  have hl : lv_has ls 2 [(0, .ref pd), (1, .int (nI s))] := hl
  have i4 : ∀ w ∈ wsX40, w ∈ wsX4_add := by decide +kernel
  refine lv_aload_n gx gb dX4_add_0 rfl (lv_at hl 0 rfl) ?_
  refine va_get (D := D) (ci := 1) (v := .int (nI cnt)) (C := RX4) (T := TX4) (N := 4) gx gb gts i4 gown hK hP 0 rfl rfl 1 (by decide) (gts (.fieldLink RX4 15 "SwanSums$Pad" "count" "I") (by decide +kernel)) (fun _ h9 => h9) rfl dX4_add_1 ?_
  refine lv_if_lt (tgt := 19) gx gb dX4_add_4 (by decide) (fun c4 => ?_) (fun c4 => ?_)
  · skip
    rw [n0_lt (by omega)] at c4
    refine lv_iconst (v := nI 0) gx gb dX4_add_19 (by decide) ?_
    have e_cnt : cnt = (if cnt < 60 then cnt + 1 else cnt) := by first | rw [if_pos c16] | rw [if_neg (by omega)]
    have e_g : g = (if cnt < 60 then up g cnt s else g) := by first | rw [if_pos c16] | rw [if_neg (by omega)]
    have hP : va_P D vwCl (wP pd sg cI (if cnt < 60 then cnt + 1 else cnt) rb sb (if cnt < 60 then up g cnt s else g)) Gs.heap := by rw [← e_cnt, ← e_g]; exact hP
    have hD : va_D A (wP pd sg cI (if cnt < 60 then cnt + 1 else cnt) rb sb (if cnt < 60 then up g cnt s else g)) := by rw [← e_cnt, ← e_g]; exact hD
    exact W.zret (v := nI 0) gx gb gr (by decide) (fun t ht hW => ⟨⟨nI 0, (), rfl, (by first | (dsimp only; done) | ((try dsimp only); exact bI_f (decide_eq_false (by omega)))), by rw [ht]; exact hP, va_K.moved hW.alike hK, hD⟩, hS.F ht⟩) hS.2.2 dX4_add_20
  · skip
    rw [n0_lt (by omega)] at c4
    refine lv_aload_n gx gb dX4_add_7 rfl (lv_at hl 0 rfl) ?_
    refine va_get (D := D) (ci := 1) (v := .int (nI cnt)) (C := RX4) (T := TX4) (N := 4) gx gb gts i4 gown hK hP 0 rfl rfl 1 (by decide) (gts (.fieldLink RX4 15 "SwanSums$Pad" "count" "I") (by decide +kernel)) (fun _ h9 => h9) rfl dX4_add_8 ?_
    refine lv_aload_n gx gb dX4_add_11 rfl (lv_at hl 0 rfl) ?_
    refine va_get (D := D) (ci := 1) (v := .ref sg) (C := RX4) (T := TX4) (N := 4) gx gb gts i4 gown hK hP 0 rfl rfl 0 (by decide) (gts (.fieldLink RX4 11 "SwanSums$Pad" "signs" "[I") (by decide +kernel)) (fun _ h9 => h9) rfl dX4_add_12 ?_
    refine va_alen (v := nI 60) gx gb hK hP 1 0 rfl rfl rfl dX4_add_15 ?_
    refine lv_icmp_lt (tgt := 21) gx gb dX4_add_16 (by decide) (fun c16 => ?_) (fun c16 => ?_)
    · skip
      rw [nI_ltI (by omega) (by omega)] at c16
      refine lv_aload_n gx gb dX4_add_21 rfl (lv_at hl 0 rfl) ?_
      refine va_get (D := D) (ci := 1) (v := .ref sg) (C := RX4) (T := TX4) (N := 4) gx gb gts i4 gown hK hP 0 rfl rfl 0 (by decide) (gts (.fieldLink RX4 11 "SwanSums$Pad" "signs" "[I") (by decide +kernel)) (fun _ h9 => h9) rfl dX4_add_22 ?_
      refine lv_aload_n gx gb dX4_add_25 rfl (lv_at hl 0 rfl) ?_
      refine va_get (D := D) (ci := 1) (v := .int (nI cnt)) (C := RX4) (T := TX4) (N := 4) gx gb gts i4 gown hK hP 0 rfl rfl 1 (by decide) (gts (.fieldLink RX4 15 "SwanSums$Pad" "count" "I") (by decide +kernel)) (fun _ h9 => h9) rfl dX4_add_26 ?_
      refine lv_iload_n gx gb dX4_add_29 rfl (lv_at hl 1 rfl) ?_
      refine va_iast gx gb hK hP hD hS 1 0 rfl rfl (vp_in_nI (n := cnt) (by omega) (by decide)) dX4_add_30 (fun H locs hP hD hS => ?_)
      rw [aN_st g s (by omega)] at hP hD
      have hP : va_P D vwCl (wP pd sg cI cnt rb sb (up g cnt s)) H := hP
      have hD : va_D A (wP pd sg cI cnt rb sb (up g cnt s)) := hD
      refine lv_aload_n gx gb dX4_add_31 rfl (lv_at hl 0 rfl) ?_
      refine lv_dup gx gb dX4_add_32 rfl ?_
      refine va_get (D := D) (ci := 1) (v := .int (nI cnt)) (C := RX4) (T := TX4) (N := 4) gx gb gts i4 gown hK hP 0 rfl rfl 1 (by decide) (gts (.fieldLink RX4 15 "SwanSums$Pad" "count" "I") (by decide +kernel)) (fun _ h9 => h9) rfl dX4_add_33 ?_
      refine lv_iconst (v := nI 1) gx gb dX4_add_36 (by decide) ?_
      refine lv_iadd gx gb dX4_add_37 ?_
      refine lv_evi (nI (cnt + 1)) (nI_add cnt 1) ?_
      refine va_put (D := D) (ci := 1) (v := .int (nI (cnt + 1))) (ty := .int) (C := RX4) (T := TX4) (N := 4) gx gb gts i4 tyX4 tyX4_ok nmX4 gown hK hP hD hS 0 rfl rfl 1 (by decide) (gts (.fieldLink RX4 15 "SwanSums$Pad" "count" "I") (by decide +kernel)) (fun _ h9 => h9) rfl (by decide +kernel) rfl rfl (Nat.le_of_ble_eq_true rfl) dX4_add_38 (fun H locs hP hD hS => ?_)
      have hP : va_P D vwCl (wP pd sg cI (cnt + 1) rb sb (up g cnt s)) H := hP
      have hD : va_D A (wP pd sg cI (cnt + 1) rb sb (up g cnt s)) := hD
      refine lv_iconst (v := nI 1) gx gb dX4_add_41 (by decide) ?_
      have e_cnt : (cnt + 1) = (if cnt < 60 then cnt + 1 else cnt) := by first | rw [if_pos c16] | rw [if_neg (by omega)]
      have e_g : (up g cnt s) = (if cnt < 60 then up g cnt s else g) := by first | rw [if_pos c16] | rw [if_neg (by omega)]
      have hP : va_P D vwCl (wP pd sg cI (if cnt < 60 then cnt + 1 else cnt) rb sb (if cnt < 60 then up g cnt s else g)) H := by rw [← e_cnt, ← e_g]; exact hP
      have hD : va_D A (wP pd sg cI (if cnt < 60 then cnt + 1 else cnt) rb sb (if cnt < 60 then up g cnt s else g)) := by rw [← e_cnt, ← e_g]; exact hD
      exact W.zret (v := nI 1) gx gb gr (by decide) (fun t ht hW => ⟨⟨nI 1, (), rfl, (by first | (dsimp only; done) | ((try dsimp only); exact bI_t (decide_eq_true c16))), by rw [ht]; exact hP, va_K.moved hW.alike hK, hD⟩, hS.F ht⟩) hS.2.2 dX4_add_42
    · skip
      rw [nI_ltI (by omega) (by omega)] at c16
      refine lv_iconst (v := nI 0) gx gb dX4_add_19 (by decide) ?_
      have e_cnt : cnt = (if cnt < 60 then cnt + 1 else cnt) := by first | rw [if_pos c16] | rw [if_neg (by omega)]
      have e_g : g = (if cnt < 60 then up g cnt s else g) := by first | rw [if_pos c16] | rw [if_neg (by omega)]
      have hP : va_P D vwCl (wP pd sg cI (if cnt < 60 then cnt + 1 else cnt) rb sb (if cnt < 60 then up g cnt s else g)) Gs.heap := by rw [← e_cnt, ← e_g]; exact hP
      have hD : va_D A (wP pd sg cI (if cnt < 60 then cnt + 1 else cnt) rb sb (if cnt < 60 then up g cnt s else g)) := by rw [← e_cnt, ← e_g]; exact hD
      exact W.zret (v := nI 0) gx gb gr (by decide) (fun t ht hW => ⟨⟨nI 0, (), rfl, (by first | (dsimp only; done) | ((try dsimp only); exact bI_f (decide_eq_false (by omega)))), by rw [ht]; exact hP, va_K.moved hW.alike hK, hD⟩, hS.F ht⟩) hS.2.2 dX4_add_20

set_option maxHeartbeats 4000000 in
set_option maxRecDepth 100000 in
theorem kX4_signAt (Gl : Launch) (D : va_G) (cI cJ cZ : ClassId) (pd : Nat) (sg : Nat) (cnt : Nat) (rb : Nat) (sb : Nat) (g : Nat → Nat) (i : Nat) (hc : cnt ≤ 60) (hi : i < 2147483648) : Met Gl yX4_signAt wsX4_signAt ({ frames := 0, cells := 0, slots := 0, locals := 0 } : Room) (va_Pc [.ref pd, .int (nI i)] (fun U => va_P D vwCl (wP pd sg cI cnt rb sb g) U.heap ∧ va_K D vwCl [(cI, .int), (cJ, .long), (cZ, .boolean)] U)) (vp_Si (fun r : Int32 => r = nI (if i < cnt then g i else 0))) 0 0 (fun _ => False) := by
  refine Met.ofW (cc := cX4_signAt) (maxL := 2) (ret := (some .int)) (by decide +kernel) rfl ?_
  intro Gp Ge Gs Gm Ga Gw Gt Gc G1 Bd gml gv
  obtain ⟨rfl, hP, hK⟩ := gv
  have gx := Bd.exec
  have gb := Bd.bytes
  have gr := Bd.returns
  have gts := atoms_spec (ws := wsX4_signAt) Bd.pre
  have gown : Gs.vm.findClass RX4 = some Gm.cls := findClass_of_methodNamed Bd.named
  have glk := Bd.notSynchronized
  have hl := lv_entry ([.ref pd, .int (nI i)]) (n := 2) (Nat.le_of_ble_eq_true rfl)
  rw [lg_entry_eq]
  generalize (lg_sl ([.ref pd, .int (nI i)]) ++ List.replicate (2 - (lg_sl ([.ref pd, .int (nI i)])).length) Slot.unset).toArray = ls at hl ⊢
  have hl : lv_has ls 2 [(0, .ref pd), (1, .int (nI i))] := hl
  have i4 : ∀ w ∈ wsX40, w ∈ wsX4_signAt := by decide +kernel
  refine lv_iload_n gx gb dX4_signAt_0 rfl (lv_at hl 1 rfl) ?_
  refine lv_if_lt (tgt := 30) gx gb dX4_signAt_1 (by decide) (fun c1 => ?_) (fun c1 => ?_)
  · skip
    rw [n0_lt (by omega)] at c1
    exfalso; omega
  · skip
    rw [n0_lt (by omega)] at c1
    refine lv_iload_n gx gb dX4_signAt_4 rfl (lv_at hl 1 rfl) ?_
    refine lv_aload_n gx gb dX4_signAt_5 rfl (lv_at hl 0 rfl) ?_
    refine va_get (D := D) (ci := 1) (v := .int (nI cnt)) (C := RX4) (T := TX4) (N := 4) gx gb gts i4 gown hK hP 0 rfl rfl 1 (by decide) (gts (.fieldLink RX4 15 "SwanSums$Pad" "count" "I") (by decide +kernel)) (fun _ h9 => h9) rfl dX4_signAt_6 ?_
    refine lv_icmp_ge (tgt := 30) gx gb dX4_signAt_9 (by decide) (fun c9 => ?_) (fun c9 => ?_)
    · skip
      rw [nI_leI (by omega) (by omega)] at c9
      refine lv_iconst (v := nI 0) gx gb dX4_signAt_30 (by decide) ?_
      exact W.iret (v := nI 0) gx gb gr (fun t ht hW => ⟨nI 0, rfl, (by first | (dsimp only; done) | ((try dsimp only); first | rw [if_pos (by omega)] | rw [if_neg (by omega)])), ht⟩) (fun q h => by cases h) dX4_signAt_31
    · skip
      rw [nI_leI (by omega) (by omega)] at c9
      refine lv_iload_n gx gb dX4_signAt_12 rfl (lv_at hl 1 rfl) ?_
      refine lv_aload_n gx gb dX4_signAt_13 rfl (lv_at hl 0 rfl) ?_
      refine va_get (D := D) (ci := 1) (v := .ref sg) (C := RX4) (T := TX4) (N := 4) gx gb gts i4 gown hK hP 0 rfl rfl 0 (by decide) (gts (.fieldLink RX4 11 "SwanSums$Pad" "signs" "[I") (by decide +kernel)) (fun _ h9 => h9) rfl dX4_signAt_14 ?_
      refine va_alen (v := nI 60) gx gb hK hP 1 0 rfl rfl rfl dX4_signAt_17 ?_
      refine lv_icmp_ge (tgt := 30) gx gb dX4_signAt_18 (by decide) (fun c18 => ?_) (fun c18 => ?_)
      · skip
        rw [nI_leI (by omega) (by omega)] at c18
        exfalso; omega
      · skip
        rw [nI_leI (by omega) (by omega)] at c18
        refine lv_aload_n gx gb dX4_signAt_21 rfl (lv_at hl 0 rfl) ?_
        refine va_get (D := D) (ci := 1) (v := .ref sg) (C := RX4) (T := TX4) (N := 4) gx gb gts i4 gown hK hP 0 rfl rfl 0 (by decide) (gts (.fieldLink RX4 11 "SwanSums$Pad" "signs" "[I") (by decide +kernel)) (fun _ h9 => h9) rfl dX4_signAt_22 ?_
        refine lv_iload_n gx gb dX4_signAt_25 rfl (lv_at hl 1 rfl) ?_
        refine va_iald gx gb hK hP 1 0 rfl rfl (vp_in_nI (n := i) (by omega) (by decide)) dX4_signAt_26 ?_
        refine lv_evi (nI (g i)) (aN_rd g (by omega)) ?_
        refine lv_goto (tgt := 31) gx gb dX4_signAt_27 (by decide) ?_
        exact W.iret (v := nI (g i)) gx gb gr (fun t ht hW => ⟨nI (g i), rfl, (by first | (dsimp only; done) | ((try dsimp only); first | rw [if_pos (by omega)] | rw [if_neg (by omega)])), ht⟩) (fun q h => by cases h) dX4_signAt_31

set_option maxHeartbeats 4000000 in
set_option maxRecDepth 100000 in
theorem kX4_gaps (Gl : Launch) (D : va_G) (cI cJ cZ : ClassId) (pd : Nat) (sg : Nat) (cnt : Nat) (rb : Nat) (sb : Nat) (g : Nat → Nat) (hc : cnt ≤ 60) (hg : ∀ k, k < cnt → g k < 127) : Met Gl yX4_gaps wsX4_gaps ({ frames := 1, cells := 0, slots := 0, locals := 21 } : Room) (va_Pc [.ref pd] (fun U => va_P D vwCl (wP pd sg cI cnt rb sb g) U.heap ∧ va_K D vwCl [(cI, .int), (cJ, .long), (cZ, .boolean)] U)) (vp_Si (fun r : Int32 => r = nI (cq g cnt))) 0 0 (fun _ => False) := by
  refine Met.ofW (cc := cX4_gaps) (maxL := 3) (ret := (some .int)) (by decide +kernel) rfl ?_
  intro Gp Ge Gs Gm Ga Gw Gt Gc G1 Bd gml gv
  obtain ⟨rfl, hP, hK⟩ := gv
  have gx := Bd.exec
  have gb := Bd.bytes
  have gr := Bd.returns
  have gts := atoms_spec (ws := wsX4_gaps) Bd.pre
  have gown : Gs.vm.findClass RX4 = some Gm.cls := findClass_of_methodNamed Bd.named
  have glk := Bd.notSynchronized
  have hl := lv_entry ([.ref pd]) (n := 3) (Nat.le_of_ble_eq_true rfl)
  rw [lg_entry_eq]
  generalize (lg_sl ([.ref pd]) ++ List.replicate (3 - (lg_sl ([.ref pd])).length) Slot.unset).toArray = ls at hl ⊢
  have hl : lv_has ls 3 [(0, .ref pd)] := hl
  have i4 : ∀ w ∈ wsX40, w ∈ wsX4_gaps := by decide +kernel
  refine lv_iconst (v := nI 0) gx gb dX4_gaps_0 (by decide) ?_
  refine lv_istore_n (lv' := [(1, .int (nI 0)), (0, .ref pd)]) gx gb dX4_gaps_1 rfl hl (by decide) rfl (fun ls hl => ?_)
  refine lv_iconst (v := nI 0) gx gb dX4_gaps_2 (by decide) ?_
  refine lv_istore_n (lv' := [(2, .int (nI 0)), (1, .int (nI 0)), (0, .ref pd)]) gx gb dX4_gaps_3 rfl hl (by decide) rfl (fun ls hl => ?_)
  have L4 : ∀ fu : Nat, ∀ (i : Nat) (hi : i ≤ cnt), (cnt - i) < fu → ∀ ls : Array Slot, lv_has ls 3 [(1, .int (nI (cq g i))), (2, .int (nI i)), (0, .ref pd)] → W Gp Gl Ge (headSpec wsX4_gaps ({ frames := 1, cells := 0, slots := 0, locals := 21 } : Room)).room Gs Gm ([.ref pd] : List Value).toArray Gw Gt Gc Gs.heap [] 0 0 (MQ Gw (vp_Si (fun r : Int32 => r = nI (cq g cnt))) ([.ref pd] : List Value).toArray Gs 0 0 (fun _ => False)) (F0 Gm 4 ls []) := by
    intro fu
    induction fu with
    | zero => intro i hi hfu; exact absurd hfu (Nat.not_lt_zero _)
    | succ fu ih4 =>
      intro i hi hfu ls hl
      refine lv_iload_n gx gb dX4_gaps_4 rfl (lv_at hl 1 rfl) ?_
      refine lv_aload_n gx gb dX4_gaps_5 rfl (lv_at hl 2 rfl) ?_
      refine va_get (D := D) (ci := 1) (v := .int (nI cnt)) (C := RX4) (T := TX4) (N := 4) gx gb gts i4 gown hK hP 0 rfl rfl 1 (by decide) (gts (.fieldLink RX4 15 "SwanSums$Pad" "count" "I") (by decide +kernel)) (fun _ h9 => h9) rfl dX4_gaps_6 ?_
      refine lv_icmp_ge (tgt := 36) gx gb dX4_gaps_9 (by decide) (fun c9 => ?_) (fun c9 => ?_)
      · skip
        rw [nI_leI (by omega) (by omega)] at c9
        refine lv_iload_n gx gb dX4_gaps_36 rfl (lv_at hl 0 rfl) ?_
        exact W.iret (v := nI (cq g i)) gx gb gr (fun t ht hW => ⟨nI (cq g i), rfl, (by first | (dsimp only; done) | ((try dsimp only); obtain rfl : i = cnt := (by omega); rfl)), ht⟩) (fun q h => by cases h) dX4_gaps_37
      · skip
        rw [nI_leI (by omega) (by omega)] at c9
        have L28 : ∀ (x : Nat) (hxx : x = if g i = 63 then 1 else 0), ∀ ls : Array Slot, lv_has ls 3 [(1, .int (nI (cq g i))), (2, .int (nI i)), (0, .ref pd)] → W Gp Gl Ge (headSpec wsX4_gaps ({ frames := 1, cells := 0, slots := 0, locals := 21 } : Room)).room Gs Gm ([.ref pd] : List Value).toArray Gw Gt Gc Gs.heap [] 0 0 (MQ Gw (vp_Si (fun r : Int32 => r = nI (cq g cnt))) ([.ref pd] : List Value).toArray Gs 0 0 (fun _ => False)) (F0 Gm 28 ls [.int (nI x), .int (nI (cq g i))]) := by
          intro x hxx ls hl
          subst hxx
          have hl : lv_has ls 3 [(1, .int (nI (cq g i))), (2, .int (nI i)), (0, .ref pd)] := hl
          refine lv_iadd gx gb dX4_gaps_28 ?_
          refine lv_evi (nI ((cq g i) + (if g i = 63 then 1 else 0))) (nI_add (cq g i) (if g i = 63 then 1 else 0)) ?_
          refine lv_istore_n (lv' := [(1, .int (nI ((cq g i) + (if g i = 63 then 1 else 0)))), (2, .int (nI i)), (0, .ref pd)]) gx gb dX4_gaps_29 rfl hl (by decide) rfl (fun ls hl => ?_)
          refine lv_iinc (v := nI (i + 1)) (lv' := [(2, .int (nI (i + 1))), (1, .int (nI ((cq g i) + (if g i = 63 then 1 else 0)))), (0, .ref pd)]) gx gb dX4_gaps_30 hl (k := 1) rfl (nI_add i 1) (by decide) rfl (fun ls hl => ?_)
          refine lv_goto (tgt := 4) gx gb dX4_gaps_33 (by decide) ?_
          exact ih4 (i + 1) (by omega) (by omega) ls (lv_sub hl [1, 0, 2] rfl)
        have hgi := hg i (by omega)
        refine lv_iload_n gx gb dX4_gaps_12 rfl (lv_at hl 0 rfl) ?_
        refine lv_aload_n gx gb dX4_gaps_13 rfl (lv_at hl 2 rfl) ?_
        refine lv_iload_n gx gb dX4_gaps_14 rfl (lv_at hl 1 rfl) ?_
        have hPc := hP.sub (ws' := wP pd sg cI cnt rb sb g) [0, 1] rfl
        refine vp_callSi (W.runV (As := [.int (nI i)]) (rest := [.int (nI (cq g i))]) ⟨gx, gb, gml, gown, gts⟩ (kX4_signAt Gl D cI cJ cZ pd sg cnt rb sb g i (by omega) (by omega)) (cwV 1 gts gX4_gaps_X4_signAt rfl rfl rfl (by decide +kernel) ⟨Nat.le_of_ble_eq_true rfl, Nat.le_of_ble_eq_true rfl⟩) ⟨fun a U g mk q => ⟨q.1, q.2.1, va_K.moved (u := U) (U := U.calling g mk a) (Vm.Alike.refl U.vm) q.2.2⟩, va_recv hK hPc (ci := 1) (q0 := 0) rfl rfl, fun U hU hW => ⟨rfl, by rw [hU]; exact hPc, va_K.moved hW.alike hK⟩⟩ rfl rfl hl.1 rfl (lv_room (Nat.le_of_ble_eq_true rfl)) dX4_gaps_15 ⟨Nat.le_of_ble_eq_true rfl, Nat.le_of_ble_eq_true rfl⟩) (fun r hw => ?_)
        have hr15 := hw
        subst hr15
        refine lv_evi (nI (g i)) (congrArg nI (if_pos (by omega))) ?_
        refine lv_bipush (v := nI 63) gx gb dX4_gaps_18 (by decide) ?_
        refine lv_icmp_ne (tgt := 27) gx gb dX4_gaps_20 (by decide) (fun c20 => ?_) (fun c20 => ?_)
        · skip
          rw [nI_eq (by omega) (by omega)] at c20
          refine lv_iconst (v := nI 0) gx gb dX4_gaps_27 (by decide) ?_
          exact L28 0 (by first | (rw [if_pos (by omega)]) | (rw [if_neg (by omega)])) ls (lv_sub hl [0, 1, 2] rfl)
        · skip
          rw [nI_eq (by omega) (by omega)] at c20
          refine lv_iconst (v := nI 1) gx gb dX4_gaps_23 (by decide) ?_
          refine lv_goto (tgt := 28) gx gb dX4_gaps_24 (by decide) ?_
          exact L28 1 (by first | (rw [if_pos (by omega)]) | (rw [if_neg (by omega)])) ls (lv_sub hl [0, 1, 2] rfl)
  exact L4 _ 0 (by omega) (Nat.lt_succ_self _) ls (lv_sub hl [1, 0, 2] rfl)

set_option maxHeartbeats 4000000 in
set_option maxRecDepth 100000 in
theorem kX4_events (Gl : Launch) (D : va_G) (cI cJ cZ : ClassId) (pd : Nat) (sg : Nat) (cnt : Nat) (rb : Nat) (sb : Nat) (g : Nat → Nat) (hc : cnt ≤ 60) (hg : ∀ k, k < cnt → g k < 127) : Met Gl yX4_events wsX4_events ({ frames := 1, cells := 0, slots := 0, locals := 21 } : Room) (va_Pc [.ref pd] (fun U => va_P D vwCl (wP pd sg cI cnt rb sb g) U.heap ∧ va_K D vwCl [(cI, .int), (cJ, .long), (cZ, .boolean)] U)) (vp_Si (fun r : Int32 => r = nI (evn g cnt))) 0 0 (fun _ => False) := by
  refine Met.ofW (cc := cX4_events) (maxL := 3) (ret := (some .int)) (by decide +kernel) rfl ?_
  intro Gp Ge Gs Gm Ga Gw Gt Gc G1 Bd gml gv
  obtain ⟨rfl, hP, hK⟩ := gv
  have gx := Bd.exec
  have gb := Bd.bytes
  have gr := Bd.returns
  have gts := atoms_spec (ws := wsX4_events) Bd.pre
  have gown : Gs.vm.findClass RX4 = some Gm.cls := findClass_of_methodNamed Bd.named
  have glk := Bd.notSynchronized
  have hl := lv_entry ([.ref pd]) (n := 3) (Nat.le_of_ble_eq_true rfl)
  rw [lg_entry_eq]
  generalize (lg_sl ([.ref pd]) ++ List.replicate (3 - (lg_sl ([.ref pd])).length) Slot.unset).toArray = ls at hl ⊢
  have hl : lv_has ls 3 [(0, .ref pd)] := hl
  have i4 : ∀ w ∈ wsX40, w ∈ wsX4_events := by decide +kernel
  refine lv_iconst (v := nI 0) gx gb dX4_events_0 (by decide) ?_
  refine lv_istore_n (lv' := [(1, .int (nI 0)), (0, .ref pd)]) gx gb dX4_events_1 rfl hl (by decide) rfl (fun ls hl => ?_)
  refine lv_iconst (v := nI 0) gx gb dX4_events_2 (by decide) ?_
  refine lv_istore_n (lv' := [(2, .int (nI 0)), (1, .int (nI 0)), (0, .ref pd)]) gx gb dX4_events_3 rfl hl (by decide) rfl (fun ls hl => ?_)
  have L4 : ∀ fu : Nat, ∀ (i : Nat) (hi : i ≤ cnt), (cnt - i) < fu → ∀ ls : Array Slot, lv_has ls 3 [(1, .int (nI (evn g i))), (2, .int (nI i)), (0, .ref pd)] → W Gp Gl Ge (headSpec wsX4_events ({ frames := 1, cells := 0, slots := 0, locals := 21 } : Room)).room Gs Gm ([.ref pd] : List Value).toArray Gw Gt Gc Gs.heap [] 0 0 (MQ Gw (vp_Si (fun r : Int32 => r = nI (evn g cnt))) ([.ref pd] : List Value).toArray Gs 0 0 (fun _ => False)) (F0 Gm 4 ls []) := by
    intro fu
    induction fu with
    | zero => intro i hi hfu; exact absurd hfu (Nat.not_lt_zero _)
    | succ fu ih4 =>
      intro i hi hfu ls hl
      refine lv_iload_n gx gb dX4_events_4 rfl (lv_at hl 1 rfl) ?_
      refine lv_aload_n gx gb dX4_events_5 rfl (lv_at hl 2 rfl) ?_
      refine va_get (D := D) (ci := 1) (v := .int (nI cnt)) (C := RX4) (T := TX4) (N := 4) gx gb gts i4 gown hK hP 0 rfl rfl 1 (by decide) (gts (.fieldLink RX4 15 "SwanSums$Pad" "count" "I") (by decide +kernel)) (fun _ h9 => h9) rfl dX4_events_6 ?_
      refine lv_icmp_ge (tgt := 38) gx gb dX4_events_9 (by decide) (fun c9 => ?_) (fun c9 => ?_)
      · skip
        rw [nI_leI (by omega) (by omega)] at c9
        refine lv_iload_n gx gb dX4_events_38 rfl (lv_at hl 0 rfl) ?_
        exact W.iret (v := nI (evn g i)) gx gb gr (fun t ht hW => ⟨nI (evn g i), rfl, (by first | (dsimp only; done) | ((try dsimp only); obtain rfl : i = cnt := (by omega); rfl)), ht⟩) (fun q h => by cases h) dX4_events_39
      · skip
        rw [nI_leI (by omega) (by omega)] at c9
        have L30 : ∀ (x : Nat) (hxx : x = if ofS (g i) = -1 then 0 else 1), ∀ ls : Array Slot, lv_has ls 3 [(1, .int (nI (evn g i))), (2, .int (nI i)), (0, .ref pd)] → W Gp Gl Ge (headSpec wsX4_events ({ frames := 1, cells := 0, slots := 0, locals := 21 } : Room)).room Gs Gm ([.ref pd] : List Value).toArray Gw Gt Gc Gs.heap [] 0 0 (MQ Gw (vp_Si (fun r : Int32 => r = nI (evn g cnt))) ([.ref pd] : List Value).toArray Gs 0 0 (fun _ => False)) (F0 Gm 30 ls [.int (nI x), .int (nI (evn g i))]) := by
          intro x hxx ls hl
          subst hxx
          have hl : lv_has ls 3 [(1, .int (nI (evn g i))), (2, .int (nI i)), (0, .ref pd)] := hl
          refine lv_iadd gx gb dX4_events_30 ?_
          refine lv_evi (nI ((evn g i) + (if ofS (g i) = -1 then 0 else 1))) (nI_add (evn g i) (if ofS (g i) = -1 then 0 else 1)) ?_
          refine lv_istore_n (lv' := [(1, .int (nI ((evn g i) + (if ofS (g i) = -1 then 0 else 1)))), (2, .int (nI i)), (0, .ref pd)]) gx gb dX4_events_31 rfl hl (by decide) rfl (fun ls hl => ?_)
          refine lv_iinc (v := nI (i + 1)) (lv' := [(2, .int (nI (i + 1))), (1, .int (nI ((evn g i) + (if ofS (g i) = -1 then 0 else 1)))), (0, .ref pd)]) gx gb dX4_events_32 hl (k := 1) rfl (nI_add i 1) (by decide) rfl (fun ls hl => ?_)
          refine lv_goto (tgt := 4) gx gb dX4_events_35 (by decide) ?_
          exact ih4 (i + 1) (by omega) (by omega) ls (lv_sub hl [1, 0, 2] rfl)
        have hgi := hg i (by omega)
        have hof := ofS_bd (g i)
        refine lv_iload_n gx gb dX4_events_12 rfl (lv_at hl 0 rfl) ?_
        refine lv_aload_n gx gb dX4_events_13 rfl (lv_at hl 2 rfl) ?_
        refine lv_iload_n gx gb dX4_events_14 rfl (lv_at hl 1 rfl) ?_
        have hPc := hP.sub (ws' := wP pd sg cI cnt rb sb g) [0, 1] rfl
        refine vp_callSi (W.runV (As := [.int (nI i)]) (rest := [.int (nI (evn g i))]) ⟨gx, gb, gml, gown, gts⟩ (kX4_signAt Gl D cI cJ cZ pd sg cnt rb sb g i (by omega) (by omega)) (cwV 1 gts gX4_events_X4_signAt rfl rfl rfl (by decide +kernel) ⟨Nat.le_of_ble_eq_true rfl, Nat.le_of_ble_eq_true rfl⟩) ⟨fun a U g mk q => ⟨q.1, q.2.1, va_K.moved (u := U) (U := U.calling g mk a) (Vm.Alike.refl U.vm) q.2.2⟩, va_recv hK hPc (ci := 1) (q0 := 0) rfl rfl, fun U hU hW => ⟨rfl, by rw [hU]; exact hPc, va_K.moved hW.alike hK⟩⟩ rfl rfl hl.1 rfl (lv_room (Nat.le_of_ble_eq_true rfl)) dX4_events_15 ⟨Nat.le_of_ble_eq_true rfl, Nat.le_of_ble_eq_true rfl⟩) (fun r hw => ?_)
        have hr15 := hw
        subst hr15
        refine lv_evi (nI (g i)) (congrArg nI (if_pos (by omega))) ?_
        refine vp_callSi (W.runS (As := [.int (nI (g i))]) (rest := [.int (nI (evn g i))]) ⟨gx, gb, gml, gown, gts⟩ (kX7_ofSign Gl (g i) (by omega)) (va_cwS 1 gts gX4_events_X7_ofSign rfl rfl rfl (by decide +kernel) ⟨Nat.le_of_ble_eq_true rfl, Nat.le_of_ble_eq_true rfl⟩) ⟨fun _ _ _ _ h => h, fun U hU hW => ⟨rfl, trivial⟩⟩ rfl rfl hl.1 rfl (lv_room (Nat.le_of_ble_eq_true rfl)) dX4_events_18 ⟨Nat.le_of_ble_eq_true rfl, Nat.le_of_ble_eq_true rfl⟩) (fun r hw => ?_)
        have hr18 := hw
        subst hr18
        refine lv_iconst (v := zI (-1)) gx gb dX4_events_21 (by decide) ?_
        refine lv_icmp_eq (tgt := 29) gx gb dX4_events_22 (by decide) (fun c22 => ?_) (fun c22 => ?_)
        · skip
          rw [zI_eq (by omega) (by omega) (by omega) (by omega)] at c22
          refine lv_iconst (v := nI 0) gx gb dX4_events_29 (by decide) ?_
          exact L30 0 (by first | (rw [if_pos (by omega)]) | (rw [if_neg (by omega)])) ls (lv_sub hl [0, 1, 2] rfl)
        · skip
          rw [zI_eq (by omega) (by omega) (by omega) (by omega)] at c22
          refine lv_iconst (v := nI 1) gx gb dX4_events_25 (by decide) ?_
          refine lv_goto (tgt := 30) gx gb dX4_events_26 (by decide) ?_
          exact L30 1 (by first | (rw [if_pos (by omega)]) | (rw [if_neg (by omega)])) ls (lv_sub hl [0, 1, 2] rfl)
  exact L4 _ 0 (by omega) (Nat.lt_succ_self _) ls (lv_sub hl [1, 0, 2] rfl)

set_option maxHeartbeats 4000000 in
set_option maxRecDepth 100000 in
theorem kX4_firstFault (Gl : Launch) (D : va_G) (cI cJ cZ : ClassId) (pd : Nat) (sg : Nat) (cnt : Nat) (rb : Nat) (sb : Nat) (g : Nat → Nat) (hc : cnt ≤ 60) (hg : ∀ k, k < cnt → g k < 127) : Met Gl yX4_firstFault wsX4_firstFault ({ frames := 1, cells := 0, slots := 0, locals := 21 } : Room) (va_Pc [.ref pd] (fun U => va_P D vwCl (wP pd sg cI cnt rb sb g) U.heap ∧ va_K D vwCl [(cI, .int), (cJ, .long), (cZ, .boolean)] U)) (vp_Si (fun r : Int32 => r = zI (fltZ g cnt))) 0 0 (fun _ => False) := by
  refine Met.ofW (cc := cX4_firstFault) (maxL := 6) (ret := (some .int)) (by decide +kernel) rfl ?_
  intro Gp Ge Gs Gm Ga Gw Gt Gc G1 Bd gml gv
  obtain ⟨rfl, hP, hK⟩ := gv
  have gx := Bd.exec
  have gb := Bd.bytes
  have gr := Bd.returns
  have gts := atoms_spec (ws := wsX4_firstFault) Bd.pre
  have gown : Gs.vm.findClass RX4 = some Gm.cls := findClass_of_methodNamed Bd.named
  have glk := Bd.notSynchronized
  have hl := lv_entry ([.ref pd]) (n := 6) (Nat.le_of_ble_eq_true rfl)
  rw [lg_entry_eq]
  generalize (lg_sl ([.ref pd]) ++ List.replicate (6 - (lg_sl ([.ref pd])).length) Slot.unset).toArray = ls at hl ⊢
  have hl : lv_has ls 6 [(0, .ref pd)] := hl
  have i4 : ∀ w ∈ wsX40, w ∈ wsX4_firstFault := by decide +kernel
  refine lv_iconst (v := nI 0) gx gb dX4_firstFault_0 (by decide) ?_
  refine lv_istore_n (lv' := [(1, .int (nI 0)), (0, .ref pd)]) gx gb dX4_firstFault_1 rfl hl (by decide) rfl (fun ls hl => ?_)
  refine lv_iconst (v := zI (-1)) gx gb dX4_firstFault_2 (by decide) ?_
  refine lv_istore_n (lv' := [(2, .int (zI (-1))), (1, .int (nI 0)), (0, .ref pd)]) gx gb dX4_firstFault_3 rfl hl (by decide) rfl (fun ls hl => ?_)
  refine lv_iconst (v := nI 0) gx gb dX4_firstFault_4 (by decide) ?_
  refine lv_istore_n (lv' := [(3, .int (nI 0)), (2, .int (zI (-1))), (1, .int (nI 0)), (0, .ref pd)]) gx gb dX4_firstFault_5 rfl hl (by decide) rfl (fun ls hl => ?_)
  have L6 : ∀ fu : Nat, ∀ (i : Nat) (hi : i ≤ cnt) (hf : fltG g i = none), (cnt - i) < fu → ∀ ls : Array Slot, lv_has ls 6 [(1, .int (nI (cq g i))), (2, .int (zI (opZ g i))), (3, .int (nI i)), (0, .ref pd)] → W Gp Gl Ge (headSpec wsX4_firstFault ({ frames := 1, cells := 0, slots := 0, locals := 21 } : Room)).room Gs Gm ([.ref pd] : List Value).toArray Gw Gt Gc Gs.heap [] 0 0 (MQ Gw (vp_Si (fun r : Int32 => r = zI (fltZ g cnt))) ([.ref pd] : List Value).toArray Gs 0 0 (fun _ => False)) (F0 Gm 6 ls []) := by
    intro fu
    induction fu with
    | zero => intro i hi hf hfu; exact absurd hfu (Nat.not_lt_zero _)
    | succ fu ih6 =>
      intro i hi hf hfu ls hl
      have hwl := wnt_let hf
      have hop := opZ_bd g i
      refine lv_iload_n gx gb dX4_firstFault_6 rfl (lv_at hl 2 rfl) ?_
      refine lv_aload_n gx gb dX4_firstFault_7 rfl (lv_at hl 3 rfl) ?_
      refine va_get (D := D) (ci := 1) (v := .int (nI cnt)) (C := RX4) (T := TX4) (N := 4) gx gb gts i4 gown hK hP 0 rfl rfl 1 (by decide) (gts (.fieldLink RX4 15 "SwanSums$Pad" "count" "I") (by decide +kernel)) (fun _ h9 => h9) rfl dX4_firstFault_8 ?_
      refine lv_icmp_ge (tgt := 121) gx gb dX4_firstFault_11 (by decide) (fun c11 => ?_) (fun c11 => ?_)
      · skip
        rw [nI_leI (by omega) (by omega)] at c11
        refine lv_iload_n gx gb dX4_firstFault_121 rfl (lv_at hl 1 rfl) ?_
        refine lv_iconst (v := zI (-1)) gx gb dX4_firstFault_122 (by decide) ?_
        refine lv_icmp_ne (tgt := 131) gx gb dX4_firstFault_123 (by decide) (fun c123 => ?_) (fun c123 => ?_)
        · skip
          rw [zI_eq (by omega) (by omega) (by omega) (by omega)] at c123
          refine lv_aload_n gx gb dX4_firstFault_131 rfl (lv_at hl 3 rfl) ?_
          refine va_get (D := D) (ci := 1) (v := .int (nI cnt)) (C := RX4) (T := TX4) (N := 4) gx gb gts i4 gown hK hP 0 rfl rfl 1 (by decide) (gts (.fieldLink RX4 15 "SwanSums$Pad" "count" "I") (by decide +kernel)) (fun _ h9 => h9) rfl dX4_firstFault_132 ?_
          exact W.iret (v := nI cnt) gx gb gr (fun t ht hW => ⟨nI cnt, rfl, (by first | (dsimp only; done) | ((try dsimp only); obtain rfl : i = cnt := (by omega); first | (rw [fltZ_0 hf (opZ_i (wnt_let hf) c123)]) | (rw [fltZ_w hf (fun h => c123 (opZ_0 h)), zI_nat]))), ht⟩) (fun q h => by cases h) dX4_firstFault_135
        · skip
          rw [zI_eq (by omega) (by omega) (by omega) (by omega)] at c123
          refine lv_bipush (v := zI (-6)) gx gb dX4_firstFault_126 (by decide) ?_
          refine lv_goto (tgt := 135) gx gb dX4_firstFault_128 (by decide) ?_
          exact W.iret (v := zI (-6)) gx gb gr (fun t ht hW => ⟨zI (-6), rfl, (by first | (dsimp only; done) | ((try dsimp only); obtain rfl : i = cnt := (by omega); first | (rw [fltZ_0 hf (opZ_i (wnt_let hf) c123)]) | (rw [fltZ_w hf (fun h => c123 (opZ_0 h)), zI_nat]))), ht⟩) (fun q h => by cases h) dX4_firstFault_135
      · skip
        rw [nI_leI (by omega) (by omega)] at c11
        have hgi := hg i (by omega)
        have hof := ofS_bd (g i)
        have hcq := cq_le g i
        refine lv_aload_n gx gb dX4_firstFault_14 rfl (lv_at hl 3 rfl) ?_
        refine lv_iload_n gx gb dX4_firstFault_15 rfl (lv_at hl 2 rfl) ?_
        have hPc := hP.sub (ws' := wP pd sg cI cnt rb sb g) [0, 1] rfl
        refine vp_callSi (W.runV (As := [.int (nI i)]) (rest := []) ⟨gx, gb, gml, gown, gts⟩ (kX4_signAt Gl D cI cJ cZ pd sg cnt rb sb g i (by omega) (by omega)) (cwV 1 gts gX4_firstFault_X4_signAt rfl rfl rfl (by decide +kernel) ⟨Nat.le_of_ble_eq_true rfl, Nat.le_of_ble_eq_true rfl⟩) ⟨fun a U g mk q => ⟨q.1, q.2.1, va_K.moved (u := U) (U := U.calling g mk a) (Vm.Alike.refl U.vm) q.2.2⟩, va_recv hK hPc (ci := 1) (q0 := 0) rfl rfl, fun U hU hW => ⟨rfl, by rw [hU]; exact hPc, va_K.moved hW.alike hK⟩⟩ rfl rfl hl.1 rfl (lv_room (Nat.le_of_ble_eq_true rfl)) dX4_firstFault_16 ⟨Nat.le_of_ble_eq_true rfl, Nat.le_of_ble_eq_true rfl⟩) (fun r hw => ?_)
        have hr16 := hw
        subst hr16
        refine lv_evi (nI (g i)) (congrArg nI (if_pos (by omega))) ?_
        refine lv_istore (lv' := [(4, .int (nI (g i))), (1, .int (nI (cq g i))), (2, .int (zI (opZ g i))), (3, .int (nI i)), (0, .ref pd)]) gx gb dX4_firstFault_19 hl (by decide) rfl (fun ls hl => ?_)
        refine lv_iload_n gx gb dX4_firstFault_21 rfl (lv_at hl 2 rfl) ?_
        refine lv_iconst (v := zI (-1)) gx gb dX4_firstFault_22 (by decide) ?_
        refine lv_icmp_ne (tgt := 53) gx gb dX4_firstFault_23 (by decide) (fun c23 => ?_) (fun c23 => ?_)
        · skip
          rw [zI_eq (by omega) (by omega) (by omega) (by omega)] at c23
          have hw0 : ¬ wnt g i = 0 := fun h => c23 (opZ_0 h)
          have L66 : ∀ (x : Nat) (hxx : x = if g i = 63 then 1 else 0), ∀ ls : Array Slot, lv_has ls 6 [(4, .int (nI (g i))), (1, .int (nI (cq g i))), (2, .int (zI (opZ g i))), (3, .int (nI i)), (0, .ref pd)] → W Gp Gl Ge (headSpec wsX4_firstFault ({ frames := 1, cells := 0, slots := 0, locals := 21 } : Room)).room Gs Gm ([.ref pd] : List Value).toArray Gw Gt Gc Gs.heap [] 0 0 (MQ Gw (vp_Si (fun r : Int32 => r = zI (fltZ g cnt))) ([.ref pd] : List Value).toArray Gs 0 0 (fun _ => False)) (F0 Gm 66 ls [.int (nI x), .int (nI (cq g i))]) := by
            intro x hxx ls hl
            subst hxx
            have hl : lv_has ls 6 [(4, .int (nI (g i))), (1, .int (nI (cq g i))), (2, .int (zI (opZ g i))), (3, .int (nI i)), (0, .ref pd)] := hl
            refine lv_iadd gx gb dX4_firstFault_66 ?_
            refine lv_evi (nI ((cq g i) + (if g i = 63 then 1 else 0))) (nI_add (cq g i) (if g i = 63 then 1 else 0)) ?_
            refine lv_evi (nI (cq g (i + 1))) (rfl) ?_
            refine lv_istore_n (lv' := [(1, .int (nI (cq g (i + 1)))), (4, .int (nI (g i))), (2, .int (zI (opZ g i))), (3, .int (nI i)), (0, .ref pd)]) gx gb dX4_firstFault_67 rfl hl (by decide) rfl (fun ls hl => ?_)
            have L90 : ∀ (b : Bool) (hb : b = decide (g i = 63 ∧ wnt g i ≠ 120 ∧ cq g (i + 1) ≤ 3)), ∀ ls : Array Slot, lv_has ls 6 [(1, .int (nI (cq g (i + 1)))), (4, .int (nI (g i))), (2, .int (zI (opZ g i))), (3, .int (nI i)), (0, .ref pd)] → W Gp Gl Ge (headSpec wsX4_firstFault ({ frames := 1, cells := 0, slots := 0, locals := 21 } : Room)).room Gs Gm ([.ref pd] : List Value).toArray Gw Gt Gc Gs.heap [] 0 0 (MQ Gw (vp_Si (fun r : Int32 => r = zI (fltZ g cnt))) ([.ref pd] : List Value).toArray Gs 0 0 (fun _ => False)) (F0 Gm 90 ls [.int (bI b)]) := by
              intro b hb ls hl
              refine lv_istore (lv' := [(5, .int (bI b)), (1, .int (nI (cq g (i + 1)))), (4, .int (nI (g i))), (2, .int (zI (opZ g i))), (3, .int (nI i)), (0, .ref pd)]) gx gb dX4_firstFault_90 hl (by decide) rfl (fun ls hl => ?_)
              refine lv_iload gx gb dX4_firstFault_92 (lv_at hl 0 rfl) ?_
              refine lv_if_ne (tgt := 113) gx gb dX4_firstFault_94 (by decide) (fun c94 => ?_) (fun c94 => ?_)
              · skip
                rw [b0_eq] at c94
                have c94 := nf_t c94
                have hb2 := of_decide_eq_true (hb.symm.trans c94)
                have hfit : fitS g i = true := by unfold fitS; rw [if_neg hw0]; exact decide_eq_true (by omega)
                refine lv_iconst (v := zI (-1)) gx gb dX4_firstFault_113 (by decide) ?_
                refine lv_evi (zI (opZ g (i + 1))) (congrArg zI (opZ_w hw0).symm) ?_
                refine lv_istore_n (lv' := [(2, .int (zI (opZ g (i + 1)))), (5, .int (bI b)), (1, .int (nI (cq g (i + 1)))), (4, .int (nI (g i))), (3, .int (nI i)), (0, .ref pd)]) gx gb dX4_firstFault_114 rfl hl (by decide) rfl (fun ls hl => ?_)
                refine lv_iinc (v := nI (i + 1)) (lv' := [(3, .int (nI (i + 1))), (2, .int (zI (opZ g (i + 1)))), (5, .int (bI b)), (1, .int (nI (cq g (i + 1)))), (4, .int (nI (g i))), (0, .ref pd)]) gx gb dX4_firstFault_115 hl (k := 4) rfl (nI_add i 1) (by decide) rfl (fun ls hl => ?_)
                refine lv_goto (tgt := 6) gx gb dX4_firstFault_118 (by decide) ?_
                exact ih6 (i + 1) (by omega) (by exact flt_go hf hfit) (by omega) ls (lv_sub hl [3, 1, 0, 5] rfl)
              · skip
                rw [b0_eq] at c94
                have hb2 := of_decide_eq_false (hb.symm.trans c94)
                refine lv_iload gx gb dX4_firstFault_97 (lv_at hl 2 rfl) ?_
                refine lv_bipush (v := nI 48) gx gb dX4_firstFault_99 (by decide) ?_
                refine lv_icmp_lt (tgt := 111) gx gb dX4_firstFault_101 (by decide) (fun c101 => ?_) (fun c101 => ?_)
                · skip
                  rw [nI_ltI (by omega) (by omega)] at c101
                  refine lv_iload_n gx gb dX4_firstFault_111 rfl (lv_at hl 4 rfl) ?_
                  exact W.iret (v := nI i) gx gb gr (fun t ht hW => ⟨nI i, rfl, (by first | (dsimp only; done) | ((try dsimp only); rw [fltZ_at hf (by unfold fitS; rw [if_neg hw0]; exact decide_eq_false (by omega)) (by omega), zI_nat])), ht⟩) (fun q h => by cases h) dX4_firstFault_112
                · skip
                  rw [nI_ltI (by omega) (by omega)] at c101
                  refine lv_iload gx gb dX4_firstFault_104 (lv_at hl 2 rfl) ?_
                  refine lv_bipush (v := nI 57) gx gb dX4_firstFault_106 (by decide) ?_
                  refine lv_icmp_le (tgt := 113) gx gb dX4_firstFault_108 (by decide) (fun c108 => ?_) (fun c108 => ?_)
                  · skip
                    rw [nI_leI (by omega) (by omega)] at c108
                    have hfit : fitS g i = true := by unfold fitS; rw [if_neg hw0]; exact decide_eq_true (by omega)
                    refine lv_iconst (v := zI (-1)) gx gb dX4_firstFault_113 (by decide) ?_
                    refine lv_evi (zI (opZ g (i + 1))) (congrArg zI (opZ_w hw0).symm) ?_
                    refine lv_istore_n (lv' := [(2, .int (zI (opZ g (i + 1)))), (5, .int (bI b)), (1, .int (nI (cq g (i + 1)))), (4, .int (nI (g i))), (3, .int (nI i)), (0, .ref pd)]) gx gb dX4_firstFault_114 rfl hl (by decide) rfl (fun ls hl => ?_)
                    refine lv_iinc (v := nI (i + 1)) (lv' := [(3, .int (nI (i + 1))), (2, .int (zI (opZ g (i + 1)))), (5, .int (bI b)), (1, .int (nI (cq g (i + 1)))), (4, .int (nI (g i))), (0, .ref pd)]) gx gb dX4_firstFault_115 hl (k := 4) rfl (nI_add i 1) (by decide) rfl (fun ls hl => ?_)
                    refine lv_goto (tgt := 6) gx gb dX4_firstFault_118 (by decide) ?_
                    exact ih6 (i + 1) (by omega) (by exact flt_go hf hfit) (by omega) ls (lv_sub hl [3, 1, 0, 5] rfl)
                  · skip
                    rw [nI_leI (by omega) (by omega)] at c108
                    refine lv_iload_n gx gb dX4_firstFault_111 rfl (lv_at hl 4 rfl) ?_
                    exact W.iret (v := nI i) gx gb gr (fun t ht hW => ⟨nI i, rfl, (by first | (dsimp only; done) | ((try dsimp only); rw [fltZ_at hf (by unfold fitS; rw [if_neg hw0]; exact decide_eq_false (by omega)) (by omega), zI_nat])), ht⟩) (fun q h => by cases h) dX4_firstFault_112
            have hcq1 := cq_le g (i + 1)
            have h120 := opZ_120 hwl
            refine lv_iload gx gb dX4_firstFault_68 (lv_at hl 1 rfl) ?_
            refine lv_bipush (v := nI 63) gx gb dX4_firstFault_70 (by decide) ?_
            refine lv_icmp_ne (tgt := 89) gx gb dX4_firstFault_72 (by decide) (fun c72 => ?_) (fun c72 => ?_)
            · skip
              rw [nI_eq (by omega) (by omega)] at c72
              refine lv_iconst (v := nI 0) gx gb dX4_firstFault_89 (by decide) ?_
              exact L90 false (by first | exact (decide_eq_true (by omega)).symm | exact (decide_eq_false (by omega)).symm) ls (lv_sub hl [0, 1, 2, 3, 4] rfl)
            · skip
              rw [nI_eq (by omega) (by omega)] at c72
              refine lv_iload_n gx gb dX4_firstFault_75 rfl (lv_at hl 2 rfl) ?_
              refine lv_iconst (v := nI 4) gx gb dX4_firstFault_76 (by decide) ?_
              refine lv_icmp_eq (tgt := 89) gx gb dX4_firstFault_77 (by decide) (fun c77 => ?_) (fun c77 => ?_)
              · skip
                rw [zn_eq (by omega) (by omega) (by omega)] at c77
                refine lv_iconst (v := nI 0) gx gb dX4_firstFault_89 (by decide) ?_
                exact L90 false (by first | exact (decide_eq_true (by omega)).symm | exact (decide_eq_false (by omega)).symm) ls (lv_sub hl [0, 1, 2, 3, 4] rfl)
              · skip
                rw [zn_eq (by omega) (by omega) (by omega)] at c77
                refine lv_iload_n gx gb dX4_firstFault_80 rfl (lv_at hl 0 rfl) ?_
                refine lv_iconst (v := nI 3) gx gb dX4_firstFault_81 (by decide) ?_
                refine lv_icmp_gt (tgt := 89) gx gb dX4_firstFault_82 (by decide) (fun c82 => ?_) (fun c82 => ?_)
                · skip
                  rw [nI_ltI (by omega) (by omega)] at c82
                  refine lv_iconst (v := nI 0) gx gb dX4_firstFault_89 (by decide) ?_
                  exact L90 false (by first | exact (decide_eq_true (by omega)).symm | exact (decide_eq_false (by omega)).symm) ls (lv_sub hl [0, 1, 2, 3, 4] rfl)
                · skip
                  rw [nI_ltI (by omega) (by omega)] at c82
                  refine lv_iconst (v := nI 1) gx gb dX4_firstFault_85 (by decide) ?_
                  refine lv_goto (tgt := 90) gx gb dX4_firstFault_86 (by decide) ?_
                  exact L90 true (by first | exact (decide_eq_true (by omega)).symm | exact (decide_eq_false (by omega)).symm) ls (lv_sub hl [0, 1, 2, 3, 4] rfl)
          refine lv_iload_n gx gb dX4_firstFault_53 rfl (lv_at hl 1 rfl) ?_
          refine lv_iload gx gb dX4_firstFault_54 (lv_at hl 0 rfl) ?_
          refine lv_bipush (v := nI 63) gx gb dX4_firstFault_56 (by decide) ?_
          refine lv_icmp_ne (tgt := 65) gx gb dX4_firstFault_58 (by decide) (fun c58 => ?_) (fun c58 => ?_)
          · skip
            rw [nI_eq (by omega) (by omega)] at c58
            refine lv_iconst (v := nI 0) gx gb dX4_firstFault_65 (by decide) ?_
            exact L66 0 (by first | (rw [if_pos (by omega)]) | (rw [if_neg (by omega)])) ls (lv_sub hl [0, 1, 2, 3, 4] rfl)
          · skip
            rw [nI_eq (by omega) (by omega)] at c58
            refine lv_iconst (v := nI 1) gx gb dX4_firstFault_61 (by decide) ?_
            refine lv_goto (tgt := 66) gx gb dX4_firstFault_62 (by decide) ?_
            exact L66 1 (by first | (rw [if_pos (by omega)]) | (rw [if_neg (by omega)])) ls (lv_sub hl [0, 1, 2, 3, 4] rfl)
        · skip
          rw [zI_eq (by omega) (by omega) (by omega) (by omega)] at c23
          have hw0 : wnt g i = 0 := opZ_i hwl c23
          refine lv_iload gx gb dX4_firstFault_26 (lv_at hl 0 rfl) ?_
          refine vp_callSi (W.runS (As := [.int (nI (g i))]) (rest := []) ⟨gx, gb, gml, gown, gts⟩ (kX7_ofSign Gl (g i) (by omega)) (va_cwS 1 gts gX4_firstFault_X7_ofSign rfl rfl rfl (by decide +kernel) ⟨Nat.le_of_ble_eq_true rfl, Nat.le_of_ble_eq_true rfl⟩) ⟨fun _ _ _ _ h => h, fun U hU hW => ⟨rfl, trivial⟩⟩ rfl rfl hl.1 rfl (lv_room (Nat.le_of_ble_eq_true rfl)) dX4_firstFault_28 ⟨Nat.le_of_ble_eq_true rfl, Nat.le_of_ble_eq_true rfl⟩) (fun r hw => ?_)
          have hr28 := hw
          subst hr28
          refine lv_istore_n (lv' := [(2, .int (zI (ofS (g i)))), (4, .int (nI (g i))), (1, .int (nI (cq g i))), (3, .int (nI i)), (0, .ref pd)]) gx gb dX4_firstFault_31 rfl hl (by decide) rfl (fun ls hl => ?_)
          refine lv_iload_n gx gb dX4_firstFault_32 rfl (lv_at hl 0 rfl) ?_
          refine lv_iconst (v := zI (-1)) gx gb dX4_firstFault_33 (by decide) ?_
          refine lv_icmp_ne (tgt := 39) gx gb dX4_firstFault_34 (by decide) (fun c34 => ?_) (fun c34 => ?_)
          · skip
            rw [zI_eq (by omega) (by omega) (by omega) (by omega)] at c34
            have hfit := fit_l hw0 c34
            have L49 : ∀ (x : Int) (hxx : x = opZ g (i + 1)), ∀ ls : Array Slot, lv_has ls 6 [(2, .int (zI (ofS (g i)))), (4, .int (nI (g i))), (1, .int (nI (cq g i))), (3, .int (nI i)), (0, .ref pd)] → W Gp Gl Ge (headSpec wsX4_firstFault ({ frames := 1, cells := 0, slots := 0, locals := 21 } : Room)).room Gs Gm ([.ref pd] : List Value).toArray Gw Gt Gc Gs.heap [] 0 0 (MQ Gw (vp_Si (fun r : Int32 => r = zI (fltZ g cnt))) ([.ref pd] : List Value).toArray Gs 0 0 (fun _ => False)) (F0 Gm 49 ls [.int (zI x)]) := by
              intro x hxx ls hl
              subst hxx
              rw [show cq g i = cq g (i + 1) from (cq_s (fun h => c34 (by rw [h]; decide))).symm] at hl
              have hl : lv_has ls 6 [(2, .int (zI (ofS (g i)))), (4, .int (nI (g i))), (1, .int (nI (cq g (i + 1)))), (3, .int (nI i)), (0, .ref pd)] := hl
              refine lv_istore_n (lv' := [(2, .int (zI (opZ g (i + 1)))), (4, .int (nI (g i))), (1, .int (nI (cq g (i + 1)))), (3, .int (nI i)), (0, .ref pd)]) gx gb dX4_firstFault_49 rfl hl (by decide) rfl (fun ls hl => ?_)
              refine lv_goto (tgt := 115) gx gb dX4_firstFault_50 (by decide) ?_
              refine lv_iinc (v := nI (i + 1)) (lv' := [(3, .int (nI (i + 1))), (2, .int (zI (opZ g (i + 1)))), (4, .int (nI (g i))), (1, .int (nI (cq g (i + 1)))), (0, .ref pd)]) gx gb dX4_firstFault_115 hl (k := 3) rfl (nI_add i 1) (by decide) rfl (fun ls hl => ?_)
              refine lv_goto (tgt := 6) gx gb dX4_firstFault_118 (by decide) ?_
              exact ih6 (i + 1) (by omega) (by exact flt_go hf hfit) (by omega) ls (lv_sub hl [3, 1, 0, 4] rfl)
            refine lv_iload_n gx gb dX4_firstFault_39 rfl (lv_at hl 0 rfl) ?_
            refine lv_iconst (v := nI 2) gx gb dX4_firstFault_40 (by decide) ?_
            refine lv_icmp_ne (tgt := 48) gx gb dX4_firstFault_41 (by decide) (fun c41 => ?_) (fun c41 => ?_)
            · skip
              rw [zn_eq (by omega) (by omega) (by omega)] at c41
              refine lv_iload_n gx gb dX4_firstFault_48 rfl (lv_at hl 0 rfl) ?_
              exact L49 (ofS (g i)) (by first | exact opZ_r c41 | exact opZ_l hw0 c34 c41) ls (lv_sub hl [0, 1, 2, 3, 4] rfl)
            · skip
              rw [zn_eq (by omega) (by omega) (by omega)] at c41
              refine lv_iconst (v := zI (-1)) gx gb dX4_firstFault_44 (by decide) ?_
              refine lv_goto (tgt := 49) gx gb dX4_firstFault_45 (by decide) ?_
              exact L49 (-1) (by first | exact opZ_r c41 | exact opZ_l hw0 c34 c41) ls (lv_sub hl [0, 1, 2, 3, 4] rfl)
          · skip
            rw [zI_eq (by omega) (by omega) (by omega) (by omega)] at c34
            refine lv_iload_n gx gb dX4_firstFault_37 rfl (lv_at hl 3 rfl) ?_
            exact W.iret (v := nI i) gx gb gr (fun t ht hW => ⟨nI i, rfl, (by first | (dsimp only; done) | ((try dsimp only); rw [fltZ_at hf (fit_n hw0 c34) (by omega), zI_nat])), ht⟩) (fun q h => by cases h) dX4_firstFault_38
  exact L6 _ 0 (by omega) (by rfl) (Nat.lt_succ_self _) ls (lv_sub hl [2, 1, 0, 3] rfl)

set_option maxHeartbeats 4000000 in
set_option maxRecDepth 100000 in
theorem kX4_couldBe (Gl : Launch) (D : va_G) (cI cJ cZ : ClassId) (pd : Nat) (sg : Nat) (cnt : Nat) (rb : Nat) (sb : Nat) (g : Nat → Nat) (sz : Nat) (k p : Nat) (hk : k ≤ 4) (hp : p < 2147483648) (hs1 : 1 ≤ sb) (hs : sb ≤ 7) (hrb : rb < 2147483648) : Met Gl yX4_couldBe wsX4_couldBe ({ frames := 3, cells := 0, slots := 0, locals := 68 } : Room) (va_Pc [.ref pd, .int (nI k), .int (nI p)] (fun U => U.heap.size = sz ∧ va_P D vwCl (wP pd sg cI cnt rb sb g) U.heap ∧ va_K D vwCl [(cI, .int), (cJ, .long), (cZ, .boolean)] U ∧ va_D (fun _ => True) (wP pd sg cI cnt rb sb g))) (va_Qi (fun (r : Int32) (u : Unit) => r = bI (decide (p < plC k sb))) (fun (u : Unit) t => va_P D vwCl (wP pd sg cI cnt (if p < plC k sb then evC rb sb k p else rb) (if p < plC k sb then (if k = 4 then sb - 1 else sb) else sb) g) t.heap ∧ va_K D vwCl [(cI, .int), (cJ, .long), (cZ, .boolean)] t ∧ va_D (va_A (wP pd sg cI cnt rb sb g) sz) (wP pd sg cI cnt (if p < plC k sb then evC rb sb k p else rb) (if p < plC k sb then (if k = 4 then sb - 1 else sb) else sb) g)) (va_A (wP pd sg cI cnt rb sb g) sz)) 0 0 (va_A (wP pd sg cI cnt rb sb g) sz) := by
  refine Met.ofW (cc := cX4_couldBe) (maxL := 3) (ret := (some .boolean)) (by decide +kernel) rfl ?_
  intro Gp Ge Gs Gm Ga Gw Gt Gc G1 Bd gml gv
  obtain ⟨rfl, hsz, hP, hK, hD0⟩ := gv
  have gx := Bd.exec
  have gb := Bd.bytes
  have gr := Bd.returns
  have gts := atoms_spec (ws := wsX4_couldBe) Bd.pre
  have gown : Gs.vm.findClass RX4 = some Gm.cls := findClass_of_methodNamed Bd.named
  have glk := Bd.notSynchronized
  subst hsz
  have hD := hD0.self (sz := Gs.heap.size)
  generalize hAe : va_A (wP pd sg cI cnt rb sb g) Gs.heap.size = A at hD ⊢
  have hA : ∀ q : Nat, Gs.heap.size ≤ q → A q := fun q h => by rw [← hAe]; exact Or.inr h
  have hS : va_S A Gs.heap Gs.heap [] := va_S.rf
  have hP : va_P D vwCl (wP pd sg cI cnt rb sb g) Gs.heap := hP
  have hl := lv_entry ([.ref pd, .int (nI k), .int (nI p)]) (n := 3) (Nat.le_of_ble_eq_true rfl)
  rw [lg_entry_eq]
  generalize (lg_sl ([.ref pd, .int (nI k), .int (nI p)]) ++ List.replicate (3 - (lg_sl ([.ref pd, .int (nI k), .int (nI p)])).length) Slot.unset).toArray = ls at hl ⊢
  have hl : lv_has ls 3 [(0, .ref pd), (1, .int (nI k)), (2, .int (nI p))] := hl
  have i4 : ∀ w ∈ wsX40, w ∈ wsX4_couldBe := by decide +kernel
  refine lv_iload_n gx gb dX4_couldBe_0 rfl (lv_at hl 2 rfl) ?_
  refine lv_if_lt (tgt := 16) gx gb dX4_couldBe_1 (by decide) (fun c1 => ?_) (fun c1 => ?_)
  · skip
    rw [n0_lt (by omega)] at c1
    exfalso; omega
  · skip
    rw [n0_lt (by omega)] at c1
    refine lv_iload_n gx gb dX4_couldBe_4 rfl (lv_at hl 2 rfl) ?_
    refine lv_iload_n gx gb dX4_couldBe_5 rfl (lv_at hl 1 rfl) ?_
    refine lv_aload_n gx gb dX4_couldBe_6 rfl (lv_at hl 0 rfl) ?_
    refine va_get (D := D) (ci := 1) (v := .int (nI sb)) (C := RX4) (T := TX4) (N := 4) gx gb gts i4 gown hK hP 0 rfl rfl 3 (by decide) (gts (.fieldLink RX4 22 "SwanSums$Pad" "sizeBehind" "I") (by decide +kernel)) (fun _ h9 => h9) rfl dX4_couldBe_7 ?_
    refine vp_callSi (W.runS (As := [.int (nI k), .int (nI sb)]) (rest := [.int (nI p)]) ⟨gx, gb, gml, gown, gts⟩ (kX7_places Gl k sb (by omega) (by omega) (by omega)) (va_cwS 2 gts gX4_couldBe_X7_places rfl rfl rfl (by decide +kernel) ⟨Nat.le_of_ble_eq_true rfl, Nat.le_of_ble_eq_true rfl⟩) ⟨fun _ _ _ _ h => h, fun U hU hW => ⟨rfl, trivial⟩⟩ rfl rfl hl.1 rfl (lv_room (Nat.le_of_ble_eq_true rfl)) dX4_couldBe_10 ⟨Nat.le_of_ble_eq_true rfl, Nat.le_of_ble_eq_true rfl⟩) (fun r hw => ?_)
    have hr10 := hw
    subst hr10
    have hpl := plC_le k (q := sb) hs1
    refine lv_icmp_lt (tgt := 18) gx gb dX4_couldBe_13 (by decide) (fun c13 => ?_) (fun c13 => ?_)
    · skip
      rw [nI_ltI (by omega) (by omega)] at c13
      refine lv_aload_n gx gb dX4_couldBe_18 rfl (lv_at hl 0 rfl) ?_
      refine lv_aload_n gx gb dX4_couldBe_19 rfl (lv_at hl 0 rfl) ?_
      refine va_get (D := D) (ci := 1) (v := .int (nI rb)) (C := RX4) (T := TX4) (N := 4) gx gb gts i4 gown hK hP 0 rfl rfl 2 (by decide) (gts (.fieldLink RX4 19 "SwanSums$Pad" "rowBehind" "I") (by decide +kernel)) (fun _ h9 => h9) rfl dX4_couldBe_20 ?_
      refine lv_aload_n gx gb dX4_couldBe_23 rfl (lv_at hl 0 rfl) ?_
      refine va_get (D := D) (ci := 1) (v := .int (nI sb)) (C := RX4) (T := TX4) (N := 4) gx gb gts i4 gown hK hP 0 rfl rfl 3 (by decide) (gts (.fieldLink RX4 22 "SwanSums$Pad" "sizeBehind" "I") (by decide +kernel)) (fun _ h9 => h9) rfl dX4_couldBe_24 ?_
      refine lv_iload_n gx gb dX4_couldBe_27 rfl (lv_at hl 1 rfl) ?_
      refine lv_iload_n gx gb dX4_couldBe_28 rfl (lv_at hl 2 rfl) ?_
      refine vp_callSi (W.runS (As := [.int (nI rb), .int (nI sb), .int (nI k), .int (nI p)]) (rest := [.ref pd]) ⟨gx, gb, gml, gown, gts⟩ (kX6_behindEvent Gl rb sb k p (by omega) (by omega) (by omega) (by omega) (by omega)) (va_cwS 4 gts gX4_couldBe_X6_behindEvent rfl rfl rfl (by decide +kernel) ⟨Nat.le_of_ble_eq_true rfl, Nat.le_of_ble_eq_true rfl⟩) ⟨fun _ _ _ _ h => h, fun U hU hW => ⟨rfl, trivial⟩⟩ rfl rfl hl.1 rfl (lv_room (Nat.le_of_ble_eq_true rfl)) dX4_couldBe_29 ⟨Nat.le_of_ble_eq_true rfl, Nat.le_of_ble_eq_true rfl⟩) (fun r hw => ?_)
      have hr29 := hw
      subst hr29
      refine va_put (D := D) (ci := 1) (v := .int (nI (evC rb sb k p))) (ty := .int) (C := RX4) (T := TX4) (N := 4) gx gb gts i4 tyX4 tyX4_ok nmX4 gown hK hP hD hS 0 rfl rfl 2 (by decide) (gts (.fieldLink RX4 19 "SwanSums$Pad" "rowBehind" "I") (by decide +kernel)) (fun _ h9 => h9) rfl (by decide +kernel) rfl rfl (Nat.le_of_ble_eq_true rfl) dX4_couldBe_32 (fun H locs hP hD hS => ?_)
      have hP : va_P D vwCl (wP pd sg cI cnt (evC rb sb k p) sb g) H := hP
      have hD : va_D A (wP pd sg cI cnt (evC rb sb k p) sb g) := hD
      refine lv_aload_n gx gb dX4_couldBe_35 rfl (lv_at hl 0 rfl) ?_
      refine lv_dup gx gb dX4_couldBe_36 rfl ?_
      refine va_get (D := D) (ci := 1) (v := .int (nI sb)) (C := RX4) (T := TX4) (N := 4) gx gb gts i4 gown hK hP 0 rfl rfl 3 (by decide) (gts (.fieldLink RX4 22 "SwanSums$Pad" "sizeBehind" "I") (by decide +kernel)) (fun _ h9 => h9) rfl dX4_couldBe_37 ?_
      refine lv_iload_n gx gb dX4_couldBe_40 rfl (lv_at hl 1 rfl) ?_
      have L50 : ∀ (x : Nat) (hxx : x = if k = 4 then 1 else 0), ∀ (H : Heap) (locs : List Loc), va_P D vwCl (wP pd sg cI cnt (evC rb sb k p) sb g) H → va_D A (wP pd sg cI cnt (evC rb sb k p) sb g) → va_S A Gs.heap H locs → ∀ ls : Array Slot, lv_has ls 3 [(0, .ref pd), (1, .int (nI k)), (2, .int (nI p))] → W Gp Gl Ge (headSpec wsX4_couldBe ({ frames := 3, cells := 0, slots := 0, locals := 68 } : Room)).room Gs Gm ([.ref pd, .int (nI k), .int (nI p)] : List Value).toArray Gw Gt Gc H locs 0 0 (MQ Gw (va_Qi (fun (r : Int32) (u : Unit) => r = bI (decide (p < plC k sb))) (fun (u : Unit) t => va_P D vwCl (wP pd sg cI cnt (if p < plC k sb then evC rb sb k p else rb) (if p < plC k sb then (if k = 4 then sb - 1 else sb) else sb) g) t.heap ∧ va_K D vwCl [(cI, .int), (cJ, .long), (cZ, .boolean)] t ∧ va_D A (wP pd sg cI cnt (if p < plC k sb then evC rb sb k p else rb) (if p < plC k sb then (if k = 4 then sb - 1 else sb) else sb) g)) A) ([.ref pd, .int (nI k), .int (nI p)] : List Value).toArray Gs 0 0 A) (F0 Gm 50 ls [.int (nI x), .int (nI sb), .ref pd]) := by
        intro x hxx H locs hP hD hS ls hl
        have hx1 : x ≤ 1 := by rw [hxx]; split <;> omega
        refine lv_isub gx gb dX4_couldBe_50 ?_
        refine lv_evi (nI (sb - x)) (e_sub (by omega)) ?_
        refine va_put (D := D) (ci := 1) (v := .int (nI (sb - x))) (ty := .int) (C := RX4) (T := TX4) (N := 4) gx gb gts i4 tyX4 tyX4_ok nmX4 gown hK hP hD hS 0 rfl rfl 3 (by decide) (gts (.fieldLink RX4 22 "SwanSums$Pad" "sizeBehind" "I") (by decide +kernel)) (fun _ h9 => h9) rfl (by decide +kernel) rfl rfl (Nat.le_of_ble_eq_true rfl) dX4_couldBe_51 (fun H locs hP hD hS => ?_)
        have hP : va_P D vwCl (wP pd sg cI cnt (evC rb sb k p) (sb - x) g) H := hP
        have hD : va_D A (wP pd sg cI cnt (evC rb sb k p) (sb - x) g) := hD
        refine lv_iconst (v := nI 1) gx gb dX4_couldBe_54 (by decide) ?_
        have e_rb : (evC rb sb k p) = (if p < plC k sb then evC rb sb k p else rb) := by first | rw [if_pos c13] | rw [if_neg (by omega)]
        have e_sb : (sb - x) = (if p < plC k sb then (if k = 4 then sb - 1 else sb) else sb) := by first | (rw [if_pos c13, hxx]; split <;> omega) | rw [if_neg (by omega)]
        have hP : va_P D vwCl (wP pd sg cI cnt (if p < plC k sb then evC rb sb k p else rb) (if p < plC k sb then (if k = 4 then sb - 1 else sb) else sb) g) H := by rw [← e_rb, ← e_sb]; exact hP
        have hD : va_D A (wP pd sg cI cnt (if p < plC k sb then evC rb sb k p else rb) (if p < plC k sb then (if k = 4 then sb - 1 else sb) else sb) g) := by rw [← e_rb, ← e_sb]; exact hD
        exact W.zret (v := nI 1) gx gb gr (by decide) (fun t ht hW => ⟨⟨nI 1, (), rfl, (by first | (dsimp only; done) | ((try dsimp only); exact bI_t (decide_eq_true c13))), by rw [ht]; exact hP, va_K.moved hW.alike hK, hD⟩, hS.F ht⟩) hS.2.2 dX4_couldBe_55
      refine lv_iconst (v := nI 4) gx gb dX4_couldBe_41 (by decide) ?_
      refine lv_icmp_ne (tgt := 49) gx gb dX4_couldBe_42 (by decide) (fun c42 => ?_) (fun c42 => ?_)
      · skip
        rw [nI_eq (by omega) (by omega)] at c42
        refine lv_iconst (v := nI 0) gx gb dX4_couldBe_49 (by decide) ?_
        exact L50 0 (by first | (rw [if_pos (by omega)]) | (rw [if_neg (by omega)])) _ _ hP hD hS ls (lv_sub hl [0, 1, 2] rfl)
      · skip
        rw [nI_eq (by omega) (by omega)] at c42
        refine lv_iconst (v := nI 1) gx gb dX4_couldBe_45 (by decide) ?_
        refine lv_goto (tgt := 50) gx gb dX4_couldBe_46 (by decide) ?_
        exact L50 1 (by first | (rw [if_pos (by omega)]) | (rw [if_neg (by omega)])) _ _ hP hD hS ls (lv_sub hl [0, 1, 2] rfl)
    · skip
      rw [nI_ltI (by omega) (by omega)] at c13
      refine lv_iconst (v := nI 0) gx gb dX4_couldBe_16 (by decide) ?_
      have e_rb : rb = (if p < plC k sb then evC rb sb k p else rb) := by first | rw [if_pos c13] | rw [if_neg (by omega)]
      have e_sb : sb = (if p < plC k sb then (if k = 4 then sb - 1 else sb) else sb) := by first | (rw [if_pos c13, hxx]; split <;> omega) | rw [if_neg (by omega)]
      have hP : va_P D vwCl (wP pd sg cI cnt (if p < plC k sb then evC rb sb k p else rb) (if p < plC k sb then (if k = 4 then sb - 1 else sb) else sb) g) Gs.heap := by rw [← e_rb, ← e_sb]; exact hP
      have hD : va_D A (wP pd sg cI cnt (if p < plC k sb then evC rb sb k p else rb) (if p < plC k sb then (if k = 4 then sb - 1 else sb) else sb) g) := by rw [← e_rb, ← e_sb]; exact hD
      exact W.zret (v := nI 0) gx gb gr (by decide) (fun t ht hW => ⟨⟨nI 0, (), rfl, (by first | (dsimp only; done) | ((try dsimp only); exact bI_f (decide_eq_false (by omega)))), by rw [ht]; exact hP, va_K.moved hW.alike hK, hD⟩, hS.F ht⟩) hS.2.2 dX4_couldBe_17

