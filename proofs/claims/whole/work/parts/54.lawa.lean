set_option maxHeartbeats 4000000 in
set_option maxRecDepth 100000 in
theorem lA_swans {Gp : Program} {Gl : Launch} {Ge : Env} {Gs : State} {Gm : MethodId} {Gw : List Frame} {Gt : Method} {Gc : Code} {b L : Nat} {xs : Nat → Int32} (hL : L ≤ 256) (C0 : lw_At Gp Gs Gm Gt Gc b L xs) (D : va_G) (cI cJ cZ : ClassId) (A : Nat → Prop) (hA : ∀ q : Nat, Gs.heap.size ≤ q → A q) (hbA : ¬ A b) (hK : va_K D vwCl [(cI, .int), (cJ, .long), (cZ, .boolean)] Gs) (h fl e1 e2 pd sg mo ma mb mc md me mf mg mh mi mj mk ml mn : Nat) (i : Nat) (hi : i + 4 ≤ L) (kk : lwHA Gp Gl Ge Gs Gm Gw Gt Gc b D cI cJ cZ A h fl e1 e2 pd sg mo ma mb mc md me mf mg mh mi mj mk ml mn (i + 4)) (n q c w nX qX cX N R S k1 k2 na Na Ra qa Sa ca nb Nb Rb qb Sb cb rb sb z ev : Nat) (num plc sig pad row dig cfr cby que has img kep : Nat → Nat) (far : Nat → Int32) (hI : lwI num plc sig pad img kep n q c w nX qX cX N R S k1 k2 na Na Ra qa Sa ca nb Nb Rb qb Sb cb) (H : Heap) (locs : List Loc) (hP : va_P D vwCl (wLA h fl e1 e2 pd sg cI k1 k2 .null nX N R qX S cX na Na Ra qa Sa ca nb Nb Rb qb Sb cb w rb sb pad mo ma mb mc md me mf mg mh mi mj mk ml mn cZ n q c w z ev num plc sig pad row dig far cfr cby que has img kep) H) (hD : va_D A (wLA h fl e1 e2 pd sg cI k1 k2 .null nX N R qX S cX na Na Ra qa Sa ca nb Nb Rb qb Sb cb w rb sb pad mo ma mb mc md me mf mg mh mi mj mk ml mn cZ n q c w z ev num plc sig pad row dig far cfr cby que has img kep)) (hS : va_S A Gs.heap H locs) (ls : Array Slot) (hl : lv_has ls 4 [(0, .ref b), (1, .ref h), (2, .ref mo), (3, .int (nI i))]) : W Gp Gl Ge room_1 Gs Gm #[Value.ref b] Gw Gt Gc H locs 20 20499 (lw_Z Gw #[Value.ref b] Gs) (F0 Gm 148 ls []) := by
  obtain ⟨gx, gb, gr, gml, gown0, gts0, hX, hbl, glk, hgv⟩ := id C0
  have gts : ∀ w ∈ wsL_law, w.before #[Value.ref b] Gs = true := fun w h => gts0 w (wsL_law_in w h)
  have gown : Gs.vm.findClass RL = some Gm.cls := gown0
  have hb1 := sX_bd xs (i + 1)
  have hb2 := sX_bd xs (i + 2)
  have hb3 := sX_bd xs (i + 3)
  obtain ⟨⟨⟨hF, hN, hR, hSS⟩, hnX, hqX, hcX⟩, -⟩ := id hI
  subst hN hR hSS hnX hqX hcX
  obtain ⟨-, ⟨hw60, hgp⟩, ⟨hke1, hke2, hk1, hk2⟩, -, -⟩ := id hI
  obtain ⟨hn1, hn7, hq1, hqn, hp, hinj, hnum, hc6, hsg⟩ := id hF
  have hpl6 : ∀ x, x < q → plc x ≤ 6 := fun x hx => by have := hp x hx; omega
  have hnv : ∀ x, x < q → num (plc x) ≤ 99 := fun x hx => hnum _ (hp x hx)
  have hkep : ∀ j, j < 2 → kep j ≤ 1 := fun j hj => by rcases (show j = 0 ∨ j = 1 by omega) with rfl | rfl <;> omega
  have hP : va_P D vwCl (wLA h fl e1 e2 pd sg cI k1 k2 .null n (pk 256 num n) (pk 8 plc q) q (pk 64 (fun k => 8 * sig (2 * k) + sig (2 * k + 1)) c) c na Na Ra qa Sa ca nb Nb Rb qb Sb cb w rb sb pad mo ma mb mc md me mf mg mh mi mj mk ml mn cZ n q c w z ev num plc sig pad row dig far cfr cby que has img kep) H := hP
  have hD : va_D A (wLA h fl e1 e2 pd sg cI k1 k2 .null n (pk 256 num n) (pk 8 plc q) q (pk 64 (fun k => 8 * sig (2 * k) + sig (2 * k + 1)) c) c na Na Ra qa Sa ca nb Nb Rb qb Sb cb w rb sb pad mo ma mb mc md me mf mg mh mi mj mk ml mn cZ n q c w z ev num plc sig pad row dig far cfr cby que has img kep) := hD
  have hl : lv_has ls 4 [(0, .ref b), (1, .ref h), (2, .ref mo), (3, .int (nI i))] := hl
  refine lv_aload_n gx gb dL_law_148 rfl (lv_at hl 1 rfl) ?_
  refine lv_aload_n gx gb dL_law_149 rfl (lv_at hl 0 rfl) ?_
  refine lv_iload_n gx gb dL_law_150 rfl (lv_at hl 3 rfl) ?_
  refine lv_iconst (v := nI 1) gx gb dL_law_151 (by decide) ?_
  refine lv_iadd gx gb dL_law_152 ?_
  refine lv_evi (nI (i + 1)) (nI_add i 1) ?_
  refine va_sld gx gb hX hbl hbA hS (vp_in_nI (n := i + 1) (by omega) (by omega)) dL_law_153 ?_
  refine lv_evi (zI (sX xs (i + 1))) (sX_rd xs (by omega)) ?_
  have hPc := hP.sub (ws' := wX h fl e1 e2 pd sg cI k1 k2 .null n (pk 256 num n) (pk 8 plc q) q (pk 64 (fun k => 8 * sig (2 * k) + sig (2 * k + 1)) c) c na Na Ra qa Sa ca nb Nb Rb qb Sb cb w rb sb pad) [0, 1, 2, 3, 4, 5] rfl
  have hDc := hD.sub (ws' := wX h fl e1 e2 pd sg cI k1 k2 .null n (pk 256 num n) (pk 8 plc q) q (pk 64 (fun k => 8 * sig (2 * k) + sig (2 * k + 1)) c) c na Na Ra qa Sa ca nb Nb Rb qb Sb cb w rb sb pad) [0, 1, 2, 3, 4, 5] (by decide) rfl
  have hFc := va_free (wc := wX h fl e1 e2 pd sg cI k1 k2 .null n (pk 256 num n) (pk 8 plc q) q (pk 64 (fun k => 8 * sig (2 * k) + sig (2 * k + 1)) c) c na Na Ra qa Sa ca nb Nb Rb qb Sb cb w rb sb pad) hD hS hA [0, 1, 2, 3, 4, 5] rfl
  refine va_calli (va_runV (As := [.int (zI (sX xs (i + 1)))]) (rest := []) ⟨gx, gb, gml, gown, gts⟩ (kX8_swans Gl D cI cJ cZ h fl e1 e2 pd sg k1 k2 .null n (pk 256 num n) (pk 8 plc q) q (pk 64 (fun k => 8 * sig (2 * k) + sig (2 * k + 1)) c) c na Na Ra qa Sa ca nb Nb Rb qb Sb cb w rb sb pad _ (sX xs (i + 1)) (by omega) (by omega)) (cwV 1 gts gL_law_X8_swans rfl rfl rfl (by decide +kernel) ⟨Nat.le_of_ble_eq_true rfl, Nat.le_of_ble_eq_true rfl⟩) ⟨fun a U g mk q => by obtain ⟨q0, q1, qP, qK, qD⟩ := q; exact ⟨q0, q1, qP, va_K.moved (u := U) (U := U.calling g mk a) (Vm.Alike.refl U.vm) qK, qD⟩, va_recv hK hPc (ci := 3) (q0 := 0) rfl rfl, fun U hU hW => ⟨rfl, by rw [hU], by rw [hU]; exact hPc, va_K.moved hW.alike hK, hDc.weaken (fun _ _ _ _ => trivial)⟩⟩ rfl rfl hl.1 rfl (lv_room (Nat.le_of_ble_eq_true rfl)) dL_law_154 ⟨Nat.le_of_ble_eq_true rfl, Nat.le_of_ble_eq_true rfl⟩) hS (fun q _ h => hFc q h) hFc (fun r u t H1 locs ht hvm hw hB hz1 hk1 hS => ?_)
  obtain ⟨hP1, hK1, hD1⟩ := hB
  rw [ht] at hP1
  try dsimp only at hw
  try dsimp only at hP1
  try dsimp only at hD1
  have hK := va_K.moved hvm.symm hK1
  obtain ⟨hP, hD⟩ := va_join (wr := [(mo, .inr (4, [.int (nI n), .int (nI q), .ref ma, .ref mb, .int (nI c), .ref mc, .int (nI w), .ref md, .ref me, .int (nI z), .int (nI ev), .ref mf, .ref mg, .ref mh, .ref mi, .ref mj, .ref mk, .ref ml, .ref mn])), (ma, .inl (cI, 7, .inl (aN num))), (mb, .inl (cI, 7, .inl (aN plc))), (mc, .inl (cI, 12, .inl (aN sig))), (md, .inl (cI, 60, .inl (aN pad))), (me, .inl (cI, 8, .inl (aN row))), (mf, .inl (cI, 7, .inl (aN dig))), (mg, .inl (cI, 5040, .inl far)), (mh, .inl (cI, 5040, .inl (aN cfr))), (mi, .inl (cI, 5040, .inl (aN cby))), (mj, .inl (cI, 5040, .inl (aN que))), (mk, .inl (cI, 64, .inl (aN has))), (ml, .inl (cI, 64, .inl (aN img))), (mn, .inl (cZ, 2, .inl (aN kep)))]) (w1 := wX h fl e1 e2 pd sg cI k1 k2 .null (if 1 ≤ (sX xs (i + 1)) ∧ (sX xs (i + 1)) ≤ 7 then (sX xs (i + 1)).toNat else n) (if 1 ≤ (sX xs (i + 1)) ∧ (sX xs (i + 1)) ≤ 7 then pk 256 (fun i => i + 1) (sX xs (i + 1)).toNat else (pk 256 num n)) (if 1 ≤ (sX xs (i + 1)) ∧ (sX xs (i + 1)) ≤ 7 then pk 8 (fun i => i) (sX xs (i + 1)).toNat else (pk 8 plc q)) (if 1 ≤ (sX xs (i + 1)) ∧ (sX xs (i + 1)) ≤ 7 then (sX xs (i + 1)).toNat else q) (if 1 ≤ (sX xs (i + 1)) ∧ (sX xs (i + 1)) ≤ 7 then 0 else (pk 64 (fun k => 8 * sig (2 * k) + sig (2 * k + 1)) c)) (if 1 ≤ (sX xs (i + 1)) ∧ (sX xs (i + 1)) ≤ 7 then 0 else c) na Na Ra qa Sa ca nb Nb Rb qb Sb cb w rb sb pad) hP hD [0, 1, 2, 3, 4, 5] [6, 7, 8, 9, 10, 11, 12, 13, 14, 15, 16, 17, 18, 19] rfl rfl (by decide) (by decide) hk1 hFc hP1 hD1
  have hP := hP.sub (ws' := wLA h fl e1 e2 pd sg cI k1 k2 .null (if 1 ≤ (sX xs (i + 1)) ∧ (sX xs (i + 1)) ≤ 7 then (sX xs (i + 1)).toNat else n) (if 1 ≤ (sX xs (i + 1)) ∧ (sX xs (i + 1)) ≤ 7 then pk 256 (fun i => i + 1) (sX xs (i + 1)).toNat else (pk 256 num n)) (if 1 ≤ (sX xs (i + 1)) ∧ (sX xs (i + 1)) ≤ 7 then pk 8 (fun i => i) (sX xs (i + 1)).toNat else (pk 8 plc q)) (if 1 ≤ (sX xs (i + 1)) ∧ (sX xs (i + 1)) ≤ 7 then (sX xs (i + 1)).toNat else q) (if 1 ≤ (sX xs (i + 1)) ∧ (sX xs (i + 1)) ≤ 7 then 0 else (pk 64 (fun k => 8 * sig (2 * k) + sig (2 * k + 1)) c)) (if 1 ≤ (sX xs (i + 1)) ∧ (sX xs (i + 1)) ≤ 7 then 0 else c) na Na Ra qa Sa ca nb Nb Rb qb Sb cb w rb sb pad mo ma mb mc md me mf mg mh mi mj mk ml mn cZ n q c w z ev num plc sig pad row dig far cfr cby que has img kep) [14, 15, 16, 17, 18, 19, 0, 1, 2, 3, 4, 5, 6, 7, 8, 9, 10, 11, 12, 13] rfl
  have hD := hD.sub (ws' := wLA h fl e1 e2 pd sg cI k1 k2 .null (if 1 ≤ (sX xs (i + 1)) ∧ (sX xs (i + 1)) ≤ 7 then (sX xs (i + 1)).toNat else n) (if 1 ≤ (sX xs (i + 1)) ∧ (sX xs (i + 1)) ≤ 7 then pk 256 (fun i => i + 1) (sX xs (i + 1)).toNat else (pk 256 num n)) (if 1 ≤ (sX xs (i + 1)) ∧ (sX xs (i + 1)) ≤ 7 then pk 8 (fun i => i) (sX xs (i + 1)).toNat else (pk 8 plc q)) (if 1 ≤ (sX xs (i + 1)) ∧ (sX xs (i + 1)) ≤ 7 then (sX xs (i + 1)).toNat else q) (if 1 ≤ (sX xs (i + 1)) ∧ (sX xs (i + 1)) ≤ 7 then 0 else (pk 64 (fun k => 8 * sig (2 * k) + sig (2 * k + 1)) c)) (if 1 ≤ (sX xs (i + 1)) ∧ (sX xs (i + 1)) ≤ 7 then 0 else c) na Na Ra qa Sa ca nb Nb Rb qb Sb cb w rb sb pad mo ma mb mc md me mf mg mh mi mj mk ml mn cZ n q c w z ev num plc sig pad row dig far cfr cby que has img kep) [14, 15, 16, 17, 18, 19, 0, 1, 2, 3, 4, 5, 6, 7, 8, 9, 10, 11, 12, 13] (by decide) rfl
  have hK := va_K.moved (Vm.Alike.refl Gs.vm) hK
  generalize H1 = H at hP hS ⊢
  have hr154 := hw
  subst hr154
  refine lv_aload_n gx gb dL_law_157 rfl (lv_at hl 2 rfl) ?_
  refine lv_aload_n gx gb dL_law_158 rfl (lv_at hl 0 rfl) ?_
  refine lv_iload_n gx gb dL_law_159 rfl (lv_at hl 3 rfl) ?_
  refine lv_iconst (v := nI 1) gx gb dL_law_160 (by decide) ?_
  refine lv_iadd gx gb dL_law_161 ?_
  refine lv_evi (nI (i + 1)) (nI_add i 1) ?_
  refine va_sld gx gb hX hbl hbA hS (vp_in_nI (n := i + 1) (by omega) (by omega)) dL_law_162 ?_
  refine lv_evi (zI (sX xs (i + 1))) (sX_rd xs (by omega)) ?_
  have hPc := hP.sub (ws' := wM mo ma mb mc md me mf mg mh mi mj mk ml mn cI cZ n q c w z ev num plc sig pad row dig far cfr cby que has img kep) [6, 7, 8, 9, 10, 11, 12, 13, 14, 15, 16, 17, 18, 19] rfl
  have hDc := hD.sub (ws' := wM mo ma mb mc md me mf mg mh mi mj mk ml mn cI cZ n q c w z ev num plc sig pad row dig far cfr cby que has img kep) [6, 7, 8, 9, 10, 11, 12, 13, 14, 15, 16, 17, 18, 19] (by decide) rfl
  have hFc := va_free (wc := wM mo ma mb mc md me mf mg mh mi mj mk ml mn cI cZ n q c w z ev num plc sig pad row dig far cfr cby que has img kep) hD hS hA [6, 7, 8, 9, 10, 11, 12, 13, 14, 15, 16, 17, 18, 19] rfl
  refine va_calli (va_runV (As := [.int (zI (sX xs (i + 1)))]) (rest := [.int (zI (if 1 ≤ (sX xs (i + 1)) ∧ (sX xs (i + 1)) ≤ 7 then (n : Int) else -2))]) ⟨gx, gb, gml, gown, gts⟩ (kX9_swans Gl D cI cJ cZ mo ma mb mc md me mf mg mh mi mj mk ml mn n q c w z ev num plc sig pad row dig far cfr cby que has img kep _ (sX xs (i + 1)) (by omega) (by omega)) (cwV 1 gts gL_law_X9_swans rfl rfl rfl (by decide +kernel) ⟨Nat.le_of_ble_eq_true rfl, Nat.le_of_ble_eq_true rfl⟩) ⟨fun a U g mk q => by obtain ⟨q0, q1, qP, qK, qD⟩ := q; exact ⟨q0, q1, qP, va_K.moved (u := U) (U := U.calling g mk a) (Vm.Alike.refl U.vm) qK, qD⟩, va_recv hK hPc (ci := 4) (q0 := 0) rfl rfl, fun U hU hW => ⟨rfl, by rw [hU], by rw [hU]; exact hPc, va_K.moved hW.alike hK, hDc.weaken (fun _ _ _ _ => trivial)⟩⟩ rfl rfl hl.1 rfl (lv_room (Nat.le_of_ble_eq_true rfl)) dL_law_163 ⟨Nat.le_of_ble_eq_true rfl, Nat.le_of_ble_eq_true rfl⟩) hS (fun q _ h => hFc q h) hFc (fun r u t H1 locs ht hvm hw hB hz1 hk1 hS => ?_)
  obtain ⟨hP1, hK1, hD1⟩ := hB
  rw [ht] at hP1
  try dsimp only at hw
  try dsimp only at hP1
  try dsimp only at hD1
  have hK := va_K.moved hvm.symm hK1
  obtain ⟨hP, hD⟩ := va_join (wr := [(h, .inr (3, [.ref fl, .ref e1, .ref e2, .int (nI k1), .int (nI k2), .ref pd, .null])), (fl, .inr (0, [.int (nI (if 1 ≤ (sX xs (i + 1)) ∧ (sX xs (i + 1)) ≤ 7 then (sX xs (i + 1)).toNat else n)), .long (lN (if 1 ≤ (sX xs (i + 1)) ∧ (sX xs (i + 1)) ≤ 7 then pk 256 (fun i => i + 1) (sX xs (i + 1)).toNat else (pk 256 num n))), .int (nI (if 1 ≤ (sX xs (i + 1)) ∧ (sX xs (i + 1)) ≤ 7 then pk 8 (fun i => i) (sX xs (i + 1)).toNat else (pk 8 plc q))), .int (nI (if 1 ≤ (sX xs (i + 1)) ∧ (sX xs (i + 1)) ≤ 7 then (sX xs (i + 1)).toNat else q)), .long (lN (if 1 ≤ (sX xs (i + 1)) ∧ (sX xs (i + 1)) ≤ 7 then 0 else (pk 64 (fun k => 8 * sig (2 * k) + sig (2 * k + 1)) c))), .int (nI (if 1 ≤ (sX xs (i + 1)) ∧ (sX xs (i + 1)) ≤ 7 then 0 else c))])), (e1, .inr (0, [.int (nI na), .long (lN Na), .int (nI Ra), .int (nI qa), .long (lN Sa), .int (nI ca)])), (e2, .inr (0, [.int (nI nb), .long (lN Nb), .int (nI Rb), .int (nI qb), .long (lN Sb), .int (nI cb)])), (pd, .inr (1, [.ref sg, .int (nI w), .int (nI rb), .int (nI sb)])), (sg, .inl (cI, 60, .inl (aN pad)))]) (w1 := wM mo ma mb mc md me mf mg mh mi mj mk ml mn cI cZ (if 1 ≤ (sX xs (i + 1)) ∧ (sX xs (i + 1)) ≤ 7 then (sX xs (i + 1)).toNat else n) (if 1 ≤ (sX xs (i + 1)) ∧ (sX xs (i + 1)) ≤ 7 then (sX xs (i + 1)).toNat else q) (if 1 ≤ (sX xs (i + 1)) ∧ (sX xs (i + 1)) ≤ 7 then 0 else c) w z ev (if 1 ≤ (sX xs (i + 1)) ∧ (sX xs (i + 1)) ≤ 7 then cpy (fun k => k + 1) num 7 else num) (if 1 ≤ (sX xs (i + 1)) ∧ (sX xs (i + 1)) ≤ 7 then cpy (fun k => k) plc 7 else plc) sig pad row dig far cfr cby que has img kep) hP hD [6, 7, 8, 9, 10, 11, 12, 13, 14, 15, 16, 17, 18, 19] [0, 1, 2, 3, 4, 5] rfl rfl (by decide) (by decide) hk1 hFc hP1 hD1
  have hP := hP.sub (ws' := wLA h fl e1 e2 pd sg cI k1 k2 .null (if 1 ≤ (sX xs (i + 1)) ∧ (sX xs (i + 1)) ≤ 7 then (sX xs (i + 1)).toNat else n) (if 1 ≤ (sX xs (i + 1)) ∧ (sX xs (i + 1)) ≤ 7 then pk 256 (fun i => i + 1) (sX xs (i + 1)).toNat else (pk 256 num n)) (if 1 ≤ (sX xs (i + 1)) ∧ (sX xs (i + 1)) ≤ 7 then pk 8 (fun i => i) (sX xs (i + 1)).toNat else (pk 8 plc q)) (if 1 ≤ (sX xs (i + 1)) ∧ (sX xs (i + 1)) ≤ 7 then (sX xs (i + 1)).toNat else q) (if 1 ≤ (sX xs (i + 1)) ∧ (sX xs (i + 1)) ≤ 7 then 0 else (pk 64 (fun k => 8 * sig (2 * k) + sig (2 * k + 1)) c)) (if 1 ≤ (sX xs (i + 1)) ∧ (sX xs (i + 1)) ≤ 7 then 0 else c) na Na Ra qa Sa ca nb Nb Rb qb Sb cb w rb sb pad mo ma mb mc md me mf mg mh mi mj mk ml mn cZ (if 1 ≤ (sX xs (i + 1)) ∧ (sX xs (i + 1)) ≤ 7 then (sX xs (i + 1)).toNat else n) (if 1 ≤ (sX xs (i + 1)) ∧ (sX xs (i + 1)) ≤ 7 then (sX xs (i + 1)).toNat else q) (if 1 ≤ (sX xs (i + 1)) ∧ (sX xs (i + 1)) ≤ 7 then 0 else c) w z ev (if 1 ≤ (sX xs (i + 1)) ∧ (sX xs (i + 1)) ≤ 7 then cpy (fun k => k + 1) num 7 else num) (if 1 ≤ (sX xs (i + 1)) ∧ (sX xs (i + 1)) ≤ 7 then cpy (fun k => k) plc 7 else plc) sig pad row dig far cfr cby que has img kep) [0, 1, 2, 3, 4, 5, 6, 7, 8, 9, 10, 11, 12, 13, 14, 15, 16, 17, 18, 19] rfl
  have hD := hD.sub (ws' := wLA h fl e1 e2 pd sg cI k1 k2 .null (if 1 ≤ (sX xs (i + 1)) ∧ (sX xs (i + 1)) ≤ 7 then (sX xs (i + 1)).toNat else n) (if 1 ≤ (sX xs (i + 1)) ∧ (sX xs (i + 1)) ≤ 7 then pk 256 (fun i => i + 1) (sX xs (i + 1)).toNat else (pk 256 num n)) (if 1 ≤ (sX xs (i + 1)) ∧ (sX xs (i + 1)) ≤ 7 then pk 8 (fun i => i) (sX xs (i + 1)).toNat else (pk 8 plc q)) (if 1 ≤ (sX xs (i + 1)) ∧ (sX xs (i + 1)) ≤ 7 then (sX xs (i + 1)).toNat else q) (if 1 ≤ (sX xs (i + 1)) ∧ (sX xs (i + 1)) ≤ 7 then 0 else (pk 64 (fun k => 8 * sig (2 * k) + sig (2 * k + 1)) c)) (if 1 ≤ (sX xs (i + 1)) ∧ (sX xs (i + 1)) ≤ 7 then 0 else c) na Na Ra qa Sa ca nb Nb Rb qb Sb cb w rb sb pad mo ma mb mc md me mf mg mh mi mj mk ml mn cZ (if 1 ≤ (sX xs (i + 1)) ∧ (sX xs (i + 1)) ≤ 7 then (sX xs (i + 1)).toNat else n) (if 1 ≤ (sX xs (i + 1)) ∧ (sX xs (i + 1)) ≤ 7 then (sX xs (i + 1)).toNat else q) (if 1 ≤ (sX xs (i + 1)) ∧ (sX xs (i + 1)) ≤ 7 then 0 else c) w z ev (if 1 ≤ (sX xs (i + 1)) ∧ (sX xs (i + 1)) ≤ 7 then cpy (fun k => k + 1) num 7 else num) (if 1 ≤ (sX xs (i + 1)) ∧ (sX xs (i + 1)) ≤ 7 then cpy (fun k => k) plc 7 else plc) sig pad row dig far cfr cby que has img kep) [0, 1, 2, 3, 4, 5, 6, 7, 8, 9, 10, 11, 12, 13, 14, 15, 16, 17, 18, 19] (by decide) rfl
  have hK := va_K.moved (Vm.Alike.refl Gs.vm) hK
  generalize H1 = H at hP hS ⊢
  have hr163 := hw
  subst hr163
  refine lv_icmp_eq (tgt := 774) gx gb dL_law_166 (by decide) (fun c166 => ?_) (fun c166 => ?_)
  · skip
    have hNext := lw_swans hI (sX xs (i + 1))
    refine lv_iinc (v := nI (i + 4)) (lv' := [(3, .int (nI (i + 4))), (0, .ref b), (1, .ref h), (2, .ref mo)]) gx gb dL_law_774 hl (k := 3) rfl (nI_add i 4) (by decide) rfl (fun ls hl => ?_)
    refine lv_goto (tgt := 18) gx gb dL_law_777 (by decide) ?_
    exact kk (if 1 ≤ (sX xs (i + 1)) ∧ (sX xs (i + 1)) ≤ 7 then (sX xs (i + 1)).toNat else n) (if 1 ≤ (sX xs (i + 1)) ∧ (sX xs (i + 1)) ≤ 7 then (sX xs (i + 1)).toNat else q) (if 1 ≤ (sX xs (i + 1)) ∧ (sX xs (i + 1)) ≤ 7 then 0 else c) w (if 1 ≤ (sX xs (i + 1)) ∧ (sX xs (i + 1)) ≤ 7 then (sX xs (i + 1)).toNat else n) (if 1 ≤ (sX xs (i + 1)) ∧ (sX xs (i + 1)) ≤ 7 then (sX xs (i + 1)).toNat else q) (if 1 ≤ (sX xs (i + 1)) ∧ (sX xs (i + 1)) ≤ 7 then 0 else c) (if 1 ≤ (sX xs (i + 1)) ∧ (sX xs (i + 1)) ≤ 7 then pk 256 (fun i => i + 1) (sX xs (i + 1)).toNat else (pk 256 num n)) (if 1 ≤ (sX xs (i + 1)) ∧ (sX xs (i + 1)) ≤ 7 then pk 8 (fun i => i) (sX xs (i + 1)).toNat else (pk 8 plc q)) (if 1 ≤ (sX xs (i + 1)) ∧ (sX xs (i + 1)) ≤ 7 then 0 else (pk 64 (fun k => 8 * sig (2 * k) + sig (2 * k + 1)) c)) k1 k2 na Na Ra qa Sa ca nb Nb Rb qb Sb cb rb sb z ev (if 1 ≤ (sX xs (i + 1)) ∧ (sX xs (i + 1)) ≤ 7 then cpy (fun k => k + 1) num 7 else num) (if 1 ≤ (sX xs (i + 1)) ∧ (sX xs (i + 1)) ≤ 7 then cpy (fun k => k) plc 7 else plc) sig pad row dig cfr cby que has img kep far hNext H locs hP hD hS ls (lv_sub hl [1, 2, 3, 0] rfl)
  · skip
    exact absurd rfl c166

set_option maxHeartbeats 4000000 in
set_option maxRecDepth 100000 in
theorem lA_number {Gp : Program} {Gl : Launch} {Ge : Env} {Gs : State} {Gm : MethodId} {Gw : List Frame} {Gt : Method} {Gc : Code} {b L : Nat} {xs : Nat → Int32} (hL : L ≤ 256) (C0 : lw_At Gp Gs Gm Gt Gc b L xs) (D : va_G) (cI cJ cZ : ClassId) (A : Nat → Prop) (hA : ∀ q : Nat, Gs.heap.size ≤ q → A q) (hbA : ¬ A b) (hK : va_K D vwCl [(cI, .int), (cJ, .long), (cZ, .boolean)] Gs) (h fl e1 e2 pd sg mo ma mb mc md me mf mg mh mi mj mk ml mn : Nat) (i : Nat) (hi : i + 4 ≤ L) (kk : lwHA Gp Gl Ge Gs Gm Gw Gt Gc b D cI cJ cZ A h fl e1 e2 pd sg mo ma mb mc md me mf mg mh mi mj mk ml mn (i + 4)) (n q c w nX qX cX N R S k1 k2 na Na Ra qa Sa ca nb Nb Rb qb Sb cb rb sb z ev : Nat) (num plc sig pad row dig cfr cby que has img kep : Nat → Nat) (far : Nat → Int32) (hI : lwI num plc sig pad img kep n q c w nX qX cX N R S k1 k2 na Na Ra qa Sa ca nb Nb Rb qb Sb cb) (H : Heap) (locs : List Loc) (hP : va_P D vwCl (wLA h fl e1 e2 pd sg cI k1 k2 .null nX N R qX S cX na Na Ra qa Sa ca nb Nb Rb qb Sb cb w rb sb pad mo ma mb mc md me mf mg mh mi mj mk ml mn cZ n q c w z ev num plc sig pad row dig far cfr cby que has img kep) H) (hD : va_D A (wLA h fl e1 e2 pd sg cI k1 k2 .null nX N R qX S cX na Na Ra qa Sa ca nb Nb Rb qb Sb cb w rb sb pad mo ma mb mc md me mf mg mh mi mj mk ml mn cZ n q c w z ev num plc sig pad row dig far cfr cby que has img kep)) (hS : va_S A Gs.heap H locs) (ls : Array Slot) (hl : lv_has ls 4 [(0, .ref b), (1, .ref h), (2, .ref mo), (3, .int (nI i))]) : W Gp Gl Ge room_1 Gs Gm #[Value.ref b] Gw Gt Gc H locs 20 20499 (lw_Z Gw #[Value.ref b] Gs) (F0 Gm 171 ls []) := by
  obtain ⟨gx, gb, gr, gml, gown0, gts0, hX, hbl, glk, hgv⟩ := id C0
  have gts : ∀ w ∈ wsL_law, w.before #[Value.ref b] Gs = true := fun w h => gts0 w (wsL_law_in w h)
  have gown : Gs.vm.findClass RL = some Gm.cls := gown0
  have hb1 := sX_bd xs (i + 1)
  have hb2 := sX_bd xs (i + 2)
  have hb3 := sX_bd xs (i + 3)
  obtain ⟨⟨⟨hF, hN, hR, hSS⟩, hnX, hqX, hcX⟩, -⟩ := id hI
  subst hN hR hSS hnX hqX hcX
  obtain ⟨-, ⟨hw60, hgp⟩, ⟨hke1, hke2, hk1, hk2⟩, -, -⟩ := id hI
  obtain ⟨hn1, hn7, hq1, hqn, hp, hinj, hnum, hc6, hsg⟩ := id hF
  have hpl6 : ∀ x, x < q → plc x ≤ 6 := fun x hx => by have := hp x hx; omega
  have hnv : ∀ x, x < q → num (plc x) ≤ 99 := fun x hx => hnum _ (hp x hx)
  have hkep : ∀ j, j < 2 → kep j ≤ 1 := fun j hj => by rcases (show j = 0 ∨ j = 1 by omega) with rfl | rfl <;> omega
  have hP : va_P D vwCl (wLA h fl e1 e2 pd sg cI k1 k2 .null n (pk 256 num n) (pk 8 plc q) q (pk 64 (fun k => 8 * sig (2 * k) + sig (2 * k + 1)) c) c na Na Ra qa Sa ca nb Nb Rb qb Sb cb w rb sb pad mo ma mb mc md me mf mg mh mi mj mk ml mn cZ n q c w z ev num plc sig pad row dig far cfr cby que has img kep) H := hP
  have hD : va_D A (wLA h fl e1 e2 pd sg cI k1 k2 .null n (pk 256 num n) (pk 8 plc q) q (pk 64 (fun k => 8 * sig (2 * k) + sig (2 * k + 1)) c) c na Na Ra qa Sa ca nb Nb Rb qb Sb cb w rb sb pad mo ma mb mc md me mf mg mh mi mj mk ml mn cZ n q c w z ev num plc sig pad row dig far cfr cby que has img kep) := hD
  have hl : lv_has ls 4 [(0, .ref b), (1, .ref h), (2, .ref mo), (3, .int (nI i))] := hl
  refine lv_aload_n gx gb dL_law_171 rfl (lv_at hl 1 rfl) ?_
  refine lv_aload_n gx gb dL_law_172 rfl (lv_at hl 0 rfl) ?_
  refine lv_iload_n gx gb dL_law_173 rfl (lv_at hl 3 rfl) ?_
  refine lv_iconst (v := nI 1) gx gb dL_law_174 (by decide) ?_
  refine lv_iadd gx gb dL_law_175 ?_
  refine lv_evi (nI (i + 1)) (nI_add i 1) ?_
  refine va_sld gx gb hX hbl hbA hS (vp_in_nI (n := i + 1) (by omega) (by omega)) dL_law_176 ?_
  refine lv_evi (zI (sX xs (i + 1))) (sX_rd xs (by omega)) ?_
  refine lv_aload_n gx gb dL_law_177 rfl (lv_at hl 0 rfl) ?_
  refine lv_iload_n gx gb dL_law_178 rfl (lv_at hl 3 rfl) ?_
  refine lv_iconst (v := nI 2) gx gb dL_law_179 (by decide) ?_
  refine lv_iadd gx gb dL_law_180 ?_
  refine lv_evi (nI (i + 2)) (nI_add i 2) ?_
  refine va_sld gx gb hX hbl hbA hS (vp_in_nI (n := i + 2) (by omega) (by omega)) dL_law_181 ?_
  refine lv_evi (zI (sX xs (i + 2))) (sX_rd xs (by omega)) ?_
  have hPc := hP.sub (ws' := wX h fl e1 e2 pd sg cI k1 k2 .null n (pk 256 num n) (pk 8 plc q) q (pk 64 (fun k => 8 * sig (2 * k) + sig (2 * k + 1)) c) c na Na Ra qa Sa ca nb Nb Rb qb Sb cb w rb sb pad) [0, 1, 2, 3, 4, 5] rfl
  have hDc := hD.sub (ws' := wX h fl e1 e2 pd sg cI k1 k2 .null n (pk 256 num n) (pk 8 plc q) q (pk 64 (fun k => 8 * sig (2 * k) + sig (2 * k + 1)) c) c na Na Ra qa Sa ca nb Nb Rb qb Sb cb w rb sb pad) [0, 1, 2, 3, 4, 5] (by decide) rfl
  have hFc := va_free (wc := wX h fl e1 e2 pd sg cI k1 k2 .null n (pk 256 num n) (pk 8 plc q) q (pk 64 (fun k => 8 * sig (2 * k) + sig (2 * k + 1)) c) c na Na Ra qa Sa ca nb Nb Rb qb Sb cb w rb sb pad) hD hS hA [0, 1, 2, 3, 4, 5] rfl
  refine va_calli (va_runV (As := [.int (zI (sX xs (i + 1))), .int (zI (sX xs (i + 2)))]) (rest := []) ⟨gx, gb, gml, gown, gts⟩ (kX8_number Gl D cI cJ cZ h fl e1 e2 pd sg k1 k2 .null n (pk 8 plc q) q (pk 64 (fun k => 8 * sig (2 * k) + sig (2 * k + 1)) c) c na Na Ra qa Sa ca nb Nb Rb qb Sb cb w rb sb pad _ num (sX xs (i + 1)) (sX xs (i + 2)) (by omega) (by omega) (by omega) (by omega) (by omega) (by exact hnum)) (cwV 2 gts gL_law_X8_number rfl rfl rfl (by decide +kernel) ⟨Nat.le_of_ble_eq_true rfl, Nat.le_of_ble_eq_true rfl⟩) ⟨fun a U g mk q => by obtain ⟨q0, q1, qP, qK, qD⟩ := q; exact ⟨q0, q1, qP, va_K.moved (u := U) (U := U.calling g mk a) (Vm.Alike.refl U.vm) qK, qD⟩, va_recv hK hPc (ci := 3) (q0 := 0) rfl rfl, fun U hU hW => ⟨rfl, by rw [hU], by rw [hU]; exact hPc, va_K.moved hW.alike hK, hDc.weaken (fun _ _ _ _ => trivial)⟩⟩ rfl rfl hl.1 rfl (lv_room (Nat.le_of_ble_eq_true rfl)) dL_law_182 ⟨Nat.le_of_ble_eq_true rfl, Nat.le_of_ble_eq_true rfl⟩) hS (fun q _ h => hFc q h) hFc (fun r u t H1 locs ht hvm hw hB hz1 hk1 hS => ?_)
  obtain ⟨hP1, hK1, hD1⟩ := hB
  rw [ht] at hP1
  try dsimp only at hw
  try dsimp only at hP1
  try dsimp only at hD1
  have hK := va_K.moved hvm.symm hK1
  obtain ⟨hP, hD⟩ := va_join (wr := [(mo, .inr (4, [.int (nI n), .int (nI q), .ref ma, .ref mb, .int (nI c), .ref mc, .int (nI w), .ref md, .ref me, .int (nI z), .int (nI ev), .ref mf, .ref mg, .ref mh, .ref mi, .ref mj, .ref mk, .ref ml, .ref mn])), (ma, .inl (cI, 7, .inl (aN num))), (mb, .inl (cI, 7, .inl (aN plc))), (mc, .inl (cI, 12, .inl (aN sig))), (md, .inl (cI, 60, .inl (aN pad))), (me, .inl (cI, 8, .inl (aN row))), (mf, .inl (cI, 7, .inl (aN dig))), (mg, .inl (cI, 5040, .inl far)), (mh, .inl (cI, 5040, .inl (aN cfr))), (mi, .inl (cI, 5040, .inl (aN cby))), (mj, .inl (cI, 5040, .inl (aN que))), (mk, .inl (cI, 64, .inl (aN has))), (ml, .inl (cI, 64, .inl (aN img))), (mn, .inl (cZ, 2, .inl (aN kep)))]) (w1 := wX h fl e1 e2 pd sg cI k1 k2 .null n (pk 256 (if (0 ≤ (sX xs (i + 1)) ∧ (sX xs (i + 1)) < n) ∧ (0 ≤ (sX xs (i + 2)) ∧ (sX xs (i + 2)) ≤ 99) then up num (sX xs (i + 1)).toNat (sX xs (i + 2)).toNat else num) n) (pk 8 plc q) q (pk 64 (fun k => 8 * sig (2 * k) + sig (2 * k + 1)) c) c na Na Ra qa Sa ca nb Nb Rb qb Sb cb w rb sb pad) hP hD [0, 1, 2, 3, 4, 5] [6, 7, 8, 9, 10, 11, 12, 13, 14, 15, 16, 17, 18, 19] rfl rfl (by decide) (by decide) hk1 hFc hP1 hD1
  have hP := hP.sub (ws' := wLA h fl e1 e2 pd sg cI k1 k2 .null n (pk 256 (if (0 ≤ (sX xs (i + 1)) ∧ (sX xs (i + 1)) < n) ∧ (0 ≤ (sX xs (i + 2)) ∧ (sX xs (i + 2)) ≤ 99) then up num (sX xs (i + 1)).toNat (sX xs (i + 2)).toNat else num) n) (pk 8 plc q) q (pk 64 (fun k => 8 * sig (2 * k) + sig (2 * k + 1)) c) c na Na Ra qa Sa ca nb Nb Rb qb Sb cb w rb sb pad mo ma mb mc md me mf mg mh mi mj mk ml mn cZ n q c w z ev num plc sig pad row dig far cfr cby que has img kep) [14, 15, 16, 17, 18, 19, 0, 1, 2, 3, 4, 5, 6, 7, 8, 9, 10, 11, 12, 13] rfl
  have hD := hD.sub (ws' := wLA h fl e1 e2 pd sg cI k1 k2 .null n (pk 256 (if (0 ≤ (sX xs (i + 1)) ∧ (sX xs (i + 1)) < n) ∧ (0 ≤ (sX xs (i + 2)) ∧ (sX xs (i + 2)) ≤ 99) then up num (sX xs (i + 1)).toNat (sX xs (i + 2)).toNat else num) n) (pk 8 plc q) q (pk 64 (fun k => 8 * sig (2 * k) + sig (2 * k + 1)) c) c na Na Ra qa Sa ca nb Nb Rb qb Sb cb w rb sb pad mo ma mb mc md me mf mg mh mi mj mk ml mn cZ n q c w z ev num plc sig pad row dig far cfr cby que has img kep) [14, 15, 16, 17, 18, 19, 0, 1, 2, 3, 4, 5, 6, 7, 8, 9, 10, 11, 12, 13] (by decide) rfl
  have hK := va_K.moved (Vm.Alike.refl Gs.vm) hK
  generalize H1 = H at hP hS ⊢
  have hr182 := hw
  subst hr182
  refine lv_aload_n gx gb dL_law_185 rfl (lv_at hl 2 rfl) ?_
  refine lv_aload_n gx gb dL_law_186 rfl (lv_at hl 0 rfl) ?_
  refine lv_iload_n gx gb dL_law_187 rfl (lv_at hl 3 rfl) ?_
  refine lv_iconst (v := nI 1) gx gb dL_law_188 (by decide) ?_
  refine lv_iadd gx gb dL_law_189 ?_
  refine lv_evi (nI (i + 1)) (nI_add i 1) ?_
  refine va_sld gx gb hX hbl hbA hS (vp_in_nI (n := i + 1) (by omega) (by omega)) dL_law_190 ?_
  refine lv_evi (zI (sX xs (i + 1))) (sX_rd xs (by omega)) ?_
  refine lv_aload_n gx gb dL_law_191 rfl (lv_at hl 0 rfl) ?_
  refine lv_iload_n gx gb dL_law_192 rfl (lv_at hl 3 rfl) ?_
  refine lv_iconst (v := nI 2) gx gb dL_law_193 (by decide) ?_
  refine lv_iadd gx gb dL_law_194 ?_
  refine lv_evi (nI (i + 2)) (nI_add i 2) ?_
  refine va_sld gx gb hX hbl hbA hS (vp_in_nI (n := i + 2) (by omega) (by omega)) dL_law_195 ?_
  refine lv_evi (zI (sX xs (i + 2))) (sX_rd xs (by omega)) ?_
  have hPc := hP.sub (ws' := wM mo ma mb mc md me mf mg mh mi mj mk ml mn cI cZ n q c w z ev num plc sig pad row dig far cfr cby que has img kep) [6, 7, 8, 9, 10, 11, 12, 13, 14, 15, 16, 17, 18, 19] rfl
  have hDc := hD.sub (ws' := wM mo ma mb mc md me mf mg mh mi mj mk ml mn cI cZ n q c w z ev num plc sig pad row dig far cfr cby que has img kep) [6, 7, 8, 9, 10, 11, 12, 13, 14, 15, 16, 17, 18, 19] (by decide) rfl
  have hFc := va_free (wc := wM mo ma mb mc md me mf mg mh mi mj mk ml mn cI cZ n q c w z ev num plc sig pad row dig far cfr cby que has img kep) hD hS hA [6, 7, 8, 9, 10, 11, 12, 13, 14, 15, 16, 17, 18, 19] rfl
  refine va_calli (va_runV (As := [.int (zI (sX xs (i + 1))), .int (zI (sX xs (i + 2)))]) (rest := [.int (zI (numZ n num (sX xs (i + 1)) (sX xs (i + 2))))]) ⟨gx, gb, gml, gown, gts⟩ (kX9_number Gl D cI cJ cZ mo ma mb mc md me mf mg mh mi mj mk ml mn n q c w z ev num plc sig pad row dig far cfr cby que has img kep _ (sX xs (i + 1)) (sX xs (i + 2)) (by omega) (by omega) (by omega) (by omega) (by omega) (by omega) (by omega) (by omega)) (cwV 2 gts gL_law_X9_number rfl rfl rfl (by decide +kernel) ⟨Nat.le_of_ble_eq_true rfl, Nat.le_of_ble_eq_true rfl⟩) ⟨fun a U g mk q => by obtain ⟨q0, q1, qP, qK, qD⟩ := q; exact ⟨q0, q1, qP, va_K.moved (u := U) (U := U.calling g mk a) (Vm.Alike.refl U.vm) qK, qD⟩, va_recv hK hPc (ci := 4) (q0 := 0) rfl rfl, fun U hU hW => ⟨rfl, by rw [hU], by rw [hU]; exact hPc, va_K.moved hW.alike hK, hDc.weaken (fun _ _ _ _ => trivial)⟩⟩ rfl rfl hl.1 rfl (lv_room (Nat.le_of_ble_eq_true rfl)) dL_law_196 ⟨Nat.le_of_ble_eq_true rfl, Nat.le_of_ble_eq_true rfl⟩) hS (fun q _ h => hFc q h) hFc (fun r u t H1 locs ht hvm hw hB hz1 hk1 hS => ?_)
  obtain ⟨hP1, hK1, hD1⟩ := hB
  rw [ht] at hP1
  try dsimp only at hw
  try dsimp only at hP1
  try dsimp only at hD1
  have hK := va_K.moved hvm.symm hK1
  obtain ⟨hP, hD⟩ := va_join (wr := [(h, .inr (3, [.ref fl, .ref e1, .ref e2, .int (nI k1), .int (nI k2), .ref pd, .null])), (fl, .inr (0, [.int (nI n), .long (lN (pk 256 (if (0 ≤ (sX xs (i + 1)) ∧ (sX xs (i + 1)) < n) ∧ (0 ≤ (sX xs (i + 2)) ∧ (sX xs (i + 2)) ≤ 99) then up num (sX xs (i + 1)).toNat (sX xs (i + 2)).toNat else num) n)), .int (nI (pk 8 plc q)), .int (nI q), .long (lN (pk 64 (fun k => 8 * sig (2 * k) + sig (2 * k + 1)) c)), .int (nI c)])), (e1, .inr (0, [.int (nI na), .long (lN Na), .int (nI Ra), .int (nI qa), .long (lN Sa), .int (nI ca)])), (e2, .inr (0, [.int (nI nb), .long (lN Nb), .int (nI Rb), .int (nI qb), .long (lN Sb), .int (nI cb)])), (pd, .inr (1, [.ref sg, .int (nI w), .int (nI rb), .int (nI sb)])), (sg, .inl (cI, 60, .inl (aN pad)))]) (w1 := wM mo ma mb mc md me mf mg mh mi mj mk ml mn cI cZ n q c w z ev (if (0 ≤ (sX xs (i + 1)) ∧ (sX xs (i + 1)) < n) ∧ (0 ≤ (sX xs (i + 2)) ∧ (sX xs (i + 2)) ≤ 99) then up num (sX xs (i + 1)).toNat (sX xs (i + 2)).toNat else num) plc sig pad row dig far cfr cby que has img kep) hP hD [6, 7, 8, 9, 10, 11, 12, 13, 14, 15, 16, 17, 18, 19] [0, 1, 2, 3, 4, 5] rfl rfl (by decide) (by decide) hk1 hFc hP1 hD1
  have hP := hP.sub (ws' := wLA h fl e1 e2 pd sg cI k1 k2 .null n (pk 256 (if (0 ≤ (sX xs (i + 1)) ∧ (sX xs (i + 1)) < n) ∧ (0 ≤ (sX xs (i + 2)) ∧ (sX xs (i + 2)) ≤ 99) then up num (sX xs (i + 1)).toNat (sX xs (i + 2)).toNat else num) n) (pk 8 plc q) q (pk 64 (fun k => 8 * sig (2 * k) + sig (2 * k + 1)) c) c na Na Ra qa Sa ca nb Nb Rb qb Sb cb w rb sb pad mo ma mb mc md me mf mg mh mi mj mk ml mn cZ n q c w z ev (if (0 ≤ (sX xs (i + 1)) ∧ (sX xs (i + 1)) < n) ∧ (0 ≤ (sX xs (i + 2)) ∧ (sX xs (i + 2)) ≤ 99) then up num (sX xs (i + 1)).toNat (sX xs (i + 2)).toNat else num) plc sig pad row dig far cfr cby que has img kep) [0, 1, 2, 3, 4, 5, 6, 7, 8, 9, 10, 11, 12, 13, 14, 15, 16, 17, 18, 19] rfl
  have hD := hD.sub (ws' := wLA h fl e1 e2 pd sg cI k1 k2 .null n (pk 256 (if (0 ≤ (sX xs (i + 1)) ∧ (sX xs (i + 1)) < n) ∧ (0 ≤ (sX xs (i + 2)) ∧ (sX xs (i + 2)) ≤ 99) then up num (sX xs (i + 1)).toNat (sX xs (i + 2)).toNat else num) n) (pk 8 plc q) q (pk 64 (fun k => 8 * sig (2 * k) + sig (2 * k + 1)) c) c na Na Ra qa Sa ca nb Nb Rb qb Sb cb w rb sb pad mo ma mb mc md me mf mg mh mi mj mk ml mn cZ n q c w z ev (if (0 ≤ (sX xs (i + 1)) ∧ (sX xs (i + 1)) < n) ∧ (0 ≤ (sX xs (i + 2)) ∧ (sX xs (i + 2)) ≤ 99) then up num (sX xs (i + 1)).toNat (sX xs (i + 2)).toNat else num) plc sig pad row dig far cfr cby que has img kep) [0, 1, 2, 3, 4, 5, 6, 7, 8, 9, 10, 11, 12, 13, 14, 15, 16, 17, 18, 19] (by decide) rfl
  have hK := va_K.moved (Vm.Alike.refl Gs.vm) hK
  generalize H1 = H at hP hS ⊢
  have hr196 := hw
  subst hr196
  refine lv_icmp_eq (tgt := 774) gx gb dL_law_199 (by decide) (fun c199 => ?_) (fun c199 => ?_)
  · skip
    have hNext := lw_number hI (sX xs (i + 1)) (sX xs (i + 2))
    refine lv_iinc (v := nI (i + 4)) (lv' := [(3, .int (nI (i + 4))), (0, .ref b), (1, .ref h), (2, .ref mo)]) gx gb dL_law_774 hl (k := 3) rfl (nI_add i 4) (by decide) rfl (fun ls hl => ?_)
    refine lv_goto (tgt := 18) gx gb dL_law_777 (by decide) ?_
    exact kk n q c w n q c (pk 256 (if (0 ≤ (sX xs (i + 1)) ∧ (sX xs (i + 1)) < n) ∧ (0 ≤ (sX xs (i + 2)) ∧ (sX xs (i + 2)) ≤ 99) then up num (sX xs (i + 1)).toNat (sX xs (i + 2)).toNat else num) n) (pk 8 plc q) (pk 64 (fun k => 8 * sig (2 * k) + sig (2 * k + 1)) c) k1 k2 na Na Ra qa Sa ca nb Nb Rb qb Sb cb rb sb z ev (if (0 ≤ (sX xs (i + 1)) ∧ (sX xs (i + 1)) < n) ∧ (0 ≤ (sX xs (i + 2)) ∧ (sX xs (i + 2)) ≤ 99) then up num (sX xs (i + 1)).toNat (sX xs (i + 2)).toNat else num) plc sig pad row dig cfr cby que has img kep far hNext H locs hP hD hS ls (lv_sub hl [1, 2, 3, 0] rfl)
  · skip
    exact absurd rfl c199

set_option maxHeartbeats 4000000 in
set_option maxRecDepth 100000 in
theorem lA_say {Gp : Program} {Gl : Launch} {Ge : Env} {Gs : State} {Gm : MethodId} {Gw : List Frame} {Gt : Method} {Gc : Code} {b L : Nat} {xs : Nat → Int32} (hL : L ≤ 256) (C0 : lw_At Gp Gs Gm Gt Gc b L xs) (D : va_G) (cI cJ cZ : ClassId) (A : Nat → Prop) (hA : ∀ q : Nat, Gs.heap.size ≤ q → A q) (hbA : ¬ A b) (hK : va_K D vwCl [(cI, .int), (cJ, .long), (cZ, .boolean)] Gs) (h fl e1 e2 pd sg mo ma mb mc md me mf mg mh mi mj mk ml mn : Nat) (i : Nat) (hi : i + 4 ≤ L) (kk : lwHA Gp Gl Ge Gs Gm Gw Gt Gc b D cI cJ cZ A h fl e1 e2 pd sg mo ma mb mc md me mf mg mh mi mj mk ml mn (i + 4)) (n q c w nX qX cX N R S k1 k2 na Na Ra qa Sa ca nb Nb Rb qb Sb cb rb sb z ev : Nat) (num plc sig pad row dig cfr cby que has img kep : Nat → Nat) (far : Nat → Int32) (hI : lwI num plc sig pad img kep n q c w nX qX cX N R S k1 k2 na Na Ra qa Sa ca nb Nb Rb qb Sb cb) (H : Heap) (locs : List Loc) (hP : va_P D vwCl (wLA h fl e1 e2 pd sg cI k1 k2 .null nX N R qX S cX na Na Ra qa Sa ca nb Nb Rb qb Sb cb w rb sb pad mo ma mb mc md me mf mg mh mi mj mk ml mn cZ n q c w z ev num plc sig pad row dig far cfr cby que has img kep) H) (hD : va_D A (wLA h fl e1 e2 pd sg cI k1 k2 .null nX N R qX S cX na Na Ra qa Sa ca nb Nb Rb qb Sb cb w rb sb pad mo ma mb mc md me mf mg mh mi mj mk ml mn cZ n q c w z ev num plc sig pad row dig far cfr cby que has img kep)) (hS : va_S A Gs.heap H locs) (ls : Array Slot) (hl : lv_has ls 4 [(0, .ref b), (1, .ref h), (2, .ref mo), (3, .int (nI i))]) : W Gp Gl Ge room_1 Gs Gm #[Value.ref b] Gw Gt Gc H locs 20 20499 (lw_Z Gw #[Value.ref b] Gs) (F0 Gm 204 ls []) := by
  obtain ⟨gx, gb, gr, gml, gown0, gts0, hX, hbl, glk, hgv⟩ := id C0
  have gts : ∀ w ∈ wsL_law, w.before #[Value.ref b] Gs = true := fun w h => gts0 w (wsL_law_in w h)
  have gown : Gs.vm.findClass RL = some Gm.cls := gown0
  have hb1 := sX_bd xs (i + 1)
  have hb2 := sX_bd xs (i + 2)
  have hb3 := sX_bd xs (i + 3)
  obtain ⟨⟨⟨hF, hN, hR, hSS⟩, hnX, hqX, hcX⟩, -⟩ := id hI
  subst hN hR hSS hnX hqX hcX
  obtain ⟨-, ⟨hw60, hgp⟩, ⟨hke1, hke2, hk1, hk2⟩, -, -⟩ := id hI
  obtain ⟨hn1, hn7, hq1, hqn, hp, hinj, hnum, hc6, hsg⟩ := id hF
  have hpl6 : ∀ x, x < q → plc x ≤ 6 := fun x hx => by have := hp x hx; omega
  have hnv : ∀ x, x < q → num (plc x) ≤ 99 := fun x hx => hnum _ (hp x hx)
  have hkep : ∀ j, j < 2 → kep j ≤ 1 := fun j hj => by rcases (show j = 0 ∨ j = 1 by omega) with rfl | rfl <;> omega
  have hP : va_P D vwCl (wLA h fl e1 e2 pd sg cI k1 k2 .null n (pk 256 num n) (pk 8 plc q) q (pk 64 (fun k => 8 * sig (2 * k) + sig (2 * k + 1)) c) c na Na Ra qa Sa ca nb Nb Rb qb Sb cb w rb sb pad mo ma mb mc md me mf mg mh mi mj mk ml mn cZ n q c w z ev num plc sig pad row dig far cfr cby que has img kep) H := hP
  have hD : va_D A (wLA h fl e1 e2 pd sg cI k1 k2 .null n (pk 256 num n) (pk 8 plc q) q (pk 64 (fun k => 8 * sig (2 * k) + sig (2 * k + 1)) c) c na Na Ra qa Sa ca nb Nb Rb qb Sb cb w rb sb pad mo ma mb mc md me mf mg mh mi mj mk ml mn cZ n q c w z ev num plc sig pad row dig far cfr cby que has img kep) := hD
  have hl : lv_has ls 4 [(0, .ref b), (1, .ref h), (2, .ref mo), (3, .int (nI i))] := hl
  refine lv_aload_n gx gb dL_law_204 rfl (lv_at hl 1 rfl) ?_
  refine lv_aload_n gx gb dL_law_205 rfl (lv_at hl 0 rfl) ?_
  refine lv_iload_n gx gb dL_law_206 rfl (lv_at hl 3 rfl) ?_
  refine lv_iconst (v := nI 1) gx gb dL_law_207 (by decide) ?_
  refine lv_iadd gx gb dL_law_208 ?_
  refine lv_evi (nI (i + 1)) (nI_add i 1) ?_
  refine va_sld gx gb hX hbl hbA hS (vp_in_nI (n := i + 1) (by omega) (by omega)) dL_law_209 ?_
  refine lv_evi (zI (sX xs (i + 1))) (sX_rd xs (by omega)) ?_
  have hPc := hP.sub (ws' := wX h fl e1 e2 pd sg cI k1 k2 .null n (pk 256 num n) (pk 8 plc q) q (pk 64 (fun k => 8 * sig (2 * k) + sig (2 * k + 1)) c) c na Na Ra qa Sa ca nb Nb Rb qb Sb cb w rb sb pad) [0, 1, 2, 3, 4, 5] rfl
  have hDc := hD.sub (ws' := wX h fl e1 e2 pd sg cI k1 k2 .null n (pk 256 num n) (pk 8 plc q) q (pk 64 (fun k => 8 * sig (2 * k) + sig (2 * k + 1)) c) c na Na Ra qa Sa ca nb Nb Rb qb Sb cb w rb sb pad) [0, 1, 2, 3, 4, 5] (by decide) rfl
  have hFc := va_free (wc := wX h fl e1 e2 pd sg cI k1 k2 .null n (pk 256 num n) (pk 8 plc q) q (pk 64 (fun k => 8 * sig (2 * k) + sig (2 * k + 1)) c) c na Na Ra qa Sa ca nb Nb Rb qb Sb cb w rb sb pad) hD hS hA [0, 1, 2, 3, 4, 5] rfl
  refine va_calli (va_runV (As := [.int (zI (sX xs (i + 1)))]) (rest := []) ⟨gx, gb, gml, gown, gts⟩ (kX8_say Gl D cI cJ cZ h fl e1 e2 pd sg k1 k2 .null n (pk 256 num n) (pk 8 plc q) q (pk 64 (fun k => 8 * sig (2 * k) + sig (2 * k + 1)) c) c na Na Ra qa Sa ca nb Nb Rb qb Sb cb w rb sb pad _ (sX xs (i + 1)) (by omega) (by omega) (by omega)) (cwV 1 gts gL_law_X8_say rfl rfl rfl (by decide +kernel) ⟨Nat.le_of_ble_eq_true rfl, Nat.le_of_ble_eq_true rfl⟩) ⟨fun a U g mk q => by obtain ⟨q0, q1, qP, qK, qD⟩ := q; exact ⟨q0, q1, qP, va_K.moved (u := U) (U := U.calling g mk a) (Vm.Alike.refl U.vm) qK, qD⟩, va_recv hK hPc (ci := 3) (q0 := 0) rfl rfl, fun U hU hW => ⟨rfl, by rw [hU], by rw [hU]; exact hPc, va_K.moved hW.alike hK, hDc.weaken (fun _ _ _ _ => trivial)⟩⟩ rfl rfl hl.1 rfl (lv_room (Nat.le_of_ble_eq_true rfl)) dL_law_210 ⟨Nat.le_of_ble_eq_true rfl, Nat.le_of_ble_eq_true rfl⟩) hS (fun q _ h => hFc q h) hFc (fun r u t H1 locs ht hvm hw hB hz1 hk1 hS => ?_)
  obtain ⟨hP1, hK1, hD1⟩ := hB
  rw [ht] at hP1
  try dsimp only at hw
  try dsimp only at hP1
  try dsimp only at hD1
  have hK := va_K.moved hvm.symm hK1
  obtain ⟨hP, hD⟩ := va_join (wr := [(mo, .inr (4, [.int (nI n), .int (nI q), .ref ma, .ref mb, .int (nI c), .ref mc, .int (nI w), .ref md, .ref me, .int (nI z), .int (nI ev), .ref mf, .ref mg, .ref mh, .ref mi, .ref mj, .ref mk, .ref ml, .ref mn])), (ma, .inl (cI, 7, .inl (aN num))), (mb, .inl (cI, 7, .inl (aN plc))), (mc, .inl (cI, 12, .inl (aN sig))), (md, .inl (cI, 60, .inl (aN pad))), (me, .inl (cI, 8, .inl (aN row))), (mf, .inl (cI, 7, .inl (aN dig))), (mg, .inl (cI, 5040, .inl far)), (mh, .inl (cI, 5040, .inl (aN cfr))), (mi, .inl (cI, 5040, .inl (aN cby))), (mj, .inl (cI, 5040, .inl (aN que))), (mk, .inl (cI, 64, .inl (aN has))), (ml, .inl (cI, 64, .inl (aN img))), (mn, .inl (cZ, 2, .inl (aN kep)))]) (w1 := wX h fl e1 e2 pd sg cI k1 k2 .null n (pk 256 num n) (pk 8 plc q) q (pk 64 (fun k => 8 * sig (2 * k) + sig (2 * k + 1)) c) c na Na Ra qa Sa ca nb Nb Rb qb Sb cb (if (33 ≤ (sX xs (i + 1)) ∧ (sX xs (i + 1)) ≤ 126) ∧ w < 60 then w + 1 else w) rb sb (if (33 ≤ (sX xs (i + 1)) ∧ (sX xs (i + 1)) ≤ 126) ∧ w < 60 then up pad w (sX xs (i + 1)).toNat else pad)) hP hD [0, 1, 2, 3, 4, 5] [6, 7, 8, 9, 10, 11, 12, 13, 14, 15, 16, 17, 18, 19] rfl rfl (by decide) (by decide) hk1 hFc hP1 hD1
  have hP := hP.sub (ws' := wLA h fl e1 e2 pd sg cI k1 k2 .null n (pk 256 num n) (pk 8 plc q) q (pk 64 (fun k => 8 * sig (2 * k) + sig (2 * k + 1)) c) c na Na Ra qa Sa ca nb Nb Rb qb Sb cb (if (33 ≤ (sX xs (i + 1)) ∧ (sX xs (i + 1)) ≤ 126) ∧ w < 60 then w + 1 else w) rb sb (if (33 ≤ (sX xs (i + 1)) ∧ (sX xs (i + 1)) ≤ 126) ∧ w < 60 then up pad w (sX xs (i + 1)).toNat else pad) mo ma mb mc md me mf mg mh mi mj mk ml mn cZ n q c w z ev num plc sig pad row dig far cfr cby que has img kep) [14, 15, 16, 17, 18, 19, 0, 1, 2, 3, 4, 5, 6, 7, 8, 9, 10, 11, 12, 13] rfl
  have hD := hD.sub (ws' := wLA h fl e1 e2 pd sg cI k1 k2 .null n (pk 256 num n) (pk 8 plc q) q (pk 64 (fun k => 8 * sig (2 * k) + sig (2 * k + 1)) c) c na Na Ra qa Sa ca nb Nb Rb qb Sb cb (if (33 ≤ (sX xs (i + 1)) ∧ (sX xs (i + 1)) ≤ 126) ∧ w < 60 then w + 1 else w) rb sb (if (33 ≤ (sX xs (i + 1)) ∧ (sX xs (i + 1)) ≤ 126) ∧ w < 60 then up pad w (sX xs (i + 1)).toNat else pad) mo ma mb mc md me mf mg mh mi mj mk ml mn cZ n q c w z ev num plc sig pad row dig far cfr cby que has img kep) [14, 15, 16, 17, 18, 19, 0, 1, 2, 3, 4, 5, 6, 7, 8, 9, 10, 11, 12, 13] (by decide) rfl
  have hK := va_K.moved (Vm.Alike.refl Gs.vm) hK
  generalize H1 = H at hP hS ⊢
  have hr210 := hw
  subst hr210
  refine lv_aload_n gx gb dL_law_213 rfl (lv_at hl 2 rfl) ?_
  refine lv_aload_n gx gb dL_law_214 rfl (lv_at hl 0 rfl) ?_
  refine lv_iload_n gx gb dL_law_215 rfl (lv_at hl 3 rfl) ?_
  refine lv_iconst (v := nI 1) gx gb dL_law_216 (by decide) ?_
  refine lv_iadd gx gb dL_law_217 ?_
  refine lv_evi (nI (i + 1)) (nI_add i 1) ?_
  refine va_sld gx gb hX hbl hbA hS (vp_in_nI (n := i + 1) (by omega) (by omega)) dL_law_218 ?_
  refine lv_evi (zI (sX xs (i + 1))) (sX_rd xs (by omega)) ?_
  have hPc := hP.sub (ws' := wM mo ma mb mc md me mf mg mh mi mj mk ml mn cI cZ n q c w z ev num plc sig pad row dig far cfr cby que has img kep) [6, 7, 8, 9, 10, 11, 12, 13, 14, 15, 16, 17, 18, 19] rfl
  have hDc := hD.sub (ws' := wM mo ma mb mc md me mf mg mh mi mj mk ml mn cI cZ n q c w z ev num plc sig pad row dig far cfr cby que has img kep) [6, 7, 8, 9, 10, 11, 12, 13, 14, 15, 16, 17, 18, 19] (by decide) rfl
  have hFc := va_free (wc := wM mo ma mb mc md me mf mg mh mi mj mk ml mn cI cZ n q c w z ev num plc sig pad row dig far cfr cby que has img kep) hD hS hA [6, 7, 8, 9, 10, 11, 12, 13, 14, 15, 16, 17, 18, 19] rfl
  refine va_calli (va_runV (As := [.int (zI (sX xs (i + 1)))]) (rest := [.int (zI (sayZ w (sX xs (i + 1))))]) ⟨gx, gb, gml, gown, gts⟩ (kX9_say Gl D cI cJ cZ mo ma mb mc md me mf mg mh mi mj mk ml mn n q c w z ev num plc sig pad row dig far cfr cby que has img kep _ (sX xs (i + 1)) (by omega) (by omega) (by omega)) (cwV 1 gts gL_law_X9_say rfl rfl rfl (by decide +kernel) ⟨Nat.le_of_ble_eq_true rfl, Nat.le_of_ble_eq_true rfl⟩) ⟨fun a U g mk q => by obtain ⟨q0, q1, qP, qK, qD⟩ := q; exact ⟨q0, q1, qP, va_K.moved (u := U) (U := U.calling g mk a) (Vm.Alike.refl U.vm) qK, qD⟩, va_recv hK hPc (ci := 4) (q0 := 0) rfl rfl, fun U hU hW => ⟨rfl, by rw [hU], by rw [hU]; exact hPc, va_K.moved hW.alike hK, hDc.weaken (fun _ _ _ _ => trivial)⟩⟩ rfl rfl hl.1 rfl (lv_room (Nat.le_of_ble_eq_true rfl)) dL_law_219 ⟨Nat.le_of_ble_eq_true rfl, Nat.le_of_ble_eq_true rfl⟩) hS (fun q _ h => hFc q h) hFc (fun r u t H1 locs ht hvm hw hB hz1 hk1 hS => ?_)
  obtain ⟨hP1, hK1, hD1⟩ := hB
  rw [ht] at hP1
  try dsimp only at hw
  try dsimp only at hP1
  try dsimp only at hD1
  have hK := va_K.moved hvm.symm hK1
  obtain ⟨hP, hD⟩ := va_join (wr := [(h, .inr (3, [.ref fl, .ref e1, .ref e2, .int (nI k1), .int (nI k2), .ref pd, .null])), (fl, .inr (0, [.int (nI n), .long (lN (pk 256 num n)), .int (nI (pk 8 plc q)), .int (nI q), .long (lN (pk 64 (fun k => 8 * sig (2 * k) + sig (2 * k + 1)) c)), .int (nI c)])), (e1, .inr (0, [.int (nI na), .long (lN Na), .int (nI Ra), .int (nI qa), .long (lN Sa), .int (nI ca)])), (e2, .inr (0, [.int (nI nb), .long (lN Nb), .int (nI Rb), .int (nI qb), .long (lN Sb), .int (nI cb)])), (pd, .inr (1, [.ref sg, .int (nI (if (33 ≤ (sX xs (i + 1)) ∧ (sX xs (i + 1)) ≤ 126) ∧ w < 60 then w + 1 else w)), .int (nI rb), .int (nI sb)])), (sg, .inl (cI, 60, .inl (aN (if (33 ≤ (sX xs (i + 1)) ∧ (sX xs (i + 1)) ≤ 126) ∧ w < 60 then up pad w (sX xs (i + 1)).toNat else pad))))]) (w1 := wM mo ma mb mc md me mf mg mh mi mj mk ml mn cI cZ n q c (if (33 ≤ (sX xs (i + 1)) ∧ (sX xs (i + 1)) ≤ 126) ∧ w < 60 then w + 1 else w) z ev num plc sig (if (33 ≤ (sX xs (i + 1)) ∧ (sX xs (i + 1)) ≤ 126) ∧ w < 60 then up pad w (sX xs (i + 1)).toNat else pad) row dig far cfr cby que has img kep) hP hD [6, 7, 8, 9, 10, 11, 12, 13, 14, 15, 16, 17, 18, 19] [0, 1, 2, 3, 4, 5] rfl rfl (by decide) (by decide) hk1 hFc hP1 hD1
  have hP := hP.sub (ws' := wLA h fl e1 e2 pd sg cI k1 k2 .null n (pk 256 num n) (pk 8 plc q) q (pk 64 (fun k => 8 * sig (2 * k) + sig (2 * k + 1)) c) c na Na Ra qa Sa ca nb Nb Rb qb Sb cb (if (33 ≤ (sX xs (i + 1)) ∧ (sX xs (i + 1)) ≤ 126) ∧ w < 60 then w + 1 else w) rb sb (if (33 ≤ (sX xs (i + 1)) ∧ (sX xs (i + 1)) ≤ 126) ∧ w < 60 then up pad w (sX xs (i + 1)).toNat else pad) mo ma mb mc md me mf mg mh mi mj mk ml mn cZ n q c (if (33 ≤ (sX xs (i + 1)) ∧ (sX xs (i + 1)) ≤ 126) ∧ w < 60 then w + 1 else w) z ev num plc sig (if (33 ≤ (sX xs (i + 1)) ∧ (sX xs (i + 1)) ≤ 126) ∧ w < 60 then up pad w (sX xs (i + 1)).toNat else pad) row dig far cfr cby que has img kep) [0, 1, 2, 3, 4, 5, 6, 7, 8, 9, 10, 11, 12, 13, 14, 15, 16, 17, 18, 19] rfl
  have hD := hD.sub (ws' := wLA h fl e1 e2 pd sg cI k1 k2 .null n (pk 256 num n) (pk 8 plc q) q (pk 64 (fun k => 8 * sig (2 * k) + sig (2 * k + 1)) c) c na Na Ra qa Sa ca nb Nb Rb qb Sb cb (if (33 ≤ (sX xs (i + 1)) ∧ (sX xs (i + 1)) ≤ 126) ∧ w < 60 then w + 1 else w) rb sb (if (33 ≤ (sX xs (i + 1)) ∧ (sX xs (i + 1)) ≤ 126) ∧ w < 60 then up pad w (sX xs (i + 1)).toNat else pad) mo ma mb mc md me mf mg mh mi mj mk ml mn cZ n q c (if (33 ≤ (sX xs (i + 1)) ∧ (sX xs (i + 1)) ≤ 126) ∧ w < 60 then w + 1 else w) z ev num plc sig (if (33 ≤ (sX xs (i + 1)) ∧ (sX xs (i + 1)) ≤ 126) ∧ w < 60 then up pad w (sX xs (i + 1)).toNat else pad) row dig far cfr cby que has img kep) [0, 1, 2, 3, 4, 5, 6, 7, 8, 9, 10, 11, 12, 13, 14, 15, 16, 17, 18, 19] (by decide) rfl
  have hK := va_K.moved (Vm.Alike.refl Gs.vm) hK
  generalize H1 = H at hP hS ⊢
  have hr219 := hw
  subst hr219
  refine lv_icmp_eq (tgt := 774) gx gb dL_law_222 (by decide) (fun c222 => ?_) (fun c222 => ?_)
  · skip
    have hNext := lw_say hI (sX xs (i + 1))
    refine lv_iinc (v := nI (i + 4)) (lv' := [(3, .int (nI (i + 4))), (0, .ref b), (1, .ref h), (2, .ref mo)]) gx gb dL_law_774 hl (k := 3) rfl (nI_add i 4) (by decide) rfl (fun ls hl => ?_)
    refine lv_goto (tgt := 18) gx gb dL_law_777 (by decide) ?_
    exact kk n q c (if (33 ≤ (sX xs (i + 1)) ∧ (sX xs (i + 1)) ≤ 126) ∧ w < 60 then w + 1 else w) n q c (pk 256 num n) (pk 8 plc q) (pk 64 (fun k => 8 * sig (2 * k) + sig (2 * k + 1)) c) k1 k2 na Na Ra qa Sa ca nb Nb Rb qb Sb cb rb sb z ev num plc sig (if (33 ≤ (sX xs (i + 1)) ∧ (sX xs (i + 1)) ≤ 126) ∧ w < 60 then up pad w (sX xs (i + 1)).toNat else pad) row dig cfr cby que has img kep far hNext H locs hP hD hS ls (lv_sub hl [1, 2, 3, 0] rfl)
  · skip
    exact absurd rfl c222

set_option maxHeartbeats 4000000 in
set_option maxRecDepth 100000 in
theorem lA_wipe {Gp : Program} {Gl : Launch} {Ge : Env} {Gs : State} {Gm : MethodId} {Gw : List Frame} {Gt : Method} {Gc : Code} {b L : Nat} {xs : Nat → Int32} (hL : L ≤ 256) (C0 : lw_At Gp Gs Gm Gt Gc b L xs) (D : va_G) (cI cJ cZ : ClassId) (A : Nat → Prop) (hA : ∀ q : Nat, Gs.heap.size ≤ q → A q) (hbA : ¬ A b) (hK : va_K D vwCl [(cI, .int), (cJ, .long), (cZ, .boolean)] Gs) (h fl e1 e2 pd sg mo ma mb mc md me mf mg mh mi mj mk ml mn : Nat) (i : Nat) (hi : i + 4 ≤ L) (kk : lwHA Gp Gl Ge Gs Gm Gw Gt Gc b D cI cJ cZ A h fl e1 e2 pd sg mo ma mb mc md me mf mg mh mi mj mk ml mn (i + 4)) (n q c w nX qX cX N R S k1 k2 na Na Ra qa Sa ca nb Nb Rb qb Sb cb rb sb z ev : Nat) (num plc sig pad row dig cfr cby que has img kep : Nat → Nat) (far : Nat → Int32) (hI : lwI num plc sig pad img kep n q c w nX qX cX N R S k1 k2 na Na Ra qa Sa ca nb Nb Rb qb Sb cb) (H : Heap) (locs : List Loc) (hP : va_P D vwCl (wLA h fl e1 e2 pd sg cI k1 k2 .null nX N R qX S cX na Na Ra qa Sa ca nb Nb Rb qb Sb cb w rb sb pad mo ma mb mc md me mf mg mh mi mj mk ml mn cZ n q c w z ev num plc sig pad row dig far cfr cby que has img kep) H) (hD : va_D A (wLA h fl e1 e2 pd sg cI k1 k2 .null nX N R qX S cX na Na Ra qa Sa ca nb Nb Rb qb Sb cb w rb sb pad mo ma mb mc md me mf mg mh mi mj mk ml mn cZ n q c w z ev num plc sig pad row dig far cfr cby que has img kep)) (hS : va_S A Gs.heap H locs) (ls : Array Slot) (hl : lv_has ls 4 [(0, .ref b), (1, .ref h), (2, .ref mo), (3, .int (nI i))]) : W Gp Gl Ge room_1 Gs Gm #[Value.ref b] Gw Gt Gc H locs 20 20499 (lw_Z Gw #[Value.ref b] Gs) (F0 Gm 227 ls []) := by
  obtain ⟨gx, gb, gr, gml, gown0, gts0, hX, hbl, glk, hgv⟩ := id C0
  have gts : ∀ w ∈ wsL_law, w.before #[Value.ref b] Gs = true := fun w h => gts0 w (wsL_law_in w h)
  have gown : Gs.vm.findClass RL = some Gm.cls := gown0
  have hb1 := sX_bd xs (i + 1)
  have hb2 := sX_bd xs (i + 2)
  have hb3 := sX_bd xs (i + 3)
  obtain ⟨⟨⟨hF, hN, hR, hSS⟩, hnX, hqX, hcX⟩, -⟩ := id hI
  subst hN hR hSS hnX hqX hcX
  obtain ⟨-, ⟨hw60, hgp⟩, ⟨hke1, hke2, hk1, hk2⟩, -, -⟩ := id hI
  obtain ⟨hn1, hn7, hq1, hqn, hp, hinj, hnum, hc6, hsg⟩ := id hF
  have hpl6 : ∀ x, x < q → plc x ≤ 6 := fun x hx => by have := hp x hx; omega
  have hnv : ∀ x, x < q → num (plc x) ≤ 99 := fun x hx => hnum _ (hp x hx)
  have hkep : ∀ j, j < 2 → kep j ≤ 1 := fun j hj => by rcases (show j = 0 ∨ j = 1 by omega) with rfl | rfl <;> omega
  have hP : va_P D vwCl (wLA h fl e1 e2 pd sg cI k1 k2 .null n (pk 256 num n) (pk 8 plc q) q (pk 64 (fun k => 8 * sig (2 * k) + sig (2 * k + 1)) c) c na Na Ra qa Sa ca nb Nb Rb qb Sb cb w rb sb pad mo ma mb mc md me mf mg mh mi mj mk ml mn cZ n q c w z ev num plc sig pad row dig far cfr cby que has img kep) H := hP
  have hD : va_D A (wLA h fl e1 e2 pd sg cI k1 k2 .null n (pk 256 num n) (pk 8 plc q) q (pk 64 (fun k => 8 * sig (2 * k) + sig (2 * k + 1)) c) c na Na Ra qa Sa ca nb Nb Rb qb Sb cb w rb sb pad mo ma mb mc md me mf mg mh mi mj mk ml mn cZ n q c w z ev num plc sig pad row dig far cfr cby que has img kep) := hD
  have hl : lv_has ls 4 [(0, .ref b), (1, .ref h), (2, .ref mo), (3, .int (nI i))] := hl
  refine lv_aload_n gx gb dL_law_227 rfl (lv_at hl 1 rfl) ?_
  have hPc := hP.sub (ws' := wX h fl e1 e2 pd sg cI k1 k2 .null n (pk 256 num n) (pk 8 plc q) q (pk 64 (fun k => 8 * sig (2 * k) + sig (2 * k + 1)) c) c na Na Ra qa Sa ca nb Nb Rb qb Sb cb w rb sb pad) [0, 1, 2, 3, 4, 5] rfl
  have hDc := hD.sub (ws' := wX h fl e1 e2 pd sg cI k1 k2 .null n (pk 256 num n) (pk 8 plc q) q (pk 64 (fun k => 8 * sig (2 * k) + sig (2 * k + 1)) c) c na Na Ra qa Sa ca nb Nb Rb qb Sb cb w rb sb pad) [0, 1, 2, 3, 4, 5] (by decide) rfl
  have hFc := va_free (wc := wX h fl e1 e2 pd sg cI k1 k2 .null n (pk 256 num n) (pk 8 plc q) q (pk 64 (fun k => 8 * sig (2 * k) + sig (2 * k + 1)) c) c na Na Ra qa Sa ca nb Nb Rb qb Sb cb w rb sb pad) hD hS hA [0, 1, 2, 3, 4, 5] rfl
  refine va_calli (va_runV (As := []) (rest := []) ⟨gx, gb, gml, gown, gts⟩ (kX8_wipe Gl D cI cJ cZ h fl e1 e2 pd sg k1 k2 .null n (pk 256 num n) (pk 8 plc q) q (pk 64 (fun k => 8 * sig (2 * k) + sig (2 * k + 1)) c) c na Na Ra qa Sa ca nb Nb Rb qb Sb cb w rb sb pad _  ) (cwV 0 gts gL_law_X8_wipe rfl rfl rfl (by decide +kernel) ⟨Nat.le_of_ble_eq_true rfl, Nat.le_of_ble_eq_true rfl⟩) ⟨fun a U g mk q => by obtain ⟨q0, q1, qP, qK, qD⟩ := q; exact ⟨q0, q1, qP, va_K.moved (u := U) (U := U.calling g mk a) (Vm.Alike.refl U.vm) qK, qD⟩, va_recv hK hPc (ci := 3) (q0 := 0) rfl rfl, fun U hU hW => ⟨rfl, by rw [hU], by rw [hU]; exact hPc, va_K.moved hW.alike hK, hDc.weaken (fun _ _ _ _ => trivial)⟩⟩ rfl rfl hl.1 rfl (lv_room (Nat.le_of_ble_eq_true rfl)) dL_law_228 ⟨Nat.le_of_ble_eq_true rfl, Nat.le_of_ble_eq_true rfl⟩) hS (fun q _ h => hFc q h) hFc (fun r u t H1 locs ht hvm hw hB hz1 hk1 hS => ?_)
  obtain ⟨hP1, hK1, hD1⟩ := hB
  rw [ht] at hP1
  try dsimp only at hw
  try dsimp only at hP1
  try dsimp only at hD1
  have hK := va_K.moved hvm.symm hK1
  obtain ⟨hP, hD⟩ := va_join (wr := [(mo, .inr (4, [.int (nI n), .int (nI q), .ref ma, .ref mb, .int (nI c), .ref mc, .int (nI w), .ref md, .ref me, .int (nI z), .int (nI ev), .ref mf, .ref mg, .ref mh, .ref mi, .ref mj, .ref mk, .ref ml, .ref mn])), (ma, .inl (cI, 7, .inl (aN num))), (mb, .inl (cI, 7, .inl (aN plc))), (mc, .inl (cI, 12, .inl (aN sig))), (md, .inl (cI, 60, .inl (aN pad))), (me, .inl (cI, 8, .inl (aN row))), (mf, .inl (cI, 7, .inl (aN dig))), (mg, .inl (cI, 5040, .inl far)), (mh, .inl (cI, 5040, .inl (aN cfr))), (mi, .inl (cI, 5040, .inl (aN cby))), (mj, .inl (cI, 5040, .inl (aN que))), (mk, .inl (cI, 64, .inl (aN has))), (ml, .inl (cI, 64, .inl (aN img))), (mn, .inl (cZ, 2, .inl (aN kep)))]) (w1 := wX h fl e1 e2 pd sg cI k1 k2 .null n (pk 256 num n) (pk 8 plc q) q (pk 64 (fun k => 8 * sig (2 * k) + sig (2 * k + 1)) c) c na Na Ra qa Sa ca nb Nb Rb qb Sb cb 0 rb sb pad) hP hD [0, 1, 2, 3, 4, 5] [6, 7, 8, 9, 10, 11, 12, 13, 14, 15, 16, 17, 18, 19] rfl rfl (by decide) (by decide) hk1 hFc hP1 hD1
  have hP := hP.sub (ws' := wLA h fl e1 e2 pd sg cI k1 k2 .null n (pk 256 num n) (pk 8 plc q) q (pk 64 (fun k => 8 * sig (2 * k) + sig (2 * k + 1)) c) c na Na Ra qa Sa ca nb Nb Rb qb Sb cb 0 rb sb pad mo ma mb mc md me mf mg mh mi mj mk ml mn cZ n q c w z ev num plc sig pad row dig far cfr cby que has img kep) [14, 15, 16, 17, 18, 19, 0, 1, 2, 3, 4, 5, 6, 7, 8, 9, 10, 11, 12, 13] rfl
  have hD := hD.sub (ws' := wLA h fl e1 e2 pd sg cI k1 k2 .null n (pk 256 num n) (pk 8 plc q) q (pk 64 (fun k => 8 * sig (2 * k) + sig (2 * k + 1)) c) c na Na Ra qa Sa ca nb Nb Rb qb Sb cb 0 rb sb pad mo ma mb mc md me mf mg mh mi mj mk ml mn cZ n q c w z ev num plc sig pad row dig far cfr cby que has img kep) [14, 15, 16, 17, 18, 19, 0, 1, 2, 3, 4, 5, 6, 7, 8, 9, 10, 11, 12, 13] (by decide) rfl
  have hK := va_K.moved (Vm.Alike.refl Gs.vm) hK
  generalize H1 = H at hP hS ⊢
  have hr228 := hw
  subst hr228
  refine lv_aload_n gx gb dL_law_231 rfl (lv_at hl 2 rfl) ?_
  have hPc := hP.sub (ws' := wM mo ma mb mc md me mf mg mh mi mj mk ml mn cI cZ n q c w z ev num plc sig pad row dig far cfr cby que has img kep) [6, 7, 8, 9, 10, 11, 12, 13, 14, 15, 16, 17, 18, 19] rfl
  have hDc := hD.sub (ws' := wM mo ma mb mc md me mf mg mh mi mj mk ml mn cI cZ n q c w z ev num plc sig pad row dig far cfr cby que has img kep) [6, 7, 8, 9, 10, 11, 12, 13, 14, 15, 16, 17, 18, 19] (by decide) rfl
  have hFc := va_free (wc := wM mo ma mb mc md me mf mg mh mi mj mk ml mn cI cZ n q c w z ev num plc sig pad row dig far cfr cby que has img kep) hD hS hA [6, 7, 8, 9, 10, 11, 12, 13, 14, 15, 16, 17, 18, 19] rfl
  refine va_calli (va_runV (As := []) (rest := [.int (nI w)]) ⟨gx, gb, gml, gown, gts⟩ (kX9_wipe Gl D cI cJ cZ mo ma mb mc md me mf mg mh mi mj mk ml mn n q c w z ev num plc sig pad row dig far cfr cby que has img kep _  ) (cwV 0 gts gL_law_X9_wipe rfl rfl rfl (by decide +kernel) ⟨Nat.le_of_ble_eq_true rfl, Nat.le_of_ble_eq_true rfl⟩) ⟨fun a U g mk q => by obtain ⟨q0, q1, qP, qK, qD⟩ := q; exact ⟨q0, q1, qP, va_K.moved (u := U) (U := U.calling g mk a) (Vm.Alike.refl U.vm) qK, qD⟩, va_recv hK hPc (ci := 4) (q0 := 0) rfl rfl, fun U hU hW => ⟨rfl, by rw [hU], by rw [hU]; exact hPc, va_K.moved hW.alike hK, hDc.weaken (fun _ _ _ _ => trivial)⟩⟩ rfl rfl hl.1 rfl (lv_room (Nat.le_of_ble_eq_true rfl)) dL_law_232 ⟨Nat.le_of_ble_eq_true rfl, Nat.le_of_ble_eq_true rfl⟩) hS (fun q _ h => hFc q h) hFc (fun r u t H1 locs ht hvm hw hB hz1 hk1 hS => ?_)
  obtain ⟨hP1, hK1, hD1⟩ := hB
  rw [ht] at hP1
  try dsimp only at hw
  try dsimp only at hP1
  try dsimp only at hD1
  have hK := va_K.moved hvm.symm hK1
  obtain ⟨hP, hD⟩ := va_join (wr := [(h, .inr (3, [.ref fl, .ref e1, .ref e2, .int (nI k1), .int (nI k2), .ref pd, .null])), (fl, .inr (0, [.int (nI n), .long (lN (pk 256 num n)), .int (nI (pk 8 plc q)), .int (nI q), .long (lN (pk 64 (fun k => 8 * sig (2 * k) + sig (2 * k + 1)) c)), .int (nI c)])), (e1, .inr (0, [.int (nI na), .long (lN Na), .int (nI Ra), .int (nI qa), .long (lN Sa), .int (nI ca)])), (e2, .inr (0, [.int (nI nb), .long (lN Nb), .int (nI Rb), .int (nI qb), .long (lN Sb), .int (nI cb)])), (pd, .inr (1, [.ref sg, .int (nI 0), .int (nI rb), .int (nI sb)])), (sg, .inl (cI, 60, .inl (aN pad)))]) (w1 := wM mo ma mb mc md me mf mg mh mi mj mk ml mn cI cZ n q c 0 z ev num plc sig pad row dig far cfr cby que has img kep) hP hD [6, 7, 8, 9, 10, 11, 12, 13, 14, 15, 16, 17, 18, 19] [0, 1, 2, 3, 4, 5] rfl rfl (by decide) (by decide) hk1 hFc hP1 hD1
  have hP := hP.sub (ws' := wLA h fl e1 e2 pd sg cI k1 k2 .null n (pk 256 num n) (pk 8 plc q) q (pk 64 (fun k => 8 * sig (2 * k) + sig (2 * k + 1)) c) c na Na Ra qa Sa ca nb Nb Rb qb Sb cb 0 rb sb pad mo ma mb mc md me mf mg mh mi mj mk ml mn cZ n q c 0 z ev num plc sig pad row dig far cfr cby que has img kep) [0, 1, 2, 3, 4, 5, 6, 7, 8, 9, 10, 11, 12, 13, 14, 15, 16, 17, 18, 19] rfl
  have hD := hD.sub (ws' := wLA h fl e1 e2 pd sg cI k1 k2 .null n (pk 256 num n) (pk 8 plc q) q (pk 64 (fun k => 8 * sig (2 * k) + sig (2 * k + 1)) c) c na Na Ra qa Sa ca nb Nb Rb qb Sb cb 0 rb sb pad mo ma mb mc md me mf mg mh mi mj mk ml mn cZ n q c 0 z ev num plc sig pad row dig far cfr cby que has img kep) [0, 1, 2, 3, 4, 5, 6, 7, 8, 9, 10, 11, 12, 13, 14, 15, 16, 17, 18, 19] (by decide) rfl
  have hK := va_K.moved (Vm.Alike.refl Gs.vm) hK
  generalize H1 = H at hP hS ⊢
  have hr232 := hw
  subst hr232
  refine lv_icmp_eq (tgt := 774) gx gb dL_law_235 (by decide) (fun c235 => ?_) (fun c235 => ?_)
  · skip
    have hNext := lw_wipe hI
    refine lv_iinc (v := nI (i + 4)) (lv' := [(3, .int (nI (i + 4))), (0, .ref b), (1, .ref h), (2, .ref mo)]) gx gb dL_law_774 hl (k := 3) rfl (nI_add i 4) (by decide) rfl (fun ls hl => ?_)
    refine lv_goto (tgt := 18) gx gb dL_law_777 (by decide) ?_
    exact kk n q c 0 n q c (pk 256 num n) (pk 8 plc q) (pk 64 (fun k => 8 * sig (2 * k) + sig (2 * k + 1)) c) k1 k2 na Na Ra qa Sa ca nb Nb Rb qb Sb cb rb sb z ev num plc sig pad row dig cfr cby que has img kep far hNext H locs hP hD hS ls (lv_sub hl [1, 2, 3, 0] rfl)
  · skip
    exact absurd rfl c235

set_option maxHeartbeats 4000000 in
set_option maxRecDepth 100000 in
theorem lA_fault {Gp : Program} {Gl : Launch} {Ge : Env} {Gs : State} {Gm : MethodId} {Gw : List Frame} {Gt : Method} {Gc : Code} {b L : Nat} {xs : Nat → Int32} (hL : L ≤ 256) (C0 : lw_At Gp Gs Gm Gt Gc b L xs) (D : va_G) (cI cJ cZ : ClassId) (A : Nat → Prop) (hA : ∀ q : Nat, Gs.heap.size ≤ q → A q) (hbA : ¬ A b) (hK : va_K D vwCl [(cI, .int), (cJ, .long), (cZ, .boolean)] Gs) (h fl e1 e2 pd sg mo ma mb mc md me mf mg mh mi mj mk ml mn : Nat) (i : Nat) (hi : i + 4 ≤ L) (kk : lwHA Gp Gl Ge Gs Gm Gw Gt Gc b D cI cJ cZ A h fl e1 e2 pd sg mo ma mb mc md me mf mg mh mi mj mk ml mn (i + 4)) (n q c w nX qX cX N R S k1 k2 na Na Ra qa Sa ca nb Nb Rb qb Sb cb rb sb z ev : Nat) (num plc sig pad row dig cfr cby que has img kep : Nat → Nat) (far : Nat → Int32) (hI : lwI num plc sig pad img kep n q c w nX qX cX N R S k1 k2 na Na Ra qa Sa ca nb Nb Rb qb Sb cb) (H : Heap) (locs : List Loc) (hP : va_P D vwCl (wLA h fl e1 e2 pd sg cI k1 k2 .null nX N R qX S cX na Na Ra qa Sa ca nb Nb Rb qb Sb cb w rb sb pad mo ma mb mc md me mf mg mh mi mj mk ml mn cZ n q c w z ev num plc sig pad row dig far cfr cby que has img kep) H) (hD : va_D A (wLA h fl e1 e2 pd sg cI k1 k2 .null nX N R qX S cX na Na Ra qa Sa ca nb Nb Rb qb Sb cb w rb sb pad mo ma mb mc md me mf mg mh mi mj mk ml mn cZ n q c w z ev num plc sig pad row dig far cfr cby que has img kep)) (hS : va_S A Gs.heap H locs) (ls : Array Slot) (hl : lv_has ls 4 [(0, .ref b), (1, .ref h), (2, .ref mo), (3, .int (nI i))]) : W Gp Gl Ge room_1 Gs Gm #[Value.ref b] Gw Gt Gc H locs 20 20499 (lw_Z Gw #[Value.ref b] Gs) (F0 Gm 240 ls []) := by
  obtain ⟨gx, gb, gr, gml, gown0, gts0, hX, hbl, glk, hgv⟩ := id C0
  have gts : ∀ w ∈ wsL_law, w.before #[Value.ref b] Gs = true := fun w h => gts0 w (wsL_law_in w h)
  have gown : Gs.vm.findClass RL = some Gm.cls := gown0
  have hb1 := sX_bd xs (i + 1)
  have hb2 := sX_bd xs (i + 2)
  have hb3 := sX_bd xs (i + 3)
  obtain ⟨⟨⟨hF, hN, hR, hSS⟩, hnX, hqX, hcX⟩, -⟩ := id hI
  subst hN hR hSS hnX hqX hcX
  obtain ⟨-, ⟨hw60, hgp⟩, ⟨hke1, hke2, hk1, hk2⟩, -, -⟩ := id hI
  obtain ⟨hn1, hn7, hq1, hqn, hp, hinj, hnum, hc6, hsg⟩ := id hF
  have hpl6 : ∀ x, x < q → plc x ≤ 6 := fun x hx => by have := hp x hx; omega
  have hnv : ∀ x, x < q → num (plc x) ≤ 99 := fun x hx => hnum _ (hp x hx)
  have hkep : ∀ j, j < 2 → kep j ≤ 1 := fun j hj => by rcases (show j = 0 ∨ j = 1 by omega) with rfl | rfl <;> omega
  have hP : va_P D vwCl (wLA h fl e1 e2 pd sg cI k1 k2 .null n (pk 256 num n) (pk 8 plc q) q (pk 64 (fun k => 8 * sig (2 * k) + sig (2 * k + 1)) c) c na Na Ra qa Sa ca nb Nb Rb qb Sb cb w rb sb pad mo ma mb mc md me mf mg mh mi mj mk ml mn cZ n q c w z ev num plc sig pad row dig far cfr cby que has img kep) H := hP
  have hD : va_D A (wLA h fl e1 e2 pd sg cI k1 k2 .null n (pk 256 num n) (pk 8 plc q) q (pk 64 (fun k => 8 * sig (2 * k) + sig (2 * k + 1)) c) c na Na Ra qa Sa ca nb Nb Rb qb Sb cb w rb sb pad mo ma mb mc md me mf mg mh mi mj mk ml mn cZ n q c w z ev num plc sig pad row dig far cfr cby que has img kep) := hD
  have hl : lv_has ls 4 [(0, .ref b), (1, .ref h), (2, .ref mo), (3, .int (nI i))] := hl
  refine lv_aload_n gx gb dL_law_240 rfl (lv_at hl 1 rfl) ?_
  have hPc := hP.sub (ws' := wX h fl e1 e2 pd sg cI k1 k2 .null n (pk 256 num n) (pk 8 plc q) q (pk 64 (fun k => 8 * sig (2 * k) + sig (2 * k + 1)) c) c na Na Ra qa Sa ca nb Nb Rb qb Sb cb w rb sb pad) [0, 1, 2, 3, 4, 5] rfl
  refine vp_callSi (W.runV (As := []) (rest := []) ⟨gx, gb, gml, gown, gts⟩ (kX8_fault Gl D cI cJ cZ h fl e1 e2 pd sg k1 k2 .null n (pk 256 num n) (pk 8 plc q) q (pk 64 (fun k => 8 * sig (2 * k) + sig (2 * k + 1)) c) c na Na Ra qa Sa ca nb Nb Rb qb Sb cb w rb sb pad  (by omega) (by exact hgp)) (cwV 0 gts gL_law_X8_fault rfl rfl rfl (by decide +kernel) ⟨Nat.le_of_ble_eq_true rfl, Nat.le_of_ble_eq_true rfl⟩) ⟨fun a U g mk q => ⟨q.1, q.2.1, va_K.moved (u := U) (U := U.calling g mk a) (Vm.Alike.refl U.vm) q.2.2⟩, va_recv hK hPc (ci := 3) (q0 := 0) rfl rfl, fun U hU hW => ⟨rfl, by rw [hU]; exact hPc, va_K.moved hW.alike hK⟩⟩ rfl rfl hl.1 rfl (lv_room (Nat.le_of_ble_eq_true rfl)) dL_law_241 ⟨Nat.le_of_ble_eq_true rfl, Nat.le_of_ble_eq_true rfl⟩) (fun r hw => ?_)
  have hr241 := hw
  subst hr241
  refine lv_aload_n gx gb dL_law_244 rfl (lv_at hl 2 rfl) ?_
  have hPc := hP.sub (ws' := wM mo ma mb mc md me mf mg mh mi mj mk ml mn cI cZ n q c w z ev num plc sig pad row dig far cfr cby que has img kep) [6, 7, 8, 9, 10, 11, 12, 13, 14, 15, 16, 17, 18, 19] rfl
  refine vp_callSi (W.runV (As := []) (rest := [.int (zI (fltZ pad w))]) ⟨gx, gb, gml, gown, gts⟩ (kX9_fault Gl D cI cJ cZ mo ma mb mc md me mf mg mh mi mj mk ml mn n q c w z ev num plc sig pad row dig far cfr cby que has img kep  (by omega) (by exact hgp)) (cwV 0 gts gL_law_X9_fault rfl rfl rfl (by decide +kernel) ⟨Nat.le_of_ble_eq_true rfl, Nat.le_of_ble_eq_true rfl⟩) ⟨fun a U g mk q => ⟨q.1, q.2.1, va_K.moved (u := U) (U := U.calling g mk a) (Vm.Alike.refl U.vm) q.2.2⟩, va_recv hK hPc (ci := 4) (q0 := 0) rfl rfl, fun U hU hW => ⟨rfl, by rw [hU]; exact hPc, va_K.moved hW.alike hK⟩⟩ rfl rfl hl.1 rfl (lv_room (Nat.le_of_ble_eq_true rfl)) dL_law_245 ⟨Nat.le_of_ble_eq_true rfl, Nat.le_of_ble_eq_true rfl⟩) (fun r hw => ?_)
  have hr245 := hw
  subst hr245
  refine lv_icmp_eq (tgt := 774) gx gb dL_law_248 (by decide) (fun c248 => ?_) (fun c248 => ?_)
  · skip
    have hNext := hI
    refine lv_iinc (v := nI (i + 4)) (lv' := [(3, .int (nI (i + 4))), (0, .ref b), (1, .ref h), (2, .ref mo)]) gx gb dL_law_774 hl (k := 3) rfl (nI_add i 4) (by decide) rfl (fun ls hl => ?_)
    refine lv_goto (tgt := 18) gx gb dL_law_777 (by decide) ?_
    exact kk n q c w n q c (pk 256 num n) (pk 8 plc q) (pk 64 (fun k => 8 * sig (2 * k) + sig (2 * k + 1)) c) k1 k2 na Na Ra qa Sa ca nb Nb Rb qb Sb cb rb sb z ev num plc sig pad row dig cfr cby que has img kep far hNext H locs hP hD hS ls (lv_sub hl [1, 2, 3, 0] rfl)
  · skip
    exact absurd rfl c248

set_option maxHeartbeats 4000000 in
set_option maxRecDepth 100000 in
theorem lA_judge {Gp : Program} {Gl : Launch} {Ge : Env} {Gs : State} {Gm : MethodId} {Gw : List Frame} {Gt : Method} {Gc : Code} {b L : Nat} {xs : Nat → Int32} (hL : L ≤ 256) (C0 : lw_At Gp Gs Gm Gt Gc b L xs) (D : va_G) (cI cJ cZ : ClassId) (A : Nat → Prop) (hA : ∀ q : Nat, Gs.heap.size ≤ q → A q) (hbA : ¬ A b) (hK : va_K D vwCl [(cI, .int), (cJ, .long), (cZ, .boolean)] Gs) (h fl e1 e2 pd sg mo ma mb mc md me mf mg mh mi mj mk ml mn : Nat) (i : Nat) (hi : i + 4 ≤ L) (kk : lwHA Gp Gl Ge Gs Gm Gw Gt Gc b D cI cJ cZ A h fl e1 e2 pd sg mo ma mb mc md me mf mg mh mi mj mk ml mn (i + 4)) (n q c w nX qX cX N R S k1 k2 na Na Ra qa Sa ca nb Nb Rb qb Sb cb rb sb z ev : Nat) (num plc sig pad row dig cfr cby que has img kep : Nat → Nat) (far : Nat → Int32) (hI : lwI num plc sig pad img kep n q c w nX qX cX N R S k1 k2 na Na Ra qa Sa ca nb Nb Rb qb Sb cb) (H : Heap) (locs : List Loc) (hP : va_P D vwCl (wLA h fl e1 e2 pd sg cI k1 k2 .null nX N R qX S cX na Na Ra qa Sa ca nb Nb Rb qb Sb cb w rb sb pad mo ma mb mc md me mf mg mh mi mj mk ml mn cZ n q c w z ev num plc sig pad row dig far cfr cby que has img kep) H) (hD : va_D A (wLA h fl e1 e2 pd sg cI k1 k2 .null nX N R qX S cX na Na Ra qa Sa ca nb Nb Rb qb Sb cb w rb sb pad mo ma mb mc md me mf mg mh mi mj mk ml mn cZ n q c w z ev num plc sig pad row dig far cfr cby que has img kep)) (hS : va_S A Gs.heap H locs) (ls : Array Slot) (hl : lv_has ls 4 [(0, .ref b), (1, .ref h), (2, .ref mo), (3, .int (nI i))]) : W Gp Gl Ge room_1 Gs Gm #[Value.ref b] Gw Gt Gc H locs 20 20499 (lw_Z Gw #[Value.ref b] Gs) (F0 Gm 253 ls []) := by
  obtain ⟨gx, gb, gr, gml, gown0, gts0, hX, hbl, glk, hgv⟩ := id C0
  have gts : ∀ w ∈ wsL_law, w.before #[Value.ref b] Gs = true := fun w h => gts0 w (wsL_law_in w h)
  have gown : Gs.vm.findClass RL = some Gm.cls := gown0
  have hb1 := sX_bd xs (i + 1)
  have hb2 := sX_bd xs (i + 2)
  have hb3 := sX_bd xs (i + 3)
  obtain ⟨⟨⟨hF, hN, hR, hSS⟩, hnX, hqX, hcX⟩, -⟩ := id hI
  subst hN hR hSS hnX hqX hcX
  obtain ⟨-, ⟨hw60, hgp⟩, ⟨hke1, hke2, hk1, hk2⟩, -, -⟩ := id hI
  obtain ⟨hn1, hn7, hq1, hqn, hp, hinj, hnum, hc6, hsg⟩ := id hF
  have hpl6 : ∀ x, x < q → plc x ≤ 6 := fun x hx => by have := hp x hx; omega
  have hnv : ∀ x, x < q → num (plc x) ≤ 99 := fun x hx => hnum _ (hp x hx)
  have hkep : ∀ j, j < 2 → kep j ≤ 1 := fun j hj => by rcases (show j = 0 ∨ j = 1 by omega) with rfl | rfl <;> omega
  have hP : va_P D vwCl (wLA h fl e1 e2 pd sg cI k1 k2 .null n (pk 256 num n) (pk 8 plc q) q (pk 64 (fun k => 8 * sig (2 * k) + sig (2 * k + 1)) c) c na Na Ra qa Sa ca nb Nb Rb qb Sb cb w rb sb pad mo ma mb mc md me mf mg mh mi mj mk ml mn cZ n q c w z ev num plc sig pad row dig far cfr cby que has img kep) H := hP
  have hD : va_D A (wLA h fl e1 e2 pd sg cI k1 k2 .null n (pk 256 num n) (pk 8 plc q) q (pk 64 (fun k => 8 * sig (2 * k) + sig (2 * k + 1)) c) c na Na Ra qa Sa ca nb Nb Rb qb Sb cb w rb sb pad mo ma mb mc md me mf mg mh mi mj mk ml mn cZ n q c w z ev num plc sig pad row dig far cfr cby que has img kep) := hD
  have hl : lv_has ls 4 [(0, .ref b), (1, .ref h), (2, .ref mo), (3, .int (nI i))] := hl
  refine lv_aload_n gx gb dL_law_253 rfl (lv_at hl 1 rfl) ?_
  have hPc := hP.sub (ws' := wX h fl e1 e2 pd sg cI k1 k2 .null n (pk 256 num n) (pk 8 plc q) q (pk 64 (fun k => 8 * sig (2 * k) + sig (2 * k + 1)) c) c na Na Ra qa Sa ca nb Nb Rb qb Sb cb w rb sb pad) [0, 1, 2, 3, 4, 5] rfl
  have hDc := hD.sub (ws' := wX h fl e1 e2 pd sg cI k1 k2 .null n (pk 256 num n) (pk 8 plc q) q (pk 64 (fun k => 8 * sig (2 * k) + sig (2 * k + 1)) c) c na Na Ra qa Sa ca nb Nb Rb qb Sb cb w rb sb pad) [0, 1, 2, 3, 4, 5] (by decide) rfl
  have hFc := va_free (wc := wX h fl e1 e2 pd sg cI k1 k2 .null n (pk 256 num n) (pk 8 plc q) q (pk 64 (fun k => 8 * sig (2 * k) + sig (2 * k + 1)) c) c na Na Ra qa Sa ca nb Nb Rb qb Sb cb w rb sb pad) hD hS hA [0, 1, 2, 3, 4, 5] rfl
  refine va_calli (va_runV (As := []) (rest := []) ⟨gx, gb, gml, gown, gts⟩ (kX8_judge Gl D cI cJ cZ h fl e1 e2 pd sg k1 k2 .null n (pk 256 num n) q (pk 64 (fun k => 8 * sig (2 * k) + sig (2 * k + 1)) c) c na Na Ra qa Sa ca nb Nb Rb qb Sb cb w rb sb pad _ plc (by omega) (by exact hgp) (by omega) (by omega) (by omega) (by omega) (by exact hp)) (cwV 0 gts gL_law_X8_judge rfl rfl rfl (by decide +kernel) ⟨Nat.le_of_ble_eq_true rfl, Nat.le_of_ble_eq_true rfl⟩) ⟨fun a U g mk q => by obtain ⟨q0, q1, qP, qK, qD⟩ := q; exact ⟨q0, q1, qP, va_K.moved (u := U) (U := U.calling g mk a) (Vm.Alike.refl U.vm) qK, qD⟩, va_recv hK hPc (ci := 3) (q0 := 0) rfl rfl, fun U hU hW => ⟨rfl, by rw [hU], by rw [hU]; exact hPc, va_K.moved hW.alike hK, hDc.weaken (fun _ _ _ _ => trivial)⟩⟩ rfl rfl hl.1 rfl (lv_room (Nat.le_of_ble_eq_true rfl)) dL_law_254 ⟨Nat.le_of_ble_eq_true rfl, Nat.le_of_ble_eq_true rfl⟩) hS (fun q _ h => hFc q h) hFc (fun r u t H1 locs ht hvm hw hB hz1 hk1 hS => ?_)
  obtain ⟨rb_254, sb_254⟩ := u
  obtain ⟨hP1, hK1, hD1⟩ := hB
  rw [ht] at hP1
  try dsimp only at hw
  try dsimp only at hP1
  try dsimp only at hD1
  have hK := va_K.moved hvm.symm hK1
  obtain ⟨hP, hD⟩ := va_join (wr := [(mo, .inr (4, [.int (nI n), .int (nI q), .ref ma, .ref mb, .int (nI c), .ref mc, .int (nI w), .ref md, .ref me, .int (nI z), .int (nI ev), .ref mf, .ref mg, .ref mh, .ref mi, .ref mj, .ref mk, .ref ml, .ref mn])), (ma, .inl (cI, 7, .inl (aN num))), (mb, .inl (cI, 7, .inl (aN plc))), (mc, .inl (cI, 12, .inl (aN sig))), (md, .inl (cI, 60, .inl (aN pad))), (me, .inl (cI, 8, .inl (aN row))), (mf, .inl (cI, 7, .inl (aN dig))), (mg, .inl (cI, 5040, .inl far)), (mh, .inl (cI, 5040, .inl (aN cfr))), (mi, .inl (cI, 5040, .inl (aN cby))), (mj, .inl (cI, 5040, .inl (aN que))), (mk, .inl (cI, 64, .inl (aN has))), (ml, .inl (cI, 64, .inl (aN img))), (mn, .inl (cZ, 2, .inl (aN kep)))]) (w1 := wX h fl e1 e2 pd sg cI k1 k2 .null n (pk 256 num n) (pk 8 plc q) q (pk 64 (fun k => 8 * sig (2 * k) + sig (2 * k + 1)) c) c na Na Ra qa Sa ca nb Nb Rb qb Sb cb w rb_254 sb_254 pad) hP hD [0, 1, 2, 3, 4, 5] [6, 7, 8, 9, 10, 11, 12, 13, 14, 15, 16, 17, 18, 19] rfl rfl (by decide) (by decide) hk1 hFc hP1 hD1
  have hP := hP.sub (ws' := wLA h fl e1 e2 pd sg cI k1 k2 .null n (pk 256 num n) (pk 8 plc q) q (pk 64 (fun k => 8 * sig (2 * k) + sig (2 * k + 1)) c) c na Na Ra qa Sa ca nb Nb Rb qb Sb cb w rb_254 sb_254 pad mo ma mb mc md me mf mg mh mi mj mk ml mn cZ n q c w z ev num plc sig pad row dig far cfr cby que has img kep) [14, 15, 16, 17, 18, 19, 0, 1, 2, 3, 4, 5, 6, 7, 8, 9, 10, 11, 12, 13] rfl
  have hD := hD.sub (ws' := wLA h fl e1 e2 pd sg cI k1 k2 .null n (pk 256 num n) (pk 8 plc q) q (pk 64 (fun k => 8 * sig (2 * k) + sig (2 * k + 1)) c) c na Na Ra qa Sa ca nb Nb Rb qb Sb cb w rb_254 sb_254 pad mo ma mb mc md me mf mg mh mi mj mk ml mn cZ n q c w z ev num plc sig pad row dig far cfr cby que has img kep) [14, 15, 16, 17, 18, 19, 0, 1, 2, 3, 4, 5, 6, 7, 8, 9, 10, 11, 12, 13] (by decide) rfl
  have hK := va_K.moved (Vm.Alike.refl Gs.vm) hK
  generalize H1 = H at hP hS ⊢
  have hr254 := hw
  subst hr254
  refine lv_aload_n gx gb dL_law_257 rfl (lv_at hl 2 rfl) ?_
  have hPc := hP.sub (ws' := wM mo ma mb mc md me mf mg mh mi mj mk ml mn cI cZ n q c w z ev num plc sig pad row dig far cfr cby que has img kep) [6, 7, 8, 9, 10, 11, 12, 13, 14, 15, 16, 17, 18, 19] rfl
  have hDc := hD.sub (ws' := wM mo ma mb mc md me mf mg mh mi mj mk ml mn cI cZ n q c w z ev num plc sig pad row dig far cfr cby que has img kep) [6, 7, 8, 9, 10, 11, 12, 13, 14, 15, 16, 17, 18, 19] (by decide) rfl
  have hFc := va_free (wc := wM mo ma mb mc md me mf mg mh mi mj mk ml mn cI cZ n q c w z ev num plc sig pad row dig far cfr cby que has img kep) hD hS hA [6, 7, 8, 9, 10, 11, 12, 13, 14, 15, 16, 17, 18, 19] rfl
  refine va_calli (va_runV (As := []) (rest := [.int (zI (judZ pad w plc q))]) ⟨gx, gb, gml, gown, gts⟩ (kX9_judge Gl D cI cJ cZ mo ma mb mc md me mf mg mh mi mj mk ml mn n q c w z ev num plc sig pad row dig far cfr cby que has img kep _  (by omega) (by exact hgp) (by omega) (by omega) (by omega) (by omega)) (cwV 0 gts gL_law_X9_judge rfl rfl rfl (by decide +kernel) ⟨Nat.le_of_ble_eq_true rfl, Nat.le_of_ble_eq_true rfl⟩) ⟨fun a U g mk q => by obtain ⟨q0, q1, qP, qK, qD⟩ := q; exact ⟨q0, q1, qP, va_K.moved (u := U) (U := U.calling g mk a) (Vm.Alike.refl U.vm) qK, qD⟩, va_recv hK hPc (ci := 4) (q0 := 0) rfl rfl, fun U hU hW => ⟨rfl, by rw [hU], by rw [hU]; exact hPc, va_K.moved hW.alike hK, hDc.weaken (fun _ _ _ _ => trivial)⟩⟩ rfl rfl hl.1 rfl (lv_room (Nat.le_of_ble_eq_true rfl)) dL_law_258 ⟨Nat.le_of_ble_eq_true rfl, Nat.le_of_ble_eq_true rfl⟩) hS (fun q _ h => hFc q h) hFc (fun r u t H1 locs ht hvm hw hB hz1 hk1 hS => ?_)
  obtain ⟨row_258, z_258, ev_258⟩ := u
  obtain ⟨hP1, hK1, hD1⟩ := hB
  rw [ht] at hP1
  try dsimp only at hw
  try dsimp only at hP1
  try dsimp only at hD1
  have hK := va_K.moved hvm.symm hK1
  obtain ⟨hP, hD⟩ := va_join (wr := [(h, .inr (3, [.ref fl, .ref e1, .ref e2, .int (nI k1), .int (nI k2), .ref pd, .null])), (fl, .inr (0, [.int (nI n), .long (lN (pk 256 num n)), .int (nI (pk 8 plc q)), .int (nI q), .long (lN (pk 64 (fun k => 8 * sig (2 * k) + sig (2 * k + 1)) c)), .int (nI c)])), (e1, .inr (0, [.int (nI na), .long (lN Na), .int (nI Ra), .int (nI qa), .long (lN Sa), .int (nI ca)])), (e2, .inr (0, [.int (nI nb), .long (lN Nb), .int (nI Rb), .int (nI qb), .long (lN Sb), .int (nI cb)])), (pd, .inr (1, [.ref sg, .int (nI w), .int (nI rb_254), .int (nI sb_254)])), (sg, .inl (cI, 60, .inl (aN pad)))]) (w1 := wM mo ma mb mc md me mf mg mh mi mj mk ml mn cI cZ n q c w z_258 ev_258 num plc sig pad row_258 dig far cfr cby que has img kep) hP hD [6, 7, 8, 9, 10, 11, 12, 13, 14, 15, 16, 17, 18, 19] [0, 1, 2, 3, 4, 5] rfl rfl (by decide) (by decide) hk1 hFc hP1 hD1
  have hP := hP.sub (ws' := wLA h fl e1 e2 pd sg cI k1 k2 .null n (pk 256 num n) (pk 8 plc q) q (pk 64 (fun k => 8 * sig (2 * k) + sig (2 * k + 1)) c) c na Na Ra qa Sa ca nb Nb Rb qb Sb cb w rb_254 sb_254 pad mo ma mb mc md me mf mg mh mi mj mk ml mn cZ n q c w z_258 ev_258 num plc sig pad row_258 dig far cfr cby que has img kep) [0, 1, 2, 3, 4, 5, 6, 7, 8, 9, 10, 11, 12, 13, 14, 15, 16, 17, 18, 19] rfl
  have hD := hD.sub (ws' := wLA h fl e1 e2 pd sg cI k1 k2 .null n (pk 256 num n) (pk 8 plc q) q (pk 64 (fun k => 8 * sig (2 * k) + sig (2 * k + 1)) c) c na Na Ra qa Sa ca nb Nb Rb qb Sb cb w rb_254 sb_254 pad mo ma mb mc md me mf mg mh mi mj mk ml mn cZ n q c w z_258 ev_258 num plc sig pad row_258 dig far cfr cby que has img kep) [0, 1, 2, 3, 4, 5, 6, 7, 8, 9, 10, 11, 12, 13, 14, 15, 16, 17, 18, 19] (by decide) rfl
  have hK := va_K.moved (Vm.Alike.refl Gs.vm) hK
  generalize H1 = H at hP hS ⊢
  have hr258 := hw
  subst hr258
  refine lv_icmp_eq (tgt := 774) gx gb dL_law_261 (by decide) (fun c261 => ?_) (fun c261 => ?_)
  · skip
    have hNext := hI
    refine lv_iinc (v := nI (i + 4)) (lv' := [(3, .int (nI (i + 4))), (0, .ref b), (1, .ref h), (2, .ref mo)]) gx gb dL_law_774 hl (k := 3) rfl (nI_add i 4) (by decide) rfl (fun ls hl => ?_)
    refine lv_goto (tgt := 18) gx gb dL_law_777 (by decide) ?_
    exact kk n q c w n q c (pk 256 num n) (pk 8 plc q) (pk 64 (fun k => 8 * sig (2 * k) + sig (2 * k + 1)) c) k1 k2 na Na Ra qa Sa ca nb Nb Rb qb Sb cb rb_254 sb_254 z_258 ev_258 num plc sig pad row_258 dig cfr cby que has img kep far hNext H locs hP hD hS ls (lv_sub hl [1, 2, 3, 0] rfl)
  · skip
    exact absurd rfl c261

set_option maxHeartbeats 4000000 in
set_option maxRecDepth 100000 in
theorem lA_done {Gp : Program} {Gl : Launch} {Ge : Env} {Gs : State} {Gm : MethodId} {Gw : List Frame} {Gt : Method} {Gc : Code} {b L : Nat} {xs : Nat → Int32} (hL : L ≤ 256) (C0 : lw_At Gp Gs Gm Gt Gc b L xs) (D : va_G) (cI cJ cZ : ClassId) (A : Nat → Prop) (hA : ∀ q : Nat, Gs.heap.size ≤ q → A q) (hbA : ¬ A b) (hK : va_K D vwCl [(cI, .int), (cJ, .long), (cZ, .boolean)] Gs) (h fl e1 e2 pd sg mo ma mb mc md me mf mg mh mi mj mk ml mn : Nat) (i : Nat) (hi : i + 4 ≤ L) (kk : lwHA Gp Gl Ge Gs Gm Gw Gt Gc b D cI cJ cZ A h fl e1 e2 pd sg mo ma mb mc md me mf mg mh mi mj mk ml mn (i + 4)) (n q c w nX qX cX N R S k1 k2 na Na Ra qa Sa ca nb Nb Rb qb Sb cb rb sb z ev : Nat) (num plc sig pad row dig cfr cby que has img kep : Nat → Nat) (far : Nat → Int32) (hI : lwI num plc sig pad img kep n q c w nX qX cX N R S k1 k2 na Na Ra qa Sa ca nb Nb Rb qb Sb cb) (H : Heap) (locs : List Loc) (hP : va_P D vwCl (wLA h fl e1 e2 pd sg cI k1 k2 .null nX N R qX S cX na Na Ra qa Sa ca nb Nb Rb qb Sb cb w rb sb pad mo ma mb mc md me mf mg mh mi mj mk ml mn cZ n q c w z ev num plc sig pad row dig far cfr cby que has img kep) H) (hD : va_D A (wLA h fl e1 e2 pd sg cI k1 k2 .null nX N R qX S cX na Na Ra qa Sa ca nb Nb Rb qb Sb cb w rb sb pad mo ma mb mc md me mf mg mh mi mj mk ml mn cZ n q c w z ev num plc sig pad row dig far cfr cby que has img kep)) (hS : va_S A Gs.heap H locs) (ls : Array Slot) (hl : lv_has ls 4 [(0, .ref b), (1, .ref h), (2, .ref mo), (3, .int (nI i))]) : W Gp Gl Ge room_1 Gs Gm #[Value.ref b] Gw Gt Gc H locs 20 20499 (lw_Z Gw #[Value.ref b] Gs) (F0 Gm 266 ls []) := by
  obtain ⟨gx, gb, gr, gml, gown0, gts0, hX, hbl, glk, hgv⟩ := id C0
  have gts : ∀ w ∈ wsL_law, w.before #[Value.ref b] Gs = true := fun w h => gts0 w (wsL_law_in w h)
  have gown : Gs.vm.findClass RL = some Gm.cls := gown0
  have hb1 := sX_bd xs (i + 1)
  have hb2 := sX_bd xs (i + 2)
  have hb3 := sX_bd xs (i + 3)
  obtain ⟨⟨⟨hF, hN, hR, hSS⟩, hnX, hqX, hcX⟩, -⟩ := id hI
  subst hN hR hSS hnX hqX hcX
  obtain ⟨-, ⟨hw60, hgp⟩, ⟨hke1, hke2, hk1, hk2⟩, -, -⟩ := id hI
  obtain ⟨hn1, hn7, hq1, hqn, hp, hinj, hnum, hc6, hsg⟩ := id hF
  have hpl6 : ∀ x, x < q → plc x ≤ 6 := fun x hx => by have := hp x hx; omega
  have hnv : ∀ x, x < q → num (plc x) ≤ 99 := fun x hx => hnum _ (hp x hx)
  have hkep : ∀ j, j < 2 → kep j ≤ 1 := fun j hj => by rcases (show j = 0 ∨ j = 1 by omega) with rfl | rfl <;> omega
  have hP : va_P D vwCl (wLA h fl e1 e2 pd sg cI k1 k2 .null n (pk 256 num n) (pk 8 plc q) q (pk 64 (fun k => 8 * sig (2 * k) + sig (2 * k + 1)) c) c na Na Ra qa Sa ca nb Nb Rb qb Sb cb w rb sb pad mo ma mb mc md me mf mg mh mi mj mk ml mn cZ n q c w z ev num plc sig pad row dig far cfr cby que has img kep) H := hP
  have hD : va_D A (wLA h fl e1 e2 pd sg cI k1 k2 .null n (pk 256 num n) (pk 8 plc q) q (pk 64 (fun k => 8 * sig (2 * k) + sig (2 * k + 1)) c) c na Na Ra qa Sa ca nb Nb Rb qb Sb cb w rb sb pad mo ma mb mc md me mf mg mh mi mj mk ml mn cZ n q c w z ev num plc sig pad row dig far cfr cby que has img kep) := hD
  have hl : lv_has ls 4 [(0, .ref b), (1, .ref h), (2, .ref mo), (3, .int (nI i))] := hl
  refine lv_aload_n gx gb dL_law_266 rfl (lv_at hl 1 rfl) ?_
  have hPc := hP.sub (ws' := wX h fl e1 e2 pd sg cI k1 k2 .null n (pk 256 num n) (pk 8 plc q) q (pk 64 (fun k => 8 * sig (2 * k) + sig (2 * k + 1)) c) c na Na Ra qa Sa ca nb Nb Rb qb Sb cb w rb sb pad) [0, 1, 2, 3, 4, 5] rfl
  have hDc := hD.sub (ws' := wX h fl e1 e2 pd sg cI k1 k2 .null n (pk 256 num n) (pk 8 plc q) q (pk 64 (fun k => 8 * sig (2 * k) + sig (2 * k + 1)) c) c na Na Ra qa Sa ca nb Nb Rb qb Sb cb w rb sb pad) [0, 1, 2, 3, 4, 5] (by decide) rfl
  have hFc := va_free (wc := wX h fl e1 e2 pd sg cI k1 k2 .null n (pk 256 num n) (pk 8 plc q) q (pk 64 (fun k => 8 * sig (2 * k) + sig (2 * k + 1)) c) c na Na Ra qa Sa ca nb Nb Rb qb Sb cb w rb sb pad) hD hS hA [0, 1, 2, 3, 4, 5] rfl
  refine va_calli (va_runV (As := []) (rest := []) ⟨gx, gb, gml, gown, gts⟩ (kX8_done Gl D cI cJ cZ h fl e1 e2 pd sg k1 k2 .null n (pk 256 num n) q (pk 64 (fun k => 8 * sig (2 * k) + sig (2 * k + 1)) c) c na Na Ra qa Sa ca nb Nb Rb qb Sb cb w rb sb pad _ plc (by omega) (by exact hgp) (by omega) (by omega) (by omega) (by omega) (by exact hp)) (cwV 0 gts gL_law_X8_done rfl rfl rfl (by decide +kernel) ⟨Nat.le_of_ble_eq_true rfl, Nat.le_of_ble_eq_true rfl⟩) ⟨fun a U g mk q => by obtain ⟨q0, q1, qP, qK, qD⟩ := q; exact ⟨q0, q1, qP, va_K.moved (u := U) (U := U.calling g mk a) (Vm.Alike.refl U.vm) qK, qD⟩, va_recv hK hPc (ci := 3) (q0 := 0) rfl rfl, fun U hU hW => ⟨rfl, by rw [hU], by rw [hU]; exact hPc, va_K.moved hW.alike hK, hDc.weaken (fun _ _ _ _ => trivial)⟩⟩ rfl rfl hl.1 rfl (lv_room (Nat.le_of_ble_eq_true rfl)) dL_law_267 ⟨Nat.le_of_ble_eq_true rfl, Nat.le_of_ble_eq_true rfl⟩) hS (fun q _ h => hFc q h) hFc (fun r u t H1 locs ht hvm hw hB hz1 hk1 hS => ?_)
  obtain ⟨rb_267, sb_267⟩ := u
  obtain ⟨hP1, hK1, hD1⟩ := hB
  rw [ht] at hP1
  try dsimp only at hw
  try dsimp only at hP1
  try dsimp only at hD1
  have hK := va_K.moved hvm.symm hK1
  obtain ⟨hP, hD⟩ := va_join (wr := [(mo, .inr (4, [.int (nI n), .int (nI q), .ref ma, .ref mb, .int (nI c), .ref mc, .int (nI w), .ref md, .ref me, .int (nI z), .int (nI ev), .ref mf, .ref mg, .ref mh, .ref mi, .ref mj, .ref mk, .ref ml, .ref mn])), (ma, .inl (cI, 7, .inl (aN num))), (mb, .inl (cI, 7, .inl (aN plc))), (mc, .inl (cI, 12, .inl (aN sig))), (md, .inl (cI, 60, .inl (aN pad))), (me, .inl (cI, 8, .inl (aN row))), (mf, .inl (cI, 7, .inl (aN dig))), (mg, .inl (cI, 5040, .inl far)), (mh, .inl (cI, 5040, .inl (aN cfr))), (mi, .inl (cI, 5040, .inl (aN cby))), (mj, .inl (cI, 5040, .inl (aN que))), (mk, .inl (cI, 64, .inl (aN has))), (ml, .inl (cI, 64, .inl (aN img))), (mn, .inl (cZ, 2, .inl (aN kep)))]) (w1 := wX h fl e1 e2 pd sg cI k1 k2 .null n (pk 256 num n) (if barZ pad w plc q = 0 then pk 8 (rowB pad w plc q) (sizB pad w plc q) else pk 8 plc q) (if barZ pad w plc q = 0 then sizB pad w plc q else q) (pk 64 (fun k => 8 * sig (2 * k) + sig (2 * k + 1)) c) c na Na Ra qa Sa ca nb Nb Rb qb Sb cb (if barZ pad w plc q = 0 then 0 else w) rb_267 sb_267 pad) hP hD [0, 1, 2, 3, 4, 5] [6, 7, 8, 9, 10, 11, 12, 13, 14, 15, 16, 17, 18, 19] rfl rfl (by decide) (by decide) hk1 hFc hP1 hD1
  have hP := hP.sub (ws' := wLA h fl e1 e2 pd sg cI k1 k2 .null n (pk 256 num n) (if barZ pad w plc q = 0 then pk 8 (rowB pad w plc q) (sizB pad w plc q) else pk 8 plc q) (if barZ pad w plc q = 0 then sizB pad w plc q else q) (pk 64 (fun k => 8 * sig (2 * k) + sig (2 * k + 1)) c) c na Na Ra qa Sa ca nb Nb Rb qb Sb cb (if barZ pad w plc q = 0 then 0 else w) rb_267 sb_267 pad mo ma mb mc md me mf mg mh mi mj mk ml mn cZ n q c w z ev num plc sig pad row dig far cfr cby que has img kep) [14, 15, 16, 17, 18, 19, 0, 1, 2, 3, 4, 5, 6, 7, 8, 9, 10, 11, 12, 13] rfl
  have hD := hD.sub (ws' := wLA h fl e1 e2 pd sg cI k1 k2 .null n (pk 256 num n) (if barZ pad w plc q = 0 then pk 8 (rowB pad w plc q) (sizB pad w plc q) else pk 8 plc q) (if barZ pad w plc q = 0 then sizB pad w plc q else q) (pk 64 (fun k => 8 * sig (2 * k) + sig (2 * k + 1)) c) c na Na Ra qa Sa ca nb Nb Rb qb Sb cb (if barZ pad w plc q = 0 then 0 else w) rb_267 sb_267 pad mo ma mb mc md me mf mg mh mi mj mk ml mn cZ n q c w z ev num plc sig pad row dig far cfr cby que has img kep) [14, 15, 16, 17, 18, 19, 0, 1, 2, 3, 4, 5, 6, 7, 8, 9, 10, 11, 12, 13] (by decide) rfl
  have hK := va_K.moved (Vm.Alike.refl Gs.vm) hK
  generalize H1 = H at hP hS ⊢
  have hr267 := hw
  subst hr267
  refine lv_aload_n gx gb dL_law_270 rfl (lv_at hl 2 rfl) ?_
  have hPc := hP.sub (ws' := wM mo ma mb mc md me mf mg mh mi mj mk ml mn cI cZ n q c w z ev num plc sig pad row dig far cfr cby que has img kep) [6, 7, 8, 9, 10, 11, 12, 13, 14, 15, 16, 17, 18, 19] rfl
  have hDc := hD.sub (ws' := wM mo ma mb mc md me mf mg mh mi mj mk ml mn cI cZ n q c w z ev num plc sig pad row dig far cfr cby que has img kep) [6, 7, 8, 9, 10, 11, 12, 13, 14, 15, 16, 17, 18, 19] (by decide) rfl
  have hFc := va_free (wc := wM mo ma mb mc md me mf mg mh mi mj mk ml mn cI cZ n q c w z ev num plc sig pad row dig far cfr cby que has img kep) hD hS hA [6, 7, 8, 9, 10, 11, 12, 13, 14, 15, 16, 17, 18, 19] rfl
  refine va_calli (va_runV (As := []) (rest := [.int (zI (donZ pad w plc q))]) ⟨gx, gb, gml, gown, gts⟩ (kX9_done Gl D cI cJ cZ mo ma mb mc md me mf mg mh mi mj mk ml mn n q c w z ev num plc sig pad row dig far cfr cby que has img kep _  (by omega) (by exact hgp) (by omega) (by omega) (by omega) (by omega)) (cwV 0 gts gL_law_X9_done rfl rfl rfl (by decide +kernel) ⟨Nat.le_of_ble_eq_true rfl, Nat.le_of_ble_eq_true rfl⟩) ⟨fun a U g mk q => by obtain ⟨q0, q1, qP, qK, qD⟩ := q; exact ⟨q0, q1, qP, va_K.moved (u := U) (U := U.calling g mk a) (Vm.Alike.refl U.vm) qK, qD⟩, va_recv hK hPc (ci := 4) (q0 := 0) rfl rfl, fun U hU hW => ⟨rfl, by rw [hU], by rw [hU]; exact hPc, va_K.moved hW.alike hK, hDc.weaken (fun _ _ _ _ => trivial)⟩⟩ rfl rfl hl.1 rfl (lv_room (Nat.le_of_ble_eq_true rfl)) dL_law_271 ⟨Nat.le_of_ble_eq_true rfl, Nat.le_of_ble_eq_true rfl⟩) hS (fun q _ h => hFc q h) hFc (fun r u t H1 locs ht hvm hw hB hz1 hk1 hS => ?_)
  obtain ⟨plc_271, row_271, z_271, ev_271⟩ := u
  obtain ⟨hP1, hK1, hD1⟩ := hB
  rw [ht] at hP1
  try dsimp only at hw
  try dsimp only at hP1
  try dsimp only at hD1
  have hK := va_K.moved hvm.symm hK1
  obtain ⟨hP, hD⟩ := va_join (wr := [(h, .inr (3, [.ref fl, .ref e1, .ref e2, .int (nI k1), .int (nI k2), .ref pd, .null])), (fl, .inr (0, [.int (nI n), .long (lN (pk 256 num n)), .int (nI (if barZ pad w plc q = 0 then pk 8 (rowB pad w plc q) (sizB pad w plc q) else pk 8 plc q)), .int (nI (if barZ pad w plc q = 0 then sizB pad w plc q else q)), .long (lN (pk 64 (fun k => 8 * sig (2 * k) + sig (2 * k + 1)) c)), .int (nI c)])), (e1, .inr (0, [.int (nI na), .long (lN Na), .int (nI Ra), .int (nI qa), .long (lN Sa), .int (nI ca)])), (e2, .inr (0, [.int (nI nb), .long (lN Nb), .int (nI Rb), .int (nI qb), .long (lN Sb), .int (nI cb)])), (pd, .inr (1, [.ref sg, .int (nI (if barZ pad w plc q = 0 then 0 else w)), .int (nI rb_267), .int (nI sb_267)])), (sg, .inl (cI, 60, .inl (aN pad)))]) (w1 := wM mo ma mb mc md me mf mg mh mi mj mk ml mn cI cZ n (if barZ pad w plc q = 0 then sizB pad w plc q else q) c (if barZ pad w plc q = 0 then 0 else w) z_271 ev_271 num plc_271 sig pad row_271 dig far cfr cby que has img kep) hP hD [6, 7, 8, 9, 10, 11, 12, 13, 14, 15, 16, 17, 18, 19] [0, 1, 2, 3, 4, 5] rfl rfl (by decide) (by decide) hk1 hFc hP1 hD1
  have hP := hP.sub (ws' := wLA h fl e1 e2 pd sg cI k1 k2 .null n (pk 256 num n) (if barZ pad w plc q = 0 then pk 8 (rowB pad w plc q) (sizB pad w plc q) else pk 8 plc q) (if barZ pad w plc q = 0 then sizB pad w plc q else q) (pk 64 (fun k => 8 * sig (2 * k) + sig (2 * k + 1)) c) c na Na Ra qa Sa ca nb Nb Rb qb Sb cb (if barZ pad w plc q = 0 then 0 else w) rb_267 sb_267 pad mo ma mb mc md me mf mg mh mi mj mk ml mn cZ n (if barZ pad w plc q = 0 then sizB pad w plc q else q) c (if barZ pad w plc q = 0 then 0 else w) z_271 ev_271 num plc_271 sig pad row_271 dig far cfr cby que has img kep) [0, 1, 2, 3, 4, 5, 6, 7, 8, 9, 10, 11, 12, 13, 14, 15, 16, 17, 18, 19] rfl
  have hD := hD.sub (ws' := wLA h fl e1 e2 pd sg cI k1 k2 .null n (pk 256 num n) (if barZ pad w plc q = 0 then pk 8 (rowB pad w plc q) (sizB pad w plc q) else pk 8 plc q) (if barZ pad w plc q = 0 then sizB pad w plc q else q) (pk 64 (fun k => 8 * sig (2 * k) + sig (2 * k + 1)) c) c na Na Ra qa Sa ca nb Nb Rb qb Sb cb (if barZ pad w plc q = 0 then 0 else w) rb_267 sb_267 pad mo ma mb mc md me mf mg mh mi mj mk ml mn cZ n (if barZ pad w plc q = 0 then sizB pad w plc q else q) c (if barZ pad w plc q = 0 then 0 else w) z_271 ev_271 num plc_271 sig pad row_271 dig far cfr cby que has img kep) [0, 1, 2, 3, 4, 5, 6, 7, 8, 9, 10, 11, 12, 13, 14, 15, 16, 17, 18, 19] (by decide) rfl
  have hK := va_K.moved (Vm.Alike.refl Gs.vm) hK
  generalize H1 = H at hP hS ⊢
  obtain ⟨hr271, hw⟩ := hw
  subst hr271
  have hdn := hw
  refine lv_icmp_eq (tgt := 774) gx gb dL_law_274 (by decide) (fun c274 => ?_) (fun c274 => ?_)
  · skip
    have hNext := lw_done hI hdn
    refine lv_iinc (v := nI (i + 4)) (lv' := [(3, .int (nI (i + 4))), (0, .ref b), (1, .ref h), (2, .ref mo)]) gx gb dL_law_774 hl (k := 3) rfl (nI_add i 4) (by decide) rfl (fun ls hl => ?_)
    refine lv_goto (tgt := 18) gx gb dL_law_777 (by decide) ?_
    exact kk n (if barZ pad w plc q = 0 then sizB pad w plc q else q) c (if barZ pad w plc q = 0 then 0 else w) n (if barZ pad w plc q = 0 then sizB pad w plc q else q) c (pk 256 num n) (if barZ pad w plc q = 0 then pk 8 (rowB pad w plc q) (sizB pad w plc q) else pk 8 plc q) (pk 64 (fun k => 8 * sig (2 * k) + sig (2 * k + 1)) c) k1 k2 na Na Ra qa Sa ca nb Nb Rb qb Sb cb rb_267 sb_267 z_271 ev_271 num plc_271 sig pad row_271 dig cfr cby que has img kep far hNext H locs hP hD hS ls (lv_sub hl [1, 2, 3, 0] rfl)
  · skip
    exact absurd rfl c274

set_option maxHeartbeats 4000000 in
set_option maxRecDepth 100000 in
theorem lA_at {Gp : Program} {Gl : Launch} {Ge : Env} {Gs : State} {Gm : MethodId} {Gw : List Frame} {Gt : Method} {Gc : Code} {b L : Nat} {xs : Nat → Int32} (hL : L ≤ 256) (C0 : lw_At Gp Gs Gm Gt Gc b L xs) (D : va_G) (cI cJ cZ : ClassId) (A : Nat → Prop) (hA : ∀ q : Nat, Gs.heap.size ≤ q → A q) (hbA : ¬ A b) (hK : va_K D vwCl [(cI, .int), (cJ, .long), (cZ, .boolean)] Gs) (h fl e1 e2 pd sg mo ma mb mc md me mf mg mh mi mj mk ml mn : Nat) (i : Nat) (hi : i + 4 ≤ L) (kk : lwHA Gp Gl Ge Gs Gm Gw Gt Gc b D cI cJ cZ A h fl e1 e2 pd sg mo ma mb mc md me mf mg mh mi mj mk ml mn (i + 4)) (n q c w nX qX cX N R S k1 k2 na Na Ra qa Sa ca nb Nb Rb qb Sb cb rb sb z ev : Nat) (num plc sig pad row dig cfr cby que has img kep : Nat → Nat) (far : Nat → Int32) (hI : lwI num plc sig pad img kep n q c w nX qX cX N R S k1 k2 na Na Ra qa Sa ca nb Nb Rb qb Sb cb) (H : Heap) (locs : List Loc) (hP : va_P D vwCl (wLA h fl e1 e2 pd sg cI k1 k2 .null nX N R qX S cX na Na Ra qa Sa ca nb Nb Rb qb Sb cb w rb sb pad mo ma mb mc md me mf mg mh mi mj mk ml mn cZ n q c w z ev num plc sig pad row dig far cfr cby que has img kep) H) (hD : va_D A (wLA h fl e1 e2 pd sg cI k1 k2 .null nX N R qX S cX na Na Ra qa Sa ca nb Nb Rb qb Sb cb w rb sb pad mo ma mb mc md me mf mg mh mi mj mk ml mn cZ n q c w z ev num plc sig pad row dig far cfr cby que has img kep)) (hS : va_S A Gs.heap H locs) (ls : Array Slot) (hl : lv_has ls 4 [(0, .ref b), (1, .ref h), (2, .ref mo), (3, .int (nI i))]) : W Gp Gl Ge room_1 Gs Gm #[Value.ref b] Gw Gt Gc H locs 20 20499 (lw_Z Gw #[Value.ref b] Gs) (F0 Gm 279 ls []) := by
  obtain ⟨gx, gb, gr, gml, gown0, gts0, hX, hbl, glk, hgv⟩ := id C0
  have gts : ∀ w ∈ wsL_law, w.before #[Value.ref b] Gs = true := fun w h => gts0 w (wsL_law_in w h)
  have gown : Gs.vm.findClass RL = some Gm.cls := gown0
  have hb1 := sX_bd xs (i + 1)
  have hb2 := sX_bd xs (i + 2)
  have hb3 := sX_bd xs (i + 3)
  obtain ⟨⟨⟨hF, hN, hR, hSS⟩, hnX, hqX, hcX⟩, -⟩ := id hI
  subst hN hR hSS hnX hqX hcX
  obtain ⟨-, ⟨hw60, hgp⟩, ⟨hke1, hke2, hk1, hk2⟩, -, -⟩ := id hI
  obtain ⟨hn1, hn7, hq1, hqn, hp, hinj, hnum, hc6, hsg⟩ := id hF
  have hpl6 : ∀ x, x < q → plc x ≤ 6 := fun x hx => by have := hp x hx; omega
  have hnv : ∀ x, x < q → num (plc x) ≤ 99 := fun x hx => hnum _ (hp x hx)
  have hkep : ∀ j, j < 2 → kep j ≤ 1 := fun j hj => by rcases (show j = 0 ∨ j = 1 by omega) with rfl | rfl <;> omega
  have hP : va_P D vwCl (wLA h fl e1 e2 pd sg cI k1 k2 .null n (pk 256 num n) (pk 8 plc q) q (pk 64 (fun k => 8 * sig (2 * k) + sig (2 * k + 1)) c) c na Na Ra qa Sa ca nb Nb Rb qb Sb cb w rb sb pad mo ma mb mc md me mf mg mh mi mj mk ml mn cZ n q c w z ev num plc sig pad row dig far cfr cby que has img kep) H := hP
  have hD : va_D A (wLA h fl e1 e2 pd sg cI k1 k2 .null n (pk 256 num n) (pk 8 plc q) q (pk 64 (fun k => 8 * sig (2 * k) + sig (2 * k + 1)) c) c na Na Ra qa Sa ca nb Nb Rb qb Sb cb w rb sb pad mo ma mb mc md me mf mg mh mi mj mk ml mn cZ n q c w z ev num plc sig pad row dig far cfr cby que has img kep) := hD
  have hl : lv_has ls 4 [(0, .ref b), (1, .ref h), (2, .ref mo), (3, .int (nI i))] := hl
  refine lv_aload_n gx gb dL_law_279 rfl (lv_at hl 1 rfl) ?_
  refine lv_aload_n gx gb dL_law_280 rfl (lv_at hl 0 rfl) ?_
  refine lv_iload_n gx gb dL_law_281 rfl (lv_at hl 3 rfl) ?_
  refine lv_iconst (v := nI 1) gx gb dL_law_282 (by decide) ?_
  refine lv_iadd gx gb dL_law_283 ?_
  refine lv_evi (nI (i + 1)) (nI_add i 1) ?_
  refine va_sld gx gb hX hbl hbA hS (vp_in_nI (n := i + 1) (by omega) (by omega)) dL_law_284 ?_
  refine lv_evi (zI (sX xs (i + 1))) (sX_rd xs (by omega)) ?_
  have hPc := hP.sub (ws' := wX h fl e1 e2 pd sg cI k1 k2 .null n (pk 256 num n) (pk 8 plc q) q (pk 64 (fun k => 8 * sig (2 * k) + sig (2 * k + 1)) c) c na Na Ra qa Sa ca nb Nb Rb qb Sb cb w rb sb pad) [0, 1, 2, 3, 4, 5] rfl
  refine vp_callSi (W.runV (As := [.int (zI (sX xs (i + 1)))]) (rest := []) ⟨gx, gb, gml, gown, gts⟩ (kX8_at Gl D cI cJ cZ h fl e1 e2 pd sg k1 k2 .null n (pk 256 num n) q (pk 64 (fun k => 8 * sig (2 * k) + sig (2 * k + 1)) c) c na Na Ra qa Sa ca nb Nb Rb qb Sb cb w rb sb pad plc (sX xs (i + 1)) (by omega) (by omega) (by omega) (by omega) (by omega) (by omega) (by exact hp)) (cwV 1 gts gL_law_X8_at rfl rfl rfl (by decide +kernel) ⟨Nat.le_of_ble_eq_true rfl, Nat.le_of_ble_eq_true rfl⟩) ⟨fun a U g mk q => ⟨q.1, q.2.1, va_K.moved (u := U) (U := U.calling g mk a) (Vm.Alike.refl U.vm) q.2.2⟩, va_recv hK hPc (ci := 3) (q0 := 0) rfl rfl, fun U hU hW => ⟨rfl, by rw [hU]; exact hPc, va_K.moved hW.alike hK⟩⟩ rfl rfl hl.1 rfl (lv_room (Nat.le_of_ble_eq_true rfl)) dL_law_285 ⟨Nat.le_of_ble_eq_true rfl, Nat.le_of_ble_eq_true rfl⟩) (fun r hw => ?_)
  have hr285 := hw
  subst hr285
  refine lv_aload_n gx gb dL_law_288 rfl (lv_at hl 2 rfl) ?_
  refine lv_aload_n gx gb dL_law_289 rfl (lv_at hl 0 rfl) ?_
  refine lv_iload_n gx gb dL_law_290 rfl (lv_at hl 3 rfl) ?_
  refine lv_iconst (v := nI 1) gx gb dL_law_291 (by decide) ?_
  refine lv_iadd gx gb dL_law_292 ?_
  refine lv_evi (nI (i + 1)) (nI_add i 1) ?_
  refine va_sld gx gb hX hbl hbA hS (vp_in_nI (n := i + 1) (by omega) (by omega)) dL_law_293 ?_
  refine lv_evi (zI (sX xs (i + 1))) (sX_rd xs (by omega)) ?_
  have hPc := hP.sub (ws' := wM mo ma mb mc md me mf mg mh mi mj mk ml mn cI cZ n q c w z ev num plc sig pad row dig far cfr cby que has img kep) [6, 7, 8, 9, 10, 11, 12, 13, 14, 15, 16, 17, 18, 19] rfl
  refine vp_callSi (W.runV (As := [.int (zI (sX xs (i + 1)))]) (rest := [.int (zI (atZ plc q (sX xs (i + 1))))]) ⟨gx, gb, gml, gown, gts⟩ (kX9_at Gl D cI cJ cZ mo ma mb mc md me mf mg mh mi mj mk ml mn n q c w z ev num plc sig pad row dig far cfr cby que has img kep (sX xs (i + 1)) (by omega) (by omega) (by omega) (by omega) (by omega) (by omega)) (cwV 1 gts gL_law_X9_at rfl rfl rfl (by decide +kernel) ⟨Nat.le_of_ble_eq_true rfl, Nat.le_of_ble_eq_true rfl⟩) ⟨fun a U g mk q => ⟨q.1, q.2.1, va_K.moved (u := U) (U := U.calling g mk a) (Vm.Alike.refl U.vm) q.2.2⟩, va_recv hK hPc (ci := 4) (q0 := 0) rfl rfl, fun U hU hW => ⟨rfl, by rw [hU]; exact hPc, va_K.moved hW.alike hK⟩⟩ rfl rfl hl.1 rfl (lv_room (Nat.le_of_ble_eq_true rfl)) dL_law_294 ⟨Nat.le_of_ble_eq_true rfl, Nat.le_of_ble_eq_true rfl⟩) (fun r hw => ?_)
  have hr294 := hw
  subst hr294
  refine lv_icmp_eq (tgt := 774) gx gb dL_law_297 (by decide) (fun c297 => ?_) (fun c297 => ?_)
  · skip
    have hNext := hI
    refine lv_iinc (v := nI (i + 4)) (lv' := [(3, .int (nI (i + 4))), (0, .ref b), (1, .ref h), (2, .ref mo)]) gx gb dL_law_774 hl (k := 3) rfl (nI_add i 4) (by decide) rfl (fun ls hl => ?_)
    refine lv_goto (tgt := 18) gx gb dL_law_777 (by decide) ?_
    exact kk n q c w n q c (pk 256 num n) (pk 8 plc q) (pk 64 (fun k => 8 * sig (2 * k) + sig (2 * k + 1)) c) k1 k2 na Na Ra qa Sa ca nb Nb Rb qb Sb cb rb sb z ev num plc sig pad row dig cfr cby que has img kep far hNext H locs hP hD hS ls (lv_sub hl [1, 2, 3, 0] rfl)
  · skip
    exact absurd rfl c297

set_option maxHeartbeats 4000000 in
set_option maxRecDepth 100000 in
theorem lA_behind {Gp : Program} {Gl : Launch} {Ge : Env} {Gs : State} {Gm : MethodId} {Gw : List Frame} {Gt : Method} {Gc : Code} {b L : Nat} {xs : Nat → Int32} (hL : L ≤ 256) (C0 : lw_At Gp Gs Gm Gt Gc b L xs) (D : va_G) (cI cJ cZ : ClassId) (A : Nat → Prop) (hA : ∀ q : Nat, Gs.heap.size ≤ q → A q) (hbA : ¬ A b) (hK : va_K D vwCl [(cI, .int), (cJ, .long), (cZ, .boolean)] Gs) (h fl e1 e2 pd sg mo ma mb mc md me mf mg mh mi mj mk ml mn : Nat) (i : Nat) (hi : i + 4 ≤ L) (kk : lwHA Gp Gl Ge Gs Gm Gw Gt Gc b D cI cJ cZ A h fl e1 e2 pd sg mo ma mb mc md me mf mg mh mi mj mk ml mn (i + 4)) (n q c w nX qX cX N R S k1 k2 na Na Ra qa Sa ca nb Nb Rb qb Sb cb rb sb z ev : Nat) (num plc sig pad row dig cfr cby que has img kep : Nat → Nat) (far : Nat → Int32) (hI : lwI num plc sig pad img kep n q c w nX qX cX N R S k1 k2 na Na Ra qa Sa ca nb Nb Rb qb Sb cb) (H : Heap) (locs : List Loc) (hP : va_P D vwCl (wLA h fl e1 e2 pd sg cI k1 k2 .null nX N R qX S cX na Na Ra qa Sa ca nb Nb Rb qb Sb cb w rb sb pad mo ma mb mc md me mf mg mh mi mj mk ml mn cZ n q c w z ev num plc sig pad row dig far cfr cby que has img kep) H) (hD : va_D A (wLA h fl e1 e2 pd sg cI k1 k2 .null nX N R qX S cX na Na Ra qa Sa ca nb Nb Rb qb Sb cb w rb sb pad mo ma mb mc md me mf mg mh mi mj mk ml mn cZ n q c w z ev num plc sig pad row dig far cfr cby que has img kep)) (hS : va_S A Gs.heap H locs) (ls : Array Slot) (hl : lv_has ls 4 [(0, .ref b), (1, .ref h), (2, .ref mo), (3, .int (nI i))]) : W Gp Gl Ge room_1 Gs Gm #[Value.ref b] Gw Gt Gc H locs 20 20499 (lw_Z Gw #[Value.ref b] Gs) (F0 Gm 302 ls []) := by
  obtain ⟨gx, gb, gr, gml, gown0, gts0, hX, hbl, glk, hgv⟩ := id C0
  have gts : ∀ w ∈ wsL_law, w.before #[Value.ref b] Gs = true := fun w h => gts0 w (wsL_law_in w h)
  have gown : Gs.vm.findClass RL = some Gm.cls := gown0
  have hb1 := sX_bd xs (i + 1)
  have hb2 := sX_bd xs (i + 2)
  have hb3 := sX_bd xs (i + 3)
  obtain ⟨⟨⟨hF, hN, hR, hSS⟩, hnX, hqX, hcX⟩, -⟩ := id hI
  subst hN hR hSS hnX hqX hcX
  obtain ⟨-, ⟨hw60, hgp⟩, ⟨hke1, hke2, hk1, hk2⟩, -, -⟩ := id hI
  obtain ⟨hn1, hn7, hq1, hqn, hp, hinj, hnum, hc6, hsg⟩ := id hF
  have hpl6 : ∀ x, x < q → plc x ≤ 6 := fun x hx => by have := hp x hx; omega
  have hnv : ∀ x, x < q → num (plc x) ≤ 99 := fun x hx => hnum _ (hp x hx)
  have hkep : ∀ j, j < 2 → kep j ≤ 1 := fun j hj => by rcases (show j = 0 ∨ j = 1 by omega) with rfl | rfl <;> omega
  have hP : va_P D vwCl (wLA h fl e1 e2 pd sg cI k1 k2 .null n (pk 256 num n) (pk 8 plc q) q (pk 64 (fun k => 8 * sig (2 * k) + sig (2 * k + 1)) c) c na Na Ra qa Sa ca nb Nb Rb qb Sb cb w rb sb pad mo ma mb mc md me mf mg mh mi mj mk ml mn cZ n q c w z ev num plc sig pad row dig far cfr cby que has img kep) H := hP
  have hD : va_D A (wLA h fl e1 e2 pd sg cI k1 k2 .null n (pk 256 num n) (pk 8 plc q) q (pk 64 (fun k => 8 * sig (2 * k) + sig (2 * k + 1)) c) c na Na Ra qa Sa ca nb Nb Rb qb Sb cb w rb sb pad mo ma mb mc md me mf mg mh mi mj mk ml mn cZ n q c w z ev num plc sig pad row dig far cfr cby que has img kep) := hD
  have hl : lv_has ls 4 [(0, .ref b), (1, .ref h), (2, .ref mo), (3, .int (nI i))] := hl
  refine lv_aload_n gx gb dL_law_302 rfl (lv_at hl 1 rfl) ?_
  refine lv_aload_n gx gb dL_law_303 rfl (lv_at hl 0 rfl) ?_
  refine lv_iload_n gx gb dL_law_304 rfl (lv_at hl 3 rfl) ?_
  refine lv_iconst (v := nI 1) gx gb dL_law_305 (by decide) ?_
  refine lv_iadd gx gb dL_law_306 ?_
  refine lv_evi (nI (i + 1)) (nI_add i 1) ?_
  refine va_sld gx gb hX hbl hbA hS (vp_in_nI (n := i + 1) (by omega) (by omega)) dL_law_307 ?_
  refine lv_evi (zI (sX xs (i + 1))) (sX_rd xs (by omega)) ?_
  have hPc := hP.sub (ws' := wX h fl e1 e2 pd sg cI k1 k2 .null n (pk 256 num n) (pk 8 plc q) q (pk 64 (fun k => 8 * sig (2 * k) + sig (2 * k + 1)) c) c na Na Ra qa Sa ca nb Nb Rb qb Sb cb w rb sb pad) [0, 1, 2, 3, 4, 5] rfl
  have hDc := hD.sub (ws' := wX h fl e1 e2 pd sg cI k1 k2 .null n (pk 256 num n) (pk 8 plc q) q (pk 64 (fun k => 8 * sig (2 * k) + sig (2 * k + 1)) c) c na Na Ra qa Sa ca nb Nb Rb qb Sb cb w rb sb pad) [0, 1, 2, 3, 4, 5] (by decide) rfl
  have hFc := va_free (wc := wX h fl e1 e2 pd sg cI k1 k2 .null n (pk 256 num n) (pk 8 plc q) q (pk 64 (fun k => 8 * sig (2 * k) + sig (2 * k + 1)) c) c na Na Ra qa Sa ca nb Nb Rb qb Sb cb w rb sb pad) hD hS hA [0, 1, 2, 3, 4, 5] rfl
  refine va_calli (va_runV (As := [.int (zI (sX xs (i + 1)))]) (rest := []) ⟨gx, gb, gml, gown, gts⟩ (kX8_behind Gl D cI cJ cZ h fl e1 e2 pd sg k1 k2 .null n (pk 256 num n) q (pk 64 (fun k => 8 * sig (2 * k) + sig (2 * k + 1)) c) c na Na Ra qa Sa ca nb Nb Rb qb Sb cb w rb sb pad _ plc (sX xs (i + 1)) (by omega) (by omega) (by omega) (by exact hgp) (by omega) (by omega) (by omega) (by omega) (by exact hp)) (cwV 1 gts gL_law_X8_behind rfl rfl rfl (by decide +kernel) ⟨Nat.le_of_ble_eq_true rfl, Nat.le_of_ble_eq_true rfl⟩) ⟨fun a U g mk q => by obtain ⟨q0, q1, qP, qK, qD⟩ := q; exact ⟨q0, q1, qP, va_K.moved (u := U) (U := U.calling g mk a) (Vm.Alike.refl U.vm) qK, qD⟩, va_recv hK hPc (ci := 3) (q0 := 0) rfl rfl, fun U hU hW => ⟨rfl, by rw [hU], by rw [hU]; exact hPc, va_K.moved hW.alike hK, hDc.weaken (fun _ _ _ _ => trivial)⟩⟩ rfl rfl hl.1 rfl (lv_room (Nat.le_of_ble_eq_true rfl)) dL_law_308 ⟨Nat.le_of_ble_eq_true rfl, Nat.le_of_ble_eq_true rfl⟩) hS (fun q _ h => hFc q h) hFc (fun r u t H1 locs ht hvm hw hB hz1 hk1 hS => ?_)
  obtain ⟨rb_308, sb_308⟩ := u
  obtain ⟨hP1, hK1, hD1⟩ := hB
  rw [ht] at hP1
  try dsimp only at hw
  try dsimp only at hP1
  try dsimp only at hD1
  have hK := va_K.moved hvm.symm hK1
  obtain ⟨hP, hD⟩ := va_join (wr := [(mo, .inr (4, [.int (nI n), .int (nI q), .ref ma, .ref mb, .int (nI c), .ref mc, .int (nI w), .ref md, .ref me, .int (nI z), .int (nI ev), .ref mf, .ref mg, .ref mh, .ref mi, .ref mj, .ref mk, .ref ml, .ref mn])), (ma, .inl (cI, 7, .inl (aN num))), (mb, .inl (cI, 7, .inl (aN plc))), (mc, .inl (cI, 12, .inl (aN sig))), (md, .inl (cI, 60, .inl (aN pad))), (me, .inl (cI, 8, .inl (aN row))), (mf, .inl (cI, 7, .inl (aN dig))), (mg, .inl (cI, 5040, .inl far)), (mh, .inl (cI, 5040, .inl (aN cfr))), (mi, .inl (cI, 5040, .inl (aN cby))), (mj, .inl (cI, 5040, .inl (aN que))), (mk, .inl (cI, 64, .inl (aN has))), (ml, .inl (cI, 64, .inl (aN img))), (mn, .inl (cZ, 2, .inl (aN kep)))]) (w1 := wX h fl e1 e2 pd sg cI k1 k2 .null n (pk 256 num n) (pk 8 plc q) q (pk 64 (fun k => 8 * sig (2 * k) + sig (2 * k + 1)) c) c na Na Ra qa Sa ca nb Nb Rb qb Sb cb w rb_308 sb_308 pad) hP hD [0, 1, 2, 3, 4, 5] [6, 7, 8, 9, 10, 11, 12, 13, 14, 15, 16, 17, 18, 19] rfl rfl (by decide) (by decide) hk1 hFc hP1 hD1
  have hP := hP.sub (ws' := wLA h fl e1 e2 pd sg cI k1 k2 .null n (pk 256 num n) (pk 8 plc q) q (pk 64 (fun k => 8 * sig (2 * k) + sig (2 * k + 1)) c) c na Na Ra qa Sa ca nb Nb Rb qb Sb cb w rb_308 sb_308 pad mo ma mb mc md me mf mg mh mi mj mk ml mn cZ n q c w z ev num plc sig pad row dig far cfr cby que has img kep) [14, 15, 16, 17, 18, 19, 0, 1, 2, 3, 4, 5, 6, 7, 8, 9, 10, 11, 12, 13] rfl
  have hD := hD.sub (ws' := wLA h fl e1 e2 pd sg cI k1 k2 .null n (pk 256 num n) (pk 8 plc q) q (pk 64 (fun k => 8 * sig (2 * k) + sig (2 * k + 1)) c) c na Na Ra qa Sa ca nb Nb Rb qb Sb cb w rb_308 sb_308 pad mo ma mb mc md me mf mg mh mi mj mk ml mn cZ n q c w z ev num plc sig pad row dig far cfr cby que has img kep) [14, 15, 16, 17, 18, 19, 0, 1, 2, 3, 4, 5, 6, 7, 8, 9, 10, 11, 12, 13] (by decide) rfl
  have hK := va_K.moved (Vm.Alike.refl Gs.vm) hK
  generalize H1 = H at hP hS ⊢
  have hr308 := hw
  subst hr308
  refine lv_aload_n gx gb dL_law_311 rfl (lv_at hl 2 rfl) ?_
  refine lv_aload_n gx gb dL_law_312 rfl (lv_at hl 0 rfl) ?_
  refine lv_iload_n gx gb dL_law_313 rfl (lv_at hl 3 rfl) ?_
  refine lv_iconst (v := nI 1) gx gb dL_law_314 (by decide) ?_
  refine lv_iadd gx gb dL_law_315 ?_
  refine lv_evi (nI (i + 1)) (nI_add i 1) ?_
  refine va_sld gx gb hX hbl hbA hS (vp_in_nI (n := i + 1) (by omega) (by omega)) dL_law_316 ?_
  refine lv_evi (zI (sX xs (i + 1))) (sX_rd xs (by omega)) ?_
  have hPc := hP.sub (ws' := wM mo ma mb mc md me mf mg mh mi mj mk ml mn cI cZ n q c w z ev num plc sig pad row dig far cfr cby que has img kep) [6, 7, 8, 9, 10, 11, 12, 13, 14, 15, 16, 17, 18, 19] rfl
  have hDc := hD.sub (ws' := wM mo ma mb mc md me mf mg mh mi mj mk ml mn cI cZ n q c w z ev num plc sig pad row dig far cfr cby que has img kep) [6, 7, 8, 9, 10, 11, 12, 13, 14, 15, 16, 17, 18, 19] (by decide) rfl
  have hFc := va_free (wc := wM mo ma mb mc md me mf mg mh mi mj mk ml mn cI cZ n q c w z ev num plc sig pad row dig far cfr cby que has img kep) hD hS hA [6, 7, 8, 9, 10, 11, 12, 13, 14, 15, 16, 17, 18, 19] rfl
  refine va_calli (va_runV (As := [.int (zI (sX xs (i + 1)))]) (rest := [.int (zI (behZ pad w plc q (sX xs (i + 1))))]) ⟨gx, gb, gml, gown, gts⟩ (kX9_behind Gl D cI cJ cZ mo ma mb mc md me mf mg mh mi mj mk ml mn n q c w z ev num plc sig pad row dig far cfr cby que has img kep _ (sX xs (i + 1)) (by omega) (by omega) (by omega) (by exact hgp) (by omega) (by omega) (by omega) (by omega)) (cwV 1 gts gL_law_X9_behind rfl rfl rfl (by decide +kernel) ⟨Nat.le_of_ble_eq_true rfl, Nat.le_of_ble_eq_true rfl⟩) ⟨fun a U g mk q => by obtain ⟨q0, q1, qP, qK, qD⟩ := q; exact ⟨q0, q1, qP, va_K.moved (u := U) (U := U.calling g mk a) (Vm.Alike.refl U.vm) qK, qD⟩, va_recv hK hPc (ci := 4) (q0 := 0) rfl rfl, fun U hU hW => ⟨rfl, by rw [hU], by rw [hU]; exact hPc, va_K.moved hW.alike hK, hDc.weaken (fun _ _ _ _ => trivial)⟩⟩ rfl rfl hl.1 rfl (lv_room (Nat.le_of_ble_eq_true rfl)) dL_law_317 ⟨Nat.le_of_ble_eq_true rfl, Nat.le_of_ble_eq_true rfl⟩) hS (fun q _ h => hFc q h) hFc (fun r u t H1 locs ht hvm hw hB hz1 hk1 hS => ?_)
  obtain ⟨row_317, z_317, ev_317⟩ := u
  obtain ⟨hP1, hK1, hD1⟩ := hB
  rw [ht] at hP1
  try dsimp only at hw
  try dsimp only at hP1
  try dsimp only at hD1
  have hK := va_K.moved hvm.symm hK1
  obtain ⟨hP, hD⟩ := va_join (wr := [(h, .inr (3, [.ref fl, .ref e1, .ref e2, .int (nI k1), .int (nI k2), .ref pd, .null])), (fl, .inr (0, [.int (nI n), .long (lN (pk 256 num n)), .int (nI (pk 8 plc q)), .int (nI q), .long (lN (pk 64 (fun k => 8 * sig (2 * k) + sig (2 * k + 1)) c)), .int (nI c)])), (e1, .inr (0, [.int (nI na), .long (lN Na), .int (nI Ra), .int (nI qa), .long (lN Sa), .int (nI ca)])), (e2, .inr (0, [.int (nI nb), .long (lN Nb), .int (nI Rb), .int (nI qb), .long (lN Sb), .int (nI cb)])), (pd, .inr (1, [.ref sg, .int (nI w), .int (nI rb_308), .int (nI sb_308)])), (sg, .inl (cI, 60, .inl (aN pad)))]) (w1 := wM mo ma mb mc md me mf mg mh mi mj mk ml mn cI cZ n q c w z_317 ev_317 num plc sig pad row_317 dig far cfr cby que has img kep) hP hD [6, 7, 8, 9, 10, 11, 12, 13, 14, 15, 16, 17, 18, 19] [0, 1, 2, 3, 4, 5] rfl rfl (by decide) (by decide) hk1 hFc hP1 hD1
  have hP := hP.sub (ws' := wLA h fl e1 e2 pd sg cI k1 k2 .null n (pk 256 num n) (pk 8 plc q) q (pk 64 (fun k => 8 * sig (2 * k) + sig (2 * k + 1)) c) c na Na Ra qa Sa ca nb Nb Rb qb Sb cb w rb_308 sb_308 pad mo ma mb mc md me mf mg mh mi mj mk ml mn cZ n q c w z_317 ev_317 num plc sig pad row_317 dig far cfr cby que has img kep) [0, 1, 2, 3, 4, 5, 6, 7, 8, 9, 10, 11, 12, 13, 14, 15, 16, 17, 18, 19] rfl
  have hD := hD.sub (ws' := wLA h fl e1 e2 pd sg cI k1 k2 .null n (pk 256 num n) (pk 8 plc q) q (pk 64 (fun k => 8 * sig (2 * k) + sig (2 * k + 1)) c) c na Na Ra qa Sa ca nb Nb Rb qb Sb cb w rb_308 sb_308 pad mo ma mb mc md me mf mg mh mi mj mk ml mn cZ n q c w z_317 ev_317 num plc sig pad row_317 dig far cfr cby que has img kep) [0, 1, 2, 3, 4, 5, 6, 7, 8, 9, 10, 11, 12, 13, 14, 15, 16, 17, 18, 19] (by decide) rfl
  have hK := va_K.moved (Vm.Alike.refl Gs.vm) hK
  generalize H1 = H at hP hS ⊢
  have hr317 := hw
  subst hr317
  refine lv_icmp_eq (tgt := 774) gx gb dL_law_320 (by decide) (fun c320 => ?_) (fun c320 => ?_)
  · skip
    have hNext := hI
    refine lv_iinc (v := nI (i + 4)) (lv' := [(3, .int (nI (i + 4))), (0, .ref b), (1, .ref h), (2, .ref mo)]) gx gb dL_law_774 hl (k := 3) rfl (nI_add i 4) (by decide) rfl (fun ls hl => ?_)
    refine lv_goto (tgt := 18) gx gb dL_law_777 (by decide) ?_
    exact kk n q c w n q c (pk 256 num n) (pk 8 plc q) (pk 64 (fun k => 8 * sig (2 * k) + sig (2 * k + 1)) c) k1 k2 na Na Ra qa Sa ca nb Nb Rb qb Sb cb rb_308 sb_308 z_317 ev_317 num plc sig pad row_317 dig cfr cby que has img kep far hNext H locs hP hD hS ls (lv_sub hl [1, 2, 3, 0] rfl)
  · skip
    exact absurd rfl c320

set_option maxHeartbeats 4000000 in
set_option maxRecDepth 100000 in
theorem lA_taught {Gp : Program} {Gl : Launch} {Ge : Env} {Gs : State} {Gm : MethodId} {Gw : List Frame} {Gt : Method} {Gc : Code} {b L : Nat} {xs : Nat → Int32} (hL : L ≤ 256) (C0 : lw_At Gp Gs Gm Gt Gc b L xs) (D : va_G) (cI cJ cZ : ClassId) (A : Nat → Prop) (hA : ∀ q : Nat, Gs.heap.size ≤ q → A q) (hbA : ¬ A b) (hK : va_K D vwCl [(cI, .int), (cJ, .long), (cZ, .boolean)] Gs) (h fl e1 e2 pd sg mo ma mb mc md me mf mg mh mi mj mk ml mn : Nat) (i : Nat) (hi : i + 4 ≤ L) (kk : lwHA Gp Gl Ge Gs Gm Gw Gt Gc b D cI cJ cZ A h fl e1 e2 pd sg mo ma mb mc md me mf mg mh mi mj mk ml mn (i + 4)) (n q c w nX qX cX N R S k1 k2 na Na Ra qa Sa ca nb Nb Rb qb Sb cb rb sb z ev : Nat) (num plc sig pad row dig cfr cby que has img kep : Nat → Nat) (far : Nat → Int32) (hI : lwI num plc sig pad img kep n q c w nX qX cX N R S k1 k2 na Na Ra qa Sa ca nb Nb Rb qb Sb cb) (H : Heap) (locs : List Loc) (hP : va_P D vwCl (wLA h fl e1 e2 pd sg cI k1 k2 .null nX N R qX S cX na Na Ra qa Sa ca nb Nb Rb qb Sb cb w rb sb pad mo ma mb mc md me mf mg mh mi mj mk ml mn cZ n q c w z ev num plc sig pad row dig far cfr cby que has img kep) H) (hD : va_D A (wLA h fl e1 e2 pd sg cI k1 k2 .null nX N R qX S cX na Na Ra qa Sa ca nb Nb Rb qb Sb cb w rb sb pad mo ma mb mc md me mf mg mh mi mj mk ml mn cZ n q c w z ev num plc sig pad row dig far cfr cby que has img kep)) (hS : va_S A Gs.heap H locs) (ls : Array Slot) (hl : lv_has ls 4 [(0, .ref b), (1, .ref h), (2, .ref mo), (3, .int (nI i))]) : W Gp Gl Ge room_1 Gs Gm #[Value.ref b] Gw Gt Gc H locs 20 20499 (lw_Z Gw #[Value.ref b] Gs) (F0 Gm 325 ls []) := by
  obtain ⟨gx, gb, gr, gml, gown0, gts0, hX, hbl, glk, hgv⟩ := id C0
  have gts : ∀ w ∈ wsL_law, w.before #[Value.ref b] Gs = true := fun w h => gts0 w (wsL_law_in w h)
  have gown : Gs.vm.findClass RL = some Gm.cls := gown0
  have hb1 := sX_bd xs (i + 1)
  have hb2 := sX_bd xs (i + 2)
  have hb3 := sX_bd xs (i + 3)
  obtain ⟨⟨⟨hF, hN, hR, hSS⟩, hnX, hqX, hcX⟩, -⟩ := id hI
  subst hN hR hSS hnX hqX hcX
  obtain ⟨-, ⟨hw60, hgp⟩, ⟨hke1, hke2, hk1, hk2⟩, -, -⟩ := id hI
  obtain ⟨hn1, hn7, hq1, hqn, hp, hinj, hnum, hc6, hsg⟩ := id hF
  have hpl6 : ∀ x, x < q → plc x ≤ 6 := fun x hx => by have := hp x hx; omega
  have hnv : ∀ x, x < q → num (plc x) ≤ 99 := fun x hx => hnum _ (hp x hx)
  have hkep : ∀ j, j < 2 → kep j ≤ 1 := fun j hj => by rcases (show j = 0 ∨ j = 1 by omega) with rfl | rfl <;> omega
  have hP : va_P D vwCl (wLA h fl e1 e2 pd sg cI k1 k2 .null n (pk 256 num n) (pk 8 plc q) q (pk 64 (fun k => 8 * sig (2 * k) + sig (2 * k + 1)) c) c na Na Ra qa Sa ca nb Nb Rb qb Sb cb w rb sb pad mo ma mb mc md me mf mg mh mi mj mk ml mn cZ n q c w z ev num plc sig pad row dig far cfr cby que has img kep) H := hP
  have hD : va_D A (wLA h fl e1 e2 pd sg cI k1 k2 .null n (pk 256 num n) (pk 8 plc q) q (pk 64 (fun k => 8 * sig (2 * k) + sig (2 * k + 1)) c) c na Na Ra qa Sa ca nb Nb Rb qb Sb cb w rb sb pad mo ma mb mc md me mf mg mh mi mj mk ml mn cZ n q c w z ev num plc sig pad row dig far cfr cby que has img kep) := hD
  have hl : lv_has ls 4 [(0, .ref b), (1, .ref h), (2, .ref mo), (3, .int (nI i))] := hl
  refine lv_aload_n gx gb dL_law_325 rfl (lv_at hl 1 rfl) ?_
  refine lv_aload_n gx gb dL_law_326 rfl (lv_at hl 0 rfl) ?_
  refine lv_iload_n gx gb dL_law_327 rfl (lv_at hl 3 rfl) ?_
  refine lv_iconst (v := nI 1) gx gb dL_law_328 (by decide) ?_
  refine lv_iadd gx gb dL_law_329 ?_
  refine lv_evi (nI (i + 1)) (nI_add i 1) ?_
  refine va_sld gx gb hX hbl hbA hS (vp_in_nI (n := i + 1) (by omega) (by omega)) dL_law_330 ?_
  refine lv_evi (zI (sX xs (i + 1))) (sX_rd xs (by omega)) ?_
  have hPc := hP.sub (ws' := wX h fl e1 e2 pd sg cI k1 k2 .null n (pk 256 num n) (pk 8 plc q) q (pk 64 (fun k => 8 * sig (2 * k) + sig (2 * k + 1)) c) c na Na Ra qa Sa ca nb Nb Rb qb Sb cb w rb sb pad) [0, 1, 2, 3, 4, 5] rfl
  have hDc := hD.sub (ws' := wX h fl e1 e2 pd sg cI k1 k2 .null n (pk 256 num n) (pk 8 plc q) q (pk 64 (fun k => 8 * sig (2 * k) + sig (2 * k + 1)) c) c na Na Ra qa Sa ca nb Nb Rb qb Sb cb w rb sb pad) [0, 1, 2, 3, 4, 5] (by decide) rfl
  have hFc := va_free (wc := wX h fl e1 e2 pd sg cI k1 k2 .null n (pk 256 num n) (pk 8 plc q) q (pk 64 (fun k => 8 * sig (2 * k) + sig (2 * k + 1)) c) c na Na Ra qa Sa ca nb Nb Rb qb Sb cb w rb sb pad) hD hS hA [0, 1, 2, 3, 4, 5] rfl
  refine va_calli (va_runV (As := [.int (zI (sX xs (i + 1)))]) (rest := []) ⟨gx, gb, gml, gown, gts⟩ (kX8_taught Gl D cI cJ cZ h fl e1 e2 pd sg k1 k2 .null n q (pk 64 (fun k => 8 * sig (2 * k) + sig (2 * k + 1)) c) c na Na Ra qa Sa ca nb Nb Rb qb Sb cb w rb sb pad _ num plc (sX xs (i + 1)) (by omega) (by omega) (by omega) (by exact hgp) (by omega) (by omega) (by omega) (by omega) (by exact hp) (by exact hnum)) (cwV 1 gts gL_law_X8_taught rfl rfl rfl (by decide +kernel) ⟨Nat.le_of_ble_eq_true rfl, Nat.le_of_ble_eq_true rfl⟩) ⟨fun a U g mk q => by obtain ⟨q0, q1, qP, qK, qD⟩ := q; exact ⟨q0, q1, qP, va_K.moved (u := U) (U := U.calling g mk a) (Vm.Alike.refl U.vm) qK, qD⟩, va_recv hK hPc (ci := 3) (q0 := 0) rfl rfl, fun U hU hW => ⟨rfl, by rw [hU], by rw [hU]; exact hPc, va_K.moved hW.alike hK, hDc.weaken (fun _ _ _ _ => trivial)⟩⟩ rfl rfl hl.1 rfl (lv_room (Nat.le_of_ble_eq_true rfl)) dL_law_331 ⟨Nat.le_of_ble_eq_true rfl, Nat.le_of_ble_eq_true rfl⟩) hS (fun q _ h => hFc q h) hFc (fun r u t H1 locs ht hvm hw hB hz1 hk1 hS => ?_)
  obtain ⟨rb_331, sb_331⟩ := u
  obtain ⟨hP1, hK1, hD1⟩ := hB
  rw [ht] at hP1
  try dsimp only at hw
  try dsimp only at hP1
  try dsimp only at hD1
  have hK := va_K.moved hvm.symm hK1
  obtain ⟨hP, hD⟩ := va_join (wr := [(mo, .inr (4, [.int (nI n), .int (nI q), .ref ma, .ref mb, .int (nI c), .ref mc, .int (nI w), .ref md, .ref me, .int (nI z), .int (nI ev), .ref mf, .ref mg, .ref mh, .ref mi, .ref mj, .ref mk, .ref ml, .ref mn])), (ma, .inl (cI, 7, .inl (aN num))), (mb, .inl (cI, 7, .inl (aN plc))), (mc, .inl (cI, 12, .inl (aN sig))), (md, .inl (cI, 60, .inl (aN pad))), (me, .inl (cI, 8, .inl (aN row))), (mf, .inl (cI, 7, .inl (aN dig))), (mg, .inl (cI, 5040, .inl far)), (mh, .inl (cI, 5040, .inl (aN cfr))), (mi, .inl (cI, 5040, .inl (aN cby))), (mj, .inl (cI, 5040, .inl (aN que))), (mk, .inl (cI, 64, .inl (aN has))), (ml, .inl (cI, 64, .inl (aN img))), (mn, .inl (cZ, 2, .inl (aN kep)))]) (w1 := wX h fl e1 e2 pd sg cI k1 k2 .null n (pk 256 num n) (pk 8 plc q) q (pk 64 (fun k => 8 * sig (2 * k) + sig (2 * k + 1)) c) c na Na Ra qa Sa ca nb Nb Rb qb Sb cb w rb_331 sb_331 pad) hP hD [0, 1, 2, 3, 4, 5] [6, 7, 8, 9, 10, 11, 12, 13, 14, 15, 16, 17, 18, 19] rfl rfl (by decide) (by decide) hk1 hFc hP1 hD1
  have hP := hP.sub (ws' := wLA h fl e1 e2 pd sg cI k1 k2 .null n (pk 256 num n) (pk 8 plc q) q (pk 64 (fun k => 8 * sig (2 * k) + sig (2 * k + 1)) c) c na Na Ra qa Sa ca nb Nb Rb qb Sb cb w rb_331 sb_331 pad mo ma mb mc md me mf mg mh mi mj mk ml mn cZ n q c w z ev num plc sig pad row dig far cfr cby que has img kep) [14, 15, 16, 17, 18, 19, 0, 1, 2, 3, 4, 5, 6, 7, 8, 9, 10, 11, 12, 13] rfl
  have hD := hD.sub (ws' := wLA h fl e1 e2 pd sg cI k1 k2 .null n (pk 256 num n) (pk 8 plc q) q (pk 64 (fun k => 8 * sig (2 * k) + sig (2 * k + 1)) c) c na Na Ra qa Sa ca nb Nb Rb qb Sb cb w rb_331 sb_331 pad mo ma mb mc md me mf mg mh mi mj mk ml mn cZ n q c w z ev num plc sig pad row dig far cfr cby que has img kep) [14, 15, 16, 17, 18, 19, 0, 1, 2, 3, 4, 5, 6, 7, 8, 9, 10, 11, 12, 13] (by decide) rfl
  have hK := va_K.moved (Vm.Alike.refl Gs.vm) hK
  generalize H1 = H at hP hS ⊢
  have hr331 := hw
  subst hr331
  refine lv_aload_n gx gb dL_law_334 rfl (lv_at hl 2 rfl) ?_
  refine lv_aload_n gx gb dL_law_335 rfl (lv_at hl 0 rfl) ?_
  refine lv_iload_n gx gb dL_law_336 rfl (lv_at hl 3 rfl) ?_
  refine lv_iconst (v := nI 1) gx gb dL_law_337 (by decide) ?_
  refine lv_iadd gx gb dL_law_338 ?_
  refine lv_evi (nI (i + 1)) (nI_add i 1) ?_
  refine va_sld gx gb hX hbl hbA hS (vp_in_nI (n := i + 1) (by omega) (by omega)) dL_law_339 ?_
  refine lv_evi (zI (sX xs (i + 1))) (sX_rd xs (by omega)) ?_
  have hPc := hP.sub (ws' := wM mo ma mb mc md me mf mg mh mi mj mk ml mn cI cZ n q c w z ev num plc sig pad row dig far cfr cby que has img kep) [6, 7, 8, 9, 10, 11, 12, 13, 14, 15, 16, 17, 18, 19] rfl
  have hDc := hD.sub (ws' := wM mo ma mb mc md me mf mg mh mi mj mk ml mn cI cZ n q c w z ev num plc sig pad row dig far cfr cby que has img kep) [6, 7, 8, 9, 10, 11, 12, 13, 14, 15, 16, 17, 18, 19] (by decide) rfl
  have hFc := va_free (wc := wM mo ma mb mc md me mf mg mh mi mj mk ml mn cI cZ n q c w z ev num plc sig pad row dig far cfr cby que has img kep) hD hS hA [6, 7, 8, 9, 10, 11, 12, 13, 14, 15, 16, 17, 18, 19] rfl
  refine va_calli (va_runV (As := [.int (zI (sX xs (i + 1)))]) (rest := [.int (zI (tghZ num pad w plc q (sX xs (i + 1))))]) ⟨gx, gb, gml, gown, gts⟩ (kX9_taught Gl D cI cJ cZ mo ma mb mc md me mf mg mh mi mj mk ml mn n q c w z ev num plc sig pad row dig far cfr cby que has img kep _ (sX xs (i + 1)) (by omega) (by omega) (by omega) (by exact hgp) (by omega) (by omega) (by omega) (by omega) (by exact hp) (by exact hnum)) (cwV 1 gts gL_law_X9_taught rfl rfl rfl (by decide +kernel) ⟨Nat.le_of_ble_eq_true rfl, Nat.le_of_ble_eq_true rfl⟩) ⟨fun a U g mk q => by obtain ⟨q0, q1, qP, qK, qD⟩ := q; exact ⟨q0, q1, qP, va_K.moved (u := U) (U := U.calling g mk a) (Vm.Alike.refl U.vm) qK, qD⟩, va_recv hK hPc (ci := 4) (q0 := 0) rfl rfl, fun U hU hW => ⟨rfl, by rw [hU], by rw [hU]; exact hPc, va_K.moved hW.alike hK, hDc.weaken (fun _ _ _ _ => trivial)⟩⟩ rfl rfl hl.1 rfl (lv_room (Nat.le_of_ble_eq_true rfl)) dL_law_340 ⟨Nat.le_of_ble_eq_true rfl, Nat.le_of_ble_eq_true rfl⟩) hS (fun q _ h => hFc q h) hFc (fun r u t H1 locs ht hvm hw hB hz1 hk1 hS => ?_)
  obtain ⟨row_340, z_340, ev_340⟩ := u
  obtain ⟨hP1, hK1, hD1⟩ := hB
  rw [ht] at hP1
  try dsimp only at hw
  try dsimp only at hP1
  try dsimp only at hD1
  have hK := va_K.moved hvm.symm hK1
  obtain ⟨hP, hD⟩ := va_join (wr := [(h, .inr (3, [.ref fl, .ref e1, .ref e2, .int (nI k1), .int (nI k2), .ref pd, .null])), (fl, .inr (0, [.int (nI n), .long (lN (pk 256 num n)), .int (nI (pk 8 plc q)), .int (nI q), .long (lN (pk 64 (fun k => 8 * sig (2 * k) + sig (2 * k + 1)) c)), .int (nI c)])), (e1, .inr (0, [.int (nI na), .long (lN Na), .int (nI Ra), .int (nI qa), .long (lN Sa), .int (nI ca)])), (e2, .inr (0, [.int (nI nb), .long (lN Nb), .int (nI Rb), .int (nI qb), .long (lN Sb), .int (nI cb)])), (pd, .inr (1, [.ref sg, .int (nI w), .int (nI rb_331), .int (nI sb_331)])), (sg, .inl (cI, 60, .inl (aN pad)))]) (w1 := wM mo ma mb mc md me mf mg mh mi mj mk ml mn cI cZ n q c w z_340 ev_340 num plc sig pad row_340 dig far cfr cby que has img kep) hP hD [6, 7, 8, 9, 10, 11, 12, 13, 14, 15, 16, 17, 18, 19] [0, 1, 2, 3, 4, 5] rfl rfl (by decide) (by decide) hk1 hFc hP1 hD1
  have hP := hP.sub (ws' := wLA h fl e1 e2 pd sg cI k1 k2 .null n (pk 256 num n) (pk 8 plc q) q (pk 64 (fun k => 8 * sig (2 * k) + sig (2 * k + 1)) c) c na Na Ra qa Sa ca nb Nb Rb qb Sb cb w rb_331 sb_331 pad mo ma mb mc md me mf mg mh mi mj mk ml mn cZ n q c w z_340 ev_340 num plc sig pad row_340 dig far cfr cby que has img kep) [0, 1, 2, 3, 4, 5, 6, 7, 8, 9, 10, 11, 12, 13, 14, 15, 16, 17, 18, 19] rfl
  have hD := hD.sub (ws' := wLA h fl e1 e2 pd sg cI k1 k2 .null n (pk 256 num n) (pk 8 plc q) q (pk 64 (fun k => 8 * sig (2 * k) + sig (2 * k + 1)) c) c na Na Ra qa Sa ca nb Nb Rb qb Sb cb w rb_331 sb_331 pad mo ma mb mc md me mf mg mh mi mj mk ml mn cZ n q c w z_340 ev_340 num plc sig pad row_340 dig far cfr cby que has img kep) [0, 1, 2, 3, 4, 5, 6, 7, 8, 9, 10, 11, 12, 13, 14, 15, 16, 17, 18, 19] (by decide) rfl
  have hK := va_K.moved (Vm.Alike.refl Gs.vm) hK
  generalize H1 = H at hP hS ⊢
  have hr340 := hw
  subst hr340
  refine lv_icmp_eq (tgt := 774) gx gb dL_law_343 (by decide) (fun c343 => ?_) (fun c343 => ?_)
  · skip
    have hNext := hI
    refine lv_iinc (v := nI (i + 4)) (lv' := [(3, .int (nI (i + 4))), (0, .ref b), (1, .ref h), (2, .ref mo)]) gx gb dL_law_774 hl (k := 3) rfl (nI_add i 4) (by decide) rfl (fun ls hl => ?_)
    refine lv_goto (tgt := 18) gx gb dL_law_777 (by decide) ?_
    exact kk n q c w n q c (pk 256 num n) (pk 8 plc q) (pk 64 (fun k => 8 * sig (2 * k) + sig (2 * k + 1)) c) k1 k2 na Na Ra qa Sa ca nb Nb Rb qb Sb cb rb_331 sb_331 z_340 ev_340 num plc sig pad row_340 dig cfr cby que has img kep far hNext H locs hP hD hS ls (lv_sub hl [1, 2, 3, 0] rfl)
  · skip
    exact absurd rfl c343

set_option maxHeartbeats 4000000 in
set_option maxRecDepth 100000 in
theorem lA_read {Gp : Program} {Gl : Launch} {Ge : Env} {Gs : State} {Gm : MethodId} {Gw : List Frame} {Gt : Method} {Gc : Code} {b L : Nat} {xs : Nat → Int32} (hL : L ≤ 256) (C0 : lw_At Gp Gs Gm Gt Gc b L xs) (D : va_G) (cI cJ cZ : ClassId) (A : Nat → Prop) (hA : ∀ q : Nat, Gs.heap.size ≤ q → A q) (hbA : ¬ A b) (hK : va_K D vwCl [(cI, .int), (cJ, .long), (cZ, .boolean)] Gs) (h fl e1 e2 pd sg mo ma mb mc md me mf mg mh mi mj mk ml mn : Nat) (i : Nat) (hi : i + 4 ≤ L) (kk : lwHA Gp Gl Ge Gs Gm Gw Gt Gc b D cI cJ cZ A h fl e1 e2 pd sg mo ma mb mc md me mf mg mh mi mj mk ml mn (i + 4)) (n q c w nX qX cX N R S k1 k2 na Na Ra qa Sa ca nb Nb Rb qb Sb cb rb sb z ev : Nat) (num plc sig pad row dig cfr cby que has img kep : Nat → Nat) (far : Nat → Int32) (hI : lwI num plc sig pad img kep n q c w nX qX cX N R S k1 k2 na Na Ra qa Sa ca nb Nb Rb qb Sb cb) (H : Heap) (locs : List Loc) (hP : va_P D vwCl (wLA h fl e1 e2 pd sg cI k1 k2 .null nX N R qX S cX na Na Ra qa Sa ca nb Nb Rb qb Sb cb w rb sb pad mo ma mb mc md me mf mg mh mi mj mk ml mn cZ n q c w z ev num plc sig pad row dig far cfr cby que has img kep) H) (hD : va_D A (wLA h fl e1 e2 pd sg cI k1 k2 .null nX N R qX S cX na Na Ra qa Sa ca nb Nb Rb qb Sb cb w rb sb pad mo ma mb mc md me mf mg mh mi mj mk ml mn cZ n q c w z ev num plc sig pad row dig far cfr cby que has img kep)) (hS : va_S A Gs.heap H locs) (ls : Array Slot) (hl : lv_has ls 4 [(0, .ref b), (1, .ref h), (2, .ref mo), (3, .int (nI i))]) : W Gp Gl Ge room_1 Gs Gm #[Value.ref b] Gw Gt Gc H locs 20 20499 (lw_Z Gw #[Value.ref b] Gs) (F0 Gm 348 ls []) := by
  obtain ⟨gx, gb, gr, gml, gown0, gts0, hX, hbl, glk, hgv⟩ := id C0
  have gts : ∀ w ∈ wsL_law, w.before #[Value.ref b] Gs = true := fun w h => gts0 w (wsL_law_in w h)
  have gown : Gs.vm.findClass RL = some Gm.cls := gown0
  have hb1 := sX_bd xs (i + 1)
  have hb2 := sX_bd xs (i + 2)
  have hb3 := sX_bd xs (i + 3)
  obtain ⟨⟨⟨hF, hN, hR, hSS⟩, hnX, hqX, hcX⟩, -⟩ := id hI
  subst hN hR hSS hnX hqX hcX
  obtain ⟨-, ⟨hw60, hgp⟩, ⟨hke1, hke2, hk1, hk2⟩, -, -⟩ := id hI
  obtain ⟨hn1, hn7, hq1, hqn, hp, hinj, hnum, hc6, hsg⟩ := id hF
  have hpl6 : ∀ x, x < q → plc x ≤ 6 := fun x hx => by have := hp x hx; omega
  have hnv : ∀ x, x < q → num (plc x) ≤ 99 := fun x hx => hnum _ (hp x hx)
  have hkep : ∀ j, j < 2 → kep j ≤ 1 := fun j hj => by rcases (show j = 0 ∨ j = 1 by omega) with rfl | rfl <;> omega
  have hP : va_P D vwCl (wLA h fl e1 e2 pd sg cI k1 k2 .null n (pk 256 num n) (pk 8 plc q) q (pk 64 (fun k => 8 * sig (2 * k) + sig (2 * k + 1)) c) c na Na Ra qa Sa ca nb Nb Rb qb Sb cb w rb sb pad mo ma mb mc md me mf mg mh mi mj mk ml mn cZ n q c w z ev num plc sig pad row dig far cfr cby que has img kep) H := hP
  have hD : va_D A (wLA h fl e1 e2 pd sg cI k1 k2 .null n (pk 256 num n) (pk 8 plc q) q (pk 64 (fun k => 8 * sig (2 * k) + sig (2 * k + 1)) c) c na Na Ra qa Sa ca nb Nb Rb qb Sb cb w rb sb pad mo ma mb mc md me mf mg mh mi mj mk ml mn cZ n q c w z ev num plc sig pad row dig far cfr cby que has img kep) := hD
  have hl : lv_has ls 4 [(0, .ref b), (1, .ref h), (2, .ref mo), (3, .int (nI i))] := hl
  refine lv_aload_n gx gb dL_law_348 rfl (lv_at hl 1 rfl) ?_
  refine lv_aload_n gx gb dL_law_349 rfl (lv_at hl 0 rfl) ?_
  refine lv_iload_n gx gb dL_law_350 rfl (lv_at hl 3 rfl) ?_
  refine lv_iconst (v := nI 1) gx gb dL_law_351 (by decide) ?_
  refine lv_iadd gx gb dL_law_352 ?_
  refine lv_evi (nI (i + 1)) (nI_add i 1) ?_
  refine va_sld gx gb hX hbl hbA hS (vp_in_nI (n := i + 1) (by omega) (by omega)) dL_law_353 ?_
  refine lv_evi (zI (sX xs (i + 1))) (sX_rd xs (by omega)) ?_
  refine lv_aload_n gx gb dL_law_354 rfl (lv_at hl 0 rfl) ?_
  refine lv_iload_n gx gb dL_law_355 rfl (lv_at hl 3 rfl) ?_
  refine lv_iconst (v := nI 2) gx gb dL_law_356 (by decide) ?_
  refine lv_iadd gx gb dL_law_357 ?_
  refine lv_evi (nI (i + 2)) (nI_add i 2) ?_
  refine va_sld gx gb hX hbl hbA hS (vp_in_nI (n := i + 2) (by omega) (by omega)) dL_law_358 ?_
  refine lv_evi (zI (sX xs (i + 2))) (sX_rd xs (by omega)) ?_
  have hPc := hP.sub (ws' := wX h fl e1 e2 pd sg cI k1 k2 .null n (pk 256 num n) (pk 8 plc q) q (pk 64 (fun k => 8 * sig (2 * k) + sig (2 * k + 1)) c) c na Na Ra qa Sa ca nb Nb Rb qb Sb cb w rb sb pad) [0, 1, 2, 3, 4, 5] rfl
  refine vp_callSi (W.runV (As := [.int (zI (sX xs (i + 1))), .int (zI (sX xs (i + 2)))]) (rest := []) ⟨gx, gb, gml, gown, gts⟩ (kX8_read Gl D cI cJ cZ h fl e1 e2 pd sg k1 k2 .null n q (pk 64 (fun k => 8 * sig (2 * k) + sig (2 * k + 1)) c) c na Na Ra qa Sa ca nb Nb Rb qb Sb cb w rb sb pad num plc (sX xs (i + 1)) (sX xs (i + 2)) (by omega) (by omega) (by omega) (by omega) (by omega) (by omega) (by omega) (by omega) (by exact hp) (by exact hnum)) (cwV 2 gts gL_law_X8_read rfl rfl rfl (by decide +kernel) ⟨Nat.le_of_ble_eq_true rfl, Nat.le_of_ble_eq_true rfl⟩) ⟨fun a U g mk q => ⟨q.1, q.2.1, va_K.moved (u := U) (U := U.calling g mk a) (Vm.Alike.refl U.vm) q.2.2⟩, va_recv hK hPc (ci := 3) (q0 := 0) rfl rfl, fun U hU hW => ⟨rfl, by rw [hU]; exact hPc, va_K.moved hW.alike hK⟩⟩ rfl rfl hl.1 rfl (lv_room (Nat.le_of_ble_eq_true rfl)) dL_law_359 ⟨Nat.le_of_ble_eq_true rfl, Nat.le_of_ble_eq_true rfl⟩) (fun r hw => ?_)
  obtain ⟨r359, rfl⟩ : ∃ z, z = r := ⟨_, rfl⟩
  obtain ⟨zx, rfl, hzx⟩ := hw
  refine lv_aload_n gx gb dL_law_362 rfl (lv_at hl 2 rfl) ?_
  refine lv_aload_n gx gb dL_law_363 rfl (lv_at hl 0 rfl) ?_
  refine lv_iload_n gx gb dL_law_364 rfl (lv_at hl 3 rfl) ?_
  refine lv_iconst (v := nI 1) gx gb dL_law_365 (by decide) ?_
  refine lv_iadd gx gb dL_law_366 ?_
  refine lv_evi (nI (i + 1)) (nI_add i 1) ?_
  refine va_sld gx gb hX hbl hbA hS (vp_in_nI (n := i + 1) (by omega) (by omega)) dL_law_367 ?_
  refine lv_evi (zI (sX xs (i + 1))) (sX_rd xs (by omega)) ?_
  refine lv_aload_n gx gb dL_law_368 rfl (lv_at hl 0 rfl) ?_
  refine lv_iload_n gx gb dL_law_369 rfl (lv_at hl 3 rfl) ?_
  refine lv_iconst (v := nI 2) gx gb dL_law_370 (by decide) ?_
  refine lv_iadd gx gb dL_law_371 ?_
  refine lv_evi (nI (i + 2)) (nI_add i 2) ?_
  refine va_sld gx gb hX hbl hbA hS (vp_in_nI (n := i + 2) (by omega) (by omega)) dL_law_372 ?_
  refine lv_evi (zI (sX xs (i + 2))) (sX_rd xs (by omega)) ?_
  have hPc := hP.sub (ws' := wM mo ma mb mc md me mf mg mh mi mj mk ml mn cI cZ n q c w z ev num plc sig pad row dig far cfr cby que has img kep) [6, 7, 8, 9, 10, 11, 12, 13, 14, 15, 16, 17, 18, 19] rfl
  have hDc := hD.sub (ws' := wM mo ma mb mc md me mf mg mh mi mj mk ml mn cI cZ n q c w z ev num plc sig pad row dig far cfr cby que has img kep) [6, 7, 8, 9, 10, 11, 12, 13, 14, 15, 16, 17, 18, 19] (by decide) rfl
  have hFc := va_free (wc := wM mo ma mb mc md me mf mg mh mi mj mk ml mn cI cZ n q c w z ev num plc sig pad row dig far cfr cby que has img kep) hD hS hA [6, 7, 8, 9, 10, 11, 12, 13, 14, 15, 16, 17, 18, 19] rfl
  refine va_calli (va_runV (As := [.int (zI (sX xs (i + 1))), .int (zI (sX xs (i + 2)))]) (rest := [.int (zI zx)]) ⟨gx, gb, gml, gown, gts⟩ (kX9_read Gl D cI cJ cZ mo ma mb mc md me mf mg mh mi mj mk ml mn n q c w z ev num plc sig pad row dig far cfr cby que has img kep _ (sX xs (i + 1)) (sX xs (i + 2)) (by omega) (by omega) (by omega) (by omega) (by omega) (by omega) (by omega) (by omega) (by exact hp) (by exact hnum)) (cwV 2 gts gL_law_X9_read rfl rfl rfl (by decide +kernel) ⟨Nat.le_of_ble_eq_true rfl, Nat.le_of_ble_eq_true rfl⟩) ⟨fun a U g mk q => by obtain ⟨q0, q1, qP, qK, qD⟩ := q; exact ⟨q0, q1, qP, va_K.moved (u := U) (U := U.calling g mk a) (Vm.Alike.refl U.vm) qK, qD⟩, va_recv hK hPc (ci := 4) (q0 := 0) rfl rfl, fun U hU hW => ⟨rfl, by rw [hU], by rw [hU]; exact hPc, va_K.moved hW.alike hK, hDc.weaken (fun _ _ _ _ => trivial)⟩⟩ rfl rfl hl.1 rfl (lv_room (Nat.le_of_ble_eq_true rfl)) dL_law_373 ⟨Nat.le_of_ble_eq_true rfl, Nat.le_of_ble_eq_true rfl⟩) hS (fun q _ h => hFc q h) hFc (fun r u t H1 locs ht hvm hw hB hz1 hk1 hS => ?_)
  obtain ⟨row_373, z_373⟩ := u
  obtain ⟨hP1, hK1, hD1⟩ := hB
  rw [ht] at hP1
  try dsimp only at hw
  try dsimp only at hP1
  try dsimp only at hD1
  have hK := va_K.moved hvm.symm hK1
  obtain ⟨hP, hD⟩ := va_join (wr := [(h, .inr (3, [.ref fl, .ref e1, .ref e2, .int (nI k1), .int (nI k2), .ref pd, .null])), (fl, .inr (0, [.int (nI n), .long (lN (pk 256 num n)), .int (nI (pk 8 plc q)), .int (nI q), .long (lN (pk 64 (fun k => 8 * sig (2 * k) + sig (2 * k + 1)) c)), .int (nI c)])), (e1, .inr (0, [.int (nI na), .long (lN Na), .int (nI Ra), .int (nI qa), .long (lN Sa), .int (nI ca)])), (e2, .inr (0, [.int (nI nb), .long (lN Nb), .int (nI Rb), .int (nI qb), .long (lN Sb), .int (nI cb)])), (pd, .inr (1, [.ref sg, .int (nI w), .int (nI rb), .int (nI sb)])), (sg, .inl (cI, 60, .inl (aN pad)))]) (w1 := wM mo ma mb mc md me mf mg mh mi mj mk ml mn cI cZ n q c w z_373 ev num plc sig pad row_373 dig far cfr cby que has img kep) hP hD [6, 7, 8, 9, 10, 11, 12, 13, 14, 15, 16, 17, 18, 19] [0, 1, 2, 3, 4, 5] rfl rfl (by decide) (by decide) hk1 hFc hP1 hD1
  have hP := hP.sub (ws' := wLA h fl e1 e2 pd sg cI k1 k2 .null n (pk 256 num n) (pk 8 plc q) q (pk 64 (fun k => 8 * sig (2 * k) + sig (2 * k + 1)) c) c na Na Ra qa Sa ca nb Nb Rb qb Sb cb w rb sb pad mo ma mb mc md me mf mg mh mi mj mk ml mn cZ n q c w z_373 ev num plc sig pad row_373 dig far cfr cby que has img kep) [0, 1, 2, 3, 4, 5, 6, 7, 8, 9, 10, 11, 12, 13, 14, 15, 16, 17, 18, 19] rfl
  have hD := hD.sub (ws' := wLA h fl e1 e2 pd sg cI k1 k2 .null n (pk 256 num n) (pk 8 plc q) q (pk 64 (fun k => 8 * sig (2 * k) + sig (2 * k + 1)) c) c na Na Ra qa Sa ca nb Nb Rb qb Sb cb w rb sb pad mo ma mb mc md me mf mg mh mi mj mk ml mn cZ n q c w z_373 ev num plc sig pad row_373 dig far cfr cby que has img kep) [0, 1, 2, 3, 4, 5, 6, 7, 8, 9, 10, 11, 12, 13, 14, 15, 16, 17, 18, 19] (by decide) rfl
  have hK := va_K.moved (Vm.Alike.refl Gs.vm) hK
  generalize H1 = H at hP hS ⊢
  obtain ⟨r373, rfl⟩ : ∃ z, z = r := ⟨_, rfl⟩
  obtain ⟨zm, rfl, hzm⟩ := hw
  refine lv_icmp_eq (tgt := 774) gx gb dL_law_376 (by decide) (fun c376 => ?_) (fun c376 => ?_)
  · skip
    have hNext := hI
    refine lv_iinc (v := nI (i + 4)) (lv' := [(3, .int (nI (i + 4))), (0, .ref b), (1, .ref h), (2, .ref mo)]) gx gb dL_law_774 hl (k := 3) rfl (nI_add i 4) (by decide) rfl (fun ls hl => ?_)
    refine lv_goto (tgt := 18) gx gb dL_law_777 (by decide) ?_
    exact kk n q c w n q c (pk 256 num n) (pk 8 plc q) (pk 64 (fun k => 8 * sig (2 * k) + sig (2 * k + 1)) c) k1 k2 na Na Ra qa Sa ca nb Nb Rb qb Sb cb rb sb z_373 ev num plc sig pad row_373 dig cfr cby que has img kep far hNext H locs hP hD hS ls (lv_sub hl [1, 2, 3, 0] rfl)
  · skip
    exact absurd (congrArg zI (rdZ_one hzx hzm)) c376

set_option maxHeartbeats 4000000 in
set_option maxRecDepth 100000 in
theorem lA_longest {Gp : Program} {Gl : Launch} {Ge : Env} {Gs : State} {Gm : MethodId} {Gw : List Frame} {Gt : Method} {Gc : Code} {b L : Nat} {xs : Nat → Int32} (hL : L ≤ 256) (C0 : lw_At Gp Gs Gm Gt Gc b L xs) (D : va_G) (cI cJ cZ : ClassId) (A : Nat → Prop) (hA : ∀ q : Nat, Gs.heap.size ≤ q → A q) (hbA : ¬ A b) (hK : va_K D vwCl [(cI, .int), (cJ, .long), (cZ, .boolean)] Gs) (h fl e1 e2 pd sg mo ma mb mc md me mf mg mh mi mj mk ml mn : Nat) (i : Nat) (hi : i + 4 ≤ L) (kk : lwHA Gp Gl Ge Gs Gm Gw Gt Gc b D cI cJ cZ A h fl e1 e2 pd sg mo ma mb mc md me mf mg mh mi mj mk ml mn (i + 4)) (n q c w nX qX cX N R S k1 k2 na Na Ra qa Sa ca nb Nb Rb qb Sb cb rb sb z ev : Nat) (num plc sig pad row dig cfr cby que has img kep : Nat → Nat) (far : Nat → Int32) (hI : lwI num plc sig pad img kep n q c w nX qX cX N R S k1 k2 na Na Ra qa Sa ca nb Nb Rb qb Sb cb) (H : Heap) (locs : List Loc) (hP : va_P D vwCl (wLA h fl e1 e2 pd sg cI k1 k2 .null nX N R qX S cX na Na Ra qa Sa ca nb Nb Rb qb Sb cb w rb sb pad mo ma mb mc md me mf mg mh mi mj mk ml mn cZ n q c w z ev num plc sig pad row dig far cfr cby que has img kep) H) (hD : va_D A (wLA h fl e1 e2 pd sg cI k1 k2 .null nX N R qX S cX na Na Ra qa Sa ca nb Nb Rb qb Sb cb w rb sb pad mo ma mb mc md me mf mg mh mi mj mk ml mn cZ n q c w z ev num plc sig pad row dig far cfr cby que has img kep)) (hS : va_S A Gs.heap H locs) (ls : Array Slot) (hl : lv_has ls 4 [(0, .ref b), (1, .ref h), (2, .ref mo), (3, .int (nI i))]) : W Gp Gl Ge room_1 Gs Gm #[Value.ref b] Gw Gt Gc H locs 20 20499 (lw_Z Gw #[Value.ref b] Gs) (F0 Gm 381 ls []) := by
  obtain ⟨gx, gb, gr, gml, gown0, gts0, hX, hbl, glk, hgv⟩ := id C0
  have gts : ∀ w ∈ wsL_law, w.before #[Value.ref b] Gs = true := fun w h => gts0 w (wsL_law_in w h)
  have gown : Gs.vm.findClass RL = some Gm.cls := gown0
  have hb1 := sX_bd xs (i + 1)
  have hb2 := sX_bd xs (i + 2)
  have hb3 := sX_bd xs (i + 3)
  obtain ⟨⟨⟨hF, hN, hR, hSS⟩, hnX, hqX, hcX⟩, -⟩ := id hI
  subst hN hR hSS hnX hqX hcX
  obtain ⟨-, ⟨hw60, hgp⟩, ⟨hke1, hke2, hk1, hk2⟩, -, -⟩ := id hI
  obtain ⟨hn1, hn7, hq1, hqn, hp, hinj, hnum, hc6, hsg⟩ := id hF
  have hpl6 : ∀ x, x < q → plc x ≤ 6 := fun x hx => by have := hp x hx; omega
  have hnv : ∀ x, x < q → num (plc x) ≤ 99 := fun x hx => hnum _ (hp x hx)
  have hkep : ∀ j, j < 2 → kep j ≤ 1 := fun j hj => by rcases (show j = 0 ∨ j = 1 by omega) with rfl | rfl <;> omega
  have hP : va_P D vwCl (wLA h fl e1 e2 pd sg cI k1 k2 .null n (pk 256 num n) (pk 8 plc q) q (pk 64 (fun k => 8 * sig (2 * k) + sig (2 * k + 1)) c) c na Na Ra qa Sa ca nb Nb Rb qb Sb cb w rb sb pad mo ma mb mc md me mf mg mh mi mj mk ml mn cZ n q c w z ev num plc sig pad row dig far cfr cby que has img kep) H := hP
  have hD : va_D A (wLA h fl e1 e2 pd sg cI k1 k2 .null n (pk 256 num n) (pk 8 plc q) q (pk 64 (fun k => 8 * sig (2 * k) + sig (2 * k + 1)) c) c na Na Ra qa Sa ca nb Nb Rb qb Sb cb w rb sb pad mo ma mb mc md me mf mg mh mi mj mk ml mn cZ n q c w z ev num plc sig pad row dig far cfr cby que has img kep) := hD
  have hl : lv_has ls 4 [(0, .ref b), (1, .ref h), (2, .ref mo), (3, .int (nI i))] := hl
  refine lv_aload_n gx gb dL_law_381 rfl (lv_at hl 1 rfl) ?_
  have hPc := hP.sub (ws' := wX h fl e1 e2 pd sg cI k1 k2 .null n (pk 256 num n) (pk 8 plc q) q (pk 64 (fun k => 8 * sig (2 * k) + sig (2 * k + 1)) c) c na Na Ra qa Sa ca nb Nb Rb qb Sb cb w rb sb pad) [0, 1, 2, 3, 4, 5] rfl
  refine vp_callSi (W.runV (As := []) (rest := []) ⟨gx, gb, gml, gown, gts⟩ (kX8_longest Gl D cI cJ cZ h fl e1 e2 pd sg k1 k2 .null n q (pk 64 (fun k => 8 * sig (2 * k) + sig (2 * k + 1)) c) c na Na Ra qa Sa ca nb Nb Rb qb Sb cb w rb sb pad num plc (by omega) (by omega) (by omega) (by omega) (by exact hp) (by exact hnum)) (cwV 0 gts gL_law_X8_longest rfl rfl rfl (by decide +kernel) ⟨Nat.le_of_ble_eq_true rfl, Nat.le_of_ble_eq_true rfl⟩) ⟨fun a U g mk q => ⟨q.1, q.2.1, va_K.moved (u := U) (U := U.calling g mk a) (Vm.Alike.refl U.vm) q.2.2⟩, va_recv hK hPc (ci := 3) (q0 := 0) rfl rfl, fun U hU hW => ⟨rfl, by rw [hU]; exact hPc, va_K.moved hW.alike hK⟩⟩ rfl rfl hl.1 rfl (lv_room (Nat.le_of_ble_eq_true rfl)) dL_law_382 ⟨Nat.le_of_ble_eq_true rfl, Nat.le_of_ble_eq_true rfl⟩) (fun r hw => ?_)
  have hr382 := hw
  subst hr382
  refine lv_aload_n gx gb dL_law_385 rfl (lv_at hl 2 rfl) ?_
  have hPc := hP.sub (ws' := wM mo ma mb mc md me mf mg mh mi mj mk ml mn cI cZ n q c w z ev num plc sig pad row dig far cfr cby que has img kep) [6, 7, 8, 9, 10, 11, 12, 13, 14, 15, 16, 17, 18, 19] rfl
  have hDc := hD.sub (ws' := wM mo ma mb mc md me mf mg mh mi mj mk ml mn cI cZ n q c w z ev num plc sig pad row dig far cfr cby que has img kep) [6, 7, 8, 9, 10, 11, 12, 13, 14, 15, 16, 17, 18, 19] (by decide) rfl
  have hFc := va_free (wc := wM mo ma mb mc md me mf mg mh mi mj mk ml mn cI cZ n q c w z ev num plc sig pad row dig far cfr cby que has img kep) hD hS hA [6, 7, 8, 9, 10, 11, 12, 13, 14, 15, 16, 17, 18, 19] rfl
  refine va_calli (va_runV (As := []) (rest := [.int (nI (lrise (fun p => num (plc p)) q))]) ⟨gx, gb, gml, gown, gts⟩ (kX9_longest Gl D cI cJ cZ mo ma mb mc md me mf mg mh mi mj mk ml mn n q c w z ev num plc sig pad row dig far cfr cby que has img kep _  (by omega) (by omega) (by omega) (by omega) (by exact hp) (by exact hnum)) (cwV 0 gts gL_law_X9_longest rfl rfl rfl (by decide +kernel) ⟨Nat.le_of_ble_eq_true rfl, Nat.le_of_ble_eq_true rfl⟩) ⟨fun a U g mk q => by obtain ⟨q0, q1, qP, qK, qD⟩ := q; exact ⟨q0, q1, qP, va_K.moved (u := U) (U := U.calling g mk a) (Vm.Alike.refl U.vm) qK, qD⟩, va_recv hK hPc (ci := 4) (q0 := 0) rfl rfl, fun U hU hW => ⟨rfl, by rw [hU], by rw [hU]; exact hPc, va_K.moved hW.alike hK, hDc.weaken (fun _ _ _ _ => trivial)⟩⟩ rfl rfl hl.1 rfl (lv_room (Nat.le_of_ble_eq_true rfl)) dL_law_386 ⟨Nat.le_of_ble_eq_true rfl, Nat.le_of_ble_eq_true rfl⟩) hS (fun q _ h => hFc q h) hFc (fun r u t H1 locs ht hvm hw hB hz1 hk1 hS => ?_)
  obtain ⟨hP1, hK1, hD1⟩ := hB
  rw [ht] at hP1
  try dsimp only at hw
  try dsimp only at hP1
  try dsimp only at hD1
  have hK := va_K.moved hvm.symm hK1
  obtain ⟨hP, hD⟩ := va_join (wr := [(h, .inr (3, [.ref fl, .ref e1, .ref e2, .int (nI k1), .int (nI k2), .ref pd, .null])), (fl, .inr (0, [.int (nI n), .long (lN (pk 256 num n)), .int (nI (pk 8 plc q)), .int (nI q), .long (lN (pk 64 (fun k => 8 * sig (2 * k) + sig (2 * k + 1)) c)), .int (nI c)])), (e1, .inr (0, [.int (nI na), .long (lN Na), .int (nI Ra), .int (nI qa), .long (lN Sa), .int (nI ca)])), (e2, .inr (0, [.int (nI nb), .long (lN Nb), .int (nI Rb), .int (nI qb), .long (lN Sb), .int (nI cb)])), (pd, .inr (1, [.ref sg, .int (nI w), .int (nI rb), .int (nI sb)])), (sg, .inl (cI, 60, .inl (aN pad)))]) (w1 := wM mo ma mb mc md me mf mg mh mi mj mk ml mn cI cZ n q c w q ev num plc sig pad (cpy plc row 7) dig far cfr cby que has img kep) hP hD [6, 7, 8, 9, 10, 11, 12, 13, 14, 15, 16, 17, 18, 19] [0, 1, 2, 3, 4, 5] rfl rfl (by decide) (by decide) hk1 hFc hP1 hD1
  have hP := hP.sub (ws' := wLA h fl e1 e2 pd sg cI k1 k2 .null n (pk 256 num n) (pk 8 plc q) q (pk 64 (fun k => 8 * sig (2 * k) + sig (2 * k + 1)) c) c na Na Ra qa Sa ca nb Nb Rb qb Sb cb w rb sb pad mo ma mb mc md me mf mg mh mi mj mk ml mn cZ n q c w q ev num plc sig pad (cpy plc row 7) dig far cfr cby que has img kep) [0, 1, 2, 3, 4, 5, 6, 7, 8, 9, 10, 11, 12, 13, 14, 15, 16, 17, 18, 19] rfl
  have hD := hD.sub (ws' := wLA h fl e1 e2 pd sg cI k1 k2 .null n (pk 256 num n) (pk 8 plc q) q (pk 64 (fun k => 8 * sig (2 * k) + sig (2 * k + 1)) c) c na Na Ra qa Sa ca nb Nb Rb qb Sb cb w rb sb pad mo ma mb mc md me mf mg mh mi mj mk ml mn cZ n q c w q ev num plc sig pad (cpy plc row 7) dig far cfr cby que has img kep) [0, 1, 2, 3, 4, 5, 6, 7, 8, 9, 10, 11, 12, 13, 14, 15, 16, 17, 18, 19] (by decide) rfl
  have hK := va_K.moved (Vm.Alike.refl Gs.vm) hK
  generalize H1 = H at hP hS ⊢
  have hr386 := hw
  subst hr386
  refine lv_icmp_eq (tgt := 774) gx gb dL_law_389 (by decide) (fun c389 => ?_) (fun c389 => ?_)
  · skip
    have hNext := hI
    refine lv_iinc (v := nI (i + 4)) (lv' := [(3, .int (nI (i + 4))), (0, .ref b), (1, .ref h), (2, .ref mo)]) gx gb dL_law_774 hl (k := 3) rfl (nI_add i 4) (by decide) rfl (fun ls hl => ?_)
    refine lv_goto (tgt := 18) gx gb dL_law_777 (by decide) ?_
    exact kk n q c w n q c (pk 256 num n) (pk 8 plc q) (pk 64 (fun k => 8 * sig (2 * k) + sig (2 * k + 1)) c) k1 k2 na Na Ra qa Sa ca nb Nb Rb qb Sb cb rb sb q ev num plc sig pad (cpy plc row 7) dig cfr cby que has img kep far hNext H locs hP hD hS ls (lv_sub hl [1, 2, 3, 0] rfl)
  · skip
    exact absurd rfl c389

set_option maxHeartbeats 4000000 in
set_option maxRecDepth 100000 in
theorem lA_plan_n {Gp : Program} {Gl : Launch} {Ge : Env} {Gs : State} {Gm : MethodId} {Gw : List Frame} {Gt : Method} {Gc : Code} {b L : Nat} {xs : Nat → Int32} (hL : L ≤ 256) (C0 : lw_At Gp Gs Gm Gt Gc b L xs) (D : va_G) (cI cJ cZ : ClassId) (A : Nat → Prop) (hA : ∀ q : Nat, Gs.heap.size ≤ q → A q) (hbA : ¬ A b) (hK : va_K D vwCl [(cI, .int), (cJ, .long), (cZ, .boolean)] Gs) (h fl e1 e2 pd sg mo ma mb mc md me mf mg mh mi mj mk ml mn : Nat) (i : Nat) (hi : i + 4 ≤ L) (kk : lwHA Gp Gl Ge Gs Gm Gw Gt Gc b D cI cJ cZ A h fl e1 e2 pd sg mo ma mb mc md me mf mg mh mi mj mk ml mn (i + 4)) (hno : ¬ (0 ≤ sX xs (i + 1) ∧ sX xs (i + 1) < 7)) (n q c w nX qX cX N R S k1 k2 na Na Ra qa Sa ca nb Nb Rb qb Sb cb rb sb z ev : Nat) (num plc sig pad row dig cfr cby que has img kep : Nat → Nat) (far : Nat → Int32) (hI : lwI num plc sig pad img kep n q c w nX qX cX N R S k1 k2 na Na Ra qa Sa ca nb Nb Rb qb Sb cb) (H : Heap) (locs : List Loc) (hP : va_P D vwCl (wLA h fl e1 e2 pd sg cI k1 k2 .null nX N R qX S cX na Na Ra qa Sa ca nb Nb Rb qb Sb cb w rb sb pad mo ma mb mc md me mf mg mh mi mj mk ml mn cZ n q c w z ev num plc sig pad row dig far cfr cby que has img kep) H) (hD : va_D A (wLA h fl e1 e2 pd sg cI k1 k2 .null nX N R qX S cX na Na Ra qa Sa ca nb Nb Rb qb Sb cb w rb sb pad mo ma mb mc md me mf mg mh mi mj mk ml mn cZ n q c w z ev num plc sig pad row dig far cfr cby que has img kep)) (hS : va_S A Gs.heap H locs) (ls : Array Slot) (hl : lv_has ls 4 [(0, .ref b), (1, .ref h), (2, .ref mo), (3, .int (nI i))]) : W Gp Gl Ge room_1 Gs Gm #[Value.ref b] Gw Gt Gc H locs 20 20499 (lw_Z Gw #[Value.ref b] Gs) (F0 Gm 394 ls []) := by
  obtain ⟨gx, gb, gr, gml, gown0, gts0, hX, hbl, glk, hgv⟩ := id C0
  have gts : ∀ w ∈ wsL_law, w.before #[Value.ref b] Gs = true := fun w h => gts0 w (wsL_law_in w h)
  have gown : Gs.vm.findClass RL = some Gm.cls := gown0
  have hb1 := sX_bd xs (i + 1)
  have hb2 := sX_bd xs (i + 2)
  have hb3 := sX_bd xs (i + 3)
  obtain ⟨⟨⟨hF, hN, hR, hSS⟩, hnX, hqX, hcX⟩, -⟩ := id hI
  subst hN hR hSS hnX hqX hcX
  obtain ⟨-, ⟨hw60, hgp⟩, ⟨hke1, hke2, hk1, hk2⟩, -, -⟩ := id hI
  obtain ⟨hn1, hn7, hq1, hqn, hp, hinj, hnum, hc6, hsg⟩ := id hF
  have hpl6 : ∀ x, x < q → plc x ≤ 6 := fun x hx => by have := hp x hx; omega
  have hnv : ∀ x, x < q → num (plc x) ≤ 99 := fun x hx => hnum _ (hp x hx)
  have hkep : ∀ j, j < 2 → kep j ≤ 1 := fun j hj => by rcases (show j = 0 ∨ j = 1 by omega) with rfl | rfl <;> omega
  have hP : va_P D vwCl (wLA h fl e1 e2 pd sg cI k1 k2 .null n (pk 256 num n) (pk 8 plc q) q (pk 64 (fun k => 8 * sig (2 * k) + sig (2 * k + 1)) c) c na Na Ra qa Sa ca nb Nb Rb qb Sb cb w rb sb pad mo ma mb mc md me mf mg mh mi mj mk ml mn cZ n q c w z ev num plc sig pad row dig far cfr cby que has img kep) H := hP
  have hD : va_D A (wLA h fl e1 e2 pd sg cI k1 k2 .null n (pk 256 num n) (pk 8 plc q) q (pk 64 (fun k => 8 * sig (2 * k) + sig (2 * k + 1)) c) c na Na Ra qa Sa ca nb Nb Rb qb Sb cb w rb sb pad mo ma mb mc md me mf mg mh mi mj mk ml mn cZ n q c w z ev num plc sig pad row dig far cfr cby que has img kep) := hD
  have hl : lv_has ls 4 [(0, .ref b), (1, .ref h), (2, .ref mo), (3, .int (nI i))] := hl
  refine lv_aload_n gx gb dL_law_394 rfl (lv_at hl 1 rfl) ?_
  refine lv_aload_n gx gb dL_law_395 rfl (lv_at hl 0 rfl) ?_
  refine lv_iload_n gx gb dL_law_396 rfl (lv_at hl 3 rfl) ?_
  refine lv_iconst (v := nI 1) gx gb dL_law_397 (by decide) ?_
  refine lv_iadd gx gb dL_law_398 ?_
  refine lv_evi (nI (i + 1)) (nI_add i 1) ?_
  refine va_sld gx gb hX hbl hbA hS (vp_in_nI (n := i + 1) (by omega) (by omega)) dL_law_399 ?_
  refine lv_evi (zI (sX xs (i + 1))) (sX_rd xs (by omega)) ?_
  refine lv_aload_n gx gb dL_law_400 rfl (lv_at hl 0 rfl) ?_
  refine lv_iload_n gx gb dL_law_401 rfl (lv_at hl 3 rfl) ?_
  refine lv_iconst (v := nI 2) gx gb dL_law_402 (by decide) ?_
  refine lv_iadd gx gb dL_law_403 ?_
  refine lv_evi (nI (i + 2)) (nI_add i 2) ?_
  refine va_sld gx gb hX hbl hbA hS (vp_in_nI (n := i + 2) (by omega) (by omega)) dL_law_404 ?_
  refine lv_evi (zI (sX xs (i + 2))) (sX_rd xs (by omega)) ?_
  have hPc := hP.sub (ws' := wX h fl e1 e2 pd sg cI k1 k2 .null n (pk 256 num n) (pk 8 plc q) q (pk 64 (fun k => 8 * sig (2 * k) + sig (2 * k + 1)) c) c na Na Ra qa Sa ca nb Nb Rb qb Sb cb w rb sb pad) [0, 1, 2, 3, 4, 5] rfl
  refine vp_callSi (W.runV (As := [.int (zI (sX xs (i + 1))), .int (zI (sX xs (i + 2)))]) (rest := []) ⟨gx, gb, gml, gown, gts⟩ (kX8_plan_n Gl D cI cJ cZ h fl e1 e2 pd sg k1 k2 .null n q (pk 64 (fun k => 8 * sig (2 * k) + sig (2 * k + 1)) c) c na Na Ra qa Sa ca nb Nb Rb qb Sb cb w rb sb pad num plc (sX xs (i + 1)) (sX xs (i + 2)) (by omega) (by omega) (by omega) (by omega) (by omega) (by omega) (by omega) (by omega) (by exact hp) (by exact hnum) (by exact hinj) (by exact hno)) (cwV 2 gts gL_law_X8_plan rfl rfl rfl (by decide +kernel) ⟨Nat.le_of_ble_eq_true rfl, Nat.le_of_ble_eq_true rfl⟩) ⟨fun a U g mk q => ⟨q.1, q.2.1, va_K.moved (u := U) (U := U.calling g mk a) (Vm.Alike.refl U.vm) q.2.2⟩, va_recv hK hPc (ci := 3) (q0 := 0) rfl rfl, fun U hU hW => ⟨rfl, by rw [hU]; exact hPc, va_K.moved hW.alike hK⟩⟩ rfl rfl hl.1 rfl (lv_room (Nat.le_of_ble_eq_true rfl)) dL_law_405 ⟨Nat.le_of_ble_eq_true rfl, Nat.le_of_ble_eq_true rfl⟩) (fun r hw => ?_)
  have hr405 := hw
  subst hr405
  refine lv_aload_n gx gb dL_law_408 rfl (lv_at hl 2 rfl) ?_
  refine lv_aload_n gx gb dL_law_409 rfl (lv_at hl 0 rfl) ?_
  refine lv_iload_n gx gb dL_law_410 rfl (lv_at hl 3 rfl) ?_
  refine lv_iconst (v := nI 1) gx gb dL_law_411 (by decide) ?_
  refine lv_iadd gx gb dL_law_412 ?_
  refine lv_evi (nI (i + 1)) (nI_add i 1) ?_
  refine va_sld gx gb hX hbl hbA hS (vp_in_nI (n := i + 1) (by omega) (by omega)) dL_law_413 ?_
  refine lv_evi (zI (sX xs (i + 1))) (sX_rd xs (by omega)) ?_
  refine lv_aload_n gx gb dL_law_414 rfl (lv_at hl 0 rfl) ?_
  refine lv_iload_n gx gb dL_law_415 rfl (lv_at hl 3 rfl) ?_
  refine lv_iconst (v := nI 2) gx gb dL_law_416 (by decide) ?_
  refine lv_iadd gx gb dL_law_417 ?_
  refine lv_evi (nI (i + 2)) (nI_add i 2) ?_
  refine va_sld gx gb hX hbl hbA hS (vp_in_nI (n := i + 2) (by omega) (by omega)) dL_law_418 ?_
  refine lv_evi (zI (sX xs (i + 2))) (sX_rd xs (by omega)) ?_
  have hPc := hP.sub (ws' := wM mo ma mb mc md me mf mg mh mi mj mk ml mn cI cZ n q c w z ev num plc sig pad row dig far cfr cby que has img kep) [6, 7, 8, 9, 10, 11, 12, 13, 14, 15, 16, 17, 18, 19] rfl
  have hDc := hD.sub (ws' := wM mo ma mb mc md me mf mg mh mi mj mk ml mn cI cZ n q c w z ev num plc sig pad row dig far cfr cby que has img kep) [6, 7, 8, 9, 10, 11, 12, 13, 14, 15, 16, 17, 18, 19] (by decide) rfl
  have hFc := va_free (wc := wM mo ma mb mc md me mf mg mh mi mj mk ml mn cI cZ n q c w z ev num plc sig pad row dig far cfr cby que has img kep) hD hS hA [6, 7, 8, 9, 10, 11, 12, 13, 14, 15, 16, 17, 18, 19] rfl
  refine va_calli (va_runV (As := [.int (zI (sX xs (i + 1))), .int (zI (sX xs (i + 2)))]) (rest := [.int (zI (plnZ num plc q (sX xs (i + 1)) (sX xs (i + 2))))]) ⟨gx, gb, gml, gown, gts⟩ (kX9_plan Gl D cI cJ cZ mo ma mb mc md me mf mg mh mi mj mk ml mn n q c w z ev num plc sig pad row dig far cfr cby que has img kep _ (sX xs (i + 1)) (sX xs (i + 2)) (by omega) (by omega) (by omega) (by omega) (by omega) (by omega) (by exact hpl6) (by exact hinj) (by exact hnv)) (cwV 2 gts gL_law_X9_plan rfl rfl rfl (by decide +kernel) ⟨Nat.le_of_ble_eq_true rfl, Nat.le_of_ble_eq_true rfl⟩) ⟨fun a U g mk q => by obtain ⟨q0, q1, qP, qK, qD⟩ := q; exact ⟨q0, q1, qP, va_K.moved (u := U) (U := U.calling g mk a) (Vm.Alike.refl U.vm) qK, qD⟩, va_recv hK hPc (ci := 4) (q0 := 0) rfl rfl, fun U hU hW => ⟨rfl, by rw [hU], by rw [hU]; exact hPc, va_K.moved hW.alike hK, hDc.weaken (fun _ _ _ _ => trivial)⟩⟩ rfl rfl hl.1 rfl (lv_room (Nat.le_of_ble_eq_true rfl)) dL_law_419 ⟨Nat.le_of_ble_eq_true rfl, Nat.le_of_ble_eq_true rfl⟩) hS (fun q _ h => hFc q h) hFc (fun r u t H1 locs ht hvm hw hB hz1 hk1 hS => ?_)
  obtain ⟨fa_419, qu_419, cf_419, cb_419, row_419, dig_419, z_419⟩ := u
  obtain ⟨hP1, hK1, hD1⟩ := hB
  rw [ht] at hP1
  try dsimp only at hw
  try dsimp only at hP1
  try dsimp only at hD1
  have hK := va_K.moved hvm.symm hK1
  obtain ⟨hP, hD⟩ := va_join (wr := [(h, .inr (3, [.ref fl, .ref e1, .ref e2, .int (nI k1), .int (nI k2), .ref pd, .null])), (fl, .inr (0, [.int (nI n), .long (lN (pk 256 num n)), .int (nI (pk 8 plc q)), .int (nI q), .long (lN (pk 64 (fun k => 8 * sig (2 * k) + sig (2 * k + 1)) c)), .int (nI c)])), (e1, .inr (0, [.int (nI na), .long (lN Na), .int (nI Ra), .int (nI qa), .long (lN Sa), .int (nI ca)])), (e2, .inr (0, [.int (nI nb), .long (lN Nb), .int (nI Rb), .int (nI qb), .long (lN Sb), .int (nI cb)])), (pd, .inr (1, [.ref sg, .int (nI w), .int (nI rb), .int (nI sb)])), (sg, .inl (cI, 60, .inl (aN pad)))]) (w1 := wM mo ma mb mc md me mf mg mh mi mj mk ml mn cI cZ n q c w z_419 ev num plc sig pad row_419 dig_419 fa_419 cf_419 cb_419 qu_419 has img kep) hP hD [6, 7, 8, 9, 10, 11, 12, 13, 14, 15, 16, 17, 18, 19] [0, 1, 2, 3, 4, 5] rfl rfl (by decide) (by decide) hk1 hFc hP1 hD1
  have hP := hP.sub (ws' := wLA h fl e1 e2 pd sg cI k1 k2 .null n (pk 256 num n) (pk 8 plc q) q (pk 64 (fun k => 8 * sig (2 * k) + sig (2 * k + 1)) c) c na Na Ra qa Sa ca nb Nb Rb qb Sb cb w rb sb pad mo ma mb mc md me mf mg mh mi mj mk ml mn cZ n q c w z_419 ev num plc sig pad row_419 dig_419 fa_419 cf_419 cb_419 qu_419 has img kep) [0, 1, 2, 3, 4, 5, 6, 7, 8, 9, 10, 11, 12, 13, 14, 15, 16, 17, 18, 19] rfl
  have hD := hD.sub (ws' := wLA h fl e1 e2 pd sg cI k1 k2 .null n (pk 256 num n) (pk 8 plc q) q (pk 64 (fun k => 8 * sig (2 * k) + sig (2 * k + 1)) c) c na Na Ra qa Sa ca nb Nb Rb qb Sb cb w rb sb pad mo ma mb mc md me mf mg mh mi mj mk ml mn cZ n q c w z_419 ev num plc sig pad row_419 dig_419 fa_419 cf_419 cb_419 qu_419 has img kep) [0, 1, 2, 3, 4, 5, 6, 7, 8, 9, 10, 11, 12, 13, 14, 15, 16, 17, 18, 19] (by decide) rfl
  have hK := va_K.moved (Vm.Alike.refl Gs.vm) hK
  generalize H1 = H at hP hS ⊢
  have hr419 := hw
  subst hr419
  refine lv_icmp_eq (tgt := 774) gx gb dL_law_422 (by decide) (fun c422 => ?_) (fun c422 => ?_)
  · skip
    have hNext := hI
    refine lv_iinc (v := nI (i + 4)) (lv' := [(3, .int (nI (i + 4))), (0, .ref b), (1, .ref h), (2, .ref mo)]) gx gb dL_law_774 hl (k := 3) rfl (nI_add i 4) (by decide) rfl (fun ls hl => ?_)
    refine lv_goto (tgt := 18) gx gb dL_law_777 (by decide) ?_
    exact kk n q c w n q c (pk 256 num n) (pk 8 plc q) (pk 64 (fun k => 8 * sig (2 * k) + sig (2 * k + 1)) c) k1 k2 na Na Ra qa Sa ca nb Nb Rb qb Sb cb rb sb z_419 ev num plc sig pad row_419 dig_419 cf_419 cb_419 qu_419 has img kep fa_419 hNext H locs hP hD hS ls (lv_sub hl [1, 2, 3, 0] rfl)
  · skip
    exact absurd rfl c422

set_option maxHeartbeats 4000000 in
set_option maxRecDepth 100000 in
theorem lA_plan_y {Gp : Program} {Gl : Launch} {Ge : Env} {Gs : State} {Gm : MethodId} {Gw : List Frame} {Gt : Method} {Gc : Code} {b L : Nat} {xs : Nat → Int32} (hL : L ≤ 256) (C0 : lw_At Gp Gs Gm Gt Gc b L xs) (D : va_G) (cI cJ cZ : ClassId) (A : Nat → Prop) (hA : ∀ q : Nat, Gs.heap.size ≤ q → A q) (hbA : ¬ A b) (hK : va_K D vwCl [(cI, .int), (cJ, .long), (cZ, .boolean)] Gs) (h fl e1 e2 pd sg mo ma mb mc md me mf mg mh mi mj mk ml mn : Nat) (i : Nat) (hi : i + 4 ≤ L) (kkB : ∀ rt r0 r1 r4 r5 : Nat, lwHB Gp Gl Ge Gs Gm Gw Gt Gc b D cI cJ cZ A h fl e1 e2 pd sg mo ma mb mc md me mf mg mh mi mj mk ml mn rt r0 r1 r4 r5 (i + 4)) (hyes : 0 ≤ sX xs (i + 1) ∧ sX xs (i + 1) < 7) (n q c w nX qX cX N R S k1 k2 na Na Ra qa Sa ca nb Nb Rb qb Sb cb rb sb z ev : Nat) (num plc sig pad row dig cfr cby que has img kep : Nat → Nat) (far : Nat → Int32) (hI : lwI num plc sig pad img kep n q c w nX qX cX N R S k1 k2 na Na Ra qa Sa ca nb Nb Rb qb Sb cb) (H : Heap) (locs : List Loc) (hP : va_P D vwCl (wLA h fl e1 e2 pd sg cI k1 k2 .null nX N R qX S cX na Na Ra qa Sa ca nb Nb Rb qb Sb cb w rb sb pad mo ma mb mc md me mf mg mh mi mj mk ml mn cZ n q c w z ev num plc sig pad row dig far cfr cby que has img kep) H) (hD : va_D A (wLA h fl e1 e2 pd sg cI k1 k2 .null nX N R qX S cX na Na Ra qa Sa ca nb Nb Rb qb Sb cb w rb sb pad mo ma mb mc md me mf mg mh mi mj mk ml mn cZ n q c w z ev num plc sig pad row dig far cfr cby que has img kep)) (hS : va_S A Gs.heap H locs) (ls : Array Slot) (hl : lv_has ls 4 [(0, .ref b), (1, .ref h), (2, .ref mo), (3, .int (nI i))]) : W Gp Gl Ge room_1 Gs Gm #[Value.ref b] Gw Gt Gc H locs 20 20499 (lw_Z Gw #[Value.ref b] Gs) (F0 Gm 394 ls []) := by
  obtain ⟨gx, gb, gr, gml, gown0, gts0, hX, hbl, glk, hgv⟩ := id C0
  have gts : ∀ w ∈ wsL_law, w.before #[Value.ref b] Gs = true := fun w h => gts0 w (wsL_law_in w h)
  have gown : Gs.vm.findClass RL = some Gm.cls := gown0
  have hb1 := sX_bd xs (i + 1)
  have hb2 := sX_bd xs (i + 2)
  have hb3 := sX_bd xs (i + 3)
  obtain ⟨⟨⟨hF, hN, hR, hSS⟩, hnX, hqX, hcX⟩, -⟩ := id hI
  subst hN hR hSS hnX hqX hcX
  obtain ⟨-, ⟨hw60, hgp⟩, ⟨hke1, hke2, hk1, hk2⟩, -, -⟩ := id hI
  obtain ⟨hn1, hn7, hq1, hqn, hp, hinj, hnum, hc6, hsg⟩ := id hF
  have hpl6 : ∀ x, x < q → plc x ≤ 6 := fun x hx => by have := hp x hx; omega
  have hnv : ∀ x, x < q → num (plc x) ≤ 99 := fun x hx => hnum _ (hp x hx)
  have hkep : ∀ j, j < 2 → kep j ≤ 1 := fun j hj => by rcases (show j = 0 ∨ j = 1 by omega) with rfl | rfl <;> omega
  have hNw215 := va_Nw.of rfl (gts0 _ in_n215)
  have hP : va_P D vwCl (wLA h fl e1 e2 pd sg cI k1 k2 .null n (pk 256 num n) (pk 8 plc q) q (pk 64 (fun k => 8 * sig (2 * k) + sig (2 * k + 1)) c) c na Na Ra qa Sa ca nb Nb Rb qb Sb cb w rb sb pad mo ma mb mc md me mf mg mh mi mj mk ml mn cZ n q c w z ev num plc sig pad row dig far cfr cby que has img kep) H := hP
  have hD : va_D A (wLA h fl e1 e2 pd sg cI k1 k2 .null n (pk 256 num n) (pk 8 plc q) q (pk 64 (fun k => 8 * sig (2 * k) + sig (2 * k + 1)) c) c na Na Ra qa Sa ca nb Nb Rb qb Sb cb w rb sb pad mo ma mb mc md me mf mg mh mi mj mk ml mn cZ n q c w z ev num plc sig pad row dig far cfr cby que has img kep) := hD
  have hl : lv_has ls 4 [(0, .ref b), (1, .ref h), (2, .ref mo), (3, .int (nI i))] := hl
  refine lv_aload_n gx gb dL_law_394 rfl (lv_at hl 1 rfl) ?_
  refine lv_aload_n gx gb dL_law_395 rfl (lv_at hl 0 rfl) ?_
  refine lv_iload_n gx gb dL_law_396 rfl (lv_at hl 3 rfl) ?_
  refine lv_iconst (v := nI 1) gx gb dL_law_397 (by decide) ?_
  refine lv_iadd gx gb dL_law_398 ?_
  refine lv_evi (nI (i + 1)) (nI_add i 1) ?_
  refine va_sld gx gb hX hbl hbA hS (vp_in_nI (n := i + 1) (by omega) (by omega)) dL_law_399 ?_
  refine lv_evi (zI (sX xs (i + 1))) (sX_rd xs (by omega)) ?_
  refine lv_aload_n gx gb dL_law_400 rfl (lv_at hl 0 rfl) ?_
  refine lv_iload_n gx gb dL_law_401 rfl (lv_at hl 3 rfl) ?_
  refine lv_iconst (v := nI 2) gx gb dL_law_402 (by decide) ?_
  refine lv_iadd gx gb dL_law_403 ?_
  refine lv_evi (nI (i + 2)) (nI_add i 2) ?_
  refine va_sld gx gb hX hbl hbA hS (vp_in_nI (n := i + 2) (by omega) (by omega)) dL_law_404 ?_
  refine lv_evi (zI (sX xs (i + 2))) (sX_rd xs (by omega)) ?_
  have hPc := hP.sub (ws' := wX h fl e1 e2 pd sg cI k1 k2 .null n (pk 256 num n) (pk 8 plc q) q (pk 64 (fun k => 8 * sig (2 * k) + sig (2 * k + 1)) c) c na Na Ra qa Sa ca nb Nb Rb qb Sb cb w rb sb pad) [0, 1, 2, 3, 4, 5] rfl
  have hDc := hD.sub (ws' := wX h fl e1 e2 pd sg cI k1 k2 .null n (pk 256 num n) (pk 8 plc q) q (pk 64 (fun k => 8 * sig (2 * k) + sig (2 * k + 1)) c) c na Na Ra qa Sa ca nb Nb Rb qb Sb cb w rb sb pad) [0, 1, 2, 3, 4, 5] (by decide) rfl
  have hFc := va_free (wc := wX h fl e1 e2 pd sg cI k1 k2 .null n (pk 256 num n) (pk 8 plc q) q (pk 64 (fun k => 8 * sig (2 * k) + sig (2 * k + 1)) c) c na Na Ra qa Sa ca nb Nb Rb qb Sb cb w rb sb pad) hD hS hA [0, 1, 2, 3, 4, 5] rfl
  refine va_calli (va_runV (As := [.int (zI (sX xs (i + 1))), .int (zI (sX xs (i + 2)))]) (rest := []) ⟨gx, gb, gml, gown, gts⟩ (kX8_plan_0 Gl D cI cJ cZ h fl e1 e2 pd sg k1 k2 n q (pk 64 (fun k => 8 * sig (2 * k) + sig (2 * k + 1)) c) c na Na Ra qa Sa ca nb Nb Rb qb Sb cb w rb sb pad _ num plc (sX xs (i + 1)) (sX xs (i + 2)) (by omega) (by omega) (by omega) (by omega) (by omega) (by omega) (by omega) (by omega) (by exact hp) (by exact hnum) (by exact hinj) (by exact hyes)) (cwV 2 gts gL_law_X8_plan rfl rfl rfl (by decide +kernel) ⟨Nat.le_of_ble_eq_true rfl, Nat.le_of_ble_eq_true rfl⟩) ⟨fun a U g mk q => by obtain ⟨q0, q1, qP, qK, qD, qN215⟩ := q; exact ⟨q0, q1, qP, va_K.moved (u := U) (U := U.calling g mk a) (Vm.Alike.refl U.vm) qK, qD, va_Nw.same rfl rfl qN215⟩, va_recv hK hPc (ci := 3) (q0 := 0) rfl rfl, fun U hU hW => ⟨rfl, by rw [hU], by rw [hU]; exact hPc, va_K.moved hW.alike hK, hDc.weaken (fun _ _ _ _ => trivial), va_Nw.warmM hW hNw215⟩⟩ rfl rfl hl.1 rfl (lv_room (Nat.le_of_ble_eq_true rfl)) dL_law_405 ⟨Nat.le_of_ble_eq_true rfl, Nat.le_of_ble_eq_true rfl⟩) hS (fun q _ h => hFc q h) hFc (fun r u t H1 locs ht hvm hw hB hz1 hk1 hS => ?_)
  obtain ⟨rt_405, r0_405, r1_405, r4_405, r5_405, tn_405, ts_405, rws_405, lks_405, mks_405⟩ := u
  obtain ⟨hP1, hK1, hD1⟩ := hB
  rw [ht] at hP1
  try dsimp only at hw
  try dsimp only at hP1
  try dsimp only at hD1
  have hK := va_K.moved hvm.symm hK1
  obtain ⟨hP, hD⟩ := va_join (wr := [(mo, .inr (4, [.int (nI n), .int (nI q), .ref ma, .ref mb, .int (nI c), .ref mc, .int (nI w), .ref md, .ref me, .int (nI z), .int (nI ev), .ref mf, .ref mg, .ref mh, .ref mi, .ref mj, .ref mk, .ref ml, .ref mn])), (ma, .inl (cI, 7, .inl (aN num))), (mb, .inl (cI, 7, .inl (aN plc))), (mc, .inl (cI, 12, .inl (aN sig))), (md, .inl (cI, 60, .inl (aN pad))), (me, .inl (cI, 8, .inl (aN row))), (mf, .inl (cI, 7, .inl (aN dig))), (mg, .inl (cI, 5040, .inl far)), (mh, .inl (cI, 5040, .inl (aN cfr))), (mi, .inl (cI, 5040, .inl (aN cby))), (mj, .inl (cI, 5040, .inl (aN que))), (mk, .inl (cI, 64, .inl (aN has))), (ml, .inl (cI, 64, .inl (aN img))), (mn, .inl (cZ, 2, .inl (aN kep)))]) (w1 := wY h fl e1 e2 pd sg cI k1 k2 (.ref rt_405) n (pk 256 num n) (pk 8 plc q) q (pk 64 (fun k => 8 * sig (2 * k) + sig (2 * k + 1)) c) c na Na Ra qa Sa ca nb Nb Rb qb Sb cb w rb sb pad rt_405 r0_405 r1_405 r4_405 r5_405 cJ tn_405 ts_405 0 rws_405 lks_405 mks_405 (fun _ => 0)) hP hD [0, 1, 2, 3, 4, 5] [6, 7, 8, 9, 10, 11, 12, 13, 14, 15, 16, 17, 18, 19] rfl rfl (by decide) (by decide) hk1 hFc hP1 hD1
  have hP := hP.sub (ws' := wLB h fl e1 e2 pd sg cI k1 k2 (.ref rt_405) n (pk 256 num n) (pk 8 plc q) q (pk 64 (fun k => 8 * sig (2 * k) + sig (2 * k + 1)) c) c na Na Ra qa Sa ca nb Nb Rb qb Sb cb w rb sb pad mo ma mb mc md me mf mg mh mi mj mk ml mn cZ n q c w z ev num plc sig pad row dig far cfr cby que has img kep rt_405 r0_405 r1_405 r4_405 r5_405 cJ tn_405 ts_405 0 rws_405 lks_405 mks_405 (fun _ => 0)) [14, 15, 16, 17, 18, 19, 0, 1, 2, 3, 4, 5, 6, 7, 8, 9, 10, 11, 12, 13, 20, 21, 22, 23, 24] rfl
  have hD := hD.sub (ws' := wLB h fl e1 e2 pd sg cI k1 k2 (.ref rt_405) n (pk 256 num n) (pk 8 plc q) q (pk 64 (fun k => 8 * sig (2 * k) + sig (2 * k + 1)) c) c na Na Ra qa Sa ca nb Nb Rb qb Sb cb w rb sb pad mo ma mb mc md me mf mg mh mi mj mk ml mn cZ n q c w z ev num plc sig pad row dig far cfr cby que has img kep rt_405 r0_405 r1_405 r4_405 r5_405 cJ tn_405 ts_405 0 rws_405 lks_405 mks_405 (fun _ => 0)) [14, 15, 16, 17, 18, 19, 0, 1, 2, 3, 4, 5, 6, 7, 8, 9, 10, 11, 12, 13, 20, 21, 22, 23, 24] (by decide) rfl
  have hK := va_K.moved (Vm.Alike.refl Gs.vm) hK
  generalize H1 = H at hP hS ⊢
  refine W.widen (k := 25) (n := 67130) (Nat.le_of_ble_eq_true rfl) (Nat.le_of_ble_eq_true rfl) ?_
  obtain ⟨hr405, hw⟩ := hw
  subst hr405
  have hT2 := hw
  refine lv_aload_n gx gb dL_law_408 rfl (lv_at hl 2 rfl) ?_
  refine lv_aload_n gx gb dL_law_409 rfl (lv_at hl 0 rfl) ?_
  refine lv_iload_n gx gb dL_law_410 rfl (lv_at hl 3 rfl) ?_
  refine lv_iconst (v := nI 1) gx gb dL_law_411 (by decide) ?_
  refine lv_iadd gx gb dL_law_412 ?_
  refine lv_evi (nI (i + 1)) (nI_add i 1) ?_
  refine va_sld gx gb hX hbl hbA hS (vp_in_nI (n := i + 1) (by omega) (by omega)) dL_law_413 ?_
  refine lv_evi (zI (sX xs (i + 1))) (sX_rd xs (by omega)) ?_
  refine lv_aload_n gx gb dL_law_414 rfl (lv_at hl 0 rfl) ?_
  refine lv_iload_n gx gb dL_law_415 rfl (lv_at hl 3 rfl) ?_
  refine lv_iconst (v := nI 2) gx gb dL_law_416 (by decide) ?_
  refine lv_iadd gx gb dL_law_417 ?_
  refine lv_evi (nI (i + 2)) (nI_add i 2) ?_
  refine va_sld gx gb hX hbl hbA hS (vp_in_nI (n := i + 2) (by omega) (by omega)) dL_law_418 ?_
  refine lv_evi (zI (sX xs (i + 2))) (sX_rd xs (by omega)) ?_
  have hPc := hP.sub (ws' := wM mo ma mb mc md me mf mg mh mi mj mk ml mn cI cZ n q c w z ev num plc sig pad row dig far cfr cby que has img kep) [6, 7, 8, 9, 10, 11, 12, 13, 14, 15, 16, 17, 18, 19] rfl
  have hDc := hD.sub (ws' := wM mo ma mb mc md me mf mg mh mi mj mk ml mn cI cZ n q c w z ev num plc sig pad row dig far cfr cby que has img kep) [6, 7, 8, 9, 10, 11, 12, 13, 14, 15, 16, 17, 18, 19] (by decide) rfl
  have hFc := va_free (wc := wM mo ma mb mc md me mf mg mh mi mj mk ml mn cI cZ n q c w z ev num plc sig pad row dig far cfr cby que has img kep) hD hS hA [6, 7, 8, 9, 10, 11, 12, 13, 14, 15, 16, 17, 18, 19] rfl
  refine va_calli (va_runV (As := [.int (zI (sX xs (i + 1))), .int (zI (sX xs (i + 2)))]) (rest := [.int (zI (plnZ num plc q (sX xs (i + 1)) (sX xs (i + 2))))]) ⟨gx, gb, gml, gown, gts⟩ (kX9_plan Gl D cI cJ cZ mo ma mb mc md me mf mg mh mi mj mk ml mn n q c w z ev num plc sig pad row dig far cfr cby que has img kep _ (sX xs (i + 1)) (sX xs (i + 2)) (by omega) (by omega) (by omega) (by omega) (by omega) (by omega) (by exact hpl6) (by exact hinj) (by exact hnv)) (cwV 2 gts gL_law_X9_plan rfl rfl rfl (by decide +kernel) ⟨Nat.le_of_ble_eq_true rfl, Nat.le_of_ble_eq_true rfl⟩) ⟨fun a U g mk q => by obtain ⟨q0, q1, qP, qK, qD⟩ := q; exact ⟨q0, q1, qP, va_K.moved (u := U) (U := U.calling g mk a) (Vm.Alike.refl U.vm) qK, qD⟩, va_recv hK hPc (ci := 4) (q0 := 0) rfl rfl, fun U hU hW => ⟨rfl, by rw [hU], by rw [hU]; exact hPc, va_K.moved hW.alike hK, hDc.weaken (fun _ _ _ _ => trivial)⟩⟩ rfl rfl hl.1 rfl (lv_room (Nat.le_of_ble_eq_true rfl)) dL_law_419 ⟨Nat.le_of_ble_eq_true rfl, Nat.le_of_ble_eq_true rfl⟩) hS (fun q _ h => hFc q h) hFc (fun r u t H1 locs ht hvm hw hB hz1 hk1 hS => ?_)
  obtain ⟨fa_419, qu_419, cf_419, cb_419, row_419, dig_419, z_419⟩ := u
  obtain ⟨hP1, hK1, hD1⟩ := hB
  rw [ht] at hP1
  try dsimp only at hw
  try dsimp only at hP1
  try dsimp only at hD1
  have hK := va_K.moved hvm.symm hK1
  obtain ⟨hP, hD⟩ := va_join (wr := [(h, .inr (3, [.ref fl, .ref e1, .ref e2, .int (nI k1), .int (nI k2), .ref pd, .ref rt_405])), (fl, .inr (0, [.int (nI n), .long (lN (pk 256 num n)), .int (nI (pk 8 plc q)), .int (nI q), .long (lN (pk 64 (fun k => 8 * sig (2 * k) + sig (2 * k + 1)) c)), .int (nI c)])), (e1, .inr (0, [.int (nI na), .long (lN Na), .int (nI Ra), .int (nI qa), .long (lN Sa), .int (nI ca)])), (e2, .inr (0, [.int (nI nb), .long (lN Nb), .int (nI Rb), .int (nI qb), .long (lN Sb), .int (nI cb)])), (pd, .inr (1, [.ref sg, .int (nI w), .int (nI rb), .int (nI sb)])), (sg, .inl (cI, 60, .inl (aN pad))), (rt_405, .inr (2, [.ref r0_405, .ref r1_405, .int (nI tn_405), .int (nI ts_405), .ref r4_405, .ref r5_405, .int (nI 0)])), (r0_405, .inl (cI, 5040, .inl (aN rws_405))), (r1_405, .inl (cI, 5040, .inl (aN lks_405))), (r4_405, .inl (cJ, 16384, .inr (.inl (aL mks_405)))), (r5_405, .inl (cI, 20160, .inl (aN (fun _ => 0))))]) (w1 := wM mo ma mb mc md me mf mg mh mi mj mk ml mn cI cZ n q c w z_419 ev num plc sig pad row_419 dig_419 fa_419 cf_419 cb_419 qu_419 has img kep) hP hD [6, 7, 8, 9, 10, 11, 12, 13, 14, 15, 16, 17, 18, 19] [0, 1, 2, 3, 4, 5, 20, 21, 22, 23, 24] rfl rfl (by decide) (by decide) hk1 hFc hP1 hD1
  have hP := hP.sub (ws' := wLB h fl e1 e2 pd sg cI k1 k2 (.ref rt_405) n (pk 256 num n) (pk 8 plc q) q (pk 64 (fun k => 8 * sig (2 * k) + sig (2 * k + 1)) c) c na Na Ra qa Sa ca nb Nb Rb qb Sb cb w rb sb pad mo ma mb mc md me mf mg mh mi mj mk ml mn cZ n q c w z_419 ev num plc sig pad row_419 dig_419 fa_419 cf_419 cb_419 qu_419 has img kep rt_405 r0_405 r1_405 r4_405 r5_405 cJ tn_405 ts_405 0 rws_405 lks_405 mks_405 (fun _ => 0)) [0, 1, 2, 3, 4, 5, 11, 12, 13, 14, 15, 16, 17, 18, 19, 20, 21, 22, 23, 24, 6, 7, 8, 9, 10] rfl
  have hD := hD.sub (ws' := wLB h fl e1 e2 pd sg cI k1 k2 (.ref rt_405) n (pk 256 num n) (pk 8 plc q) q (pk 64 (fun k => 8 * sig (2 * k) + sig (2 * k + 1)) c) c na Na Ra qa Sa ca nb Nb Rb qb Sb cb w rb sb pad mo ma mb mc md me mf mg mh mi mj mk ml mn cZ n q c w z_419 ev num plc sig pad row_419 dig_419 fa_419 cf_419 cb_419 qu_419 has img kep rt_405 r0_405 r1_405 r4_405 r5_405 cJ tn_405 ts_405 0 rws_405 lks_405 mks_405 (fun _ => 0)) [0, 1, 2, 3, 4, 5, 11, 12, 13, 14, 15, 16, 17, 18, 19, 20, 21, 22, 23, 24, 6, 7, 8, 9, 10] (by decide) rfl
  have hK := va_K.moved (Vm.Alike.refl Gs.vm) hK
  generalize H1 = H at hP hS ⊢
  have hr419 := hw
  subst hr419
  refine lv_icmp_eq (tgt := 774) gx gb dL_law_422 (by decide) (fun c422 => ?_) (fun c422 => ?_)
  · skip
    have hNext := hI
    refine lv_iinc (v := nI (i + 4)) (lv' := [(3, .int (nI (i + 4))), (0, .ref b), (1, .ref h), (2, .ref mo)]) gx gb dL_law_774 hl (k := 3) rfl (nI_add i 4) (by decide) rfl (fun ls hl => ?_)
    refine lv_goto (tgt := 18) gx gb dL_law_777 (by decide) ?_
    exact (kkB rt_405 r0_405 r1_405 r4_405 r5_405) n q c w n q c (pk 256 num n) (pk 8 plc q) (pk 64 (fun k => 8 * sig (2 * k) + sig (2 * k + 1)) c) k1 k2 na Na Ra qa Sa ca nb Nb Rb qb Sb cb rb sb z_419 ev num plc sig pad row_419 dig_419 cf_419 cb_419 qu_419 has img kep fa_419 tn_405 ts_405 0 rws_405 lks_405 mks_405 (fun _ => 0) hNext hT2 H locs hP hD hS ls (lv_sub hl [1, 2, 3, 0] rfl)
  · skip
    exact absurd rfl c422

set_option maxHeartbeats 4000000 in
set_option maxRecDepth 100000 in
theorem lA_week_n {Gp : Program} {Gl : Launch} {Ge : Env} {Gs : State} {Gm : MethodId} {Gw : List Frame} {Gt : Method} {Gc : Code} {b L : Nat} {xs : Nat → Int32} (hL : L ≤ 256) (C0 : lw_At Gp Gs Gm Gt Gc b L xs) (D : va_G) (cI cJ cZ : ClassId) (A : Nat → Prop) (hA : ∀ q : Nat, Gs.heap.size ≤ q → A q) (hbA : ¬ A b) (hK : va_K D vwCl [(cI, .int), (cJ, .long), (cZ, .boolean)] Gs) (h fl e1 e2 pd sg mo ma mb mc md me mf mg mh mi mj mk ml mn : Nat) (i : Nat) (hi : i + 4 ≤ L) (kk : lwHA Gp Gl Ge Gs Gm Gw Gt Gc b D cI cJ cZ A h fl e1 e2 pd sg mo ma mb mc md me mf mg mh mi mj mk ml mn (i + 4)) (hno : ¬ ((1 ≤ sX xs (i + 2) ∧ sX xs (i + 2) ≤ 4) ∧ (0 ≤ sX xs (i + 1) ∧ sX xs (i + 1) < ((10 ^ (sX xs (i + 2)).toNat : Nat) : Int)) ∧ (∀ k, k < (sX xs (i + 2)).toNat → dg 10 (sX xs (i + 1)).toNat k ≤ 6))) (n q c w nX qX cX N R S k1 k2 na Na Ra qa Sa ca nb Nb Rb qb Sb cb rb sb z ev : Nat) (num plc sig pad row dig cfr cby que has img kep : Nat → Nat) (far : Nat → Int32) (hI : lwI num plc sig pad img kep n q c w nX qX cX N R S k1 k2 na Na Ra qa Sa ca nb Nb Rb qb Sb cb) (H : Heap) (locs : List Loc) (hP : va_P D vwCl (wLA h fl e1 e2 pd sg cI k1 k2 .null nX N R qX S cX na Na Ra qa Sa ca nb Nb Rb qb Sb cb w rb sb pad mo ma mb mc md me mf mg mh mi mj mk ml mn cZ n q c w z ev num plc sig pad row dig far cfr cby que has img kep) H) (hD : va_D A (wLA h fl e1 e2 pd sg cI k1 k2 .null nX N R qX S cX na Na Ra qa Sa ca nb Nb Rb qb Sb cb w rb sb pad mo ma mb mc md me mf mg mh mi mj mk ml mn cZ n q c w z ev num plc sig pad row dig far cfr cby que has img kep)) (hS : va_S A Gs.heap H locs) (ls : Array Slot) (hl : lv_has ls 4 [(0, .ref b), (1, .ref h), (2, .ref mo), (3, .int (nI i))]) : W Gp Gl Ge room_1 Gs Gm #[Value.ref b] Gw Gt Gc H locs 20 20499 (lw_Z Gw #[Value.ref b] Gs) (F0 Gm 427 ls []) := by
  obtain ⟨gx, gb, gr, gml, gown0, gts0, hX, hbl, glk, hgv⟩ := id C0
  have gts : ∀ w ∈ wsL_law, w.before #[Value.ref b] Gs = true := fun w h => gts0 w (wsL_law_in w h)
  have gown : Gs.vm.findClass RL = some Gm.cls := gown0
  have hb1 := sX_bd xs (i + 1)
  have hb2 := sX_bd xs (i + 2)
  have hb3 := sX_bd xs (i + 3)
  obtain ⟨⟨⟨hF, hN, hR, hSS⟩, hnX, hqX, hcX⟩, -⟩ := id hI
  subst hN hR hSS hnX hqX hcX
  obtain ⟨-, ⟨hw60, hgp⟩, ⟨hke1, hke2, hk1, hk2⟩, -, -⟩ := id hI
  obtain ⟨hn1, hn7, hq1, hqn, hp, hinj, hnum, hc6, hsg⟩ := id hF
  have hpl6 : ∀ x, x < q → plc x ≤ 6 := fun x hx => by have := hp x hx; omega
  have hnv : ∀ x, x < q → num (plc x) ≤ 99 := fun x hx => hnum _ (hp x hx)
  have hkep : ∀ j, j < 2 → kep j ≤ 1 := fun j hj => by rcases (show j = 0 ∨ j = 1 by omega) with rfl | rfl <;> omega
  have hP : va_P D vwCl (wLA h fl e1 e2 pd sg cI k1 k2 .null n (pk 256 num n) (pk 8 plc q) q (pk 64 (fun k => 8 * sig (2 * k) + sig (2 * k + 1)) c) c na Na Ra qa Sa ca nb Nb Rb qb Sb cb w rb sb pad mo ma mb mc md me mf mg mh mi mj mk ml mn cZ n q c w z ev num plc sig pad row dig far cfr cby que has img kep) H := hP
  have hD : va_D A (wLA h fl e1 e2 pd sg cI k1 k2 .null n (pk 256 num n) (pk 8 plc q) q (pk 64 (fun k => 8 * sig (2 * k) + sig (2 * k + 1)) c) c na Na Ra qa Sa ca nb Nb Rb qb Sb cb w rb sb pad mo ma mb mc md me mf mg mh mi mj mk ml mn cZ n q c w z ev num plc sig pad row dig far cfr cby que has img kep) := hD
  have hl : lv_has ls 4 [(0, .ref b), (1, .ref h), (2, .ref mo), (3, .int (nI i))] := hl
  refine lv_aload_n gx gb dL_law_427 rfl (lv_at hl 1 rfl) ?_
  refine lv_aload_n gx gb dL_law_428 rfl (lv_at hl 0 rfl) ?_
  refine lv_iload_n gx gb dL_law_429 rfl (lv_at hl 3 rfl) ?_
  refine lv_iconst (v := nI 1) gx gb dL_law_430 (by decide) ?_
  refine lv_iadd gx gb dL_law_431 ?_
  refine lv_evi (nI (i + 1)) (nI_add i 1) ?_
  refine va_sld gx gb hX hbl hbA hS (vp_in_nI (n := i + 1) (by omega) (by omega)) dL_law_432 ?_
  refine lv_evi (zI (sX xs (i + 1))) (sX_rd xs (by omega)) ?_
  refine lv_aload_n gx gb dL_law_433 rfl (lv_at hl 0 rfl) ?_
  refine lv_iload_n gx gb dL_law_434 rfl (lv_at hl 3 rfl) ?_
  refine lv_iconst (v := nI 2) gx gb dL_law_435 (by decide) ?_
  refine lv_iadd gx gb dL_law_436 ?_
  refine lv_evi (nI (i + 2)) (nI_add i 2) ?_
  refine va_sld gx gb hX hbl hbA hS (vp_in_nI (n := i + 2) (by omega) (by omega)) dL_law_437 ?_
  refine lv_evi (zI (sX xs (i + 2))) (sX_rd xs (by omega)) ?_
  have hPc := hP.sub (ws' := wX h fl e1 e2 pd sg cI k1 k2 .null n (pk 256 num n) (pk 8 plc q) q (pk 64 (fun k => 8 * sig (2 * k) + sig (2 * k + 1)) c) c na Na Ra qa Sa ca nb Nb Rb qb Sb cb w rb sb pad) [0, 1, 2, 3, 4, 5] rfl
  refine vp_callSi (W.runV (As := [.int (zI (sX xs (i + 1))), .int (zI (sX xs (i + 2)))]) (rest := []) ⟨gx, gb, gml, gown, gts⟩ (kX8_week_n Gl D cI cJ cZ h fl e1 e2 pd sg k1 k2 .null n q (pk 64 (fun k => 8 * sig (2 * k) + sig (2 * k + 1)) c) c na Na Ra qa Sa ca nb Nb Rb qb Sb cb w rb sb pad num plc (sX xs (i + 1)) (sX xs (i + 2)) (by omega) (by omega) (by omega) (by omega) (by omega) (by omega) (by omega) (by omega) (by exact hp) (by exact hnum) (by exact hinj) (by exact hno)) (cwV 2 gts gL_law_X8_week rfl rfl rfl (by decide +kernel) ⟨Nat.le_of_ble_eq_true rfl, Nat.le_of_ble_eq_true rfl⟩) ⟨fun a U g mk q => ⟨q.1, q.2.1, va_K.moved (u := U) (U := U.calling g mk a) (Vm.Alike.refl U.vm) q.2.2⟩, va_recv hK hPc (ci := 3) (q0 := 0) rfl rfl, fun U hU hW => ⟨rfl, by rw [hU]; exact hPc, va_K.moved hW.alike hK⟩⟩ rfl rfl hl.1 rfl (lv_room (Nat.le_of_ble_eq_true rfl)) dL_law_438 ⟨Nat.le_of_ble_eq_true rfl, Nat.le_of_ble_eq_true rfl⟩) (fun r hw => ?_)
  obtain ⟨r438, rfl⟩ : ∃ z, z = r := ⟨_, rfl⟩
  obtain ⟨zx, rfl, hzx⟩ := hw
  refine lv_aload_n gx gb dL_law_441 rfl (lv_at hl 2 rfl) ?_
  refine lv_aload_n gx gb dL_law_442 rfl (lv_at hl 0 rfl) ?_
  refine lv_iload_n gx gb dL_law_443 rfl (lv_at hl 3 rfl) ?_
  refine lv_iconst (v := nI 1) gx gb dL_law_444 (by decide) ?_
  refine lv_iadd gx gb dL_law_445 ?_
  refine lv_evi (nI (i + 1)) (nI_add i 1) ?_
  refine va_sld gx gb hX hbl hbA hS (vp_in_nI (n := i + 1) (by omega) (by omega)) dL_law_446 ?_
  refine lv_evi (zI (sX xs (i + 1))) (sX_rd xs (by omega)) ?_
  refine lv_aload_n gx gb dL_law_447 rfl (lv_at hl 0 rfl) ?_
  refine lv_iload_n gx gb dL_law_448 rfl (lv_at hl 3 rfl) ?_
  refine lv_iconst (v := nI 2) gx gb dL_law_449 (by decide) ?_
  refine lv_iadd gx gb dL_law_450 ?_
  refine lv_evi (nI (i + 2)) (nI_add i 2) ?_
  refine va_sld gx gb hX hbl hbA hS (vp_in_nI (n := i + 2) (by omega) (by omega)) dL_law_451 ?_
  refine lv_evi (zI (sX xs (i + 2))) (sX_rd xs (by omega)) ?_
  have hPc := hP.sub (ws' := wM mo ma mb mc md me mf mg mh mi mj mk ml mn cI cZ n q c w z ev num plc sig pad row dig far cfr cby que has img kep) [6, 7, 8, 9, 10, 11, 12, 13, 14, 15, 16, 17, 18, 19] rfl
  have hDc := hD.sub (ws' := wM mo ma mb mc md me mf mg mh mi mj mk ml mn cI cZ n q c w z ev num plc sig pad row dig far cfr cby que has img kep) [6, 7, 8, 9, 10, 11, 12, 13, 14, 15, 16, 17, 18, 19] (by decide) rfl
  have hFc := va_free (wc := wM mo ma mb mc md me mf mg mh mi mj mk ml mn cI cZ n q c w z ev num plc sig pad row dig far cfr cby que has img kep) hD hS hA [6, 7, 8, 9, 10, 11, 12, 13, 14, 15, 16, 17, 18, 19] rfl
  refine va_calli (va_runV (As := [.int (zI (sX xs (i + 1))), .int (zI (sX xs (i + 2)))]) (rest := [.int (zI zx)]) ⟨gx, gb, gml, gown, gts⟩ (kX9_week Gl D cI cJ cZ mo ma mb mc md me mf mg mh mi mj mk ml mn n q c w z ev num plc sig pad row dig far cfr cby que has img kep _ (sX xs (i + 1)) (sX xs (i + 2)) (by omega) (by omega) (by omega) (by omega) (by omega) (by omega) (by exact hpl6) (by exact hinj) (by exact hnv)) (cwV 2 gts gL_law_X9_week rfl rfl rfl (by decide +kernel) ⟨Nat.le_of_ble_eq_true rfl, Nat.le_of_ble_eq_true rfl⟩) ⟨fun a U g mk q => by obtain ⟨q0, q1, qP, qK, qD⟩ := q; exact ⟨q0, q1, qP, va_K.moved (u := U) (U := U.calling g mk a) (Vm.Alike.refl U.vm) qK, qD⟩, va_recv hK hPc (ci := 4) (q0 := 0) rfl rfl, fun U hU hW => ⟨rfl, by rw [hU], by rw [hU]; exact hPc, va_K.moved hW.alike hK, hDc.weaken (fun _ _ _ _ => trivial)⟩⟩ rfl rfl hl.1 rfl (lv_room (Nat.le_of_ble_eq_true rfl)) dL_law_452 ⟨Nat.le_of_ble_eq_true rfl, Nat.le_of_ble_eq_true rfl⟩) hS (fun q _ h => hFc q h) hFc (fun r u t H1 locs ht hvm hw hB hz1 hk1 hS => ?_)
  obtain ⟨fa_452, row_452, dig_452, z_452⟩ := u
  obtain ⟨hP1, hK1, hD1⟩ := hB
  rw [ht] at hP1
  try dsimp only at hw
  try dsimp only at hP1
  try dsimp only at hD1
  have hK := va_K.moved hvm.symm hK1
  obtain ⟨hP, hD⟩ := va_join (wr := [(h, .inr (3, [.ref fl, .ref e1, .ref e2, .int (nI k1), .int (nI k2), .ref pd, .null])), (fl, .inr (0, [.int (nI n), .long (lN (pk 256 num n)), .int (nI (pk 8 plc q)), .int (nI q), .long (lN (pk 64 (fun k => 8 * sig (2 * k) + sig (2 * k + 1)) c)), .int (nI c)])), (e1, .inr (0, [.int (nI na), .long (lN Na), .int (nI Ra), .int (nI qa), .long (lN Sa), .int (nI ca)])), (e2, .inr (0, [.int (nI nb), .long (lN Nb), .int (nI Rb), .int (nI qb), .long (lN Sb), .int (nI cb)])), (pd, .inr (1, [.ref sg, .int (nI w), .int (nI rb), .int (nI sb)])), (sg, .inl (cI, 60, .inl (aN pad)))]) (w1 := wM mo ma mb mc md me mf mg mh mi mj mk ml mn cI cZ n q c w z_452 ev num plc sig pad row_452 dig_452 fa_452 cfr cby que has img kep) hP hD [6, 7, 8, 9, 10, 11, 12, 13, 14, 15, 16, 17, 18, 19] [0, 1, 2, 3, 4, 5] rfl rfl (by decide) (by decide) hk1 hFc hP1 hD1
  have hP := hP.sub (ws' := wLA h fl e1 e2 pd sg cI k1 k2 .null n (pk 256 num n) (pk 8 plc q) q (pk 64 (fun k => 8 * sig (2 * k) + sig (2 * k + 1)) c) c na Na Ra qa Sa ca nb Nb Rb qb Sb cb w rb sb pad mo ma mb mc md me mf mg mh mi mj mk ml mn cZ n q c w z_452 ev num plc sig pad row_452 dig_452 fa_452 cfr cby que has img kep) [0, 1, 2, 3, 4, 5, 6, 7, 8, 9, 10, 11, 12, 13, 14, 15, 16, 17, 18, 19] rfl
  have hD := hD.sub (ws' := wLA h fl e1 e2 pd sg cI k1 k2 .null n (pk 256 num n) (pk 8 plc q) q (pk 64 (fun k => 8 * sig (2 * k) + sig (2 * k + 1)) c) c na Na Ra qa Sa ca nb Nb Rb qb Sb cb w rb sb pad mo ma mb mc md me mf mg mh mi mj mk ml mn cZ n q c w z_452 ev num plc sig pad row_452 dig_452 fa_452 cfr cby que has img kep) [0, 1, 2, 3, 4, 5, 6, 7, 8, 9, 10, 11, 12, 13, 14, 15, 16, 17, 18, 19] (by decide) rfl
  have hK := va_K.moved (Vm.Alike.refl Gs.vm) hK
  generalize H1 = H at hP hS ⊢
  obtain ⟨r452, rfl⟩ : ∃ z, z = r := ⟨_, rfl⟩
  obtain ⟨zm, rfl, hzm⟩ := hw
  refine lv_icmp_eq (tgt := 774) gx gb dL_law_455 (by decide) (fun c455 => ?_) (fun c455 => ?_)
  · skip
    have hNext := hI
    refine lv_iinc (v := nI (i + 4)) (lv' := [(3, .int (nI (i + 4))), (0, .ref b), (1, .ref h), (2, .ref mo)]) gx gb dL_law_774 hl (k := 3) rfl (nI_add i 4) (by decide) rfl (fun ls hl => ?_)
    refine lv_goto (tgt := 18) gx gb dL_law_777 (by decide) ?_
    exact kk n q c w n q c (pk 256 num n) (pk 8 plc q) (pk 64 (fun k => 8 * sig (2 * k) + sig (2 * k + 1)) c) k1 k2 na Na Ra qa Sa ca nb Nb Rb qb Sb cb rb sb z_452 ev num plc sig pad row_452 dig_452 cfr cby que has img kep fa_452 hNext H locs hP hD hS ls (lv_sub hl [1, 2, 3, 0] rfl)
  · skip
    exact absurd (congrArg zI (wekR_one hq1 (by omega) (fun _ _ => rfl) hzx hzm)) c455

set_option maxHeartbeats 4000000 in
set_option maxRecDepth 100000 in
theorem lA_week_y {Gp : Program} {Gl : Launch} {Ge : Env} {Gs : State} {Gm : MethodId} {Gw : List Frame} {Gt : Method} {Gc : Code} {b L : Nat} {xs : Nat → Int32} (hL : L ≤ 256) (C0 : lw_At Gp Gs Gm Gt Gc b L xs) (D : va_G) (cI cJ cZ : ClassId) (A : Nat → Prop) (hA : ∀ q : Nat, Gs.heap.size ≤ q → A q) (hbA : ¬ A b) (hK : va_K D vwCl [(cI, .int), (cJ, .long), (cZ, .boolean)] Gs) (h fl e1 e2 pd sg mo ma mb mc md me mf mg mh mi mj mk ml mn : Nat) (i : Nat) (hi : i + 4 ≤ L) (kkB : ∀ rt r0 r1 r4 r5 : Nat, lwHB Gp Gl Ge Gs Gm Gw Gt Gc b D cI cJ cZ A h fl e1 e2 pd sg mo ma mb mc md me mf mg mh mi mj mk ml mn rt r0 r1 r4 r5 (i + 4)) (hyes : (1 ≤ sX xs (i + 2) ∧ sX xs (i + 2) ≤ 4) ∧ (0 ≤ sX xs (i + 1) ∧ sX xs (i + 1) < ((10 ^ (sX xs (i + 2)).toNat : Nat) : Int)) ∧ (∀ k, k < (sX xs (i + 2)).toNat → dg 10 (sX xs (i + 1)).toNat k ≤ 6)) (n q c w nX qX cX N R S k1 k2 na Na Ra qa Sa ca nb Nb Rb qb Sb cb rb sb z ev : Nat) (num plc sig pad row dig cfr cby que has img kep : Nat → Nat) (far : Nat → Int32) (hI : lwI num plc sig pad img kep n q c w nX qX cX N R S k1 k2 na Na Ra qa Sa ca nb Nb Rb qb Sb cb) (H : Heap) (locs : List Loc) (hP : va_P D vwCl (wLA h fl e1 e2 pd sg cI k1 k2 .null nX N R qX S cX na Na Ra qa Sa ca nb Nb Rb qb Sb cb w rb sb pad mo ma mb mc md me mf mg mh mi mj mk ml mn cZ n q c w z ev num plc sig pad row dig far cfr cby que has img kep) H) (hD : va_D A (wLA h fl e1 e2 pd sg cI k1 k2 .null nX N R qX S cX na Na Ra qa Sa ca nb Nb Rb qb Sb cb w rb sb pad mo ma mb mc md me mf mg mh mi mj mk ml mn cZ n q c w z ev num plc sig pad row dig far cfr cby que has img kep)) (hS : va_S A Gs.heap H locs) (ls : Array Slot) (hl : lv_has ls 4 [(0, .ref b), (1, .ref h), (2, .ref mo), (3, .int (nI i))]) : W Gp Gl Ge room_1 Gs Gm #[Value.ref b] Gw Gt Gc H locs 20 20499 (lw_Z Gw #[Value.ref b] Gs) (F0 Gm 427 ls []) := by
  obtain ⟨gx, gb, gr, gml, gown0, gts0, hX, hbl, glk, hgv⟩ := id C0
  have gts : ∀ w ∈ wsL_law, w.before #[Value.ref b] Gs = true := fun w h => gts0 w (wsL_law_in w h)
  have gown : Gs.vm.findClass RL = some Gm.cls := gown0
  have hb1 := sX_bd xs (i + 1)
  have hb2 := sX_bd xs (i + 2)
  have hb3 := sX_bd xs (i + 3)
  obtain ⟨⟨⟨hF, hN, hR, hSS⟩, hnX, hqX, hcX⟩, -⟩ := id hI
  subst hN hR hSS hnX hqX hcX
  obtain ⟨-, ⟨hw60, hgp⟩, ⟨hke1, hke2, hk1, hk2⟩, -, -⟩ := id hI
  obtain ⟨hn1, hn7, hq1, hqn, hp, hinj, hnum, hc6, hsg⟩ := id hF
  have hpl6 : ∀ x, x < q → plc x ≤ 6 := fun x hx => by have := hp x hx; omega
  have hnv : ∀ x, x < q → num (plc x) ≤ 99 := fun x hx => hnum _ (hp x hx)
  have hkep : ∀ j, j < 2 → kep j ≤ 1 := fun j hj => by rcases (show j = 0 ∨ j = 1 by omega) with rfl | rfl <;> omega
  have hNw215 := va_Nw.of rfl (gts0 _ in_n215)
  have hP : va_P D vwCl (wLA h fl e1 e2 pd sg cI k1 k2 .null n (pk 256 num n) (pk 8 plc q) q (pk 64 (fun k => 8 * sig (2 * k) + sig (2 * k + 1)) c) c na Na Ra qa Sa ca nb Nb Rb qb Sb cb w rb sb pad mo ma mb mc md me mf mg mh mi mj mk ml mn cZ n q c w z ev num plc sig pad row dig far cfr cby que has img kep) H := hP
  have hD : va_D A (wLA h fl e1 e2 pd sg cI k1 k2 .null n (pk 256 num n) (pk 8 plc q) q (pk 64 (fun k => 8 * sig (2 * k) + sig (2 * k + 1)) c) c na Na Ra qa Sa ca nb Nb Rb qb Sb cb w rb sb pad mo ma mb mc md me mf mg mh mi mj mk ml mn cZ n q c w z ev num plc sig pad row dig far cfr cby que has img kep) := hD
  have hl : lv_has ls 4 [(0, .ref b), (1, .ref h), (2, .ref mo), (3, .int (nI i))] := hl
  refine lv_aload_n gx gb dL_law_427 rfl (lv_at hl 1 rfl) ?_
  refine lv_aload_n gx gb dL_law_428 rfl (lv_at hl 0 rfl) ?_
  refine lv_iload_n gx gb dL_law_429 rfl (lv_at hl 3 rfl) ?_
  refine lv_iconst (v := nI 1) gx gb dL_law_430 (by decide) ?_
  refine lv_iadd gx gb dL_law_431 ?_
  refine lv_evi (nI (i + 1)) (nI_add i 1) ?_
  refine va_sld gx gb hX hbl hbA hS (vp_in_nI (n := i + 1) (by omega) (by omega)) dL_law_432 ?_
  refine lv_evi (zI (sX xs (i + 1))) (sX_rd xs (by omega)) ?_
  refine lv_aload_n gx gb dL_law_433 rfl (lv_at hl 0 rfl) ?_
  refine lv_iload_n gx gb dL_law_434 rfl (lv_at hl 3 rfl) ?_
  refine lv_iconst (v := nI 2) gx gb dL_law_435 (by decide) ?_
  refine lv_iadd gx gb dL_law_436 ?_
  refine lv_evi (nI (i + 2)) (nI_add i 2) ?_
  refine va_sld gx gb hX hbl hbA hS (vp_in_nI (n := i + 2) (by omega) (by omega)) dL_law_437 ?_
  refine lv_evi (zI (sX xs (i + 2))) (sX_rd xs (by omega)) ?_
  have hPc := hP.sub (ws' := wX h fl e1 e2 pd sg cI k1 k2 .null n (pk 256 num n) (pk 8 plc q) q (pk 64 (fun k => 8 * sig (2 * k) + sig (2 * k + 1)) c) c na Na Ra qa Sa ca nb Nb Rb qb Sb cb w rb sb pad) [0, 1, 2, 3, 4, 5] rfl
  have hDc := hD.sub (ws' := wX h fl e1 e2 pd sg cI k1 k2 .null n (pk 256 num n) (pk 8 plc q) q (pk 64 (fun k => 8 * sig (2 * k) + sig (2 * k + 1)) c) c na Na Ra qa Sa ca nb Nb Rb qb Sb cb w rb sb pad) [0, 1, 2, 3, 4, 5] (by decide) rfl
  have hFc := va_free (wc := wX h fl e1 e2 pd sg cI k1 k2 .null n (pk 256 num n) (pk 8 plc q) q (pk 64 (fun k => 8 * sig (2 * k) + sig (2 * k + 1)) c) c na Na Ra qa Sa ca nb Nb Rb qb Sb cb w rb sb pad) hD hS hA [0, 1, 2, 3, 4, 5] rfl
  refine va_calli (va_runV (As := [.int (zI (sX xs (i + 1))), .int (zI (sX xs (i + 2)))]) (rest := []) ⟨gx, gb, gml, gown, gts⟩ (kX8_week_0 Gl D cI cJ cZ h fl e1 e2 pd sg k1 k2 n q (pk 64 (fun k => 8 * sig (2 * k) + sig (2 * k + 1)) c) c na Na Ra qa Sa ca nb Nb Rb qb Sb cb w rb sb pad _ num plc (sX xs (i + 1)) (sX xs (i + 2)) (by omega) (by omega) (by omega) (by omega) (by omega) (by omega) (by omega) (by omega) (by exact hp) (by exact hnum) (by exact hinj) (by exact hyes)) (cwV 2 gts gL_law_X8_week rfl rfl rfl (by decide +kernel) ⟨Nat.le_of_ble_eq_true rfl, Nat.le_of_ble_eq_true rfl⟩) ⟨fun a U g mk q => by obtain ⟨q0, q1, qP, qK, qD, qN215⟩ := q; exact ⟨q0, q1, qP, va_K.moved (u := U) (U := U.calling g mk a) (Vm.Alike.refl U.vm) qK, qD, va_Nw.same rfl rfl qN215⟩, va_recv hK hPc (ci := 3) (q0 := 0) rfl rfl, fun U hU hW => ⟨rfl, by rw [hU], by rw [hU]; exact hPc, va_K.moved hW.alike hK, hDc.weaken (fun _ _ _ _ => trivial), va_Nw.warmM hW hNw215⟩⟩ rfl rfl hl.1 rfl (lv_room (Nat.le_of_ble_eq_true rfl)) dL_law_438 ⟨Nat.le_of_ble_eq_true rfl, Nat.le_of_ble_eq_true rfl⟩) hS (fun q _ h => hFc q h) hFc (fun r u t H1 locs ht hvm hw hB hz1 hk1 hS => ?_)
  obtain ⟨rt_438, r0_438, r1_438, r4_438, r5_438, tn_438, ts_438, rws_438, lks_438, mks_438, tq_438, qu_438⟩ := u
  obtain ⟨hP1, hK1, hD1⟩ := hB
  rw [ht] at hP1
  try dsimp only at hw
  try dsimp only at hP1
  try dsimp only at hD1
  have hK := va_K.moved hvm.symm hK1
  obtain ⟨hP, hD⟩ := va_join (wr := [(mo, .inr (4, [.int (nI n), .int (nI q), .ref ma, .ref mb, .int (nI c), .ref mc, .int (nI w), .ref md, .ref me, .int (nI z), .int (nI ev), .ref mf, .ref mg, .ref mh, .ref mi, .ref mj, .ref mk, .ref ml, .ref mn])), (ma, .inl (cI, 7, .inl (aN num))), (mb, .inl (cI, 7, .inl (aN plc))), (mc, .inl (cI, 12, .inl (aN sig))), (md, .inl (cI, 60, .inl (aN pad))), (me, .inl (cI, 8, .inl (aN row))), (mf, .inl (cI, 7, .inl (aN dig))), (mg, .inl (cI, 5040, .inl far)), (mh, .inl (cI, 5040, .inl (aN cfr))), (mi, .inl (cI, 5040, .inl (aN cby))), (mj, .inl (cI, 5040, .inl (aN que))), (mk, .inl (cI, 64, .inl (aN has))), (ml, .inl (cI, 64, .inl (aN img))), (mn, .inl (cZ, 2, .inl (aN kep)))]) (w1 := wY h fl e1 e2 pd sg cI k1 k2 (.ref rt_438) n (pk 256 num n) (pk 8 plc q) q (pk 64 (fun k => 8 * sig (2 * k) + sig (2 * k + 1)) c) c na Na Ra qa Sa ca nb Nb Rb qb Sb cb w rb sb pad rt_438 r0_438 r1_438 r4_438 r5_438 cJ tn_438 ts_438 tq_438 rws_438 lks_438 mks_438 qu_438) hP hD [0, 1, 2, 3, 4, 5] [6, 7, 8, 9, 10, 11, 12, 13, 14, 15, 16, 17, 18, 19] rfl rfl (by decide) (by decide) hk1 hFc hP1 hD1
  have hP := hP.sub (ws' := wLB h fl e1 e2 pd sg cI k1 k2 (.ref rt_438) n (pk 256 num n) (pk 8 plc q) q (pk 64 (fun k => 8 * sig (2 * k) + sig (2 * k + 1)) c) c na Na Ra qa Sa ca nb Nb Rb qb Sb cb w rb sb pad mo ma mb mc md me mf mg mh mi mj mk ml mn cZ n q c w z ev num plc sig pad row dig far cfr cby que has img kep rt_438 r0_438 r1_438 r4_438 r5_438 cJ tn_438 ts_438 tq_438 rws_438 lks_438 mks_438 qu_438) [14, 15, 16, 17, 18, 19, 0, 1, 2, 3, 4, 5, 6, 7, 8, 9, 10, 11, 12, 13, 20, 21, 22, 23, 24] rfl
  have hD := hD.sub (ws' := wLB h fl e1 e2 pd sg cI k1 k2 (.ref rt_438) n (pk 256 num n) (pk 8 plc q) q (pk 64 (fun k => 8 * sig (2 * k) + sig (2 * k + 1)) c) c na Na Ra qa Sa ca nb Nb Rb qb Sb cb w rb sb pad mo ma mb mc md me mf mg mh mi mj mk ml mn cZ n q c w z ev num plc sig pad row dig far cfr cby que has img kep rt_438 r0_438 r1_438 r4_438 r5_438 cJ tn_438 ts_438 tq_438 rws_438 lks_438 mks_438 qu_438) [14, 15, 16, 17, 18, 19, 0, 1, 2, 3, 4, 5, 6, 7, 8, 9, 10, 11, 12, 13, 20, 21, 22, 23, 24] (by decide) rfl
  have hK := va_K.moved (Vm.Alike.refl Gs.vm) hK
  generalize H1 = H at hP hS ⊢
  refine W.widen (k := 25) (n := 67130) (Nat.le_of_ble_eq_true rfl) (Nat.le_of_ble_eq_true rfl) ?_
  obtain ⟨r438, rfl⟩ : ∃ z, z = r := ⟨_, rfl⟩
  obtain ⟨⟨zx, rfl, hzx⟩, hT2⟩ := hw
  refine lv_aload_n gx gb dL_law_441 rfl (lv_at hl 2 rfl) ?_
  refine lv_aload_n gx gb dL_law_442 rfl (lv_at hl 0 rfl) ?_
  refine lv_iload_n gx gb dL_law_443 rfl (lv_at hl 3 rfl) ?_
  refine lv_iconst (v := nI 1) gx gb dL_law_444 (by decide) ?_
  refine lv_iadd gx gb dL_law_445 ?_
  refine lv_evi (nI (i + 1)) (nI_add i 1) ?_
  refine va_sld gx gb hX hbl hbA hS (vp_in_nI (n := i + 1) (by omega) (by omega)) dL_law_446 ?_
  refine lv_evi (zI (sX xs (i + 1))) (sX_rd xs (by omega)) ?_
  refine lv_aload_n gx gb dL_law_447 rfl (lv_at hl 0 rfl) ?_
  refine lv_iload_n gx gb dL_law_448 rfl (lv_at hl 3 rfl) ?_
  refine lv_iconst (v := nI 2) gx gb dL_law_449 (by decide) ?_
  refine lv_iadd gx gb dL_law_450 ?_
  refine lv_evi (nI (i + 2)) (nI_add i 2) ?_
  refine va_sld gx gb hX hbl hbA hS (vp_in_nI (n := i + 2) (by omega) (by omega)) dL_law_451 ?_
  refine lv_evi (zI (sX xs (i + 2))) (sX_rd xs (by omega)) ?_
  have hPc := hP.sub (ws' := wM mo ma mb mc md me mf mg mh mi mj mk ml mn cI cZ n q c w z ev num plc sig pad row dig far cfr cby que has img kep) [6, 7, 8, 9, 10, 11, 12, 13, 14, 15, 16, 17, 18, 19] rfl
  have hDc := hD.sub (ws' := wM mo ma mb mc md me mf mg mh mi mj mk ml mn cI cZ n q c w z ev num plc sig pad row dig far cfr cby que has img kep) [6, 7, 8, 9, 10, 11, 12, 13, 14, 15, 16, 17, 18, 19] (by decide) rfl
  have hFc := va_free (wc := wM mo ma mb mc md me mf mg mh mi mj mk ml mn cI cZ n q c w z ev num plc sig pad row dig far cfr cby que has img kep) hD hS hA [6, 7, 8, 9, 10, 11, 12, 13, 14, 15, 16, 17, 18, 19] rfl
  refine va_calli (va_runV (As := [.int (zI (sX xs (i + 1))), .int (zI (sX xs (i + 2)))]) (rest := [.int (zI zx)]) ⟨gx, gb, gml, gown, gts⟩ (kX9_week Gl D cI cJ cZ mo ma mb mc md me mf mg mh mi mj mk ml mn n q c w z ev num plc sig pad row dig far cfr cby que has img kep _ (sX xs (i + 1)) (sX xs (i + 2)) (by omega) (by omega) (by omega) (by omega) (by omega) (by omega) (by exact hpl6) (by exact hinj) (by exact hnv)) (cwV 2 gts gL_law_X9_week rfl rfl rfl (by decide +kernel) ⟨Nat.le_of_ble_eq_true rfl, Nat.le_of_ble_eq_true rfl⟩) ⟨fun a U g mk q => by obtain ⟨q0, q1, qP, qK, qD⟩ := q; exact ⟨q0, q1, qP, va_K.moved (u := U) (U := U.calling g mk a) (Vm.Alike.refl U.vm) qK, qD⟩, va_recv hK hPc (ci := 4) (q0 := 0) rfl rfl, fun U hU hW => ⟨rfl, by rw [hU], by rw [hU]; exact hPc, va_K.moved hW.alike hK, hDc.weaken (fun _ _ _ _ => trivial)⟩⟩ rfl rfl hl.1 rfl (lv_room (Nat.le_of_ble_eq_true rfl)) dL_law_452 ⟨Nat.le_of_ble_eq_true rfl, Nat.le_of_ble_eq_true rfl⟩) hS (fun q _ h => hFc q h) hFc (fun r u t H1 locs ht hvm hw hB hz1 hk1 hS => ?_)
  obtain ⟨fa_452, row_452, dig_452, z_452⟩ := u
  obtain ⟨hP1, hK1, hD1⟩ := hB
  rw [ht] at hP1
  try dsimp only at hw
  try dsimp only at hP1
  try dsimp only at hD1
  have hK := va_K.moved hvm.symm hK1
  obtain ⟨hP, hD⟩ := va_join (wr := [(h, .inr (3, [.ref fl, .ref e1, .ref e2, .int (nI k1), .int (nI k2), .ref pd, .ref rt_438])), (fl, .inr (0, [.int (nI n), .long (lN (pk 256 num n)), .int (nI (pk 8 plc q)), .int (nI q), .long (lN (pk 64 (fun k => 8 * sig (2 * k) + sig (2 * k + 1)) c)), .int (nI c)])), (e1, .inr (0, [.int (nI na), .long (lN Na), .int (nI Ra), .int (nI qa), .long (lN Sa), .int (nI ca)])), (e2, .inr (0, [.int (nI nb), .long (lN Nb), .int (nI Rb), .int (nI qb), .long (lN Sb), .int (nI cb)])), (pd, .inr (1, [.ref sg, .int (nI w), .int (nI rb), .int (nI sb)])), (sg, .inl (cI, 60, .inl (aN pad))), (rt_438, .inr (2, [.ref r0_438, .ref r1_438, .int (nI tn_438), .int (nI ts_438), .ref r4_438, .ref r5_438, .int (nI tq_438)])), (r0_438, .inl (cI, 5040, .inl (aN rws_438))), (r1_438, .inl (cI, 5040, .inl (aN lks_438))), (r4_438, .inl (cJ, 16384, .inr (.inl (aL mks_438)))), (r5_438, .inl (cI, 20160, .inl (aN qu_438)))]) (w1 := wM mo ma mb mc md me mf mg mh mi mj mk ml mn cI cZ n q c w z_452 ev num plc sig pad row_452 dig_452 fa_452 cfr cby que has img kep) hP hD [6, 7, 8, 9, 10, 11, 12, 13, 14, 15, 16, 17, 18, 19] [0, 1, 2, 3, 4, 5, 20, 21, 22, 23, 24] rfl rfl (by decide) (by decide) hk1 hFc hP1 hD1
  have hP := hP.sub (ws' := wLB h fl e1 e2 pd sg cI k1 k2 (.ref rt_438) n (pk 256 num n) (pk 8 plc q) q (pk 64 (fun k => 8 * sig (2 * k) + sig (2 * k + 1)) c) c na Na Ra qa Sa ca nb Nb Rb qb Sb cb w rb sb pad mo ma mb mc md me mf mg mh mi mj mk ml mn cZ n q c w z_452 ev num plc sig pad row_452 dig_452 fa_452 cfr cby que has img kep rt_438 r0_438 r1_438 r4_438 r5_438 cJ tn_438 ts_438 tq_438 rws_438 lks_438 mks_438 qu_438) [0, 1, 2, 3, 4, 5, 11, 12, 13, 14, 15, 16, 17, 18, 19, 20, 21, 22, 23, 24, 6, 7, 8, 9, 10] rfl
  have hD := hD.sub (ws' := wLB h fl e1 e2 pd sg cI k1 k2 (.ref rt_438) n (pk 256 num n) (pk 8 plc q) q (pk 64 (fun k => 8 * sig (2 * k) + sig (2 * k + 1)) c) c na Na Ra qa Sa ca nb Nb Rb qb Sb cb w rb sb pad mo ma mb mc md me mf mg mh mi mj mk ml mn cZ n q c w z_452 ev num plc sig pad row_452 dig_452 fa_452 cfr cby que has img kep rt_438 r0_438 r1_438 r4_438 r5_438 cJ tn_438 ts_438 tq_438 rws_438 lks_438 mks_438 qu_438) [0, 1, 2, 3, 4, 5, 11, 12, 13, 14, 15, 16, 17, 18, 19, 20, 21, 22, 23, 24, 6, 7, 8, 9, 10] (by decide) rfl
  have hK := va_K.moved (Vm.Alike.refl Gs.vm) hK
  generalize H1 = H at hP hS ⊢
  obtain ⟨r452, rfl⟩ : ∃ z, z = r := ⟨_, rfl⟩
  obtain ⟨zm, rfl, hzm⟩ := hw
  refine lv_icmp_eq (tgt := 774) gx gb dL_law_455 (by decide) (fun c455 => ?_) (fun c455 => ?_)
  · skip
    have hNext := hI
    refine lv_iinc (v := nI (i + 4)) (lv' := [(3, .int (nI (i + 4))), (0, .ref b), (1, .ref h), (2, .ref mo)]) gx gb dL_law_774 hl (k := 3) rfl (nI_add i 4) (by decide) rfl (fun ls hl => ?_)
    refine lv_goto (tgt := 18) gx gb dL_law_777 (by decide) ?_
    exact (kkB rt_438 r0_438 r1_438 r4_438 r5_438) n q c w n q c (pk 256 num n) (pk 8 plc q) (pk 64 (fun k => 8 * sig (2 * k) + sig (2 * k + 1)) c) k1 k2 na Na Ra qa Sa ca nb Nb Rb qb Sb cb rb sb z_452 ev num plc sig pad row_452 dig_452 cfr cby que has img kep fa_452 tn_438 ts_438 tq_438 rws_438 lks_438 mks_438 qu_438 hNext hT2 H locs hP hD hS ls (lv_sub hl [1, 2, 3, 0] rfl)
  · skip
    exact absurd (congrArg zI (wekR_one hq1 (by omega) (fun _ _ => rfl) hzx hzm)) c455

set_option maxHeartbeats 4000000 in
set_option maxRecDepth 100000 in
theorem lA_sell {Gp : Program} {Gl : Launch} {Ge : Env} {Gs : State} {Gm : MethodId} {Gw : List Frame} {Gt : Method} {Gc : Code} {b L : Nat} {xs : Nat → Int32} (hL : L ≤ 256) (C0 : lw_At Gp Gs Gm Gt Gc b L xs) (D : va_G) (cI cJ cZ : ClassId) (A : Nat → Prop) (hA : ∀ q : Nat, Gs.heap.size ≤ q → A q) (hbA : ¬ A b) (hK : va_K D vwCl [(cI, .int), (cJ, .long), (cZ, .boolean)] Gs) (h fl e1 e2 pd sg mo ma mb mc md me mf mg mh mi mj mk ml mn : Nat) (i : Nat) (hi : i + 4 ≤ L) (kk : lwHA Gp Gl Ge Gs Gm Gw Gt Gc b D cI cJ cZ A h fl e1 e2 pd sg mo ma mb mc md me mf mg mh mi mj mk ml mn (i + 4)) (n q c w nX qX cX N R S k1 k2 na Na Ra qa Sa ca nb Nb Rb qb Sb cb rb sb z ev : Nat) (num plc sig pad row dig cfr cby que has img kep : Nat → Nat) (far : Nat → Int32) (hI : lwI num plc sig pad img kep n q c w nX qX cX N R S k1 k2 na Na Ra qa Sa ca nb Nb Rb qb Sb cb) (H : Heap) (locs : List Loc) (hP : va_P D vwCl (wLA h fl e1 e2 pd sg cI k1 k2 .null nX N R qX S cX na Na Ra qa Sa ca nb Nb Rb qb Sb cb w rb sb pad mo ma mb mc md me mf mg mh mi mj mk ml mn cZ n q c w z ev num plc sig pad row dig far cfr cby que has img kep) H) (hD : va_D A (wLA h fl e1 e2 pd sg cI k1 k2 .null nX N R qX S cX na Na Ra qa Sa ca nb Nb Rb qb Sb cb w rb sb pad mo ma mb mc md me mf mg mh mi mj mk ml mn cZ n q c w z ev num plc sig pad row dig far cfr cby que has img kep)) (hS : va_S A Gs.heap H locs) (ls : Array Slot) (hl : lv_has ls 4 [(0, .ref b), (1, .ref h), (2, .ref mo), (3, .int (nI i))]) : W Gp Gl Ge room_1 Gs Gm #[Value.ref b] Gw Gt Gc H locs 20 20499 (lw_Z Gw #[Value.ref b] Gs) (F0 Gm 460 ls []) := by
  obtain ⟨gx, gb, gr, gml, gown0, gts0, hX, hbl, glk, hgv⟩ := id C0
  have gts : ∀ w ∈ wsL_law, w.before #[Value.ref b] Gs = true := fun w h => gts0 w (wsL_law_in w h)
  have gown : Gs.vm.findClass RL = some Gm.cls := gown0
  have hb1 := sX_bd xs (i + 1)
  have hb2 := sX_bd xs (i + 2)
  have hb3 := sX_bd xs (i + 3)
  obtain ⟨⟨⟨hF, hN, hR, hSS⟩, hnX, hqX, hcX⟩, -⟩ := id hI
  subst hN hR hSS hnX hqX hcX
  obtain ⟨-, ⟨hw60, hgp⟩, ⟨hke1, hke2, hk1, hk2⟩, -, -⟩ := id hI
  obtain ⟨hn1, hn7, hq1, hqn, hp, hinj, hnum, hc6, hsg⟩ := id hF
  have hpl6 : ∀ x, x < q → plc x ≤ 6 := fun x hx => by have := hp x hx; omega
  have hnv : ∀ x, x < q → num (plc x) ≤ 99 := fun x hx => hnum _ (hp x hx)
  have hkep : ∀ j, j < 2 → kep j ≤ 1 := fun j hj => by rcases (show j = 0 ∨ j = 1 by omega) with rfl | rfl <;> omega
  have hP : va_P D vwCl (wLA h fl e1 e2 pd sg cI k1 k2 .null n (pk 256 num n) (pk 8 plc q) q (pk 64 (fun k => 8 * sig (2 * k) + sig (2 * k + 1)) c) c na Na Ra qa Sa ca nb Nb Rb qb Sb cb w rb sb pad mo ma mb mc md me mf mg mh mi mj mk ml mn cZ n q c w z ev num plc sig pad row dig far cfr cby que has img kep) H := hP
  have hD : va_D A (wLA h fl e1 e2 pd sg cI k1 k2 .null n (pk 256 num n) (pk 8 plc q) q (pk 64 (fun k => 8 * sig (2 * k) + sig (2 * k + 1)) c) c na Na Ra qa Sa ca nb Nb Rb qb Sb cb w rb sb pad mo ma mb mc md me mf mg mh mi mj mk ml mn cZ n q c w z ev num plc sig pad row dig far cfr cby que has img kep) := hD
  have hl : lv_has ls 4 [(0, .ref b), (1, .ref h), (2, .ref mo), (3, .int (nI i))] := hl
  refine lv_aload_n gx gb dL_law_460 rfl (lv_at hl 1 rfl) ?_
  refine lv_aload_n gx gb dL_law_461 rfl (lv_at hl 0 rfl) ?_
  refine lv_iload_n gx gb dL_law_462 rfl (lv_at hl 3 rfl) ?_
  refine lv_iconst (v := nI 1) gx gb dL_law_463 (by decide) ?_
  refine lv_iadd gx gb dL_law_464 ?_
  refine lv_evi (nI (i + 1)) (nI_add i 1) ?_
  refine va_sld gx gb hX hbl hbA hS (vp_in_nI (n := i + 1) (by omega) (by omega)) dL_law_465 ?_
  refine lv_evi (zI (sX xs (i + 1))) (sX_rd xs (by omega)) ?_
  have hPc := hP.sub (ws' := wX h fl e1 e2 pd sg cI k1 k2 .null n (pk 256 num n) (pk 8 plc q) q (pk 64 (fun k => 8 * sig (2 * k) + sig (2 * k + 1)) c) c na Na Ra qa Sa ca nb Nb Rb qb Sb cb w rb sb pad) [0, 1, 2, 3, 4, 5] rfl
  refine vp_callSi (W.runV (As := [.int (zI (sX xs (i + 1)))]) (rest := []) ⟨gx, gb, gml, gown, gts⟩ (kX8_sell Gl D cI cJ cZ h fl e1 e2 pd sg k1 k2 .null n q (pk 64 (fun k => 8 * sig (2 * k) + sig (2 * k + 1)) c) c na Na Ra qa Sa ca nb Nb Rb qb Sb cb w rb sb pad num plc (sX xs (i + 1)) (by omega) (by omega) (by omega) (by omega) (by omega) (by omega) (by exact hp) (by exact hnum)) (cwV 1 gts gL_law_X8_sell rfl rfl rfl (by decide +kernel) ⟨Nat.le_of_ble_eq_true rfl, Nat.le_of_ble_eq_true rfl⟩) ⟨fun a U g mk q => ⟨q.1, q.2.1, va_K.moved (u := U) (U := U.calling g mk a) (Vm.Alike.refl U.vm) q.2.2⟩, va_recv hK hPc (ci := 3) (q0 := 0) rfl rfl, fun U hU hW => ⟨rfl, by rw [hU]; exact hPc, va_K.moved hW.alike hK⟩⟩ rfl rfl hl.1 rfl (lv_room (Nat.le_of_ble_eq_true rfl)) dL_law_466 ⟨Nat.le_of_ble_eq_true rfl, Nat.le_of_ble_eq_true rfl⟩) (fun r hw => ?_)
  have hr466 := hw
  subst hr466
  refine lv_aload_n gx gb dL_law_469 rfl (lv_at hl 2 rfl) ?_
  refine lv_aload_n gx gb dL_law_470 rfl (lv_at hl 0 rfl) ?_
  refine lv_iload_n gx gb dL_law_471 rfl (lv_at hl 3 rfl) ?_
  refine lv_iconst (v := nI 1) gx gb dL_law_472 (by decide) ?_
  refine lv_iadd gx gb dL_law_473 ?_
  refine lv_evi (nI (i + 1)) (nI_add i 1) ?_
  refine va_sld gx gb hX hbl hbA hS (vp_in_nI (n := i + 1) (by omega) (by omega)) dL_law_474 ?_
  refine lv_evi (zI (sX xs (i + 1))) (sX_rd xs (by omega)) ?_
  have hPc := hP.sub (ws' := wM mo ma mb mc md me mf mg mh mi mj mk ml mn cI cZ n q c w z ev num plc sig pad row dig far cfr cby que has img kep) [6, 7, 8, 9, 10, 11, 12, 13, 14, 15, 16, 17, 18, 19] rfl
  have hDc := hD.sub (ws' := wM mo ma mb mc md me mf mg mh mi mj mk ml mn cI cZ n q c w z ev num plc sig pad row dig far cfr cby que has img kep) [6, 7, 8, 9, 10, 11, 12, 13, 14, 15, 16, 17, 18, 19] (by decide) rfl
  have hFc := va_free (wc := wM mo ma mb mc md me mf mg mh mi mj mk ml mn cI cZ n q c w z ev num plc sig pad row dig far cfr cby que has img kep) hD hS hA [6, 7, 8, 9, 10, 11, 12, 13, 14, 15, 16, 17, 18, 19] rfl
  refine va_calli (va_runV (As := [.int (zI (sX xs (i + 1)))]) (rest := [.int (zI (selZ num plc q (sX xs (i + 1))))]) ⟨gx, gb, gml, gown, gts⟩ (kX9_sell Gl D cI cJ cZ mo ma mb mc md me mf mg mh mi mj mk ml mn n q c w z ev num plc sig pad row dig far cfr cby que has img kep _ (sX xs (i + 1)) (by omega) (by omega) (by omega) (by omega) (by omega) (by omega) (by exact hp) (by exact hnum)) (cwV 1 gts gL_law_X9_sell rfl rfl rfl (by decide +kernel) ⟨Nat.le_of_ble_eq_true rfl, Nat.le_of_ble_eq_true rfl⟩) ⟨fun a U g mk q => by obtain ⟨q0, q1, qP, qK, qD⟩ := q; exact ⟨q0, q1, qP, va_K.moved (u := U) (U := U.calling g mk a) (Vm.Alike.refl U.vm) qK, qD⟩, va_recv hK hPc (ci := 4) (q0 := 0) rfl rfl, fun U hU hW => ⟨rfl, by rw [hU], by rw [hU]; exact hPc, va_K.moved hW.alike hK, hDc.weaken (fun _ _ _ _ => trivial)⟩⟩ rfl rfl hl.1 rfl (lv_room (Nat.le_of_ble_eq_true rfl)) dL_law_475 ⟨Nat.le_of_ble_eq_true rfl, Nat.le_of_ble_eq_true rfl⟩) hS (fun q _ h => hFc q h) hFc (fun r u t H1 locs ht hvm hw hB hz1 hk1 hS => ?_)
  obtain ⟨row_475, z_475⟩ := u
  obtain ⟨hP1, hK1, hD1⟩ := hB
  rw [ht] at hP1
  try dsimp only at hw
  try dsimp only at hP1
  try dsimp only at hD1
  have hK := va_K.moved hvm.symm hK1
  obtain ⟨hP, hD⟩ := va_join (wr := [(h, .inr (3, [.ref fl, .ref e1, .ref e2, .int (nI k1), .int (nI k2), .ref pd, .null])), (fl, .inr (0, [.int (nI n), .long (lN (pk 256 num n)), .int (nI (pk 8 plc q)), .int (nI q), .long (lN (pk 64 (fun k => 8 * sig (2 * k) + sig (2 * k + 1)) c)), .int (nI c)])), (e1, .inr (0, [.int (nI na), .long (lN Na), .int (nI Ra), .int (nI qa), .long (lN Sa), .int (nI ca)])), (e2, .inr (0, [.int (nI nb), .long (lN Nb), .int (nI Rb), .int (nI qb), .long (lN Sb), .int (nI cb)])), (pd, .inr (1, [.ref sg, .int (nI w), .int (nI rb), .int (nI sb)])), (sg, .inl (cI, 60, .inl (aN pad)))]) (w1 := wM mo ma mb mc md me mf mg mh mi mj mk ml mn cI cZ n q c w z_475 ev num plc sig pad row_475 dig far cfr cby que has img kep) hP hD [6, 7, 8, 9, 10, 11, 12, 13, 14, 15, 16, 17, 18, 19] [0, 1, 2, 3, 4, 5] rfl rfl (by decide) (by decide) hk1 hFc hP1 hD1
  have hP := hP.sub (ws' := wLA h fl e1 e2 pd sg cI k1 k2 .null n (pk 256 num n) (pk 8 plc q) q (pk 64 (fun k => 8 * sig (2 * k) + sig (2 * k + 1)) c) c na Na Ra qa Sa ca nb Nb Rb qb Sb cb w rb sb pad mo ma mb mc md me mf mg mh mi mj mk ml mn cZ n q c w z_475 ev num plc sig pad row_475 dig far cfr cby que has img kep) [0, 1, 2, 3, 4, 5, 6, 7, 8, 9, 10, 11, 12, 13, 14, 15, 16, 17, 18, 19] rfl
  have hD := hD.sub (ws' := wLA h fl e1 e2 pd sg cI k1 k2 .null n (pk 256 num n) (pk 8 plc q) q (pk 64 (fun k => 8 * sig (2 * k) + sig (2 * k + 1)) c) c na Na Ra qa Sa ca nb Nb Rb qb Sb cb w rb sb pad mo ma mb mc md me mf mg mh mi mj mk ml mn cZ n q c w z_475 ev num plc sig pad row_475 dig far cfr cby que has img kep) [0, 1, 2, 3, 4, 5, 6, 7, 8, 9, 10, 11, 12, 13, 14, 15, 16, 17, 18, 19] (by decide) rfl
  have hK := va_K.moved (Vm.Alike.refl Gs.vm) hK
  generalize H1 = H at hP hS ⊢
  have hr475 := hw
  subst hr475
  refine lv_icmp_eq (tgt := 774) gx gb dL_law_478 (by decide) (fun c478 => ?_) (fun c478 => ?_)
  · skip
    have hNext := hI
    refine lv_iinc (v := nI (i + 4)) (lv' := [(3, .int (nI (i + 4))), (0, .ref b), (1, .ref h), (2, .ref mo)]) gx gb dL_law_774 hl (k := 3) rfl (nI_add i 4) (by decide) rfl (fun ls hl => ?_)
    refine lv_goto (tgt := 18) gx gb dL_law_777 (by decide) ?_
    exact kk n q c w n q c (pk 256 num n) (pk 8 plc q) (pk 64 (fun k => 8 * sig (2 * k) + sig (2 * k + 1)) c) k1 k2 na Na Ra qa Sa ca nb Nb Rb qb Sb cb rb sb z_475 ev num plc sig pad row_475 dig cfr cby que has img kep far hNext H locs hP hD hS ls (lv_sub hl [1, 2, 3, 0] rfl)
  · skip
    exact absurd rfl c478

set_option maxHeartbeats 4000000 in
set_option maxRecDepth 100000 in
theorem lA_worn {Gp : Program} {Gl : Launch} {Ge : Env} {Gs : State} {Gm : MethodId} {Gw : List Frame} {Gt : Method} {Gc : Code} {b L : Nat} {xs : Nat → Int32} (hL : L ≤ 256) (C0 : lw_At Gp Gs Gm Gt Gc b L xs) (D : va_G) (cI cJ cZ : ClassId) (A : Nat → Prop) (hA : ∀ q : Nat, Gs.heap.size ≤ q → A q) (hbA : ¬ A b) (hK : va_K D vwCl [(cI, .int), (cJ, .long), (cZ, .boolean)] Gs) (h fl e1 e2 pd sg mo ma mb mc md me mf mg mh mi mj mk ml mn : Nat) (i : Nat) (hi : i + 4 ≤ L) (kk : lwHA Gp Gl Ge Gs Gm Gw Gt Gc b D cI cJ cZ A h fl e1 e2 pd sg mo ma mb mc md me mf mg mh mi mj mk ml mn (i + 4)) (n q c w nX qX cX N R S k1 k2 na Na Ra qa Sa ca nb Nb Rb qb Sb cb rb sb z ev : Nat) (num plc sig pad row dig cfr cby que has img kep : Nat → Nat) (far : Nat → Int32) (hI : lwI num plc sig pad img kep n q c w nX qX cX N R S k1 k2 na Na Ra qa Sa ca nb Nb Rb qb Sb cb) (H : Heap) (locs : List Loc) (hP : va_P D vwCl (wLA h fl e1 e2 pd sg cI k1 k2 .null nX N R qX S cX na Na Ra qa Sa ca nb Nb Rb qb Sb cb w rb sb pad mo ma mb mc md me mf mg mh mi mj mk ml mn cZ n q c w z ev num plc sig pad row dig far cfr cby que has img kep) H) (hD : va_D A (wLA h fl e1 e2 pd sg cI k1 k2 .null nX N R qX S cX na Na Ra qa Sa ca nb Nb Rb qb Sb cb w rb sb pad mo ma mb mc md me mf mg mh mi mj mk ml mn cZ n q c w z ev num plc sig pad row dig far cfr cby que has img kep)) (hS : va_S A Gs.heap H locs) (ls : Array Slot) (hl : lv_has ls 4 [(0, .ref b), (1, .ref h), (2, .ref mo), (3, .int (nI i))]) : W Gp Gl Ge room_1 Gs Gm #[Value.ref b] Gw Gt Gc H locs 20 20499 (lw_Z Gw #[Value.ref b] Gs) (F0 Gm 483 ls []) := by
  obtain ⟨gx, gb, gr, gml, gown0, gts0, hX, hbl, glk, hgv⟩ := id C0
  have gts : ∀ w ∈ wsL_law, w.before #[Value.ref b] Gs = true := fun w h => gts0 w (wsL_law_in w h)
  have gown : Gs.vm.findClass RL = some Gm.cls := gown0
  have hb1 := sX_bd xs (i + 1)
  have hb2 := sX_bd xs (i + 2)
  have hb3 := sX_bd xs (i + 3)
  obtain ⟨⟨⟨hF, hN, hR, hSS⟩, hnX, hqX, hcX⟩, -⟩ := id hI
  subst hN hR hSS hnX hqX hcX
  obtain ⟨-, ⟨hw60, hgp⟩, ⟨hke1, hke2, hk1, hk2⟩, -, -⟩ := id hI
  obtain ⟨hn1, hn7, hq1, hqn, hp, hinj, hnum, hc6, hsg⟩ := id hF
  have hpl6 : ∀ x, x < q → plc x ≤ 6 := fun x hx => by have := hp x hx; omega
  have hnv : ∀ x, x < q → num (plc x) ≤ 99 := fun x hx => hnum _ (hp x hx)
  have hkep : ∀ j, j < 2 → kep j ≤ 1 := fun j hj => by rcases (show j = 0 ∨ j = 1 by omega) with rfl | rfl <;> omega
  have hP : va_P D vwCl (wLA h fl e1 e2 pd sg cI k1 k2 .null n (pk 256 num n) (pk 8 plc q) q (pk 64 (fun k => 8 * sig (2 * k) + sig (2 * k + 1)) c) c na Na Ra qa Sa ca nb Nb Rb qb Sb cb w rb sb pad mo ma mb mc md me mf mg mh mi mj mk ml mn cZ n q c w z ev num plc sig pad row dig far cfr cby que has img kep) H := hP
  have hD : va_D A (wLA h fl e1 e2 pd sg cI k1 k2 .null n (pk 256 num n) (pk 8 plc q) q (pk 64 (fun k => 8 * sig (2 * k) + sig (2 * k + 1)) c) c na Na Ra qa Sa ca nb Nb Rb qb Sb cb w rb sb pad mo ma mb mc md me mf mg mh mi mj mk ml mn cZ n q c w z ev num plc sig pad row dig far cfr cby que has img kep) := hD
  have hl : lv_has ls 4 [(0, .ref b), (1, .ref h), (2, .ref mo), (3, .int (nI i))] := hl
  refine lv_aload_n gx gb dL_law_483 rfl (lv_at hl 1 rfl) ?_
  refine lv_aload_n gx gb dL_law_484 rfl (lv_at hl 0 rfl) ?_
  refine lv_iload_n gx gb dL_law_485 rfl (lv_at hl 3 rfl) ?_
  refine lv_iconst (v := nI 1) gx gb dL_law_486 (by decide) ?_
  refine lv_iadd gx gb dL_law_487 ?_
  refine lv_evi (nI (i + 1)) (nI_add i 1) ?_
  refine va_sld gx gb hX hbl hbA hS (vp_in_nI (n := i + 1) (by omega) (by omega)) dL_law_488 ?_
  refine lv_evi (zI (sX xs (i + 1))) (sX_rd xs (by omega)) ?_
  refine lv_aload_n gx gb dL_law_489 rfl (lv_at hl 0 rfl) ?_
  refine lv_iload_n gx gb dL_law_490 rfl (lv_at hl 3 rfl) ?_
  refine lv_iconst (v := nI 2) gx gb dL_law_491 (by decide) ?_
  refine lv_iadd gx gb dL_law_492 ?_
  refine lv_evi (nI (i + 2)) (nI_add i 2) ?_
  refine va_sld gx gb hX hbl hbA hS (vp_in_nI (n := i + 2) (by omega) (by omega)) dL_law_493 ?_
  refine lv_evi (zI (sX xs (i + 2))) (sX_rd xs (by omega)) ?_
  refine lv_aload_n gx gb dL_law_494 rfl (lv_at hl 0 rfl) ?_
  refine lv_iload_n gx gb dL_law_495 rfl (lv_at hl 3 rfl) ?_
  refine lv_iconst (v := nI 3) gx gb dL_law_496 (by decide) ?_
  refine lv_iadd gx gb dL_law_497 ?_
  refine lv_evi (nI (i + 3)) (nI_add i 3) ?_
  refine va_sld gx gb hX hbl hbA hS (vp_in_nI (n := i + 3) (by omega) (by omega)) dL_law_498 ?_
  refine lv_evi (zI (sX xs (i + 3))) (sX_rd xs (by omega)) ?_
  have hPc := hP.sub (ws' := wX h fl e1 e2 pd sg cI k1 k2 .null n (pk 256 num n) (pk 8 plc q) q (pk 64 (fun k => 8 * sig (2 * k) + sig (2 * k + 1)) c) c na Na Ra qa Sa ca nb Nb Rb qb Sb cb w rb sb pad) [0, 1, 2, 3, 4, 5] rfl
  refine vp_callSi (W.runV (As := [.int (zI (sX xs (i + 1))), .int (zI (sX xs (i + 2))), .int (zI (sX xs (i + 3)))]) (rest := []) ⟨gx, gb, gml, gown, gts⟩ (kX8_worn Gl D cI cJ cZ h fl e1 e2 pd sg k1 k2 .null n q (pk 64 (fun k => 8 * sig (2 * k) + sig (2 * k + 1)) c) c na Na Ra qa Sa ca nb Nb Rb qb Sb cb w rb sb pad num plc (sX xs (i + 1)) (sX xs (i + 2)) (sX xs (i + 3)) (by omega) (by omega) (by omega) (by omega) (by omega) (by omega) (by omega) (by omega) (by omega) (by omega) (by exact hp) (by exact hnum) (by exact hinj)) (cwV 3 gts gL_law_X8_worn rfl rfl rfl (by decide +kernel) ⟨Nat.le_of_ble_eq_true rfl, Nat.le_of_ble_eq_true rfl⟩) ⟨fun a U g mk q => ⟨q.1, q.2.1, va_K.moved (u := U) (U := U.calling g mk a) (Vm.Alike.refl U.vm) q.2.2⟩, va_recv hK hPc (ci := 3) (q0 := 0) rfl rfl, fun U hU hW => ⟨rfl, by rw [hU]; exact hPc, va_K.moved hW.alike hK⟩⟩ rfl rfl hl.1 rfl (lv_room (Nat.le_of_ble_eq_true rfl)) dL_law_499 ⟨Nat.le_of_ble_eq_true rfl, Nat.le_of_ble_eq_true rfl⟩) (fun r hw => ?_)
  have hr499 := hw
  subst hr499
  refine lv_aload_n gx gb dL_law_502 rfl (lv_at hl 2 rfl) ?_
  refine lv_aload_n gx gb dL_law_503 rfl (lv_at hl 0 rfl) ?_
  refine lv_iload_n gx gb dL_law_504 rfl (lv_at hl 3 rfl) ?_
  refine lv_iconst (v := nI 1) gx gb dL_law_505 (by decide) ?_
  refine lv_iadd gx gb dL_law_506 ?_
  refine lv_evi (nI (i + 1)) (nI_add i 1) ?_
  refine va_sld gx gb hX hbl hbA hS (vp_in_nI (n := i + 1) (by omega) (by omega)) dL_law_507 ?_
  refine lv_evi (zI (sX xs (i + 1))) (sX_rd xs (by omega)) ?_
  refine lv_aload_n gx gb dL_law_508 rfl (lv_at hl 0 rfl) ?_
  refine lv_iload_n gx gb dL_law_509 rfl (lv_at hl 3 rfl) ?_
  refine lv_iconst (v := nI 2) gx gb dL_law_510 (by decide) ?_
  refine lv_iadd gx gb dL_law_511 ?_
  refine lv_evi (nI (i + 2)) (nI_add i 2) ?_
  refine va_sld gx gb hX hbl hbA hS (vp_in_nI (n := i + 2) (by omega) (by omega)) dL_law_512 ?_
  refine lv_evi (zI (sX xs (i + 2))) (sX_rd xs (by omega)) ?_
  refine lv_aload_n gx gb dL_law_513 rfl (lv_at hl 0 rfl) ?_
  refine lv_iload_n gx gb dL_law_514 rfl (lv_at hl 3 rfl) ?_
  refine lv_iconst (v := nI 3) gx gb dL_law_515 (by decide) ?_
  refine lv_iadd gx gb dL_law_516 ?_
  refine lv_evi (nI (i + 3)) (nI_add i 3) ?_
  refine va_sld gx gb hX hbl hbA hS (vp_in_nI (n := i + 3) (by omega) (by omega)) dL_law_517 ?_
  refine lv_evi (zI (sX xs (i + 3))) (sX_rd xs (by omega)) ?_
  have hPc := hP.sub (ws' := wM mo ma mb mc md me mf mg mh mi mj mk ml mn cI cZ n q c w z ev num plc sig pad row dig far cfr cby que has img kep) [6, 7, 8, 9, 10, 11, 12, 13, 14, 15, 16, 17, 18, 19] rfl
  have hDc := hD.sub (ws' := wM mo ma mb mc md me mf mg mh mi mj mk ml mn cI cZ n q c w z ev num plc sig pad row dig far cfr cby que has img kep) [6, 7, 8, 9, 10, 11, 12, 13, 14, 15, 16, 17, 18, 19] (by decide) rfl
  have hFc := va_free (wc := wM mo ma mb mc md me mf mg mh mi mj mk ml mn cI cZ n q c w z ev num plc sig pad row dig far cfr cby que has img kep) hD hS hA [6, 7, 8, 9, 10, 11, 12, 13, 14, 15, 16, 17, 18, 19] rfl
  refine va_calli (va_runV (As := [.int (zI (sX xs (i + 1))), .int (zI (sX xs (i + 2))), .int (zI (sX xs (i + 3)))]) (rest := [.int (zI (worZ num plc q (sX xs (i + 1)) (sX xs (i + 2)) (sX xs (i + 3))))]) ⟨gx, gb, gml, gown, gts⟩ (kX9_worn Gl D cI cJ cZ mo ma mb mc md me mf mg mh mi mj mk ml mn n q c w z ev num plc sig pad row dig far cfr cby que has img kep _ (sX xs (i + 1)) (sX xs (i + 2)) (sX xs (i + 3)) (by omega) (by omega) (by omega) (by omega) (by omega) (by omega) (by omega) (by omega) (by omega) (by omega) (by exact hp) (by exact hnum)) (cwV 3 gts gL_law_X9_worn rfl rfl rfl (by decide +kernel) ⟨Nat.le_of_ble_eq_true rfl, Nat.le_of_ble_eq_true rfl⟩) ⟨fun a U g mk q => by obtain ⟨q0, q1, qP, qK, qD⟩ := q; exact ⟨q0, q1, qP, va_K.moved (u := U) (U := U.calling g mk a) (Vm.Alike.refl U.vm) qK, qD⟩, va_recv hK hPc (ci := 4) (q0 := 0) rfl rfl, fun U hU hW => ⟨rfl, by rw [hU], by rw [hU]; exact hPc, va_K.moved hW.alike hK, hDc.weaken (fun _ _ _ _ => trivial)⟩⟩ rfl rfl hl.1 rfl (lv_room (Nat.le_of_ble_eq_true rfl)) dL_law_518 ⟨Nat.le_of_ble_eq_true rfl, Nat.le_of_ble_eq_true rfl⟩) hS (fun q _ h => hFc q h) hFc (fun r u t H1 locs ht hvm hw hB hz1 hk1 hS => ?_)
  obtain ⟨row_518, z_518⟩ := u
  obtain ⟨hP1, hK1, hD1⟩ := hB
  rw [ht] at hP1
  try dsimp only at hw
  try dsimp only at hP1
  try dsimp only at hD1
  have hK := va_K.moved hvm.symm hK1
  obtain ⟨hP, hD⟩ := va_join (wr := [(h, .inr (3, [.ref fl, .ref e1, .ref e2, .int (nI k1), .int (nI k2), .ref pd, .null])), (fl, .inr (0, [.int (nI n), .long (lN (pk 256 num n)), .int (nI (pk 8 plc q)), .int (nI q), .long (lN (pk 64 (fun k => 8 * sig (2 * k) + sig (2 * k + 1)) c)), .int (nI c)])), (e1, .inr (0, [.int (nI na), .long (lN Na), .int (nI Ra), .int (nI qa), .long (lN Sa), .int (nI ca)])), (e2, .inr (0, [.int (nI nb), .long (lN Nb), .int (nI Rb), .int (nI qb), .long (lN Sb), .int (nI cb)])), (pd, .inr (1, [.ref sg, .int (nI w), .int (nI rb), .int (nI sb)])), (sg, .inl (cI, 60, .inl (aN pad)))]) (w1 := wM mo ma mb mc md me mf mg mh mi mj mk ml mn cI cZ n q c w z_518 ev num plc sig pad row_518 dig far cfr cby que has img kep) hP hD [6, 7, 8, 9, 10, 11, 12, 13, 14, 15, 16, 17, 18, 19] [0, 1, 2, 3, 4, 5] rfl rfl (by decide) (by decide) hk1 hFc hP1 hD1
  have hP := hP.sub (ws' := wLA h fl e1 e2 pd sg cI k1 k2 .null n (pk 256 num n) (pk 8 plc q) q (pk 64 (fun k => 8 * sig (2 * k) + sig (2 * k + 1)) c) c na Na Ra qa Sa ca nb Nb Rb qb Sb cb w rb sb pad mo ma mb mc md me mf mg mh mi mj mk ml mn cZ n q c w z_518 ev num plc sig pad row_518 dig far cfr cby que has img kep) [0, 1, 2, 3, 4, 5, 6, 7, 8, 9, 10, 11, 12, 13, 14, 15, 16, 17, 18, 19] rfl
  have hD := hD.sub (ws' := wLA h fl e1 e2 pd sg cI k1 k2 .null n (pk 256 num n) (pk 8 plc q) q (pk 64 (fun k => 8 * sig (2 * k) + sig (2 * k + 1)) c) c na Na Ra qa Sa ca nb Nb Rb qb Sb cb w rb sb pad mo ma mb mc md me mf mg mh mi mj mk ml mn cZ n q c w z_518 ev num plc sig pad row_518 dig far cfr cby que has img kep) [0, 1, 2, 3, 4, 5, 6, 7, 8, 9, 10, 11, 12, 13, 14, 15, 16, 17, 18, 19] (by decide) rfl
  have hK := va_K.moved (Vm.Alike.refl Gs.vm) hK
  generalize H1 = H at hP hS ⊢
  have hr518 := hw
  subst hr518
  refine lv_icmp_eq (tgt := 774) gx gb dL_law_521 (by decide) (fun c521 => ?_) (fun c521 => ?_)
  · skip
    have hNext := hI
    refine lv_iinc (v := nI (i + 4)) (lv' := [(3, .int (nI (i + 4))), (0, .ref b), (1, .ref h), (2, .ref mo)]) gx gb dL_law_774 hl (k := 3) rfl (nI_add i 4) (by decide) rfl (fun ls hl => ?_)
    refine lv_goto (tgt := 18) gx gb dL_law_777 (by decide) ?_
    exact kk n q c w n q c (pk 256 num n) (pk 8 plc q) (pk 64 (fun k => 8 * sig (2 * k) + sig (2 * k + 1)) c) k1 k2 na Na Ra qa Sa ca nb Nb Rb qb Sb cb rb sb z_518 ev num plc sig pad row_518 dig cfr cby que has img kep far hNext H locs hP hD hS ls (lv_sub hl [1, 2, 3, 0] rfl)
  · skip
    exact absurd rfl c521

set_option maxHeartbeats 4000000 in
set_option maxRecDepth 100000 in
theorem lA_rivals {Gp : Program} {Gl : Launch} {Ge : Env} {Gs : State} {Gm : MethodId} {Gw : List Frame} {Gt : Method} {Gc : Code} {b L : Nat} {xs : Nat → Int32} (hL : L ≤ 256) (C0 : lw_At Gp Gs Gm Gt Gc b L xs) (D : va_G) (cI cJ cZ : ClassId) (A : Nat → Prop) (hA : ∀ q : Nat, Gs.heap.size ≤ q → A q) (hbA : ¬ A b) (hK : va_K D vwCl [(cI, .int), (cJ, .long), (cZ, .boolean)] Gs) (h fl e1 e2 pd sg mo ma mb mc md me mf mg mh mi mj mk ml mn : Nat) (i : Nat) (hi : i + 4 ≤ L) (kk : lwHA Gp Gl Ge Gs Gm Gw Gt Gc b D cI cJ cZ A h fl e1 e2 pd sg mo ma mb mc md me mf mg mh mi mj mk ml mn (i + 4)) (n q c w nX qX cX N R S k1 k2 na Na Ra qa Sa ca nb Nb Rb qb Sb cb rb sb z ev : Nat) (num plc sig pad row dig cfr cby que has img kep : Nat → Nat) (far : Nat → Int32) (hI : lwI num plc sig pad img kep n q c w nX qX cX N R S k1 k2 na Na Ra qa Sa ca nb Nb Rb qb Sb cb) (H : Heap) (locs : List Loc) (hP : va_P D vwCl (wLA h fl e1 e2 pd sg cI k1 k2 .null nX N R qX S cX na Na Ra qa Sa ca nb Nb Rb qb Sb cb w rb sb pad mo ma mb mc md me mf mg mh mi mj mk ml mn cZ n q c w z ev num plc sig pad row dig far cfr cby que has img kep) H) (hD : va_D A (wLA h fl e1 e2 pd sg cI k1 k2 .null nX N R qX S cX na Na Ra qa Sa ca nb Nb Rb qb Sb cb w rb sb pad mo ma mb mc md me mf mg mh mi mj mk ml mn cZ n q c w z ev num plc sig pad row dig far cfr cby que has img kep)) (hS : va_S A Gs.heap H locs) (ls : Array Slot) (hl : lv_has ls 4 [(0, .ref b), (1, .ref h), (2, .ref mo), (3, .int (nI i))]) : W Gp Gl Ge room_1 Gs Gm #[Value.ref b] Gw Gt Gc H locs 20 20499 (lw_Z Gw #[Value.ref b] Gs) (F0 Gm 526 ls []) := by
  obtain ⟨gx, gb, gr, gml, gown0, gts0, hX, hbl, glk, hgv⟩ := id C0
  have gts : ∀ w ∈ wsL_law, w.before #[Value.ref b] Gs = true := fun w h => gts0 w (wsL_law_in w h)
  have gown : Gs.vm.findClass RL = some Gm.cls := gown0
  have hb1 := sX_bd xs (i + 1)
  have hb2 := sX_bd xs (i + 2)
  have hb3 := sX_bd xs (i + 3)
  obtain ⟨⟨⟨hF, hN, hR, hSS⟩, hnX, hqX, hcX⟩, -⟩ := id hI
  subst hN hR hSS hnX hqX hcX
  obtain ⟨-, ⟨hw60, hgp⟩, ⟨hke1, hke2, hk1, hk2⟩, -, -⟩ := id hI
  obtain ⟨hn1, hn7, hq1, hqn, hp, hinj, hnum, hc6, hsg⟩ := id hF
  have hpl6 : ∀ x, x < q → plc x ≤ 6 := fun x hx => by have := hp x hx; omega
  have hnv : ∀ x, x < q → num (plc x) ≤ 99 := fun x hx => hnum _ (hp x hx)
  have hkep : ∀ j, j < 2 → kep j ≤ 1 := fun j hj => by rcases (show j = 0 ∨ j = 1 by omega) with rfl | rfl <;> omega
  have hNw170 := va_Nw.of rfl (gts0 _ in_n170)
  have hNw176 := va_Nw.of rfl (gts0 _ in_n176)
  have hP : va_P D vwCl (wLA h fl e1 e2 pd sg cI k1 k2 .null n (pk 256 num n) (pk 8 plc q) q (pk 64 (fun k => 8 * sig (2 * k) + sig (2 * k + 1)) c) c na Na Ra qa Sa ca nb Nb Rb qb Sb cb w rb sb pad mo ma mb mc md me mf mg mh mi mj mk ml mn cZ n q c w z ev num plc sig pad row dig far cfr cby que has img kep) H := hP
  have hD : va_D A (wLA h fl e1 e2 pd sg cI k1 k2 .null n (pk 256 num n) (pk 8 plc q) q (pk 64 (fun k => 8 * sig (2 * k) + sig (2 * k + 1)) c) c na Na Ra qa Sa ca nb Nb Rb qb Sb cb w rb sb pad mo ma mb mc md me mf mg mh mi mj mk ml mn cZ n q c w z ev num plc sig pad row dig far cfr cby que has img kep) := hD
  have hl : lv_has ls 4 [(0, .ref b), (1, .ref h), (2, .ref mo), (3, .int (nI i))] := hl
  refine lv_aload_n gx gb dL_law_526 rfl (lv_at hl 1 rfl) ?_
  refine lv_aload_n gx gb dL_law_527 rfl (lv_at hl 0 rfl) ?_
  refine lv_iload_n gx gb dL_law_528 rfl (lv_at hl 3 rfl) ?_
  refine lv_iconst (v := nI 1) gx gb dL_law_529 (by decide) ?_
  refine lv_iadd gx gb dL_law_530 ?_
  refine lv_evi (nI (i + 1)) (nI_add i 1) ?_
  refine va_sld gx gb hX hbl hbA hS (vp_in_nI (n := i + 1) (by omega) (by omega)) dL_law_531 ?_
  refine lv_evi (zI (sX xs (i + 1))) (sX_rd xs (by omega)) ?_
  have hPc := hP.sub (ws' := wX h fl e1 e2 pd sg cI k1 k2 .null n (pk 256 num n) (pk 8 plc q) q (pk 64 (fun k => 8 * sig (2 * k) + sig (2 * k + 1)) c) c na Na Ra qa Sa ca nb Nb Rb qb Sb cb w rb sb pad) [0, 1, 2, 3, 4, 5] rfl
  refine vp_callSi (W.runV (As := [.int (zI (sX xs (i + 1)))]) (rest := []) ⟨gx, gb, gml, gown, gts⟩ (kX8_rivals Gl D cI cJ cZ h fl e1 e2 pd sg k1 k2 .null n q (pk 64 (fun k => 8 * sig (2 * k) + sig (2 * k + 1)) c) c na Na Ra qa Sa ca nb Nb Rb qb Sb cb w rb sb pad num plc (sX xs (i + 1)) (by omega) (by omega) (by omega) (by omega) (by omega) (by omega) (by exact hp) (by exact hnum)) (cwV 1 gts gL_law_X8_rivals rfl rfl rfl (by decide +kernel) ⟨Nat.le_of_ble_eq_true rfl, Nat.le_of_ble_eq_true rfl⟩) ⟨fun a U g mk q => by obtain ⟨q0, qP, qK, qN170, qN176⟩ := q; exact ⟨q0, qP, va_K.moved (u := U) (U := U.calling g mk a) (Vm.Alike.refl U.vm) qK, va_Nw.same rfl rfl qN170, va_Nw.same rfl rfl qN176⟩, va_recv hK hPc (ci := 3) (q0 := 0) rfl rfl, fun U hU hW => ⟨rfl, by rw [hU]; exact hPc, va_K.moved hW.alike hK, va_Nw.warmM hW hNw170, va_Nw.warmM hW hNw176⟩⟩ rfl rfl hl.1 rfl (lv_room (Nat.le_of_ble_eq_true rfl)) dL_law_532 ⟨Nat.le_of_ble_eq_true rfl, Nat.le_of_ble_eq_true rfl⟩) (fun r hw => ?_)
  have hr532 := hw
  subst hr532
  refine lv_aload_n gx gb dL_law_535 rfl (lv_at hl 2 rfl) ?_
  refine lv_aload_n gx gb dL_law_536 rfl (lv_at hl 0 rfl) ?_
  refine lv_iload_n gx gb dL_law_537 rfl (lv_at hl 3 rfl) ?_
  refine lv_iconst (v := nI 1) gx gb dL_law_538 (by decide) ?_
  refine lv_iadd gx gb dL_law_539 ?_
  refine lv_evi (nI (i + 1)) (nI_add i 1) ?_
  refine va_sld gx gb hX hbl hbA hS (vp_in_nI (n := i + 1) (by omega) (by omega)) dL_law_540 ?_
  refine lv_evi (zI (sX xs (i + 1))) (sX_rd xs (by omega)) ?_
  have hPc := hP.sub (ws' := wM mo ma mb mc md me mf mg mh mi mj mk ml mn cI cZ n q c w z ev num plc sig pad row dig far cfr cby que has img kep) [6, 7, 8, 9, 10, 11, 12, 13, 14, 15, 16, 17, 18, 19] rfl
  have hDc := hD.sub (ws' := wM mo ma mb mc md me mf mg mh mi mj mk ml mn cI cZ n q c w z ev num plc sig pad row dig far cfr cby que has img kep) [6, 7, 8, 9, 10, 11, 12, 13, 14, 15, 16, 17, 18, 19] (by decide) rfl
  have hFc := va_free (wc := wM mo ma mb mc md me mf mg mh mi mj mk ml mn cI cZ n q c w z ev num plc sig pad row dig far cfr cby que has img kep) hD hS hA [6, 7, 8, 9, 10, 11, 12, 13, 14, 15, 16, 17, 18, 19] rfl
  refine va_calli (va_runV (As := [.int (zI (sX xs (i + 1)))]) (rest := [.int (zI (rivZ (fun x => num (plc x)) q (sX xs (i + 1))))]) ⟨gx, gb, gml, gown, gts⟩ (kX9_rivals Gl D cI cJ cZ mo ma mb mc md me mf mg mh mi mj mk ml mn n q c w z ev num plc sig pad row dig far cfr cby que has img kep _ (sX xs (i + 1)) (by omega) (by omega) (by omega) (by omega) (by omega) (by omega) (by exact hp) (by exact hnum)) (cwV 1 gts gL_law_X9_rivals rfl rfl rfl (by decide +kernel) ⟨Nat.le_of_ble_eq_true rfl, Nat.le_of_ble_eq_true rfl⟩) ⟨fun a U g mk q => by obtain ⟨q0, q1, qP, qK, qD⟩ := q; exact ⟨q0, q1, qP, va_K.moved (u := U) (U := U.calling g mk a) (Vm.Alike.refl U.vm) qK, qD⟩, va_recv hK hPc (ci := 4) (q0 := 0) rfl rfl, fun U hU hW => ⟨rfl, by rw [hU], by rw [hU]; exact hPc, va_K.moved hW.alike hK, hDc.weaken (fun _ _ _ _ => trivial)⟩⟩ rfl rfl hl.1 rfl (lv_room (Nat.le_of_ble_eq_true rfl)) dL_law_541 ⟨Nat.le_of_ble_eq_true rfl, Nat.le_of_ble_eq_true rfl⟩) hS (fun q _ h => hFc q h) hFc (fun r u t H1 locs ht hvm hw hB hz1 hk1 hS => ?_)
  obtain ⟨row_541, z_541, has_541⟩ := u
  obtain ⟨hP1, hK1, hD1⟩ := hB
  rw [ht] at hP1
  try dsimp only at hw
  try dsimp only at hP1
  try dsimp only at hD1
  have hK := va_K.moved hvm.symm hK1
  obtain ⟨hP, hD⟩ := va_join (wr := [(h, .inr (3, [.ref fl, .ref e1, .ref e2, .int (nI k1), .int (nI k2), .ref pd, .null])), (fl, .inr (0, [.int (nI n), .long (lN (pk 256 num n)), .int (nI (pk 8 plc q)), .int (nI q), .long (lN (pk 64 (fun k => 8 * sig (2 * k) + sig (2 * k + 1)) c)), .int (nI c)])), (e1, .inr (0, [.int (nI na), .long (lN Na), .int (nI Ra), .int (nI qa), .long (lN Sa), .int (nI ca)])), (e2, .inr (0, [.int (nI nb), .long (lN Nb), .int (nI Rb), .int (nI qb), .long (lN Sb), .int (nI cb)])), (pd, .inr (1, [.ref sg, .int (nI w), .int (nI rb), .int (nI sb)])), (sg, .inl (cI, 60, .inl (aN pad)))]) (w1 := wM mo ma mb mc md me mf mg mh mi mj mk ml mn cI cZ n q c w z_541 ev num plc sig pad row_541 dig far cfr cby que has_541 img kep) hP hD [6, 7, 8, 9, 10, 11, 12, 13, 14, 15, 16, 17, 18, 19] [0, 1, 2, 3, 4, 5] rfl rfl (by decide) (by decide) hk1 hFc hP1 hD1
  have hP := hP.sub (ws' := wLA h fl e1 e2 pd sg cI k1 k2 .null n (pk 256 num n) (pk 8 plc q) q (pk 64 (fun k => 8 * sig (2 * k) + sig (2 * k + 1)) c) c na Na Ra qa Sa ca nb Nb Rb qb Sb cb w rb sb pad mo ma mb mc md me mf mg mh mi mj mk ml mn cZ n q c w z_541 ev num plc sig pad row_541 dig far cfr cby que has_541 img kep) [0, 1, 2, 3, 4, 5, 6, 7, 8, 9, 10, 11, 12, 13, 14, 15, 16, 17, 18, 19] rfl
  have hD := hD.sub (ws' := wLA h fl e1 e2 pd sg cI k1 k2 .null n (pk 256 num n) (pk 8 plc q) q (pk 64 (fun k => 8 * sig (2 * k) + sig (2 * k + 1)) c) c na Na Ra qa Sa ca nb Nb Rb qb Sb cb w rb sb pad mo ma mb mc md me mf mg mh mi mj mk ml mn cZ n q c w z_541 ev num plc sig pad row_541 dig far cfr cby que has_541 img kep) [0, 1, 2, 3, 4, 5, 6, 7, 8, 9, 10, 11, 12, 13, 14, 15, 16, 17, 18, 19] (by decide) rfl
  have hK := va_K.moved (Vm.Alike.refl Gs.vm) hK
  generalize H1 = H at hP hS ⊢
  have hr541 := hw
  subst hr541
  refine lv_icmp_eq (tgt := 774) gx gb dL_law_544 (by decide) (fun c544 => ?_) (fun c544 => ?_)
  · skip
    have hNext := hI
    refine lv_iinc (v := nI (i + 4)) (lv' := [(3, .int (nI (i + 4))), (0, .ref b), (1, .ref h), (2, .ref mo)]) gx gb dL_law_774 hl (k := 3) rfl (nI_add i 4) (by decide) rfl (fun ls hl => ?_)
    refine lv_goto (tgt := 18) gx gb dL_law_777 (by decide) ?_
    exact kk n q c w n q c (pk 256 num n) (pk 8 plc q) (pk 64 (fun k => 8 * sig (2 * k) + sig (2 * k + 1)) c) k1 k2 na Na Ra qa Sa ca nb Nb Rb qb Sb cb rb sb z_541 ev num plc sig pad row_541 dig cfr cby que has_541 img kep far hNext H locs hP hD hS ls (lv_sub hl [1, 2, 3, 0] rfl)
  · skip
    exact absurd rfl c544

set_option maxHeartbeats 4000000 in
set_option maxRecDepth 100000 in
theorem lA_seen {Gp : Program} {Gl : Launch} {Ge : Env} {Gs : State} {Gm : MethodId} {Gw : List Frame} {Gt : Method} {Gc : Code} {b L : Nat} {xs : Nat → Int32} (hL : L ≤ 256) (C0 : lw_At Gp Gs Gm Gt Gc b L xs) (D : va_G) (cI cJ cZ : ClassId) (A : Nat → Prop) (hA : ∀ q : Nat, Gs.heap.size ≤ q → A q) (hbA : ¬ A b) (hK : va_K D vwCl [(cI, .int), (cJ, .long), (cZ, .boolean)] Gs) (h fl e1 e2 pd sg mo ma mb mc md me mf mg mh mi mj mk ml mn : Nat) (i : Nat) (hi : i + 4 ≤ L) (kk : lwHA Gp Gl Ge Gs Gm Gw Gt Gc b D cI cJ cZ A h fl e1 e2 pd sg mo ma mb mc md me mf mg mh mi mj mk ml mn (i + 4)) (n q c w nX qX cX N R S k1 k2 na Na Ra qa Sa ca nb Nb Rb qb Sb cb rb sb z ev : Nat) (num plc sig pad row dig cfr cby que has img kep : Nat → Nat) (far : Nat → Int32) (hI : lwI num plc sig pad img kep n q c w nX qX cX N R S k1 k2 na Na Ra qa Sa ca nb Nb Rb qb Sb cb) (H : Heap) (locs : List Loc) (hP : va_P D vwCl (wLA h fl e1 e2 pd sg cI k1 k2 .null nX N R qX S cX na Na Ra qa Sa ca nb Nb Rb qb Sb cb w rb sb pad mo ma mb mc md me mf mg mh mi mj mk ml mn cZ n q c w z ev num plc sig pad row dig far cfr cby que has img kep) H) (hD : va_D A (wLA h fl e1 e2 pd sg cI k1 k2 .null nX N R qX S cX na Na Ra qa Sa ca nb Nb Rb qb Sb cb w rb sb pad mo ma mb mc md me mf mg mh mi mj mk ml mn cZ n q c w z ev num plc sig pad row dig far cfr cby que has img kep)) (hS : va_S A Gs.heap H locs) (ls : Array Slot) (hl : lv_has ls 4 [(0, .ref b), (1, .ref h), (2, .ref mo), (3, .int (nI i))]) : W Gp Gl Ge room_1 Gs Gm #[Value.ref b] Gw Gt Gc H locs 20 20499 (lw_Z Gw #[Value.ref b] Gs) (F0 Gm 549 ls []) := by
  obtain ⟨gx, gb, gr, gml, gown0, gts0, hX, hbl, glk, hgv⟩ := id C0
  have gts : ∀ w ∈ wsL_law, w.before #[Value.ref b] Gs = true := fun w h => gts0 w (wsL_law_in w h)
  have gown : Gs.vm.findClass RL = some Gm.cls := gown0
  have hb1 := sX_bd xs (i + 1)
  have hb2 := sX_bd xs (i + 2)
  have hb3 := sX_bd xs (i + 3)
  obtain ⟨⟨⟨hF, hN, hR, hSS⟩, hnX, hqX, hcX⟩, -⟩ := id hI
  subst hN hR hSS hnX hqX hcX
  obtain ⟨-, ⟨hw60, hgp⟩, ⟨hke1, hke2, hk1, hk2⟩, -, -⟩ := id hI
  obtain ⟨hn1, hn7, hq1, hqn, hp, hinj, hnum, hc6, hsg⟩ := id hF
  have hpl6 : ∀ x, x < q → plc x ≤ 6 := fun x hx => by have := hp x hx; omega
  have hnv : ∀ x, x < q → num (plc x) ≤ 99 := fun x hx => hnum _ (hp x hx)
  have hkep : ∀ j, j < 2 → kep j ≤ 1 := fun j hj => by rcases (show j = 0 ∨ j = 1 by omega) with rfl | rfl <;> omega
  have hP : va_P D vwCl (wLA h fl e1 e2 pd sg cI k1 k2 .null n (pk 256 num n) (pk 8 plc q) q (pk 64 (fun k => 8 * sig (2 * k) + sig (2 * k + 1)) c) c na Na Ra qa Sa ca nb Nb Rb qb Sb cb w rb sb pad mo ma mb mc md me mf mg mh mi mj mk ml mn cZ n q c w z ev num plc sig pad row dig far cfr cby que has img kep) H := hP
  have hD : va_D A (wLA h fl e1 e2 pd sg cI k1 k2 .null n (pk 256 num n) (pk 8 plc q) q (pk 64 (fun k => 8 * sig (2 * k) + sig (2 * k + 1)) c) c na Na Ra qa Sa ca nb Nb Rb qb Sb cb w rb sb pad mo ma mb mc md me mf mg mh mi mj mk ml mn cZ n q c w z ev num plc sig pad row dig far cfr cby que has img kep) := hD
  have hl : lv_has ls 4 [(0, .ref b), (1, .ref h), (2, .ref mo), (3, .int (nI i))] := hl
  refine lv_aload_n gx gb dL_law_549 rfl (lv_at hl 1 rfl) ?_
  refine lv_aload_n gx gb dL_law_550 rfl (lv_at hl 0 rfl) ?_
  refine lv_iload_n gx gb dL_law_551 rfl (lv_at hl 3 rfl) ?_
  refine lv_iconst (v := nI 1) gx gb dL_law_552 (by decide) ?_
  refine lv_iadd gx gb dL_law_553 ?_
  refine lv_evi (nI (i + 1)) (nI_add i 1) ?_
  refine va_sld gx gb hX hbl hbA hS (vp_in_nI (n := i + 1) (by omega) (by omega)) dL_law_554 ?_
  refine lv_evi (zI (sX xs (i + 1))) (sX_rd xs (by omega)) ?_
  refine lv_aload_n gx gb dL_law_555 rfl (lv_at hl 0 rfl) ?_
  refine lv_iload_n gx gb dL_law_556 rfl (lv_at hl 3 rfl) ?_
  refine lv_iconst (v := nI 2) gx gb dL_law_557 (by decide) ?_
  refine lv_iadd gx gb dL_law_558 ?_
  refine lv_evi (nI (i + 2)) (nI_add i 2) ?_
  refine va_sld gx gb hX hbl hbA hS (vp_in_nI (n := i + 2) (by omega) (by omega)) dL_law_559 ?_
  refine lv_evi (zI (sX xs (i + 2))) (sX_rd xs (by omega)) ?_
  have hPc := hP.sub (ws' := wX h fl e1 e2 pd sg cI k1 k2 .null n (pk 256 num n) (pk 8 plc q) q (pk 64 (fun k => 8 * sig (2 * k) + sig (2 * k + 1)) c) c na Na Ra qa Sa ca nb Nb Rb qb Sb cb w rb sb pad) [0, 1, 2, 3, 4, 5] rfl
  have hDc := hD.sub (ws' := wX h fl e1 e2 pd sg cI k1 k2 .null n (pk 256 num n) (pk 8 plc q) q (pk 64 (fun k => 8 * sig (2 * k) + sig (2 * k + 1)) c) c na Na Ra qa Sa ca nb Nb Rb qb Sb cb w rb sb pad) [0, 1, 2, 3, 4, 5] (by decide) rfl
  have hFc := va_free (wc := wX h fl e1 e2 pd sg cI k1 k2 .null n (pk 256 num n) (pk 8 plc q) q (pk 64 (fun k => 8 * sig (2 * k) + sig (2 * k + 1)) c) c na Na Ra qa Sa ca nb Nb Rb qb Sb cb w rb sb pad) hD hS hA [0, 1, 2, 3, 4, 5] rfl
  refine va_calli (va_runV (As := [.int (zI (sX xs (i + 1))), .int (zI (sX xs (i + 2)))]) (rest := []) ⟨gx, gb, gml, gown, gts⟩ (kX8_seen Gl D cI cJ cZ h fl e1 e2 pd sg k1 k2 .null n (pk 256 num n) (pk 8 plc q) q (pk 64 (fun k => 8 * sig (2 * k) + sig (2 * k + 1)) c) c na Na Ra qa Sa ca nb Nb Rb qb Sb cb w rb sb pad _ (sX xs (i + 1)) (sX xs (i + 2)) (by omega) (by omega) (by omega) (by omega) (by omega) (by omega)) (cwV 2 gts gL_law_X8_seen rfl rfl rfl (by decide +kernel) ⟨Nat.le_of_ble_eq_true rfl, Nat.le_of_ble_eq_true rfl⟩) ⟨fun a U g mk q => by obtain ⟨q0, q1, qP, qK, qD⟩ := q; exact ⟨q0, q1, qP, va_K.moved (u := U) (U := U.calling g mk a) (Vm.Alike.refl U.vm) qK, qD⟩, va_recv hK hPc (ci := 3) (q0 := 0) rfl rfl, fun U hU hW => ⟨rfl, by rw [hU], by rw [hU]; exact hPc, va_K.moved hW.alike hK, hDc.weaken (fun _ _ _ _ => trivial)⟩⟩ rfl rfl hl.1 rfl (lv_room (Nat.le_of_ble_eq_true rfl)) dL_law_560 ⟨Nat.le_of_ble_eq_true rfl, Nat.le_of_ble_eq_true rfl⟩) hS (fun q _ h => hFc q h) hFc (fun r u t H1 locs ht hvm hw hB hz1 hk1 hS => ?_)
  obtain ⟨hP1, hK1, hD1⟩ := hB
  rw [ht] at hP1
  try dsimp only at hw
  try dsimp only at hP1
  try dsimp only at hD1
  have hK := va_K.moved hvm.symm hK1
  obtain ⟨hP, hD⟩ := va_join (wr := [(mo, .inr (4, [.int (nI n), .int (nI q), .ref ma, .ref mb, .int (nI c), .ref mc, .int (nI w), .ref md, .ref me, .int (nI z), .int (nI ev), .ref mf, .ref mg, .ref mh, .ref mi, .ref mj, .ref mk, .ref ml, .ref mn])), (ma, .inl (cI, 7, .inl (aN num))), (mb, .inl (cI, 7, .inl (aN plc))), (mc, .inl (cI, 12, .inl (aN sig))), (md, .inl (cI, 60, .inl (aN pad))), (me, .inl (cI, 8, .inl (aN row))), (mf, .inl (cI, 7, .inl (aN dig))), (mg, .inl (cI, 5040, .inl far)), (mh, .inl (cI, 5040, .inl (aN cfr))), (mi, .inl (cI, 5040, .inl (aN cby))), (mj, .inl (cI, 5040, .inl (aN que))), (mk, .inl (cI, 64, .inl (aN has))), (ml, .inl (cI, 64, .inl (aN img))), (mn, .inl (cZ, 2, .inl (aN kep)))]) (w1 := wX h fl e1 e2 pd sg cI k1 k2 .null n (pk 256 num n) (pk 8 plc q) q (if (0 ≤ (sX xs (i + 1)) ∧ (sX xs (i + 1)) < n) ∧ (0 ≤ (sX xs (i + 2)) ∧ (sX xs (i + 2)) ≤ 6) ∧ c < 6 then (pk 64 (fun k => 8 * sig (2 * k) + sig (2 * k + 1)) c) ||| (8 * (sX xs (i + 1)).toNat + (sX xs (i + 2)).toNat) * 2 ^ (6 * c) else (pk 64 (fun k => 8 * sig (2 * k) + sig (2 * k + 1)) c)) (if (0 ≤ (sX xs (i + 1)) ∧ (sX xs (i + 1)) < n) ∧ (0 ≤ (sX xs (i + 2)) ∧ (sX xs (i + 2)) ≤ 6) ∧ c < 6 then c + 1 else c) na Na Ra qa Sa ca nb Nb Rb qb Sb cb w rb sb pad) hP hD [0, 1, 2, 3, 4, 5] [6, 7, 8, 9, 10, 11, 12, 13, 14, 15, 16, 17, 18, 19] rfl rfl (by decide) (by decide) hk1 hFc hP1 hD1
  have hP := hP.sub (ws' := wLA h fl e1 e2 pd sg cI k1 k2 .null n (pk 256 num n) (pk 8 plc q) q (if (0 ≤ (sX xs (i + 1)) ∧ (sX xs (i + 1)) < n) ∧ (0 ≤ (sX xs (i + 2)) ∧ (sX xs (i + 2)) ≤ 6) ∧ c < 6 then (pk 64 (fun k => 8 * sig (2 * k) + sig (2 * k + 1)) c) ||| (8 * (sX xs (i + 1)).toNat + (sX xs (i + 2)).toNat) * 2 ^ (6 * c) else (pk 64 (fun k => 8 * sig (2 * k) + sig (2 * k + 1)) c)) (if (0 ≤ (sX xs (i + 1)) ∧ (sX xs (i + 1)) < n) ∧ (0 ≤ (sX xs (i + 2)) ∧ (sX xs (i + 2)) ≤ 6) ∧ c < 6 then c + 1 else c) na Na Ra qa Sa ca nb Nb Rb qb Sb cb w rb sb pad mo ma mb mc md me mf mg mh mi mj mk ml mn cZ n q c w z ev num plc sig pad row dig far cfr cby que has img kep) [14, 15, 16, 17, 18, 19, 0, 1, 2, 3, 4, 5, 6, 7, 8, 9, 10, 11, 12, 13] rfl
  have hD := hD.sub (ws' := wLA h fl e1 e2 pd sg cI k1 k2 .null n (pk 256 num n) (pk 8 plc q) q (if (0 ≤ (sX xs (i + 1)) ∧ (sX xs (i + 1)) < n) ∧ (0 ≤ (sX xs (i + 2)) ∧ (sX xs (i + 2)) ≤ 6) ∧ c < 6 then (pk 64 (fun k => 8 * sig (2 * k) + sig (2 * k + 1)) c) ||| (8 * (sX xs (i + 1)).toNat + (sX xs (i + 2)).toNat) * 2 ^ (6 * c) else (pk 64 (fun k => 8 * sig (2 * k) + sig (2 * k + 1)) c)) (if (0 ≤ (sX xs (i + 1)) ∧ (sX xs (i + 1)) < n) ∧ (0 ≤ (sX xs (i + 2)) ∧ (sX xs (i + 2)) ≤ 6) ∧ c < 6 then c + 1 else c) na Na Ra qa Sa ca nb Nb Rb qb Sb cb w rb sb pad mo ma mb mc md me mf mg mh mi mj mk ml mn cZ n q c w z ev num plc sig pad row dig far cfr cby que has img kep) [14, 15, 16, 17, 18, 19, 0, 1, 2, 3, 4, 5, 6, 7, 8, 9, 10, 11, 12, 13] (by decide) rfl
  have hK := va_K.moved (Vm.Alike.refl Gs.vm) hK
  generalize H1 = H at hP hS ⊢
  have hr560 := hw
  subst hr560
  refine lv_aload_n gx gb dL_law_563 rfl (lv_at hl 2 rfl) ?_
  refine lv_aload_n gx gb dL_law_564 rfl (lv_at hl 0 rfl) ?_
  refine lv_iload_n gx gb dL_law_565 rfl (lv_at hl 3 rfl) ?_
  refine lv_iconst (v := nI 1) gx gb dL_law_566 (by decide) ?_
  refine lv_iadd gx gb dL_law_567 ?_
  refine lv_evi (nI (i + 1)) (nI_add i 1) ?_
  refine va_sld gx gb hX hbl hbA hS (vp_in_nI (n := i + 1) (by omega) (by omega)) dL_law_568 ?_
  refine lv_evi (zI (sX xs (i + 1))) (sX_rd xs (by omega)) ?_
  refine lv_aload_n gx gb dL_law_569 rfl (lv_at hl 0 rfl) ?_
  refine lv_iload_n gx gb dL_law_570 rfl (lv_at hl 3 rfl) ?_
  refine lv_iconst (v := nI 2) gx gb dL_law_571 (by decide) ?_
  refine lv_iadd gx gb dL_law_572 ?_
  refine lv_evi (nI (i + 2)) (nI_add i 2) ?_
  refine va_sld gx gb hX hbl hbA hS (vp_in_nI (n := i + 2) (by omega) (by omega)) dL_law_573 ?_
  refine lv_evi (zI (sX xs (i + 2))) (sX_rd xs (by omega)) ?_
  have hPc := hP.sub (ws' := wM mo ma mb mc md me mf mg mh mi mj mk ml mn cI cZ n q c w z ev num plc sig pad row dig far cfr cby que has img kep) [6, 7, 8, 9, 10, 11, 12, 13, 14, 15, 16, 17, 18, 19] rfl
  have hDc := hD.sub (ws' := wM mo ma mb mc md me mf mg mh mi mj mk ml mn cI cZ n q c w z ev num plc sig pad row dig far cfr cby que has img kep) [6, 7, 8, 9, 10, 11, 12, 13, 14, 15, 16, 17, 18, 19] (by decide) rfl
  have hFc := va_free (wc := wM mo ma mb mc md me mf mg mh mi mj mk ml mn cI cZ n q c w z ev num plc sig pad row dig far cfr cby que has img kep) hD hS hA [6, 7, 8, 9, 10, 11, 12, 13, 14, 15, 16, 17, 18, 19] rfl
  refine va_calli (va_runV (As := [.int (zI (sX xs (i + 1))), .int (zI (sX xs (i + 2)))]) (rest := [.int (zI (seeZ n c (sX xs (i + 1)) (sX xs (i + 2))))]) ⟨gx, gb, gml, gown, gts⟩ (kX9_seen Gl D cI cJ cZ mo ma mb mc md me mf mg mh mi mj mk ml mn n q c w z ev num plc sig pad row dig far cfr cby que has img kep _ (sX xs (i + 1)) (sX xs (i + 2)) (by omega) (by omega) (by omega) (by omega) (by omega) (by omega) (by omega) (by omega) (by omega)) (cwV 2 gts gL_law_X9_seen rfl rfl rfl (by decide +kernel) ⟨Nat.le_of_ble_eq_true rfl, Nat.le_of_ble_eq_true rfl⟩) ⟨fun a U g mk q => by obtain ⟨q0, q1, qP, qK, qD⟩ := q; exact ⟨q0, q1, qP, va_K.moved (u := U) (U := U.calling g mk a) (Vm.Alike.refl U.vm) qK, qD⟩, va_recv hK hPc (ci := 4) (q0 := 0) rfl rfl, fun U hU hW => ⟨rfl, by rw [hU], by rw [hU]; exact hPc, va_K.moved hW.alike hK, hDc.weaken (fun _ _ _ _ => trivial)⟩⟩ rfl rfl hl.1 rfl (lv_room (Nat.le_of_ble_eq_true rfl)) dL_law_574 ⟨Nat.le_of_ble_eq_true rfl, Nat.le_of_ble_eq_true rfl⟩) hS (fun q _ h => hFc q h) hFc (fun r u t H1 locs ht hvm hw hB hz1 hk1 hS => ?_)
  obtain ⟨hP1, hK1, hD1⟩ := hB
  rw [ht] at hP1
  try dsimp only at hw
  try dsimp only at hP1
  try dsimp only at hD1
  have hK := va_K.moved hvm.symm hK1
  obtain ⟨hP, hD⟩ := va_join (wr := [(h, .inr (3, [.ref fl, .ref e1, .ref e2, .int (nI k1), .int (nI k2), .ref pd, .null])), (fl, .inr (0, [.int (nI n), .long (lN (pk 256 num n)), .int (nI (pk 8 plc q)), .int (nI q), .long (lN (if (0 ≤ (sX xs (i + 1)) ∧ (sX xs (i + 1)) < n) ∧ (0 ≤ (sX xs (i + 2)) ∧ (sX xs (i + 2)) ≤ 6) ∧ c < 6 then (pk 64 (fun k => 8 * sig (2 * k) + sig (2 * k + 1)) c) ||| (8 * (sX xs (i + 1)).toNat + (sX xs (i + 2)).toNat) * 2 ^ (6 * c) else (pk 64 (fun k => 8 * sig (2 * k) + sig (2 * k + 1)) c))), .int (nI (if (0 ≤ (sX xs (i + 1)) ∧ (sX xs (i + 1)) < n) ∧ (0 ≤ (sX xs (i + 2)) ∧ (sX xs (i + 2)) ≤ 6) ∧ c < 6 then c + 1 else c))])), (e1, .inr (0, [.int (nI na), .long (lN Na), .int (nI Ra), .int (nI qa), .long (lN Sa), .int (nI ca)])), (e2, .inr (0, [.int (nI nb), .long (lN Nb), .int (nI Rb), .int (nI qb), .long (lN Sb), .int (nI cb)])), (pd, .inr (1, [.ref sg, .int (nI w), .int (nI rb), .int (nI sb)])), (sg, .inl (cI, 60, .inl (aN pad)))]) (w1 := wM mo ma mb mc md me mf mg mh mi mj mk ml mn cI cZ n q (if (0 ≤ (sX xs (i + 1)) ∧ (sX xs (i + 1)) < n) ∧ (0 ≤ (sX xs (i + 2)) ∧ (sX xs (i + 2)) ≤ 6) ∧ c < 6 then c + 1 else c) w z ev num plc (if (0 ≤ (sX xs (i + 1)) ∧ (sX xs (i + 1)) < n) ∧ (0 ≤ (sX xs (i + 2)) ∧ (sX xs (i + 2)) ≤ 6) ∧ c < 6 then up (up sig (2 * c) (sX xs (i + 1)).toNat) (2 * c + 1) (sX xs (i + 2)).toNat else sig) pad row dig far cfr cby que has img kep) hP hD [6, 7, 8, 9, 10, 11, 12, 13, 14, 15, 16, 17, 18, 19] [0, 1, 2, 3, 4, 5] rfl rfl (by decide) (by decide) hk1 hFc hP1 hD1
  have hP := hP.sub (ws' := wLA h fl e1 e2 pd sg cI k1 k2 .null n (pk 256 num n) (pk 8 plc q) q (if (0 ≤ (sX xs (i + 1)) ∧ (sX xs (i + 1)) < n) ∧ (0 ≤ (sX xs (i + 2)) ∧ (sX xs (i + 2)) ≤ 6) ∧ c < 6 then (pk 64 (fun k => 8 * sig (2 * k) + sig (2 * k + 1)) c) ||| (8 * (sX xs (i + 1)).toNat + (sX xs (i + 2)).toNat) * 2 ^ (6 * c) else (pk 64 (fun k => 8 * sig (2 * k) + sig (2 * k + 1)) c)) (if (0 ≤ (sX xs (i + 1)) ∧ (sX xs (i + 1)) < n) ∧ (0 ≤ (sX xs (i + 2)) ∧ (sX xs (i + 2)) ≤ 6) ∧ c < 6 then c + 1 else c) na Na Ra qa Sa ca nb Nb Rb qb Sb cb w rb sb pad mo ma mb mc md me mf mg mh mi mj mk ml mn cZ n q (if (0 ≤ (sX xs (i + 1)) ∧ (sX xs (i + 1)) < n) ∧ (0 ≤ (sX xs (i + 2)) ∧ (sX xs (i + 2)) ≤ 6) ∧ c < 6 then c + 1 else c) w z ev num plc (if (0 ≤ (sX xs (i + 1)) ∧ (sX xs (i + 1)) < n) ∧ (0 ≤ (sX xs (i + 2)) ∧ (sX xs (i + 2)) ≤ 6) ∧ c < 6 then up (up sig (2 * c) (sX xs (i + 1)).toNat) (2 * c + 1) (sX xs (i + 2)).toNat else sig) pad row dig far cfr cby que has img kep) [0, 1, 2, 3, 4, 5, 6, 7, 8, 9, 10, 11, 12, 13, 14, 15, 16, 17, 18, 19] rfl
  have hD := hD.sub (ws' := wLA h fl e1 e2 pd sg cI k1 k2 .null n (pk 256 num n) (pk 8 plc q) q (if (0 ≤ (sX xs (i + 1)) ∧ (sX xs (i + 1)) < n) ∧ (0 ≤ (sX xs (i + 2)) ∧ (sX xs (i + 2)) ≤ 6) ∧ c < 6 then (pk 64 (fun k => 8 * sig (2 * k) + sig (2 * k + 1)) c) ||| (8 * (sX xs (i + 1)).toNat + (sX xs (i + 2)).toNat) * 2 ^ (6 * c) else (pk 64 (fun k => 8 * sig (2 * k) + sig (2 * k + 1)) c)) (if (0 ≤ (sX xs (i + 1)) ∧ (sX xs (i + 1)) < n) ∧ (0 ≤ (sX xs (i + 2)) ∧ (sX xs (i + 2)) ≤ 6) ∧ c < 6 then c + 1 else c) na Na Ra qa Sa ca nb Nb Rb qb Sb cb w rb sb pad mo ma mb mc md me mf mg mh mi mj mk ml mn cZ n q (if (0 ≤ (sX xs (i + 1)) ∧ (sX xs (i + 1)) < n) ∧ (0 ≤ (sX xs (i + 2)) ∧ (sX xs (i + 2)) ≤ 6) ∧ c < 6 then c + 1 else c) w z ev num plc (if (0 ≤ (sX xs (i + 1)) ∧ (sX xs (i + 1)) < n) ∧ (0 ≤ (sX xs (i + 2)) ∧ (sX xs (i + 2)) ≤ 6) ∧ c < 6 then up (up sig (2 * c) (sX xs (i + 1)).toNat) (2 * c + 1) (sX xs (i + 2)).toNat else sig) pad row dig far cfr cby que has img kep) [0, 1, 2, 3, 4, 5, 6, 7, 8, 9, 10, 11, 12, 13, 14, 15, 16, 17, 18, 19] (by decide) rfl
  have hK := va_K.moved (Vm.Alike.refl Gs.vm) hK
  generalize H1 = H at hP hS ⊢
  have hr574 := hw
  subst hr574
  refine lv_icmp_eq (tgt := 774) gx gb dL_law_577 (by decide) (fun c577 => ?_) (fun c577 => ?_)
  · skip
    have hNext := lw_seen hI (sX xs (i + 1)) (sX xs (i + 2))
    refine lv_iinc (v := nI (i + 4)) (lv' := [(3, .int (nI (i + 4))), (0, .ref b), (1, .ref h), (2, .ref mo)]) gx gb dL_law_774 hl (k := 3) rfl (nI_add i 4) (by decide) rfl (fun ls hl => ?_)
    refine lv_goto (tgt := 18) gx gb dL_law_777 (by decide) ?_
    exact kk n q (if (0 ≤ (sX xs (i + 1)) ∧ (sX xs (i + 1)) < n) ∧ (0 ≤ (sX xs (i + 2)) ∧ (sX xs (i + 2)) ≤ 6) ∧ c < 6 then c + 1 else c) w n q (if (0 ≤ (sX xs (i + 1)) ∧ (sX xs (i + 1)) < n) ∧ (0 ≤ (sX xs (i + 2)) ∧ (sX xs (i + 2)) ≤ 6) ∧ c < 6 then c + 1 else c) (pk 256 num n) (pk 8 plc q) (if (0 ≤ (sX xs (i + 1)) ∧ (sX xs (i + 1)) < n) ∧ (0 ≤ (sX xs (i + 2)) ∧ (sX xs (i + 2)) ≤ 6) ∧ c < 6 then (pk 64 (fun k => 8 * sig (2 * k) + sig (2 * k + 1)) c) ||| (8 * (sX xs (i + 1)).toNat + (sX xs (i + 2)).toNat) * 2 ^ (6 * c) else (pk 64 (fun k => 8 * sig (2 * k) + sig (2 * k + 1)) c)) k1 k2 na Na Ra qa Sa ca nb Nb Rb qb Sb cb rb sb z ev num plc (if (0 ≤ (sX xs (i + 1)) ∧ (sX xs (i + 1)) < n) ∧ (0 ≤ (sX xs (i + 2)) ∧ (sX xs (i + 2)) ≤ 6) ∧ c < 6 then up (up sig (2 * c) (sX xs (i + 1)).toNat) (2 * c + 1) (sX xs (i + 2)).toNat else sig) pad row dig cfr cby que has img kep far hNext H locs hP hD hS ls (lv_sub hl [1, 2, 3, 0] rfl)
  · skip
    exact absurd rfl c577

set_option maxHeartbeats 4000000 in
set_option maxRecDepth 100000 in
theorem lA_forget {Gp : Program} {Gl : Launch} {Ge : Env} {Gs : State} {Gm : MethodId} {Gw : List Frame} {Gt : Method} {Gc : Code} {b L : Nat} {xs : Nat → Int32} (hL : L ≤ 256) (C0 : lw_At Gp Gs Gm Gt Gc b L xs) (D : va_G) (cI cJ cZ : ClassId) (A : Nat → Prop) (hA : ∀ q : Nat, Gs.heap.size ≤ q → A q) (hbA : ¬ A b) (hK : va_K D vwCl [(cI, .int), (cJ, .long), (cZ, .boolean)] Gs) (h fl e1 e2 pd sg mo ma mb mc md me mf mg mh mi mj mk ml mn : Nat) (i : Nat) (hi : i + 4 ≤ L) (kk : lwHA Gp Gl Ge Gs Gm Gw Gt Gc b D cI cJ cZ A h fl e1 e2 pd sg mo ma mb mc md me mf mg mh mi mj mk ml mn (i + 4)) (n q c w nX qX cX N R S k1 k2 na Na Ra qa Sa ca nb Nb Rb qb Sb cb rb sb z ev : Nat) (num plc sig pad row dig cfr cby que has img kep : Nat → Nat) (far : Nat → Int32) (hI : lwI num plc sig pad img kep n q c w nX qX cX N R S k1 k2 na Na Ra qa Sa ca nb Nb Rb qb Sb cb) (H : Heap) (locs : List Loc) (hP : va_P D vwCl (wLA h fl e1 e2 pd sg cI k1 k2 .null nX N R qX S cX na Na Ra qa Sa ca nb Nb Rb qb Sb cb w rb sb pad mo ma mb mc md me mf mg mh mi mj mk ml mn cZ n q c w z ev num plc sig pad row dig far cfr cby que has img kep) H) (hD : va_D A (wLA h fl e1 e2 pd sg cI k1 k2 .null nX N R qX S cX na Na Ra qa Sa ca nb Nb Rb qb Sb cb w rb sb pad mo ma mb mc md me mf mg mh mi mj mk ml mn cZ n q c w z ev num plc sig pad row dig far cfr cby que has img kep)) (hS : va_S A Gs.heap H locs) (ls : Array Slot) (hl : lv_has ls 4 [(0, .ref b), (1, .ref h), (2, .ref mo), (3, .int (nI i))]) : W Gp Gl Ge room_1 Gs Gm #[Value.ref b] Gw Gt Gc H locs 20 20499 (lw_Z Gw #[Value.ref b] Gs) (F0 Gm 582 ls []) := by
  obtain ⟨gx, gb, gr, gml, gown0, gts0, hX, hbl, glk, hgv⟩ := id C0
  have gts : ∀ w ∈ wsL_law, w.before #[Value.ref b] Gs = true := fun w h => gts0 w (wsL_law_in w h)
  have gown : Gs.vm.findClass RL = some Gm.cls := gown0
  have hb1 := sX_bd xs (i + 1)
  have hb2 := sX_bd xs (i + 2)
  have hb3 := sX_bd xs (i + 3)
  obtain ⟨⟨⟨hF, hN, hR, hSS⟩, hnX, hqX, hcX⟩, -⟩ := id hI
  subst hN hR hSS hnX hqX hcX
  obtain ⟨-, ⟨hw60, hgp⟩, ⟨hke1, hke2, hk1, hk2⟩, -, -⟩ := id hI
  obtain ⟨hn1, hn7, hq1, hqn, hp, hinj, hnum, hc6, hsg⟩ := id hF
  have hpl6 : ∀ x, x < q → plc x ≤ 6 := fun x hx => by have := hp x hx; omega
  have hnv : ∀ x, x < q → num (plc x) ≤ 99 := fun x hx => hnum _ (hp x hx)
  have hkep : ∀ j, j < 2 → kep j ≤ 1 := fun j hj => by rcases (show j = 0 ∨ j = 1 by omega) with rfl | rfl <;> omega
  have hP : va_P D vwCl (wLA h fl e1 e2 pd sg cI k1 k2 .null n (pk 256 num n) (pk 8 plc q) q (pk 64 (fun k => 8 * sig (2 * k) + sig (2 * k + 1)) c) c na Na Ra qa Sa ca nb Nb Rb qb Sb cb w rb sb pad mo ma mb mc md me mf mg mh mi mj mk ml mn cZ n q c w z ev num plc sig pad row dig far cfr cby que has img kep) H := hP
  have hD : va_D A (wLA h fl e1 e2 pd sg cI k1 k2 .null n (pk 256 num n) (pk 8 plc q) q (pk 64 (fun k => 8 * sig (2 * k) + sig (2 * k + 1)) c) c na Na Ra qa Sa ca nb Nb Rb qb Sb cb w rb sb pad mo ma mb mc md me mf mg mh mi mj mk ml mn cZ n q c w z ev num plc sig pad row dig far cfr cby que has img kep) := hD
  have hl : lv_has ls 4 [(0, .ref b), (1, .ref h), (2, .ref mo), (3, .int (nI i))] := hl
  refine lv_aload_n gx gb dL_law_582 rfl (lv_at hl 1 rfl) ?_
  have hPc := hP.sub (ws' := wX h fl e1 e2 pd sg cI k1 k2 .null n (pk 256 num n) (pk 8 plc q) q (pk 64 (fun k => 8 * sig (2 * k) + sig (2 * k + 1)) c) c na Na Ra qa Sa ca nb Nb Rb qb Sb cb w rb sb pad) [0, 1, 2, 3, 4, 5] rfl
  have hDc := hD.sub (ws' := wX h fl e1 e2 pd sg cI k1 k2 .null n (pk 256 num n) (pk 8 plc q) q (pk 64 (fun k => 8 * sig (2 * k) + sig (2 * k + 1)) c) c na Na Ra qa Sa ca nb Nb Rb qb Sb cb w rb sb pad) [0, 1, 2, 3, 4, 5] (by decide) rfl
  have hFc := va_free (wc := wX h fl e1 e2 pd sg cI k1 k2 .null n (pk 256 num n) (pk 8 plc q) q (pk 64 (fun k => 8 * sig (2 * k) + sig (2 * k + 1)) c) c na Na Ra qa Sa ca nb Nb Rb qb Sb cb w rb sb pad) hD hS hA [0, 1, 2, 3, 4, 5] rfl
  refine va_calli (va_runV (As := []) (rest := []) ⟨gx, gb, gml, gown, gts⟩ (kX8_forget Gl D cI cJ cZ h fl e1 e2 pd sg k1 k2 .null n (pk 256 num n) (pk 8 plc q) q (pk 64 (fun k => 8 * sig (2 * k) + sig (2 * k + 1)) c) c na Na Ra qa Sa ca nb Nb Rb qb Sb cb w rb sb pad _  ) (cwV 0 gts gL_law_X8_forget rfl rfl rfl (by decide +kernel) ⟨Nat.le_of_ble_eq_true rfl, Nat.le_of_ble_eq_true rfl⟩) ⟨fun a U g mk q => by obtain ⟨q0, q1, qP, qK, qD⟩ := q; exact ⟨q0, q1, qP, va_K.moved (u := U) (U := U.calling g mk a) (Vm.Alike.refl U.vm) qK, qD⟩, va_recv hK hPc (ci := 3) (q0 := 0) rfl rfl, fun U hU hW => ⟨rfl, by rw [hU], by rw [hU]; exact hPc, va_K.moved hW.alike hK, hDc.weaken (fun _ _ _ _ => trivial)⟩⟩ rfl rfl hl.1 rfl (lv_room (Nat.le_of_ble_eq_true rfl)) dL_law_583 ⟨Nat.le_of_ble_eq_true rfl, Nat.le_of_ble_eq_true rfl⟩) hS (fun q _ h => hFc q h) hFc (fun r u t H1 locs ht hvm hw hB hz1 hk1 hS => ?_)
  obtain ⟨hP1, hK1, hD1⟩ := hB
  rw [ht] at hP1
  try dsimp only at hw
  try dsimp only at hP1
  try dsimp only at hD1
  have hK := va_K.moved hvm.symm hK1
  obtain ⟨hP, hD⟩ := va_join (wr := [(mo, .inr (4, [.int (nI n), .int (nI q), .ref ma, .ref mb, .int (nI c), .ref mc, .int (nI w), .ref md, .ref me, .int (nI z), .int (nI ev), .ref mf, .ref mg, .ref mh, .ref mi, .ref mj, .ref mk, .ref ml, .ref mn])), (ma, .inl (cI, 7, .inl (aN num))), (mb, .inl (cI, 7, .inl (aN plc))), (mc, .inl (cI, 12, .inl (aN sig))), (md, .inl (cI, 60, .inl (aN pad))), (me, .inl (cI, 8, .inl (aN row))), (mf, .inl (cI, 7, .inl (aN dig))), (mg, .inl (cI, 5040, .inl far)), (mh, .inl (cI, 5040, .inl (aN cfr))), (mi, .inl (cI, 5040, .inl (aN cby))), (mj, .inl (cI, 5040, .inl (aN que))), (mk, .inl (cI, 64, .inl (aN has))), (ml, .inl (cI, 64, .inl (aN img))), (mn, .inl (cZ, 2, .inl (aN kep)))]) (w1 := wX h fl e1 e2 pd sg cI k1 k2 .null n (pk 256 num n) (pk 8 plc q) q 0 0 na Na Ra qa Sa ca nb Nb Rb qb Sb cb w rb sb pad) hP hD [0, 1, 2, 3, 4, 5] [6, 7, 8, 9, 10, 11, 12, 13, 14, 15, 16, 17, 18, 19] rfl rfl (by decide) (by decide) hk1 hFc hP1 hD1
  have hP := hP.sub (ws' := wLA h fl e1 e2 pd sg cI k1 k2 .null n (pk 256 num n) (pk 8 plc q) q 0 0 na Na Ra qa Sa ca nb Nb Rb qb Sb cb w rb sb pad mo ma mb mc md me mf mg mh mi mj mk ml mn cZ n q c w z ev num plc sig pad row dig far cfr cby que has img kep) [14, 15, 16, 17, 18, 19, 0, 1, 2, 3, 4, 5, 6, 7, 8, 9, 10, 11, 12, 13] rfl
  have hD := hD.sub (ws' := wLA h fl e1 e2 pd sg cI k1 k2 .null n (pk 256 num n) (pk 8 plc q) q 0 0 na Na Ra qa Sa ca nb Nb Rb qb Sb cb w rb sb pad mo ma mb mc md me mf mg mh mi mj mk ml mn cZ n q c w z ev num plc sig pad row dig far cfr cby que has img kep) [14, 15, 16, 17, 18, 19, 0, 1, 2, 3, 4, 5, 6, 7, 8, 9, 10, 11, 12, 13] (by decide) rfl
  have hK := va_K.moved (Vm.Alike.refl Gs.vm) hK
  generalize H1 = H at hP hS ⊢
  have hr583 := hw
  subst hr583
  refine lv_aload_n gx gb dL_law_586 rfl (lv_at hl 2 rfl) ?_
  have hPc := hP.sub (ws' := wM mo ma mb mc md me mf mg mh mi mj mk ml mn cI cZ n q c w z ev num plc sig pad row dig far cfr cby que has img kep) [6, 7, 8, 9, 10, 11, 12, 13, 14, 15, 16, 17, 18, 19] rfl
  have hDc := hD.sub (ws' := wM mo ma mb mc md me mf mg mh mi mj mk ml mn cI cZ n q c w z ev num plc sig pad row dig far cfr cby que has img kep) [6, 7, 8, 9, 10, 11, 12, 13, 14, 15, 16, 17, 18, 19] (by decide) rfl
  have hFc := va_free (wc := wM mo ma mb mc md me mf mg mh mi mj mk ml mn cI cZ n q c w z ev num plc sig pad row dig far cfr cby que has img kep) hD hS hA [6, 7, 8, 9, 10, 11, 12, 13, 14, 15, 16, 17, 18, 19] rfl
  refine va_calli (va_runV (As := []) (rest := [.int (nI c)]) ⟨gx, gb, gml, gown, gts⟩ (kX9_forget Gl D cI cJ cZ mo ma mb mc md me mf mg mh mi mj mk ml mn n q c w z ev num plc sig pad row dig far cfr cby que has img kep _  ) (cwV 0 gts gL_law_X9_forget rfl rfl rfl (by decide +kernel) ⟨Nat.le_of_ble_eq_true rfl, Nat.le_of_ble_eq_true rfl⟩) ⟨fun a U g mk q => by obtain ⟨q0, q1, qP, qK, qD⟩ := q; exact ⟨q0, q1, qP, va_K.moved (u := U) (U := U.calling g mk a) (Vm.Alike.refl U.vm) qK, qD⟩, va_recv hK hPc (ci := 4) (q0 := 0) rfl rfl, fun U hU hW => ⟨rfl, by rw [hU], by rw [hU]; exact hPc, va_K.moved hW.alike hK, hDc.weaken (fun _ _ _ _ => trivial)⟩⟩ rfl rfl hl.1 rfl (lv_room (Nat.le_of_ble_eq_true rfl)) dL_law_587 ⟨Nat.le_of_ble_eq_true rfl, Nat.le_of_ble_eq_true rfl⟩) hS (fun q _ h => hFc q h) hFc (fun r u t H1 locs ht hvm hw hB hz1 hk1 hS => ?_)
  obtain ⟨hP1, hK1, hD1⟩ := hB
  rw [ht] at hP1
  try dsimp only at hw
  try dsimp only at hP1
  try dsimp only at hD1
  have hK := va_K.moved hvm.symm hK1
  obtain ⟨hP, hD⟩ := va_join (wr := [(h, .inr (3, [.ref fl, .ref e1, .ref e2, .int (nI k1), .int (nI k2), .ref pd, .null])), (fl, .inr (0, [.int (nI n), .long (lN (pk 256 num n)), .int (nI (pk 8 plc q)), .int (nI q), .long (lN 0), .int (nI 0)])), (e1, .inr (0, [.int (nI na), .long (lN Na), .int (nI Ra), .int (nI qa), .long (lN Sa), .int (nI ca)])), (e2, .inr (0, [.int (nI nb), .long (lN Nb), .int (nI Rb), .int (nI qb), .long (lN Sb), .int (nI cb)])), (pd, .inr (1, [.ref sg, .int (nI w), .int (nI rb), .int (nI sb)])), (sg, .inl (cI, 60, .inl (aN pad)))]) (w1 := wM mo ma mb mc md me mf mg mh mi mj mk ml mn cI cZ n q 0 w z ev num plc sig pad row dig far cfr cby que has img kep) hP hD [6, 7, 8, 9, 10, 11, 12, 13, 14, 15, 16, 17, 18, 19] [0, 1, 2, 3, 4, 5] rfl rfl (by decide) (by decide) hk1 hFc hP1 hD1
  have hP := hP.sub (ws' := wLA h fl e1 e2 pd sg cI k1 k2 .null n (pk 256 num n) (pk 8 plc q) q 0 0 na Na Ra qa Sa ca nb Nb Rb qb Sb cb w rb sb pad mo ma mb mc md me mf mg mh mi mj mk ml mn cZ n q 0 w z ev num plc sig pad row dig far cfr cby que has img kep) [0, 1, 2, 3, 4, 5, 6, 7, 8, 9, 10, 11, 12, 13, 14, 15, 16, 17, 18, 19] rfl
  have hD := hD.sub (ws' := wLA h fl e1 e2 pd sg cI k1 k2 .null n (pk 256 num n) (pk 8 plc q) q 0 0 na Na Ra qa Sa ca nb Nb Rb qb Sb cb w rb sb pad mo ma mb mc md me mf mg mh mi mj mk ml mn cZ n q 0 w z ev num plc sig pad row dig far cfr cby que has img kep) [0, 1, 2, 3, 4, 5, 6, 7, 8, 9, 10, 11, 12, 13, 14, 15, 16, 17, 18, 19] (by decide) rfl
  have hK := va_K.moved (Vm.Alike.refl Gs.vm) hK
  generalize H1 = H at hP hS ⊢
  have hr587 := hw
  subst hr587
  refine lv_icmp_eq (tgt := 774) gx gb dL_law_590 (by decide) (fun c590 => ?_) (fun c590 => ?_)
  · skip
    have hNext := lw_forget hI
    refine lv_iinc (v := nI (i + 4)) (lv' := [(3, .int (nI (i + 4))), (0, .ref b), (1, .ref h), (2, .ref mo)]) gx gb dL_law_774 hl (k := 3) rfl (nI_add i 4) (by decide) rfl (fun ls hl => ?_)
    refine lv_goto (tgt := 18) gx gb dL_law_777 (by decide) ?_
    exact kk n q 0 w n q 0 (pk 256 num n) (pk 8 plc q) 0 k1 k2 na Na Ra qa Sa ca nb Nb Rb qb Sb cb rb sb z ev num plc sig pad row dig cfr cby que has img kep far hNext H locs hP hD hS ls (lv_sub hl [1, 2, 3, 0] rfl)
  · skip
    exact absurd rfl c590

set_option maxHeartbeats 4000000 in
set_option maxRecDepth 100000 in
theorem lA_filled {Gp : Program} {Gl : Launch} {Ge : Env} {Gs : State} {Gm : MethodId} {Gw : List Frame} {Gt : Method} {Gc : Code} {b L : Nat} {xs : Nat → Int32} (hL : L ≤ 256) (C0 : lw_At Gp Gs Gm Gt Gc b L xs) (D : va_G) (cI cJ cZ : ClassId) (A : Nat → Prop) (hA : ∀ q : Nat, Gs.heap.size ≤ q → A q) (hbA : ¬ A b) (hK : va_K D vwCl [(cI, .int), (cJ, .long), (cZ, .boolean)] Gs) (h fl e1 e2 pd sg mo ma mb mc md me mf mg mh mi mj mk ml mn : Nat) (i : Nat) (hi : i + 4 ≤ L) (kk : lwHA Gp Gl Ge Gs Gm Gw Gt Gc b D cI cJ cZ A h fl e1 e2 pd sg mo ma mb mc md me mf mg mh mi mj mk ml mn (i + 4)) (n q c w nX qX cX N R S k1 k2 na Na Ra qa Sa ca nb Nb Rb qb Sb cb rb sb z ev : Nat) (num plc sig pad row dig cfr cby que has img kep : Nat → Nat) (far : Nat → Int32) (hI : lwI num plc sig pad img kep n q c w nX qX cX N R S k1 k2 na Na Ra qa Sa ca nb Nb Rb qb Sb cb) (H : Heap) (locs : List Loc) (hP : va_P D vwCl (wLA h fl e1 e2 pd sg cI k1 k2 .null nX N R qX S cX na Na Ra qa Sa ca nb Nb Rb qb Sb cb w rb sb pad mo ma mb mc md me mf mg mh mi mj mk ml mn cZ n q c w z ev num plc sig pad row dig far cfr cby que has img kep) H) (hD : va_D A (wLA h fl e1 e2 pd sg cI k1 k2 .null nX N R qX S cX na Na Ra qa Sa ca nb Nb Rb qb Sb cb w rb sb pad mo ma mb mc md me mf mg mh mi mj mk ml mn cZ n q c w z ev num plc sig pad row dig far cfr cby que has img kep)) (hS : va_S A Gs.heap H locs) (ls : Array Slot) (hl : lv_has ls 4 [(0, .ref b), (1, .ref h), (2, .ref mo), (3, .int (nI i))]) : W Gp Gl Ge room_1 Gs Gm #[Value.ref b] Gw Gt Gc H locs 20 20499 (lw_Z Gw #[Value.ref b] Gs) (F0 Gm 595 ls []) := by
  obtain ⟨gx, gb, gr, gml, gown0, gts0, hX, hbl, glk, hgv⟩ := id C0
  have gts : ∀ w ∈ wsL_law, w.before #[Value.ref b] Gs = true := fun w h => gts0 w (wsL_law_in w h)
  have gown : Gs.vm.findClass RL = some Gm.cls := gown0
  have hb1 := sX_bd xs (i + 1)
  have hb2 := sX_bd xs (i + 2)
  have hb3 := sX_bd xs (i + 3)
  obtain ⟨⟨⟨hF, hN, hR, hSS⟩, hnX, hqX, hcX⟩, -⟩ := id hI
  subst hN hR hSS hnX hqX hcX
  obtain ⟨-, ⟨hw60, hgp⟩, ⟨hke1, hke2, hk1, hk2⟩, -, -⟩ := id hI
  obtain ⟨hn1, hn7, hq1, hqn, hp, hinj, hnum, hc6, hsg⟩ := id hF
  have hpl6 : ∀ x, x < q → plc x ≤ 6 := fun x hx => by have := hp x hx; omega
  have hnv : ∀ x, x < q → num (plc x) ≤ 99 := fun x hx => hnum _ (hp x hx)
  have hkep : ∀ j, j < 2 → kep j ≤ 1 := fun j hj => by rcases (show j = 0 ∨ j = 1 by omega) with rfl | rfl <;> omega
  have hP : va_P D vwCl (wLA h fl e1 e2 pd sg cI k1 k2 .null n (pk 256 num n) (pk 8 plc q) q (pk 64 (fun k => 8 * sig (2 * k) + sig (2 * k + 1)) c) c na Na Ra qa Sa ca nb Nb Rb qb Sb cb w rb sb pad mo ma mb mc md me mf mg mh mi mj mk ml mn cZ n q c w z ev num plc sig pad row dig far cfr cby que has img kep) H := hP
  have hD : va_D A (wLA h fl e1 e2 pd sg cI k1 k2 .null n (pk 256 num n) (pk 8 plc q) q (pk 64 (fun k => 8 * sig (2 * k) + sig (2 * k + 1)) c) c na Na Ra qa Sa ca nb Nb Rb qb Sb cb w rb sb pad mo ma mb mc md me mf mg mh mi mj mk ml mn cZ n q c w z ev num plc sig pad row dig far cfr cby que has img kep) := hD
  have hl : lv_has ls 4 [(0, .ref b), (1, .ref h), (2, .ref mo), (3, .int (nI i))] := hl
  refine lv_aload_n gx gb dL_law_595 rfl (lv_at hl 1 rfl) ?_
  refine lv_aload_n gx gb dL_law_596 rfl (lv_at hl 0 rfl) ?_
  refine lv_iload_n gx gb dL_law_597 rfl (lv_at hl 3 rfl) ?_
  refine lv_iconst (v := nI 1) gx gb dL_law_598 (by decide) ?_
  refine lv_iadd gx gb dL_law_599 ?_
  refine lv_evi (nI (i + 1)) (nI_add i 1) ?_
  refine va_sld gx gb hX hbl hbA hS (vp_in_nI (n := i + 1) (by omega) (by omega)) dL_law_600 ?_
  refine lv_evi (zI (sX xs (i + 1))) (sX_rd xs (by omega)) ?_
  have hPc := hP.sub (ws' := wX h fl e1 e2 pd sg cI k1 k2 .null n (pk 256 num n) (pk 8 plc q) q (pk 64 (fun k => 8 * sig (2 * k) + sig (2 * k + 1)) c) c na Na Ra qa Sa ca nb Nb Rb qb Sb cb w rb sb pad) [0, 1, 2, 3, 4, 5] rfl
  have hDc := hD.sub (ws' := wX h fl e1 e2 pd sg cI k1 k2 .null n (pk 256 num n) (pk 8 plc q) q (pk 64 (fun k => 8 * sig (2 * k) + sig (2 * k + 1)) c) c na Na Ra qa Sa ca nb Nb Rb qb Sb cb w rb sb pad) [0, 1, 2, 3, 4, 5] (by decide) rfl
  have hFc := va_free (wc := wX h fl e1 e2 pd sg cI k1 k2 .null n (pk 256 num n) (pk 8 plc q) q (pk 64 (fun k => 8 * sig (2 * k) + sig (2 * k + 1)) c) c na Na Ra qa Sa ca nb Nb Rb qb Sb cb w rb sb pad) hD hS hA [0, 1, 2, 3, 4, 5] rfl
  refine va_calli (va_runV (As := [.int (zI (sX xs (i + 1)))]) (rest := []) ⟨gx, gb, gml, gown, gts⟩ (kX8_filled Gl D cI cJ cZ h fl e1 e2 pd sg k1 k2 .null n (pk 256 num n) q c na Na Ra qa Sa ca nb Nb Rb qb Sb cb w rb sb pad _ plc sig (sX xs (i + 1)) (by omega) (by omega) (by omega) (by exact hgp) (by omega) (by omega) (by omega) (by omega) (by exact hp) (by omega) (by exact hsg)) (cwV 1 gts gL_law_X8_filled rfl rfl rfl (by decide +kernel) ⟨Nat.le_of_ble_eq_true rfl, Nat.le_of_ble_eq_true rfl⟩) ⟨fun a U g mk q => by obtain ⟨q0, q1, qP, qK, qD⟩ := q; exact ⟨q0, q1, qP, va_K.moved (u := U) (U := U.calling g mk a) (Vm.Alike.refl U.vm) qK, qD⟩, va_recv hK hPc (ci := 3) (q0 := 0) rfl rfl, fun U hU hW => ⟨rfl, by rw [hU], by rw [hU]; exact hPc, va_K.moved hW.alike hK, hDc.weaken (fun _ _ _ _ => trivial)⟩⟩ rfl rfl hl.1 rfl (lv_room (Nat.le_of_ble_eq_true rfl)) dL_law_601 ⟨Nat.le_of_ble_eq_true rfl, Nat.le_of_ble_eq_true rfl⟩) hS (fun q _ h => hFc q h) hFc (fun r u t H1 locs ht hvm hw hB hz1 hk1 hS => ?_)
  obtain ⟨rb_601, sb_601⟩ := u
  obtain ⟨hP1, hK1, hD1⟩ := hB
  rw [ht] at hP1
  try dsimp only at hw
  try dsimp only at hP1
  try dsimp only at hD1
  have hK := va_K.moved hvm.symm hK1
  obtain ⟨hP, hD⟩ := va_join (wr := [(mo, .inr (4, [.int (nI n), .int (nI q), .ref ma, .ref mb, .int (nI c), .ref mc, .int (nI w), .ref md, .ref me, .int (nI z), .int (nI ev), .ref mf, .ref mg, .ref mh, .ref mi, .ref mj, .ref mk, .ref ml, .ref mn])), (ma, .inl (cI, 7, .inl (aN num))), (mb, .inl (cI, 7, .inl (aN plc))), (mc, .inl (cI, 12, .inl (aN sig))), (md, .inl (cI, 60, .inl (aN pad))), (me, .inl (cI, 8, .inl (aN row))), (mf, .inl (cI, 7, .inl (aN dig))), (mg, .inl (cI, 5040, .inl far)), (mh, .inl (cI, 5040, .inl (aN cfr))), (mi, .inl (cI, 5040, .inl (aN cby))), (mj, .inl (cI, 5040, .inl (aN que))), (mk, .inl (cI, 64, .inl (aN has))), (ml, .inl (cI, 64, .inl (aN img))), (mn, .inl (cZ, 2, .inl (aN kep)))]) (w1 := wX h fl e1 e2 pd sg cI k1 k2 .null n (pk 256 num n) (pk 8 plc q) q (pk 64 (fun k => 8 * sig (2 * k) + sig (2 * k + 1)) c) c na Na Ra qa Sa ca nb Nb Rb qb Sb cb w rb_601 sb_601 pad) hP hD [0, 1, 2, 3, 4, 5] [6, 7, 8, 9, 10, 11, 12, 13, 14, 15, 16, 17, 18, 19] rfl rfl (by decide) (by decide) hk1 hFc hP1 hD1
  have hP := hP.sub (ws' := wLA h fl e1 e2 pd sg cI k1 k2 .null n (pk 256 num n) (pk 8 plc q) q (pk 64 (fun k => 8 * sig (2 * k) + sig (2 * k + 1)) c) c na Na Ra qa Sa ca nb Nb Rb qb Sb cb w rb_601 sb_601 pad mo ma mb mc md me mf mg mh mi mj mk ml mn cZ n q c w z ev num plc sig pad row dig far cfr cby que has img kep) [14, 15, 16, 17, 18, 19, 0, 1, 2, 3, 4, 5, 6, 7, 8, 9, 10, 11, 12, 13] rfl
  have hD := hD.sub (ws' := wLA h fl e1 e2 pd sg cI k1 k2 .null n (pk 256 num n) (pk 8 plc q) q (pk 64 (fun k => 8 * sig (2 * k) + sig (2 * k + 1)) c) c na Na Ra qa Sa ca nb Nb Rb qb Sb cb w rb_601 sb_601 pad mo ma mb mc md me mf mg mh mi mj mk ml mn cZ n q c w z ev num plc sig pad row dig far cfr cby que has img kep) [14, 15, 16, 17, 18, 19, 0, 1, 2, 3, 4, 5, 6, 7, 8, 9, 10, 11, 12, 13] (by decide) rfl
  have hK := va_K.moved (Vm.Alike.refl Gs.vm) hK
  generalize H1 = H at hP hS ⊢
  have hr601 := hw
  subst hr601
  refine lv_aload_n gx gb dL_law_604 rfl (lv_at hl 2 rfl) ?_
  refine lv_aload_n gx gb dL_law_605 rfl (lv_at hl 0 rfl) ?_
  refine lv_iload_n gx gb dL_law_606 rfl (lv_at hl 3 rfl) ?_
  refine lv_iconst (v := nI 1) gx gb dL_law_607 (by decide) ?_
  refine lv_iadd gx gb dL_law_608 ?_
  refine lv_evi (nI (i + 1)) (nI_add i 1) ?_
  refine va_sld gx gb hX hbl hbA hS (vp_in_nI (n := i + 1) (by omega) (by omega)) dL_law_609 ?_
  refine lv_evi (zI (sX xs (i + 1))) (sX_rd xs (by omega)) ?_
  have hPc := hP.sub (ws' := wM mo ma mb mc md me mf mg mh mi mj mk ml mn cI cZ n q c w z ev num plc sig pad row dig far cfr cby que has img kep) [6, 7, 8, 9, 10, 11, 12, 13, 14, 15, 16, 17, 18, 19] rfl
  have hDc := hD.sub (ws' := wM mo ma mb mc md me mf mg mh mi mj mk ml mn cI cZ n q c w z ev num plc sig pad row dig far cfr cby que has img kep) [6, 7, 8, 9, 10, 11, 12, 13, 14, 15, 16, 17, 18, 19] (by decide) rfl
  have hFc := va_free (wc := wM mo ma mb mc md me mf mg mh mi mj mk ml mn cI cZ n q c w z ev num plc sig pad row dig far cfr cby que has img kep) hD hS hA [6, 7, 8, 9, 10, 11, 12, 13, 14, 15, 16, 17, 18, 19] rfl
  refine va_calli (va_runV (As := [.int (zI (sX xs (i + 1)))]) (rest := [.int (zI (filB pad w plc q sig c q (sX xs (i + 1))))]) ⟨gx, gb, gml, gown, gts⟩ (kX9_filled Gl D cI cJ cZ mo ma mb mc md me mf mg mh mi mj mk ml mn n q c w z ev num plc sig pad row dig far cfr cby que has img kep _ (sX xs (i + 1)) (by omega) (by omega) (by omega) (by exact hgp) (by omega) (by omega) (by omega) (by omega) (by exact hp) (by omega) (by exact hsg)) (cwV 1 gts gL_law_X9_filled rfl rfl rfl (by decide +kernel) ⟨Nat.le_of_ble_eq_true rfl, Nat.le_of_ble_eq_true rfl⟩) ⟨fun a U g mk q => by obtain ⟨q0, q1, qP, qK, qD⟩ := q; exact ⟨q0, q1, qP, va_K.moved (u := U) (U := U.calling g mk a) (Vm.Alike.refl U.vm) qK, qD⟩, va_recv hK hPc (ci := 4) (q0 := 0) rfl rfl, fun U hU hW => ⟨rfl, by rw [hU], by rw [hU]; exact hPc, va_K.moved hW.alike hK, hDc.weaken (fun _ _ _ _ => trivial)⟩⟩ rfl rfl hl.1 rfl (lv_room (Nat.le_of_ble_eq_true rfl)) dL_law_610 ⟨Nat.le_of_ble_eq_true rfl, Nat.le_of_ble_eq_true rfl⟩) hS (fun q _ h => hFc q h) hFc (fun r u t H1 locs ht hvm hw hB hz1 hk1 hS => ?_)
  obtain ⟨row_610, z_610, ev_610⟩ := u
  obtain ⟨hP1, hK1, hD1⟩ := hB
  rw [ht] at hP1
  try dsimp only at hw
  try dsimp only at hP1
  try dsimp only at hD1
  have hK := va_K.moved hvm.symm hK1
  obtain ⟨hP, hD⟩ := va_join (wr := [(h, .inr (3, [.ref fl, .ref e1, .ref e2, .int (nI k1), .int (nI k2), .ref pd, .null])), (fl, .inr (0, [.int (nI n), .long (lN (pk 256 num n)), .int (nI (pk 8 plc q)), .int (nI q), .long (lN (pk 64 (fun k => 8 * sig (2 * k) + sig (2 * k + 1)) c)), .int (nI c)])), (e1, .inr (0, [.int (nI na), .long (lN Na), .int (nI Ra), .int (nI qa), .long (lN Sa), .int (nI ca)])), (e2, .inr (0, [.int (nI nb), .long (lN Nb), .int (nI Rb), .int (nI qb), .long (lN Sb), .int (nI cb)])), (pd, .inr (1, [.ref sg, .int (nI w), .int (nI rb_601), .int (nI sb_601)])), (sg, .inl (cI, 60, .inl (aN pad)))]) (w1 := wM mo ma mb mc md me mf mg mh mi mj mk ml mn cI cZ n q c w z_610 ev_610 num plc sig pad row_610 dig far cfr cby que has img kep) hP hD [6, 7, 8, 9, 10, 11, 12, 13, 14, 15, 16, 17, 18, 19] [0, 1, 2, 3, 4, 5] rfl rfl (by decide) (by decide) hk1 hFc hP1 hD1
  have hP := hP.sub (ws' := wLA h fl e1 e2 pd sg cI k1 k2 .null n (pk 256 num n) (pk 8 plc q) q (pk 64 (fun k => 8 * sig (2 * k) + sig (2 * k + 1)) c) c na Na Ra qa Sa ca nb Nb Rb qb Sb cb w rb_601 sb_601 pad mo ma mb mc md me mf mg mh mi mj mk ml mn cZ n q c w z_610 ev_610 num plc sig pad row_610 dig far cfr cby que has img kep) [0, 1, 2, 3, 4, 5, 6, 7, 8, 9, 10, 11, 12, 13, 14, 15, 16, 17, 18, 19] rfl
  have hD := hD.sub (ws' := wLA h fl e1 e2 pd sg cI k1 k2 .null n (pk 256 num n) (pk 8 plc q) q (pk 64 (fun k => 8 * sig (2 * k) + sig (2 * k + 1)) c) c na Na Ra qa Sa ca nb Nb Rb qb Sb cb w rb_601 sb_601 pad mo ma mb mc md me mf mg mh mi mj mk ml mn cZ n q c w z_610 ev_610 num plc sig pad row_610 dig far cfr cby que has img kep) [0, 1, 2, 3, 4, 5, 6, 7, 8, 9, 10, 11, 12, 13, 14, 15, 16, 17, 18, 19] (by decide) rfl
  have hK := va_K.moved (Vm.Alike.refl Gs.vm) hK
  generalize H1 = H at hP hS ⊢
  have hr610 := hw
  subst hr610
  refine lv_icmp_eq (tgt := 774) gx gb dL_law_613 (by decide) (fun c613 => ?_) (fun c613 => ?_)
  · skip
    have hNext := hI
    refine lv_iinc (v := nI (i + 4)) (lv' := [(3, .int (nI (i + 4))), (0, .ref b), (1, .ref h), (2, .ref mo)]) gx gb dL_law_774 hl (k := 3) rfl (nI_add i 4) (by decide) rfl (fun ls hl => ?_)
    refine lv_goto (tgt := 18) gx gb dL_law_777 (by decide) ?_
    exact kk n q c w n q c (pk 256 num n) (pk 8 plc q) (pk 64 (fun k => 8 * sig (2 * k) + sig (2 * k + 1)) c) k1 k2 na Na Ra qa Sa ca nb Nb Rb qb Sb cb rb_601 sb_601 z_610 ev_610 num plc sig pad row_610 dig cfr cby que has img kep far hNext H locs hP hD hS ls (lv_sub hl [1, 2, 3, 0] rfl)
  · skip
    exact absurd (congrArg zI (fil_eq (by omega) _).symm) c613

set_option maxHeartbeats 4000000 in
set_option maxRecDepth 100000 in
theorem lA_pikes {Gp : Program} {Gl : Launch} {Ge : Env} {Gs : State} {Gm : MethodId} {Gw : List Frame} {Gt : Method} {Gc : Code} {b L : Nat} {xs : Nat → Int32} (hL : L ≤ 256) (C0 : lw_At Gp Gs Gm Gt Gc b L xs) (D : va_G) (cI cJ cZ : ClassId) (A : Nat → Prop) (hA : ∀ q : Nat, Gs.heap.size ≤ q → A q) (hbA : ¬ A b) (hK : va_K D vwCl [(cI, .int), (cJ, .long), (cZ, .boolean)] Gs) (h fl e1 e2 pd sg mo ma mb mc md me mf mg mh mi mj mk ml mn : Nat) (i : Nat) (hi : i + 4 ≤ L) (kk : lwHA Gp Gl Ge Gs Gm Gw Gt Gc b D cI cJ cZ A h fl e1 e2 pd sg mo ma mb mc md me mf mg mh mi mj mk ml mn (i + 4)) (n q c w nX qX cX N R S k1 k2 na Na Ra qa Sa ca nb Nb Rb qb Sb cb rb sb z ev : Nat) (num plc sig pad row dig cfr cby que has img kep : Nat → Nat) (far : Nat → Int32) (hI : lwI num plc sig pad img kep n q c w nX qX cX N R S k1 k2 na Na Ra qa Sa ca nb Nb Rb qb Sb cb) (H : Heap) (locs : List Loc) (hP : va_P D vwCl (wLA h fl e1 e2 pd sg cI k1 k2 .null nX N R qX S cX na Na Ra qa Sa ca nb Nb Rb qb Sb cb w rb sb pad mo ma mb mc md me mf mg mh mi mj mk ml mn cZ n q c w z ev num plc sig pad row dig far cfr cby que has img kep) H) (hD : va_D A (wLA h fl e1 e2 pd sg cI k1 k2 .null nX N R qX S cX na Na Ra qa Sa ca nb Nb Rb qb Sb cb w rb sb pad mo ma mb mc md me mf mg mh mi mj mk ml mn cZ n q c w z ev num plc sig pad row dig far cfr cby que has img kep)) (hS : va_S A Gs.heap H locs) (ls : Array Slot) (hl : lv_has ls 4 [(0, .ref b), (1, .ref h), (2, .ref mo), (3, .int (nI i))]) : W Gp Gl Ge room_1 Gs Gm #[Value.ref b] Gw Gt Gc H locs 20 20499 (lw_Z Gw #[Value.ref b] Gs) (F0 Gm 618 ls []) := by
  obtain ⟨gx, gb, gr, gml, gown0, gts0, hX, hbl, glk, hgv⟩ := id C0
  have gts : ∀ w ∈ wsL_law, w.before #[Value.ref b] Gs = true := fun w h => gts0 w (wsL_law_in w h)
  have gown : Gs.vm.findClass RL = some Gm.cls := gown0
  have hb1 := sX_bd xs (i + 1)
  have hb2 := sX_bd xs (i + 2)
  have hb3 := sX_bd xs (i + 3)
  obtain ⟨⟨⟨hF, hN, hR, hSS⟩, hnX, hqX, hcX⟩, -⟩ := id hI
  subst hN hR hSS hnX hqX hcX
  obtain ⟨-, ⟨hw60, hgp⟩, ⟨hke1, hke2, hk1, hk2⟩, -, -⟩ := id hI
  obtain ⟨hn1, hn7, hq1, hqn, hp, hinj, hnum, hc6, hsg⟩ := id hF
  have hpl6 : ∀ x, x < q → plc x ≤ 6 := fun x hx => by have := hp x hx; omega
  have hnv : ∀ x, x < q → num (plc x) ≤ 99 := fun x hx => hnum _ (hp x hx)
  have hkep : ∀ j, j < 2 → kep j ≤ 1 := fun j hj => by rcases (show j = 0 ∨ j = 1 by omega) with rfl | rfl <;> omega
  have hP : va_P D vwCl (wLA h fl e1 e2 pd sg cI k1 k2 .null n (pk 256 num n) (pk 8 plc q) q (pk 64 (fun k => 8 * sig (2 * k) + sig (2 * k + 1)) c) c na Na Ra qa Sa ca nb Nb Rb qb Sb cb w rb sb pad mo ma mb mc md me mf mg mh mi mj mk ml mn cZ n q c w z ev num plc sig pad row dig far cfr cby que has img kep) H := hP
  have hD : va_D A (wLA h fl e1 e2 pd sg cI k1 k2 .null n (pk 256 num n) (pk 8 plc q) q (pk 64 (fun k => 8 * sig (2 * k) + sig (2 * k + 1)) c) c na Na Ra qa Sa ca nb Nb Rb qb Sb cb w rb sb pad mo ma mb mc md me mf mg mh mi mj mk ml mn cZ n q c w z ev num plc sig pad row dig far cfr cby que has img kep) := hD
  have hl : lv_has ls 4 [(0, .ref b), (1, .ref h), (2, .ref mo), (3, .int (nI i))] := hl
  refine lv_aload_n gx gb dL_law_618 rfl (lv_at hl 1 rfl) ?_
  refine lv_aload_n gx gb dL_law_619 rfl (lv_at hl 0 rfl) ?_
  refine lv_iload_n gx gb dL_law_620 rfl (lv_at hl 3 rfl) ?_
  refine lv_iconst (v := nI 1) gx gb dL_law_621 (by decide) ?_
  refine lv_iadd gx gb dL_law_622 ?_
  refine lv_evi (nI (i + 1)) (nI_add i 1) ?_
  refine va_sld gx gb hX hbl hbA hS (vp_in_nI (n := i + 1) (by omega) (by omega)) dL_law_623 ?_
  refine lv_evi (zI (sX xs (i + 1))) (sX_rd xs (by omega)) ?_
  refine lv_aload_n gx gb dL_law_624 rfl (lv_at hl 0 rfl) ?_
  refine lv_iload_n gx gb dL_law_625 rfl (lv_at hl 3 rfl) ?_
  refine lv_iconst (v := nI 2) gx gb dL_law_626 (by decide) ?_
  refine lv_iadd gx gb dL_law_627 ?_
  refine lv_evi (nI (i + 2)) (nI_add i 2) ?_
  refine va_sld gx gb hX hbl hbA hS (vp_in_nI (n := i + 2) (by omega) (by omega)) dL_law_628 ?_
  refine lv_evi (zI (sX xs (i + 2))) (sX_rd xs (by omega)) ?_
  refine lv_aload_n gx gb dL_law_629 rfl (lv_at hl 0 rfl) ?_
  refine lv_iload_n gx gb dL_law_630 rfl (lv_at hl 3 rfl) ?_
  refine lv_iconst (v := nI 3) gx gb dL_law_631 (by decide) ?_
  refine lv_iadd gx gb dL_law_632 ?_
  refine lv_evi (nI (i + 3)) (nI_add i 3) ?_
  refine va_sld gx gb hX hbl hbA hS (vp_in_nI (n := i + 3) (by omega) (by omega)) dL_law_633 ?_
  refine lv_evi (zI (sX xs (i + 3))) (sX_rd xs (by omega)) ?_
  have hPc := hP.sub (ws' := wX h fl e1 e2 pd sg cI k1 k2 .null n (pk 256 num n) (pk 8 plc q) q (pk 64 (fun k => 8 * sig (2 * k) + sig (2 * k + 1)) c) c na Na Ra qa Sa ca nb Nb Rb qb Sb cb w rb sb pad) [0, 1, 2, 3, 4, 5] rfl
  refine vp_callSl (W.runV (As := [.int (zI (sX xs (i + 1))), .int (zI (sX xs (i + 2))), .int (zI (sX xs (i + 3)))]) (rest := []) ⟨gx, gb, gml, gown, gts⟩ (kX8_pikes Gl D cI cJ cZ h fl e1 e2 pd sg k1 k2 .null n q (pk 64 (fun k => 8 * sig (2 * k) + sig (2 * k + 1)) c) c na Na Ra qa Sa ca nb Nb Rb qb Sb cb w rb sb pad num plc (sX xs (i + 1)) (sX xs (i + 2)) (sX xs (i + 3)) (by omega) (by omega) (by omega) (by omega) (by omega) (by omega) (by omega) (by omega) (by omega) (by omega) (by exact hp) (by exact hnum)) (cwV 3 gts gL_law_X8_pikes rfl rfl rfl (by decide +kernel) ⟨Nat.le_of_ble_eq_true rfl, Nat.le_of_ble_eq_true rfl⟩) ⟨fun a U g mk q => ⟨q.1, q.2.1, va_K.moved (u := U) (U := U.calling g mk a) (Vm.Alike.refl U.vm) q.2.2⟩, va_recv hK hPc (ci := 3) (q0 := 0) rfl rfl, fun U hU hW => ⟨rfl, by rw [hU]; exact hPc, va_K.moved hW.alike hK⟩⟩ rfl rfl hl.1 rfl (lv_room (Nat.le_of_ble_eq_true rfl)) dL_law_634 ⟨Nat.le_of_ble_eq_true rfl, Nat.le_of_ble_eq_true rfl⟩) (fun r hw => ?_)
  have hr634 := hw
  subst hr634
  refine lv_aload_n gx gb dL_law_637 rfl (lv_at hl 2 rfl) ?_
  refine lv_aload_n gx gb dL_law_638 rfl (lv_at hl 0 rfl) ?_
  refine lv_iload_n gx gb dL_law_639 rfl (lv_at hl 3 rfl) ?_
  refine lv_iconst (v := nI 1) gx gb dL_law_640 (by decide) ?_
  refine lv_iadd gx gb dL_law_641 ?_
  refine lv_evi (nI (i + 1)) (nI_add i 1) ?_
  refine va_sld gx gb hX hbl hbA hS (vp_in_nI (n := i + 1) (by omega) (by omega)) dL_law_642 ?_
  refine lv_evi (zI (sX xs (i + 1))) (sX_rd xs (by omega)) ?_
  refine lv_aload_n gx gb dL_law_643 rfl (lv_at hl 0 rfl) ?_
  refine lv_iload_n gx gb dL_law_644 rfl (lv_at hl 3 rfl) ?_
  refine lv_iconst (v := nI 2) gx gb dL_law_645 (by decide) ?_
  refine lv_iadd gx gb dL_law_646 ?_
  refine lv_evi (nI (i + 2)) (nI_add i 2) ?_
  refine va_sld gx gb hX hbl hbA hS (vp_in_nI (n := i + 2) (by omega) (by omega)) dL_law_647 ?_
  refine lv_evi (zI (sX xs (i + 2))) (sX_rd xs (by omega)) ?_
  refine lv_aload_n gx gb dL_law_648 rfl (lv_at hl 0 rfl) ?_
  refine lv_iload_n gx gb dL_law_649 rfl (lv_at hl 3 rfl) ?_
  refine lv_iconst (v := nI 3) gx gb dL_law_650 (by decide) ?_
  refine lv_iadd gx gb dL_law_651 ?_
  refine lv_evi (nI (i + 3)) (nI_add i 3) ?_
  refine va_sld gx gb hX hbl hbA hS (vp_in_nI (n := i + 3) (by omega) (by omega)) dL_law_652 ?_
  refine lv_evi (zI (sX xs (i + 3))) (sX_rd xs (by omega)) ?_
  have hPc := hP.sub (ws' := wM mo ma mb mc md me mf mg mh mi mj mk ml mn cI cZ n q c w z ev num plc sig pad row dig far cfr cby que has img kep) [6, 7, 8, 9, 10, 11, 12, 13, 14, 15, 16, 17, 18, 19] rfl
  have hDc := hD.sub (ws' := wM mo ma mb mc md me mf mg mh mi mj mk ml mn cI cZ n q c w z ev num plc sig pad row dig far cfr cby que has img kep) [6, 7, 8, 9, 10, 11, 12, 13, 14, 15, 16, 17, 18, 19] (by decide) rfl
  have hFc := va_free (wc := wM mo ma mb mc md me mf mg mh mi mj mk ml mn cI cZ n q c w z ev num plc sig pad row dig far cfr cby que has img kep) hD hS hA [6, 7, 8, 9, 10, 11, 12, 13, 14, 15, 16, 17, 18, 19] rfl
  refine va_calll (va_runV (As := [.int (zI (sX xs (i + 1))), .int (zI (sX xs (i + 2))), .int (zI (sX xs (i + 3)))]) (rest := [.long (pikJ num plc q (sX xs (i + 1)) (sX xs (i + 2)) (sX xs (i + 3)))]) ⟨gx, gb, gml, gown, gts⟩ (kX9_pikes Gl D cI cJ cZ mo ma mb mc md me mf mg mh mi mj mk ml mn n q c w z ev num plc sig pad row dig far cfr cby que has img kep _ (sX xs (i + 1)) (sX xs (i + 2)) (sX xs (i + 3)) (by omega) (by omega) (by omega) (by omega) (by omega) (by omega) (by omega) (by omega) (by omega) (by omega) (by exact hp) (by exact hnum)) (cwV 3 gts gL_law_X9_pikes rfl rfl rfl (by decide +kernel) ⟨Nat.le_of_ble_eq_true rfl, Nat.le_of_ble_eq_true rfl⟩) ⟨fun a U g mk q => by obtain ⟨q0, q1, qP, qK, qD⟩ := q; exact ⟨q0, q1, qP, va_K.moved (u := U) (U := U.calling g mk a) (Vm.Alike.refl U.vm) qK, qD⟩, va_recv hK hPc (ci := 4) (q0 := 0) rfl rfl, fun U hU hW => ⟨rfl, by rw [hU], by rw [hU]; exact hPc, va_K.moved hW.alike hK, hDc.weaken (fun _ _ _ _ => trivial)⟩⟩ rfl rfl hl.1 rfl (lv_room (Nat.le_of_ble_eq_true rfl)) dL_law_653 ⟨Nat.le_of_ble_eq_true rfl, Nat.le_of_ble_eq_true rfl⟩) hS (fun q _ h => hFc q h) hFc (fun r u t H1 locs ht hvm hw hB hz1 hk1 hS => ?_)
  obtain ⟨row_653, z_653⟩ := u
  obtain ⟨hP1, hK1, hD1⟩ := hB
  rw [ht] at hP1
  try dsimp only at hw
  try dsimp only at hP1
  try dsimp only at hD1
  have hK := va_K.moved hvm.symm hK1
  obtain ⟨hP, hD⟩ := va_join (wr := [(h, .inr (3, [.ref fl, .ref e1, .ref e2, .int (nI k1), .int (nI k2), .ref pd, .null])), (fl, .inr (0, [.int (nI n), .long (lN (pk 256 num n)), .int (nI (pk 8 plc q)), .int (nI q), .long (lN (pk 64 (fun k => 8 * sig (2 * k) + sig (2 * k + 1)) c)), .int (nI c)])), (e1, .inr (0, [.int (nI na), .long (lN Na), .int (nI Ra), .int (nI qa), .long (lN Sa), .int (nI ca)])), (e2, .inr (0, [.int (nI nb), .long (lN Nb), .int (nI Rb), .int (nI qb), .long (lN Sb), .int (nI cb)])), (pd, .inr (1, [.ref sg, .int (nI w), .int (nI rb), .int (nI sb)])), (sg, .inl (cI, 60, .inl (aN pad)))]) (w1 := wM mo ma mb mc md me mf mg mh mi mj mk ml mn cI cZ n q c w z_653 ev num plc sig pad row_653 dig far cfr cby que has img kep) hP hD [6, 7, 8, 9, 10, 11, 12, 13, 14, 15, 16, 17, 18, 19] [0, 1, 2, 3, 4, 5] rfl rfl (by decide) (by decide) hk1 hFc hP1 hD1
  have hP := hP.sub (ws' := wLA h fl e1 e2 pd sg cI k1 k2 .null n (pk 256 num n) (pk 8 plc q) q (pk 64 (fun k => 8 * sig (2 * k) + sig (2 * k + 1)) c) c na Na Ra qa Sa ca nb Nb Rb qb Sb cb w rb sb pad mo ma mb mc md me mf mg mh mi mj mk ml mn cZ n q c w z_653 ev num plc sig pad row_653 dig far cfr cby que has img kep) [0, 1, 2, 3, 4, 5, 6, 7, 8, 9, 10, 11, 12, 13, 14, 15, 16, 17, 18, 19] rfl
  have hD := hD.sub (ws' := wLA h fl e1 e2 pd sg cI k1 k2 .null n (pk 256 num n) (pk 8 plc q) q (pk 64 (fun k => 8 * sig (2 * k) + sig (2 * k + 1)) c) c na Na Ra qa Sa ca nb Nb Rb qb Sb cb w rb sb pad mo ma mb mc md me mf mg mh mi mj mk ml mn cZ n q c w z_653 ev num plc sig pad row_653 dig far cfr cby que has img kep) [0, 1, 2, 3, 4, 5, 6, 7, 8, 9, 10, 11, 12, 13, 14, 15, 16, 17, 18, 19] (by decide) rfl
  have hK := va_K.moved (Vm.Alike.refl Gs.vm) hK
  generalize H1 = H at hP hS ⊢
  have hr653 := hw
  subst hr653
  refine W.lcmp gx gb dL_law_656 ?_
  refine lv_if_eq (tgt := 774) gx gb dL_law_657 (by decide) (fun c657 => ?_) (fun c657 => ?_)
  · skip
    have hNext := hI
    refine lv_iinc (v := nI (i + 4)) (lv' := [(3, .int (nI (i + 4))), (0, .ref b), (1, .ref h), (2, .ref mo)]) gx gb dL_law_774 hl (k := 3) rfl (nI_add i 4) (by decide) rfl (fun ls hl => ?_)
    refine lv_goto (tgt := 18) gx gb dL_law_777 (by decide) ?_
    exact kk n q c w n q c (pk 256 num n) (pk 8 plc q) (pk 64 (fun k => 8 * sig (2 * k) + sig (2 * k + 1)) c) k1 k2 na Na Ra qa Sa ca nb Nb Rb qb Sb cb rb sb z_653 ev num plc sig pad row_653 dig cfr cby que has img kep far hNext H locs hP hD hS ls (lv_sub hl [1, 2, 3, 0] rfl)
  · skip
    exact absurd (lcm_s _) c657

set_option maxHeartbeats 4000000 in
set_option maxRecDepth 100000 in
theorem lA_year {Gp : Program} {Gl : Launch} {Ge : Env} {Gs : State} {Gm : MethodId} {Gw : List Frame} {Gt : Method} {Gc : Code} {b L : Nat} {xs : Nat → Int32} (hL : L ≤ 256) (C0 : lw_At Gp Gs Gm Gt Gc b L xs) (D : va_G) (cI cJ cZ : ClassId) (A : Nat → Prop) (hA : ∀ q : Nat, Gs.heap.size ≤ q → A q) (hbA : ¬ A b) (hK : va_K D vwCl [(cI, .int), (cJ, .long), (cZ, .boolean)] Gs) (h fl e1 e2 pd sg mo ma mb mc md me mf mg mh mi mj mk ml mn : Nat) (i : Nat) (hi : i + 4 ≤ L) (kk : lwHA Gp Gl Ge Gs Gm Gw Gt Gc b D cI cJ cZ A h fl e1 e2 pd sg mo ma mb mc md me mf mg mh mi mj mk ml mn (i + 4)) (n q c w nX qX cX N R S k1 k2 na Na Ra qa Sa ca nb Nb Rb qb Sb cb rb sb z ev : Nat) (num plc sig pad row dig cfr cby que has img kep : Nat → Nat) (far : Nat → Int32) (hI : lwI num plc sig pad img kep n q c w nX qX cX N R S k1 k2 na Na Ra qa Sa ca nb Nb Rb qb Sb cb) (H : Heap) (locs : List Loc) (hP : va_P D vwCl (wLA h fl e1 e2 pd sg cI k1 k2 .null nX N R qX S cX na Na Ra qa Sa ca nb Nb Rb qb Sb cb w rb sb pad mo ma mb mc md me mf mg mh mi mj mk ml mn cZ n q c w z ev num plc sig pad row dig far cfr cby que has img kep) H) (hD : va_D A (wLA h fl e1 e2 pd sg cI k1 k2 .null nX N R qX S cX na Na Ra qa Sa ca nb Nb Rb qb Sb cb w rb sb pad mo ma mb mc md me mf mg mh mi mj mk ml mn cZ n q c w z ev num plc sig pad row dig far cfr cby que has img kep)) (hS : va_S A Gs.heap H locs) (ls : Array Slot) (hl : lv_has ls 4 [(0, .ref b), (1, .ref h), (2, .ref mo), (3, .int (nI i))]) : W Gp Gl Ge room_1 Gs Gm #[Value.ref b] Gw Gt Gc H locs 20 20499 (lw_Z Gw #[Value.ref b] Gs) (F0 Gm 662 ls []) := by
  obtain ⟨gx, gb, gr, gml, gown0, gts0, hX, hbl, glk, hgv⟩ := id C0
  have gts : ∀ w ∈ wsL_law, w.before #[Value.ref b] Gs = true := fun w h => gts0 w (wsL_law_in w h)
  have gown : Gs.vm.findClass RL = some Gm.cls := gown0
  have hb1 := sX_bd xs (i + 1)
  have hb2 := sX_bd xs (i + 2)
  have hb3 := sX_bd xs (i + 3)
  obtain ⟨⟨⟨hF, hN, hR, hSS⟩, hnX, hqX, hcX⟩, -⟩ := id hI
  subst hN hR hSS hnX hqX hcX
  obtain ⟨-, ⟨hw60, hgp⟩, ⟨hke1, hke2, hk1, hk2⟩, -, -⟩ := id hI
  obtain ⟨hn1, hn7, hq1, hqn, hp, hinj, hnum, hc6, hsg⟩ := id hF
  have hpl6 : ∀ x, x < q → plc x ≤ 6 := fun x hx => by have := hp x hx; omega
  have hnv : ∀ x, x < q → num (plc x) ≤ 99 := fun x hx => hnum _ (hp x hx)
  have hkep : ∀ j, j < 2 → kep j ≤ 1 := fun j hj => by rcases (show j = 0 ∨ j = 1 by omega) with rfl | rfl <;> omega
  have hP : va_P D vwCl (wLA h fl e1 e2 pd sg cI k1 k2 .null n (pk 256 num n) (pk 8 plc q) q (pk 64 (fun k => 8 * sig (2 * k) + sig (2 * k + 1)) c) c na Na Ra qa Sa ca nb Nb Rb qb Sb cb w rb sb pad mo ma mb mc md me mf mg mh mi mj mk ml mn cZ n q c w z ev num plc sig pad row dig far cfr cby que has img kep) H := hP
  have hD : va_D A (wLA h fl e1 e2 pd sg cI k1 k2 .null n (pk 256 num n) (pk 8 plc q) q (pk 64 (fun k => 8 * sig (2 * k) + sig (2 * k + 1)) c) c na Na Ra qa Sa ca nb Nb Rb qb Sb cb w rb sb pad mo ma mb mc md me mf mg mh mi mj mk ml mn cZ n q c w z ev num plc sig pad row dig far cfr cby que has img kep) := hD
  have hl : lv_has ls 4 [(0, .ref b), (1, .ref h), (2, .ref mo), (3, .int (nI i))] := hl
  refine lv_aload_n gx gb dL_law_662 rfl (lv_at hl 1 rfl) ?_
  refine lv_aload_n gx gb dL_law_663 rfl (lv_at hl 0 rfl) ?_
  refine lv_iload_n gx gb dL_law_664 rfl (lv_at hl 3 rfl) ?_
  refine lv_iconst (v := nI 1) gx gb dL_law_665 (by decide) ?_
  refine lv_iadd gx gb dL_law_666 ?_
  refine lv_evi (nI (i + 1)) (nI_add i 1) ?_
  refine va_sld gx gb hX hbl hbA hS (vp_in_nI (n := i + 1) (by omega) (by omega)) dL_law_667 ?_
  refine lv_evi (zI (sX xs (i + 1))) (sX_rd xs (by omega)) ?_
  refine lv_aload_n gx gb dL_law_668 rfl (lv_at hl 0 rfl) ?_
  refine lv_iload_n gx gb dL_law_669 rfl (lv_at hl 3 rfl) ?_
  refine lv_iconst (v := nI 2) gx gb dL_law_670 (by decide) ?_
  refine lv_iadd gx gb dL_law_671 ?_
  refine lv_evi (nI (i + 2)) (nI_add i 2) ?_
  refine va_sld gx gb hX hbl hbA hS (vp_in_nI (n := i + 2) (by omega) (by omega)) dL_law_672 ?_
  refine lv_evi (zI (sX xs (i + 2))) (sX_rd xs (by omega)) ?_
  refine lv_aload_n gx gb dL_law_673 rfl (lv_at hl 0 rfl) ?_
  refine lv_iload_n gx gb dL_law_674 rfl (lv_at hl 3 rfl) ?_
  refine lv_iconst (v := nI 3) gx gb dL_law_675 (by decide) ?_
  refine lv_iadd gx gb dL_law_676 ?_
  refine lv_evi (nI (i + 3)) (nI_add i 3) ?_
  refine va_sld gx gb hX hbl hbA hS (vp_in_nI (n := i + 3) (by omega) (by omega)) dL_law_677 ?_
  refine lv_evi (zI (sX xs (i + 3))) (sX_rd xs (by omega)) ?_
  have hPc := hP.sub (ws' := wX h fl e1 e2 pd sg cI k1 k2 .null n (pk 256 num n) (pk 8 plc q) q (pk 64 (fun k => 8 * sig (2 * k) + sig (2 * k + 1)) c) c na Na Ra qa Sa ca nb Nb Rb qb Sb cb w rb sb pad) [0, 1, 2, 3, 4, 5] rfl
  refine vp_callSi (W.runV (As := [.int (zI (sX xs (i + 1))), .int (zI (sX xs (i + 2))), .int (zI (sX xs (i + 3)))]) (rest := []) ⟨gx, gb, gml, gown, gts⟩ (kX8_year Gl D cI cJ cZ h fl e1 e2 pd sg k1 k2 .null n q (pk 64 (fun k => 8 * sig (2 * k) + sig (2 * k + 1)) c) c na Na Ra qa Sa ca nb Nb Rb qb Sb cb w rb sb pad num plc (sX xs (i + 1)) (sX xs (i + 2)) (sX xs (i + 3)) (by omega) (by omega) (by omega) (by omega) (by omega) (by omega) (by omega) (by omega) (by omega) (by omega) (by exact hp) (by exact hnum)) (cwV 3 gts gL_law_X8_year rfl rfl rfl (by decide +kernel) ⟨Nat.le_of_ble_eq_true rfl, Nat.le_of_ble_eq_true rfl⟩) ⟨fun a U g mk q => ⟨q.1, q.2.1, va_K.moved (u := U) (U := U.calling g mk a) (Vm.Alike.refl U.vm) q.2.2⟩, va_recv hK hPc (ci := 3) (q0 := 0) rfl rfl, fun U hU hW => ⟨rfl, by rw [hU]; exact hPc, va_K.moved hW.alike hK⟩⟩ rfl rfl hl.1 rfl (lv_room (Nat.le_of_ble_eq_true rfl)) dL_law_678 ⟨Nat.le_of_ble_eq_true rfl, Nat.le_of_ble_eq_true rfl⟩) (fun r hw => ?_)
  have hr678 := hw
  subst hr678
  refine lv_aload_n gx gb dL_law_681 rfl (lv_at hl 2 rfl) ?_
  refine lv_aload_n gx gb dL_law_682 rfl (lv_at hl 0 rfl) ?_
  refine lv_iload_n gx gb dL_law_683 rfl (lv_at hl 3 rfl) ?_
  refine lv_iconst (v := nI 1) gx gb dL_law_684 (by decide) ?_
  refine lv_iadd gx gb dL_law_685 ?_
  refine lv_evi (nI (i + 1)) (nI_add i 1) ?_
  refine va_sld gx gb hX hbl hbA hS (vp_in_nI (n := i + 1) (by omega) (by omega)) dL_law_686 ?_
  refine lv_evi (zI (sX xs (i + 1))) (sX_rd xs (by omega)) ?_
  refine lv_aload_n gx gb dL_law_687 rfl (lv_at hl 0 rfl) ?_
  refine lv_iload_n gx gb dL_law_688 rfl (lv_at hl 3 rfl) ?_
  refine lv_iconst (v := nI 2) gx gb dL_law_689 (by decide) ?_
  refine lv_iadd gx gb dL_law_690 ?_
  refine lv_evi (nI (i + 2)) (nI_add i 2) ?_
  refine va_sld gx gb hX hbl hbA hS (vp_in_nI (n := i + 2) (by omega) (by omega)) dL_law_691 ?_
  refine lv_evi (zI (sX xs (i + 2))) (sX_rd xs (by omega)) ?_
  refine lv_aload_n gx gb dL_law_692 rfl (lv_at hl 0 rfl) ?_
  refine lv_iload_n gx gb dL_law_693 rfl (lv_at hl 3 rfl) ?_
  refine lv_iconst (v := nI 3) gx gb dL_law_694 (by decide) ?_
  refine lv_iadd gx gb dL_law_695 ?_
  refine lv_evi (nI (i + 3)) (nI_add i 3) ?_
  refine va_sld gx gb hX hbl hbA hS (vp_in_nI (n := i + 3) (by omega) (by omega)) dL_law_696 ?_
  refine lv_evi (zI (sX xs (i + 3))) (sX_rd xs (by omega)) ?_
  have hPc := hP.sub (ws' := wM mo ma mb mc md me mf mg mh mi mj mk ml mn cI cZ n q c w z ev num plc sig pad row dig far cfr cby que has img kep) [6, 7, 8, 9, 10, 11, 12, 13, 14, 15, 16, 17, 18, 19] rfl
  have hDc := hD.sub (ws' := wM mo ma mb mc md me mf mg mh mi mj mk ml mn cI cZ n q c w z ev num plc sig pad row dig far cfr cby que has img kep) [6, 7, 8, 9, 10, 11, 12, 13, 14, 15, 16, 17, 18, 19] (by decide) rfl
  have hFc := va_free (wc := wM mo ma mb mc md me mf mg mh mi mj mk ml mn cI cZ n q c w z ev num plc sig pad row dig far cfr cby que has img kep) hD hS hA [6, 7, 8, 9, 10, 11, 12, 13, 14, 15, 16, 17, 18, 19] rfl
  refine va_calli (va_runV (As := [.int (zI (sX xs (i + 1))), .int (zI (sX xs (i + 2))), .int (zI (sX xs (i + 3)))]) (rest := [.int (zI (yrZ num plc n q (sX xs (i + 1)) (sX xs (i + 2)) (sX xs (i + 3))))]) ⟨gx, gb, gml, gown, gts⟩ (kX9_year Gl D cI cJ cZ mo ma mb mc md me mf mg mh mi mj mk ml mn n q c w z ev num plc sig pad row dig far cfr cby que has img kep _ (sX xs (i + 1)) (sX xs (i + 2)) (sX xs (i + 3)) (by omega) (by omega) (by omega) (by omega) (by omega) (by omega) (by omega) (by omega) (by omega) (by omega) (by exact hp) (by exact hnum)) (cwV 3 gts gL_law_X9_year rfl rfl rfl (by decide +kernel) ⟨Nat.le_of_ble_eq_true rfl, Nat.le_of_ble_eq_true rfl⟩) ⟨fun a U g mk q => by obtain ⟨q0, q1, qP, qK, qD⟩ := q; exact ⟨q0, q1, qP, va_K.moved (u := U) (U := U.calling g mk a) (Vm.Alike.refl U.vm) qK, qD⟩, va_recv hK hPc (ci := 4) (q0 := 0) rfl rfl, fun U hU hW => ⟨rfl, by rw [hU], by rw [hU]; exact hPc, va_K.moved hW.alike hK, hDc.weaken (fun _ _ _ _ => trivial)⟩⟩ rfl rfl hl.1 rfl (lv_room (Nat.le_of_ble_eq_true rfl)) dL_law_697 ⟨Nat.le_of_ble_eq_true rfl, Nat.le_of_ble_eq_true rfl⟩) hS (fun q _ h => hFc q h) hFc (fun r u t H1 locs ht hvm hw hB hz1 hk1 hS => ?_)
  obtain ⟨row_697, z_697⟩ := u
  obtain ⟨hP1, hK1, hD1⟩ := hB
  rw [ht] at hP1
  try dsimp only at hw
  try dsimp only at hP1
  try dsimp only at hD1
  have hK := va_K.moved hvm.symm hK1
  obtain ⟨hP, hD⟩ := va_join (wr := [(h, .inr (3, [.ref fl, .ref e1, .ref e2, .int (nI k1), .int (nI k2), .ref pd, .null])), (fl, .inr (0, [.int (nI n), .long (lN (pk 256 num n)), .int (nI (pk 8 plc q)), .int (nI q), .long (lN (pk 64 (fun k => 8 * sig (2 * k) + sig (2 * k + 1)) c)), .int (nI c)])), (e1, .inr (0, [.int (nI na), .long (lN Na), .int (nI Ra), .int (nI qa), .long (lN Sa), .int (nI ca)])), (e2, .inr (0, [.int (nI nb), .long (lN Nb), .int (nI Rb), .int (nI qb), .long (lN Sb), .int (nI cb)])), (pd, .inr (1, [.ref sg, .int (nI w), .int (nI rb), .int (nI sb)])), (sg, .inl (cI, 60, .inl (aN pad)))]) (w1 := wM mo ma mb mc md me mf mg mh mi mj mk ml mn cI cZ n q c w z_697 ev num plc sig pad row_697 dig far cfr cby que has img kep) hP hD [6, 7, 8, 9, 10, 11, 12, 13, 14, 15, 16, 17, 18, 19] [0, 1, 2, 3, 4, 5] rfl rfl (by decide) (by decide) hk1 hFc hP1 hD1
  have hP := hP.sub (ws' := wLA h fl e1 e2 pd sg cI k1 k2 .null n (pk 256 num n) (pk 8 plc q) q (pk 64 (fun k => 8 * sig (2 * k) + sig (2 * k + 1)) c) c na Na Ra qa Sa ca nb Nb Rb qb Sb cb w rb sb pad mo ma mb mc md me mf mg mh mi mj mk ml mn cZ n q c w z_697 ev num plc sig pad row_697 dig far cfr cby que has img kep) [0, 1, 2, 3, 4, 5, 6, 7, 8, 9, 10, 11, 12, 13, 14, 15, 16, 17, 18, 19] rfl
  have hD := hD.sub (ws' := wLA h fl e1 e2 pd sg cI k1 k2 .null n (pk 256 num n) (pk 8 plc q) q (pk 64 (fun k => 8 * sig (2 * k) + sig (2 * k + 1)) c) c na Na Ra qa Sa ca nb Nb Rb qb Sb cb w rb sb pad mo ma mb mc md me mf mg mh mi mj mk ml mn cZ n q c w z_697 ev num plc sig pad row_697 dig far cfr cby que has img kep) [0, 1, 2, 3, 4, 5, 6, 7, 8, 9, 10, 11, 12, 13, 14, 15, 16, 17, 18, 19] (by decide) rfl
  have hK := va_K.moved (Vm.Alike.refl Gs.vm) hK
  generalize H1 = H at hP hS ⊢
  have hr697 := hw
  subst hr697
  refine lv_icmp_eq (tgt := 774) gx gb dL_law_700 (by decide) (fun c700 => ?_) (fun c700 => ?_)
  · skip
    have hNext := hI
    refine lv_iinc (v := nI (i + 4)) (lv' := [(3, .int (nI (i + 4))), (0, .ref b), (1, .ref h), (2, .ref mo)]) gx gb dL_law_774 hl (k := 3) rfl (nI_add i 4) (by decide) rfl (fun ls hl => ?_)
    refine lv_goto (tgt := 18) gx gb dL_law_777 (by decide) ?_
    exact kk n q c w n q c (pk 256 num n) (pk 8 plc q) (pk 64 (fun k => 8 * sig (2 * k) + sig (2 * k + 1)) c) k1 k2 na Na Ra qa Sa ca nb Nb Rb qb Sb cb rb sb z_697 ev num plc sig pad row_697 dig cfr cby que has img kep far hNext H locs hP hD hS ls (lv_sub hl [1, 2, 3, 0] rfl)
  · skip
    exact absurd rfl c700

set_option maxHeartbeats 4000000 in
set_option maxRecDepth 100000 in
theorem lA_image {Gp : Program} {Gl : Launch} {Ge : Env} {Gs : State} {Gm : MethodId} {Gw : List Frame} {Gt : Method} {Gc : Code} {b L : Nat} {xs : Nat → Int32} (hL : L ≤ 256) (C0 : lw_At Gp Gs Gm Gt Gc b L xs) (D : va_G) (cI cJ cZ : ClassId) (A : Nat → Prop) (hA : ∀ q : Nat, Gs.heap.size ≤ q → A q) (hbA : ¬ A b) (hK : va_K D vwCl [(cI, .int), (cJ, .long), (cZ, .boolean)] Gs) (h fl e1 e2 pd sg mo ma mb mc md me mf mg mh mi mj mk ml mn : Nat) (i : Nat) (hi : i + 4 ≤ L) (kk : lwHA Gp Gl Ge Gs Gm Gw Gt Gc b D cI cJ cZ A h fl e1 e2 pd sg mo ma mb mc md me mf mg mh mi mj mk ml mn (i + 4)) (n q c w nX qX cX N R S k1 k2 na Na Ra qa Sa ca nb Nb Rb qb Sb cb rb sb z ev : Nat) (num plc sig pad row dig cfr cby que has img kep : Nat → Nat) (far : Nat → Int32) (hI : lwI num plc sig pad img kep n q c w nX qX cX N R S k1 k2 na Na Ra qa Sa ca nb Nb Rb qb Sb cb) (H : Heap) (locs : List Loc) (hP : va_P D vwCl (wLA h fl e1 e2 pd sg cI k1 k2 .null nX N R qX S cX na Na Ra qa Sa ca nb Nb Rb qb Sb cb w rb sb pad mo ma mb mc md me mf mg mh mi mj mk ml mn cZ n q c w z ev num plc sig pad row dig far cfr cby que has img kep) H) (hD : va_D A (wLA h fl e1 e2 pd sg cI k1 k2 .null nX N R qX S cX na Na Ra qa Sa ca nb Nb Rb qb Sb cb w rb sb pad mo ma mb mc md me mf mg mh mi mj mk ml mn cZ n q c w z ev num plc sig pad row dig far cfr cby que has img kep)) (hS : va_S A Gs.heap H locs) (ls : Array Slot) (hl : lv_has ls 4 [(0, .ref b), (1, .ref h), (2, .ref mo), (3, .int (nI i))]) : W Gp Gl Ge room_1 Gs Gm #[Value.ref b] Gw Gt Gc H locs 20 20499 (lw_Z Gw #[Value.ref b] Gs) (F0 Gm 705 ls []) := by
  obtain ⟨gx, gb, gr, gml, gown0, gts0, hX, hbl, glk, hgv⟩ := id C0
  have gts : ∀ w ∈ wsL_law, w.before #[Value.ref b] Gs = true := fun w h => gts0 w (wsL_law_in w h)
  have gown : Gs.vm.findClass RL = some Gm.cls := gown0
  have hb1 := sX_bd xs (i + 1)
  have hb2 := sX_bd xs (i + 2)
  have hb3 := sX_bd xs (i + 3)
  obtain ⟨⟨⟨hF, hN, hR, hSS⟩, hnX, hqX, hcX⟩, -⟩ := id hI
  subst hN hR hSS hnX hqX hcX
  obtain ⟨-, ⟨hw60, hgp⟩, ⟨hke1, hke2, hk1, hk2⟩, -, -⟩ := id hI
  obtain ⟨hn1, hn7, hq1, hqn, hp, hinj, hnum, hc6, hsg⟩ := id hF
  have hpl6 : ∀ x, x < q → plc x ≤ 6 := fun x hx => by have := hp x hx; omega
  have hnv : ∀ x, x < q → num (plc x) ≤ 99 := fun x hx => hnum _ (hp x hx)
  have hkep : ∀ j, j < 2 → kep j ≤ 1 := fun j hj => by rcases (show j = 0 ∨ j = 1 by omega) with rfl | rfl <;> omega
  have hP : va_P D vwCl (wLA h fl e1 e2 pd sg cI k1 k2 .null n (pk 256 num n) (pk 8 plc q) q (pk 64 (fun k => 8 * sig (2 * k) + sig (2 * k + 1)) c) c na Na Ra qa Sa ca nb Nb Rb qb Sb cb w rb sb pad mo ma mb mc md me mf mg mh mi mj mk ml mn cZ n q c w z ev num plc sig pad row dig far cfr cby que has img kep) H := hP
  have hD : va_D A (wLA h fl e1 e2 pd sg cI k1 k2 .null n (pk 256 num n) (pk 8 plc q) q (pk 64 (fun k => 8 * sig (2 * k) + sig (2 * k + 1)) c) c na Na Ra qa Sa ca nb Nb Rb qb Sb cb w rb sb pad mo ma mb mc md me mf mg mh mi mj mk ml mn cZ n q c w z ev num plc sig pad row dig far cfr cby que has img kep) := hD
  have hl : lv_has ls 4 [(0, .ref b), (1, .ref h), (2, .ref mo), (3, .int (nI i))] := hl
  refine lv_aload_n gx gb dL_law_705 rfl (lv_at hl 1 rfl) ?_
  refine lv_aload_n gx gb dL_law_706 rfl (lv_at hl 0 rfl) ?_
  refine lv_iload_n gx gb dL_law_707 rfl (lv_at hl 3 rfl) ?_
  refine lv_iconst (v := nI 1) gx gb dL_law_708 (by decide) ?_
  refine lv_iadd gx gb dL_law_709 ?_
  refine lv_evi (nI (i + 1)) (nI_add i 1) ?_
  refine va_sld gx gb hX hbl hbA hS (vp_in_nI (n := i + 1) (by omega) (by omega)) dL_law_710 ?_
  refine lv_evi (zI (sX xs (i + 1))) (sX_rd xs (by omega)) ?_
  have hPc := hP.sub (ws' := wX h fl e1 e2 pd sg cI k1 k2 .null n (pk 256 num n) (pk 8 plc q) q (pk 64 (fun k => 8 * sig (2 * k) + sig (2 * k + 1)) c) c na Na Ra qa Sa ca nb Nb Rb qb Sb cb w rb sb pad) [0, 1, 2, 3, 4, 5] rfl
  have hDc := hD.sub (ws' := wX h fl e1 e2 pd sg cI k1 k2 .null n (pk 256 num n) (pk 8 plc q) q (pk 64 (fun k => 8 * sig (2 * k) + sig (2 * k + 1)) c) c na Na Ra qa Sa ca nb Nb Rb qb Sb cb w rb sb pad) [0, 1, 2, 3, 4, 5] (by decide) rfl
  have hFc := va_free (wc := wX h fl e1 e2 pd sg cI k1 k2 .null n (pk 256 num n) (pk 8 plc q) q (pk 64 (fun k => 8 * sig (2 * k) + sig (2 * k + 1)) c) c na Na Ra qa Sa ca nb Nb Rb qb Sb cb w rb sb pad) hD hS hA [0, 1, 2, 3, 4, 5] rfl
  refine va_calli (va_runV (As := [.int (zI (sX xs (i + 1)))]) (rest := []) ⟨gx, gb, gml, gown, gts⟩ (kX8_image Gl D cI cJ cZ h fl e1 e2 pd sg k1 k2 .null n (pk 256 num n) (pk 8 plc q) q (pk 64 (fun k => 8 * sig (2 * k) + sig (2 * k + 1)) c) c na Na Ra qa Sa ca nb Nb Rb qb Sb cb w rb sb pad _ (sX xs (i + 1)) (by omega) (by omega)) (cwV 1 gts gL_law_X8_image rfl rfl rfl (by decide +kernel) ⟨Nat.le_of_ble_eq_true rfl, Nat.le_of_ble_eq_true rfl⟩) ⟨fun a U g mk q => by obtain ⟨q0, q1, qP, qK, qD⟩ := q; exact ⟨q0, q1, qP, va_K.moved (u := U) (U := U.calling g mk a) (Vm.Alike.refl U.vm) qK, qD⟩, va_recv hK hPc (ci := 3) (q0 := 0) rfl rfl, fun U hU hW => ⟨rfl, by rw [hU], by rw [hU]; exact hPc, va_K.moved hW.alike hK, hDc.weaken (fun _ _ _ _ => trivial)⟩⟩ rfl rfl hl.1 rfl (lv_room (Nat.le_of_ble_eq_true rfl)) dL_law_711 ⟨Nat.le_of_ble_eq_true rfl, Nat.le_of_ble_eq_true rfl⟩) hS (fun q _ h => hFc q h) hFc (fun r u t H1 locs ht hvm hw hB hz1 hk1 hS => ?_)
  obtain ⟨hP1, hK1, hD1⟩ := hB
  rw [ht] at hP1
  try dsimp only at hw
  try dsimp only at hP1
  try dsimp only at hD1
  have hK := va_K.moved hvm.symm hK1
  obtain ⟨hP, hD⟩ := va_join (wr := [(mo, .inr (4, [.int (nI n), .int (nI q), .ref ma, .ref mb, .int (nI c), .ref mc, .int (nI w), .ref md, .ref me, .int (nI z), .int (nI ev), .ref mf, .ref mg, .ref mh, .ref mi, .ref mj, .ref mk, .ref ml, .ref mn])), (ma, .inl (cI, 7, .inl (aN num))), (mb, .inl (cI, 7, .inl (aN plc))), (mc, .inl (cI, 12, .inl (aN sig))), (md, .inl (cI, 60, .inl (aN pad))), (me, .inl (cI, 8, .inl (aN row))), (mf, .inl (cI, 7, .inl (aN dig))), (mg, .inl (cI, 5040, .inl far)), (mh, .inl (cI, 5040, .inl (aN cfr))), (mi, .inl (cI, 5040, .inl (aN cby))), (mj, .inl (cI, 5040, .inl (aN que))), (mk, .inl (cI, 64, .inl (aN has))), (ml, .inl (cI, 64, .inl (aN img))), (mn, .inl (cZ, 2, .inl (aN kep)))]) (w1 := wX h fl e1 e2 pd sg cI (if (sX xs (i + 1)) = 0 then 1 else k1) (if (sX xs (i + 1)) = 1 then 1 else k2) .null n (pk 256 num n) (pk 8 plc q) q (pk 64 (fun k => 8 * sig (2 * k) + sig (2 * k + 1)) c) c (if (sX xs (i + 1)) = 0 then n else na) (if (sX xs (i + 1)) = 0 then (pk 256 num n) else Na) (if (sX xs (i + 1)) = 0 then (pk 8 plc q) else Ra) (if (sX xs (i + 1)) = 0 then q else qa) (if (sX xs (i + 1)) = 0 then (pk 64 (fun k => 8 * sig (2 * k) + sig (2 * k + 1)) c) else Sa) (if (sX xs (i + 1)) = 0 then c else ca) (if (sX xs (i + 1)) = 1 then n else nb) (if (sX xs (i + 1)) = 1 then (pk 256 num n) else Nb) (if (sX xs (i + 1)) = 1 then (pk 8 plc q) else Rb) (if (sX xs (i + 1)) = 1 then q else qb) (if (sX xs (i + 1)) = 1 then (pk 64 (fun k => 8 * sig (2 * k) + sig (2 * k + 1)) c) else Sb) (if (sX xs (i + 1)) = 1 then c else cb) w rb sb pad) hP hD [0, 1, 2, 3, 4, 5] [6, 7, 8, 9, 10, 11, 12, 13, 14, 15, 16, 17, 18, 19] rfl rfl (by decide) (by decide) hk1 hFc hP1 hD1
  have hP := hP.sub (ws' := wLA h fl e1 e2 pd sg cI (if (sX xs (i + 1)) = 0 then 1 else k1) (if (sX xs (i + 1)) = 1 then 1 else k2) .null n (pk 256 num n) (pk 8 plc q) q (pk 64 (fun k => 8 * sig (2 * k) + sig (2 * k + 1)) c) c (if (sX xs (i + 1)) = 0 then n else na) (if (sX xs (i + 1)) = 0 then (pk 256 num n) else Na) (if (sX xs (i + 1)) = 0 then (pk 8 plc q) else Ra) (if (sX xs (i + 1)) = 0 then q else qa) (if (sX xs (i + 1)) = 0 then (pk 64 (fun k => 8 * sig (2 * k) + sig (2 * k + 1)) c) else Sa) (if (sX xs (i + 1)) = 0 then c else ca) (if (sX xs (i + 1)) = 1 then n else nb) (if (sX xs (i + 1)) = 1 then (pk 256 num n) else Nb) (if (sX xs (i + 1)) = 1 then (pk 8 plc q) else Rb) (if (sX xs (i + 1)) = 1 then q else qb) (if (sX xs (i + 1)) = 1 then (pk 64 (fun k => 8 * sig (2 * k) + sig (2 * k + 1)) c) else Sb) (if (sX xs (i + 1)) = 1 then c else cb) w rb sb pad mo ma mb mc md me mf mg mh mi mj mk ml mn cZ n q c w z ev num plc sig pad row dig far cfr cby que has img kep) [14, 15, 16, 17, 18, 19, 0, 1, 2, 3, 4, 5, 6, 7, 8, 9, 10, 11, 12, 13] rfl
  have hD := hD.sub (ws' := wLA h fl e1 e2 pd sg cI (if (sX xs (i + 1)) = 0 then 1 else k1) (if (sX xs (i + 1)) = 1 then 1 else k2) .null n (pk 256 num n) (pk 8 plc q) q (pk 64 (fun k => 8 * sig (2 * k) + sig (2 * k + 1)) c) c (if (sX xs (i + 1)) = 0 then n else na) (if (sX xs (i + 1)) = 0 then (pk 256 num n) else Na) (if (sX xs (i + 1)) = 0 then (pk 8 plc q) else Ra) (if (sX xs (i + 1)) = 0 then q else qa) (if (sX xs (i + 1)) = 0 then (pk 64 (fun k => 8 * sig (2 * k) + sig (2 * k + 1)) c) else Sa) (if (sX xs (i + 1)) = 0 then c else ca) (if (sX xs (i + 1)) = 1 then n else nb) (if (sX xs (i + 1)) = 1 then (pk 256 num n) else Nb) (if (sX xs (i + 1)) = 1 then (pk 8 plc q) else Rb) (if (sX xs (i + 1)) = 1 then q else qb) (if (sX xs (i + 1)) = 1 then (pk 64 (fun k => 8 * sig (2 * k) + sig (2 * k + 1)) c) else Sb) (if (sX xs (i + 1)) = 1 then c else cb) w rb sb pad mo ma mb mc md me mf mg mh mi mj mk ml mn cZ n q c w z ev num plc sig pad row dig far cfr cby que has img kep) [14, 15, 16, 17, 18, 19, 0, 1, 2, 3, 4, 5, 6, 7, 8, 9, 10, 11, 12, 13] (by decide) rfl
  have hK := va_K.moved (Vm.Alike.refl Gs.vm) hK
  generalize H1 = H at hP hS ⊢
  have hr711 := hw
  subst hr711
  refine lv_aload_n gx gb dL_law_714 rfl (lv_at hl 2 rfl) ?_
  refine lv_aload_n gx gb dL_law_715 rfl (lv_at hl 0 rfl) ?_
  refine lv_iload_n gx gb dL_law_716 rfl (lv_at hl 3 rfl) ?_
  refine lv_iconst (v := nI 1) gx gb dL_law_717 (by decide) ?_
  refine lv_iadd gx gb dL_law_718 ?_
  refine lv_evi (nI (i + 1)) (nI_add i 1) ?_
  refine va_sld gx gb hX hbl hbA hS (vp_in_nI (n := i + 1) (by omega) (by omega)) dL_law_719 ?_
  refine lv_evi (zI (sX xs (i + 1))) (sX_rd xs (by omega)) ?_
  have hPc := hP.sub (ws' := wM mo ma mb mc md me mf mg mh mi mj mk ml mn cI cZ n q c w z ev num plc sig pad row dig far cfr cby que has img kep) [6, 7, 8, 9, 10, 11, 12, 13, 14, 15, 16, 17, 18, 19] rfl
  have hDc := hD.sub (ws' := wM mo ma mb mc md me mf mg mh mi mj mk ml mn cI cZ n q c w z ev num plc sig pad row dig far cfr cby que has img kep) [6, 7, 8, 9, 10, 11, 12, 13, 14, 15, 16, 17, 18, 19] (by decide) rfl
  have hFc := va_free (wc := wM mo ma mb mc md me mf mg mh mi mj mk ml mn cI cZ n q c w z ev num plc sig pad row dig far cfr cby que has img kep) hD hS hA [6, 7, 8, 9, 10, 11, 12, 13, 14, 15, 16, 17, 18, 19] rfl
  refine va_calli (va_runV (As := [.int (zI (sX xs (i + 1)))]) (rest := [.int (zI (if 0 ≤ (sX xs (i + 1)) ∧ (sX xs (i + 1)) ≤ 1 then 1 else -2))]) ⟨gx, gb, gml, gown, gts⟩ (kX9_image Gl D cI cJ cZ mo ma mb mc md me mf mg mh mi mj mk ml mn n q c w z ev num plc sig pad row dig far cfr cby que has img kep _ (sX xs (i + 1)) (by omega) (by omega)) (cwV 1 gts gL_law_X9_image rfl rfl rfl (by decide +kernel) ⟨Nat.le_of_ble_eq_true rfl, Nat.le_of_ble_eq_true rfl⟩) ⟨fun a U g mk q => by obtain ⟨q0, q1, qP, qK, qD⟩ := q; exact ⟨q0, q1, qP, va_K.moved (u := U) (U := U.calling g mk a) (Vm.Alike.refl U.vm) qK, qD⟩, va_recv hK hPc (ci := 4) (q0 := 0) rfl rfl, fun U hU hW => ⟨rfl, by rw [hU], by rw [hU]; exact hPc, va_K.moved hW.alike hK, hDc.weaken (fun _ _ _ _ => trivial)⟩⟩ rfl rfl hl.1 rfl (lv_room (Nat.le_of_ble_eq_true rfl)) dL_law_720 ⟨Nat.le_of_ble_eq_true rfl, Nat.le_of_ble_eq_true rfl⟩) hS (fun q _ h => hFc q h) hFc (fun r u t H1 locs ht hvm hw hB hz1 hk1 hS => ?_)
  obtain ⟨hP1, hK1, hD1⟩ := hB
  rw [ht] at hP1
  try dsimp only at hw
  try dsimp only at hP1
  try dsimp only at hD1
  have hK := va_K.moved hvm.symm hK1
  obtain ⟨hP, hD⟩ := va_join (wr := [(h, .inr (3, [.ref fl, .ref e1, .ref e2, .int (nI (if (sX xs (i + 1)) = 0 then 1 else k1)), .int (nI (if (sX xs (i + 1)) = 1 then 1 else k2)), .ref pd, .null])), (fl, .inr (0, [.int (nI n), .long (lN (pk 256 num n)), .int (nI (pk 8 plc q)), .int (nI q), .long (lN (pk 64 (fun k => 8 * sig (2 * k) + sig (2 * k + 1)) c)), .int (nI c)])), (e1, .inr (0, [.int (nI (if (sX xs (i + 1)) = 0 then n else na)), .long (lN (if (sX xs (i + 1)) = 0 then (pk 256 num n) else Na)), .int (nI (if (sX xs (i + 1)) = 0 then (pk 8 plc q) else Ra)), .int (nI (if (sX xs (i + 1)) = 0 then q else qa)), .long (lN (if (sX xs (i + 1)) = 0 then (pk 64 (fun k => 8 * sig (2 * k) + sig (2 * k + 1)) c) else Sa)), .int (nI (if (sX xs (i + 1)) = 0 then c else ca))])), (e2, .inr (0, [.int (nI (if (sX xs (i + 1)) = 1 then n else nb)), .long (lN (if (sX xs (i + 1)) = 1 then (pk 256 num n) else Nb)), .int (nI (if (sX xs (i + 1)) = 1 then (pk 8 plc q) else Rb)), .int (nI (if (sX xs (i + 1)) = 1 then q else qb)), .long (lN (if (sX xs (i + 1)) = 1 then (pk 64 (fun k => 8 * sig (2 * k) + sig (2 * k + 1)) c) else Sb)), .int (nI (if (sX xs (i + 1)) = 1 then c else cb))])), (pd, .inr (1, [.ref sg, .int (nI w), .int (nI rb), .int (nI sb)])), (sg, .inl (cI, 60, .inl (aN pad)))]) (w1 := wM mo ma mb mc md me mf mg mh mi mj mk ml mn cI cZ n q c w z ev num plc sig pad row dig far cfr cby que has (if 0 ≤ (sX xs (i + 1)) ∧ (sX xs (i + 1)) ≤ 1 then imF num plc sig n q c (32 * (sX xs (i + 1)).toNat) img else img) (if 0 ≤ (sX xs (i + 1)) ∧ (sX xs (i + 1)) ≤ 1 then up kep (sX xs (i + 1)).toNat 1 else kep)) hP hD [6, 7, 8, 9, 10, 11, 12, 13, 14, 15, 16, 17, 18, 19] [0, 1, 2, 3, 4, 5] rfl rfl (by decide) (by decide) hk1 hFc hP1 hD1
  have hP := hP.sub (ws' := wLA h fl e1 e2 pd sg cI (if (sX xs (i + 1)) = 0 then 1 else k1) (if (sX xs (i + 1)) = 1 then 1 else k2) .null n (pk 256 num n) (pk 8 plc q) q (pk 64 (fun k => 8 * sig (2 * k) + sig (2 * k + 1)) c) c (if (sX xs (i + 1)) = 0 then n else na) (if (sX xs (i + 1)) = 0 then (pk 256 num n) else Na) (if (sX xs (i + 1)) = 0 then (pk 8 plc q) else Ra) (if (sX xs (i + 1)) = 0 then q else qa) (if (sX xs (i + 1)) = 0 then (pk 64 (fun k => 8 * sig (2 * k) + sig (2 * k + 1)) c) else Sa) (if (sX xs (i + 1)) = 0 then c else ca) (if (sX xs (i + 1)) = 1 then n else nb) (if (sX xs (i + 1)) = 1 then (pk 256 num n) else Nb) (if (sX xs (i + 1)) = 1 then (pk 8 plc q) else Rb) (if (sX xs (i + 1)) = 1 then q else qb) (if (sX xs (i + 1)) = 1 then (pk 64 (fun k => 8 * sig (2 * k) + sig (2 * k + 1)) c) else Sb) (if (sX xs (i + 1)) = 1 then c else cb) w rb sb pad mo ma mb mc md me mf mg mh mi mj mk ml mn cZ n q c w z ev num plc sig pad row dig far cfr cby que has (if 0 ≤ (sX xs (i + 1)) ∧ (sX xs (i + 1)) ≤ 1 then imF num plc sig n q c (32 * (sX xs (i + 1)).toNat) img else img) (if 0 ≤ (sX xs (i + 1)) ∧ (sX xs (i + 1)) ≤ 1 then up kep (sX xs (i + 1)).toNat 1 else kep)) [0, 1, 2, 3, 4, 5, 6, 7, 8, 9, 10, 11, 12, 13, 14, 15, 16, 17, 18, 19] rfl
  have hD := hD.sub (ws' := wLA h fl e1 e2 pd sg cI (if (sX xs (i + 1)) = 0 then 1 else k1) (if (sX xs (i + 1)) = 1 then 1 else k2) .null n (pk 256 num n) (pk 8 plc q) q (pk 64 (fun k => 8 * sig (2 * k) + sig (2 * k + 1)) c) c (if (sX xs (i + 1)) = 0 then n else na) (if (sX xs (i + 1)) = 0 then (pk 256 num n) else Na) (if (sX xs (i + 1)) = 0 then (pk 8 plc q) else Ra) (if (sX xs (i + 1)) = 0 then q else qa) (if (sX xs (i + 1)) = 0 then (pk 64 (fun k => 8 * sig (2 * k) + sig (2 * k + 1)) c) else Sa) (if (sX xs (i + 1)) = 0 then c else ca) (if (sX xs (i + 1)) = 1 then n else nb) (if (sX xs (i + 1)) = 1 then (pk 256 num n) else Nb) (if (sX xs (i + 1)) = 1 then (pk 8 plc q) else Rb) (if (sX xs (i + 1)) = 1 then q else qb) (if (sX xs (i + 1)) = 1 then (pk 64 (fun k => 8 * sig (2 * k) + sig (2 * k + 1)) c) else Sb) (if (sX xs (i + 1)) = 1 then c else cb) w rb sb pad mo ma mb mc md me mf mg mh mi mj mk ml mn cZ n q c w z ev num plc sig pad row dig far cfr cby que has (if 0 ≤ (sX xs (i + 1)) ∧ (sX xs (i + 1)) ≤ 1 then imF num plc sig n q c (32 * (sX xs (i + 1)).toNat) img else img) (if 0 ≤ (sX xs (i + 1)) ∧ (sX xs (i + 1)) ≤ 1 then up kep (sX xs (i + 1)).toNat 1 else kep)) [0, 1, 2, 3, 4, 5, 6, 7, 8, 9, 10, 11, 12, 13, 14, 15, 16, 17, 18, 19] (by decide) rfl
  have hK := va_K.moved (Vm.Alike.refl Gs.vm) hK
  generalize H1 = H at hP hS ⊢
  have hr720 := hw
  subst hr720
  refine lv_icmp_eq (tgt := 774) gx gb dL_law_723 (by decide) (fun c723 => ?_) (fun c723 => ?_)
  · skip
    have hNext := lw_image hI (sX xs (i + 1))
    refine lv_iinc (v := nI (i + 4)) (lv' := [(3, .int (nI (i + 4))), (0, .ref b), (1, .ref h), (2, .ref mo)]) gx gb dL_law_774 hl (k := 3) rfl (nI_add i 4) (by decide) rfl (fun ls hl => ?_)
    refine lv_goto (tgt := 18) gx gb dL_law_777 (by decide) ?_
    exact kk n q c w n q c (pk 256 num n) (pk 8 plc q) (pk 64 (fun k => 8 * sig (2 * k) + sig (2 * k + 1)) c) (if (sX xs (i + 1)) = 0 then 1 else k1) (if (sX xs (i + 1)) = 1 then 1 else k2) (if (sX xs (i + 1)) = 0 then n else na) (if (sX xs (i + 1)) = 0 then (pk 256 num n) else Na) (if (sX xs (i + 1)) = 0 then (pk 8 plc q) else Ra) (if (sX xs (i + 1)) = 0 then q else qa) (if (sX xs (i + 1)) = 0 then (pk 64 (fun k => 8 * sig (2 * k) + sig (2 * k + 1)) c) else Sa) (if (sX xs (i + 1)) = 0 then c else ca) (if (sX xs (i + 1)) = 1 then n else nb) (if (sX xs (i + 1)) = 1 then (pk 256 num n) else Nb) (if (sX xs (i + 1)) = 1 then (pk 8 plc q) else Rb) (if (sX xs (i + 1)) = 1 then q else qb) (if (sX xs (i + 1)) = 1 then (pk 64 (fun k => 8 * sig (2 * k) + sig (2 * k + 1)) c) else Sb) (if (sX xs (i + 1)) = 1 then c else cb) rb sb z ev num plc sig pad row dig cfr cby que has (if 0 ≤ (sX xs (i + 1)) ∧ (sX xs (i + 1)) ≤ 1 then imF num plc sig n q c (32 * (sX xs (i + 1)).toNat) img else img) (if 0 ≤ (sX xs (i + 1)) ∧ (sX xs (i + 1)) ≤ 1 then up kep (sX xs (i + 1)).toNat 1 else kep) far hNext H locs hP hD hS ls (lv_sub hl [1, 2, 3, 0] rfl)
  · skip
    exact absurd rfl c723

set_option maxHeartbeats 4000000 in
set_option maxRecDepth 100000 in
theorem lA_restore {Gp : Program} {Gl : Launch} {Ge : Env} {Gs : State} {Gm : MethodId} {Gw : List Frame} {Gt : Method} {Gc : Code} {b L : Nat} {xs : Nat → Int32} (hL : L ≤ 256) (C0 : lw_At Gp Gs Gm Gt Gc b L xs) (D : va_G) (cI cJ cZ : ClassId) (A : Nat → Prop) (hA : ∀ q : Nat, Gs.heap.size ≤ q → A q) (hbA : ¬ A b) (hK : va_K D vwCl [(cI, .int), (cJ, .long), (cZ, .boolean)] Gs) (h fl e1 e2 pd sg mo ma mb mc md me mf mg mh mi mj mk ml mn : Nat) (i : Nat) (hi : i + 4 ≤ L) (kk : lwHA Gp Gl Ge Gs Gm Gw Gt Gc b D cI cJ cZ A h fl e1 e2 pd sg mo ma mb mc md me mf mg mh mi mj mk ml mn (i + 4)) (n q c w nX qX cX N R S k1 k2 na Na Ra qa Sa ca nb Nb Rb qb Sb cb rb sb z ev : Nat) (num plc sig pad row dig cfr cby que has img kep : Nat → Nat) (far : Nat → Int32) (hI : lwI num plc sig pad img kep n q c w nX qX cX N R S k1 k2 na Na Ra qa Sa ca nb Nb Rb qb Sb cb) (H : Heap) (locs : List Loc) (hP : va_P D vwCl (wLA h fl e1 e2 pd sg cI k1 k2 .null nX N R qX S cX na Na Ra qa Sa ca nb Nb Rb qb Sb cb w rb sb pad mo ma mb mc md me mf mg mh mi mj mk ml mn cZ n q c w z ev num plc sig pad row dig far cfr cby que has img kep) H) (hD : va_D A (wLA h fl e1 e2 pd sg cI k1 k2 .null nX N R qX S cX na Na Ra qa Sa ca nb Nb Rb qb Sb cb w rb sb pad mo ma mb mc md me mf mg mh mi mj mk ml mn cZ n q c w z ev num plc sig pad row dig far cfr cby que has img kep)) (hS : va_S A Gs.heap H locs) (ls : Array Slot) (hl : lv_has ls 4 [(0, .ref b), (1, .ref h), (2, .ref mo), (3, .int (nI i))]) : W Gp Gl Ge room_1 Gs Gm #[Value.ref b] Gw Gt Gc H locs 20 20499 (lw_Z Gw #[Value.ref b] Gs) (F0 Gm 728 ls []) := by
  obtain ⟨gx, gb, gr, gml, gown0, gts0, hX, hbl, glk, hgv⟩ := id C0
  have gts : ∀ w ∈ wsL_law, w.before #[Value.ref b] Gs = true := fun w h => gts0 w (wsL_law_in w h)
  have gown : Gs.vm.findClass RL = some Gm.cls := gown0
  have hb1 := sX_bd xs (i + 1)
  have hb2 := sX_bd xs (i + 2)
  have hb3 := sX_bd xs (i + 3)
  obtain ⟨⟨⟨hF, hN, hR, hSS⟩, hnX, hqX, hcX⟩, -⟩ := id hI
  subst hN hR hSS hnX hqX hcX
  obtain ⟨-, ⟨hw60, hgp⟩, ⟨hke1, hke2, hk1, hk2⟩, -, -⟩ := id hI
  obtain ⟨hn1, hn7, hq1, hqn, hp, hinj, hnum, hc6, hsg⟩ := id hF
  have hpl6 : ∀ x, x < q → plc x ≤ 6 := fun x hx => by have := hp x hx; omega
  have hnv : ∀ x, x < q → num (plc x) ≤ 99 := fun x hx => hnum _ (hp x hx)
  have hkep : ∀ j, j < 2 → kep j ≤ 1 := fun j hj => by rcases (show j = 0 ∨ j = 1 by omega) with rfl | rfl <;> omega
  have hP : va_P D vwCl (wLA h fl e1 e2 pd sg cI k1 k2 .null n (pk 256 num n) (pk 8 plc q) q (pk 64 (fun k => 8 * sig (2 * k) + sig (2 * k + 1)) c) c na Na Ra qa Sa ca nb Nb Rb qb Sb cb w rb sb pad mo ma mb mc md me mf mg mh mi mj mk ml mn cZ n q c w z ev num plc sig pad row dig far cfr cby que has img kep) H := hP
  have hD : va_D A (wLA h fl e1 e2 pd sg cI k1 k2 .null n (pk 256 num n) (pk 8 plc q) q (pk 64 (fun k => 8 * sig (2 * k) + sig (2 * k + 1)) c) c na Na Ra qa Sa ca nb Nb Rb qb Sb cb w rb sb pad mo ma mb mc md me mf mg mh mi mj mk ml mn cZ n q c w z ev num plc sig pad row dig far cfr cby que has img kep) := hD
  have hl : lv_has ls 4 [(0, .ref b), (1, .ref h), (2, .ref mo), (3, .int (nI i))] := hl
  refine lv_aload_n gx gb dL_law_728 rfl (lv_at hl 1 rfl) ?_
  refine lv_aload_n gx gb dL_law_729 rfl (lv_at hl 0 rfl) ?_
  refine lv_iload_n gx gb dL_law_730 rfl (lv_at hl 3 rfl) ?_
  refine lv_iconst (v := nI 1) gx gb dL_law_731 (by decide) ?_
  refine lv_iadd gx gb dL_law_732 ?_
  refine lv_evi (nI (i + 1)) (nI_add i 1) ?_
  refine va_sld gx gb hX hbl hbA hS (vp_in_nI (n := i + 1) (by omega) (by omega)) dL_law_733 ?_
  refine lv_evi (zI (sX xs (i + 1))) (sX_rd xs (by omega)) ?_
  have hPc := hP.sub (ws' := wX h fl e1 e2 pd sg cI k1 k2 .null n (pk 256 num n) (pk 8 plc q) q (pk 64 (fun k => 8 * sig (2 * k) + sig (2 * k + 1)) c) c na Na Ra qa Sa ca nb Nb Rb qb Sb cb w rb sb pad) [0, 1, 2, 3, 4, 5] rfl
  have hDc := hD.sub (ws' := wX h fl e1 e2 pd sg cI k1 k2 .null n (pk 256 num n) (pk 8 plc q) q (pk 64 (fun k => 8 * sig (2 * k) + sig (2 * k + 1)) c) c na Na Ra qa Sa ca nb Nb Rb qb Sb cb w rb sb pad) [0, 1, 2, 3, 4, 5] (by decide) rfl
  have hFc := va_free (wc := wX h fl e1 e2 pd sg cI k1 k2 .null n (pk 256 num n) (pk 8 plc q) q (pk 64 (fun k => 8 * sig (2 * k) + sig (2 * k + 1)) c) c na Na Ra qa Sa ca nb Nb Rb qb Sb cb w rb sb pad) hD hS hA [0, 1, 2, 3, 4, 5] rfl
  refine va_calli (va_runV (As := [.int (zI (sX xs (i + 1)))]) (rest := []) ⟨gx, gb, gml, gown, gts⟩ (kX8_restore Gl D cI cJ cZ h fl e1 e2 pd sg k1 k2 .null n (pk 256 num n) (pk 8 plc q) q (pk 64 (fun k => 8 * sig (2 * k) + sig (2 * k + 1)) c) c na Na Ra qa Sa ca nb Nb Rb qb Sb cb w rb sb pad _ (sX xs (i + 1)) (by omega) (by omega) (by omega) (by omega)) (cwV 1 gts gL_law_X8_restore rfl rfl rfl (by decide +kernel) ⟨Nat.le_of_ble_eq_true rfl, Nat.le_of_ble_eq_true rfl⟩) ⟨fun a U g mk q => by obtain ⟨q0, q1, qP, qK, qD⟩ := q; exact ⟨q0, q1, qP, va_K.moved (u := U) (U := U.calling g mk a) (Vm.Alike.refl U.vm) qK, qD⟩, va_recv hK hPc (ci := 3) (q0 := 0) rfl rfl, fun U hU hW => ⟨rfl, by rw [hU], by rw [hU]; exact hPc, va_K.moved hW.alike hK, hDc.weaken (fun _ _ _ _ => trivial)⟩⟩ rfl rfl hl.1 rfl (lv_room (Nat.le_of_ble_eq_true rfl)) dL_law_734 ⟨Nat.le_of_ble_eq_true rfl, Nat.le_of_ble_eq_true rfl⟩) hS (fun q _ h => hFc q h) hFc (fun r u t H1 locs ht hvm hw hB hz1 hk1 hS => ?_)
  obtain ⟨hP1, hK1, hD1⟩ := hB
  rw [ht] at hP1
  try dsimp only at hw
  try dsimp only at hP1
  try dsimp only at hD1
  have hK := va_K.moved hvm.symm hK1
  obtain ⟨hP, hD⟩ := va_join (wr := [(mo, .inr (4, [.int (nI n), .int (nI q), .ref ma, .ref mb, .int (nI c), .ref mc, .int (nI w), .ref md, .ref me, .int (nI z), .int (nI ev), .ref mf, .ref mg, .ref mh, .ref mi, .ref mj, .ref mk, .ref ml, .ref mn])), (ma, .inl (cI, 7, .inl (aN num))), (mb, .inl (cI, 7, .inl (aN plc))), (mc, .inl (cI, 12, .inl (aN sig))), (md, .inl (cI, 60, .inl (aN pad))), (me, .inl (cI, 8, .inl (aN row))), (mf, .inl (cI, 7, .inl (aN dig))), (mg, .inl (cI, 5040, .inl far)), (mh, .inl (cI, 5040, .inl (aN cfr))), (mi, .inl (cI, 5040, .inl (aN cby))), (mj, .inl (cI, 5040, .inl (aN que))), (mk, .inl (cI, 64, .inl (aN has))), (ml, .inl (cI, 64, .inl (aN img))), (mn, .inl (cZ, 2, .inl (aN kep)))]) (w1 := wX h fl e1 e2 pd sg cI k1 k2 .null (if (sX xs (i + 1)) = 0 ∧ k1 ≠ 0 then na else if (sX xs (i + 1)) = 1 ∧ k2 ≠ 0 then nb else n) (if (sX xs (i + 1)) = 0 ∧ k1 ≠ 0 then Na else if (sX xs (i + 1)) = 1 ∧ k2 ≠ 0 then Nb else (pk 256 num n)) (if (sX xs (i + 1)) = 0 ∧ k1 ≠ 0 then Ra else if (sX xs (i + 1)) = 1 ∧ k2 ≠ 0 then Rb else (pk 8 plc q)) (if (sX xs (i + 1)) = 0 ∧ k1 ≠ 0 then qa else if (sX xs (i + 1)) = 1 ∧ k2 ≠ 0 then qb else q) (if (sX xs (i + 1)) = 0 ∧ k1 ≠ 0 then Sa else if (sX xs (i + 1)) = 1 ∧ k2 ≠ 0 then Sb else (pk 64 (fun k => 8 * sig (2 * k) + sig (2 * k + 1)) c)) (if (sX xs (i + 1)) = 0 ∧ k1 ≠ 0 then ca else if (sX xs (i + 1)) = 1 ∧ k2 ≠ 0 then cb else c) na Na Ra qa Sa ca nb Nb Rb qb Sb cb w rb sb pad) hP hD [0, 1, 2, 3, 4, 5] [6, 7, 8, 9, 10, 11, 12, 13, 14, 15, 16, 17, 18, 19] rfl rfl (by decide) (by decide) hk1 hFc hP1 hD1
  have hP := hP.sub (ws' := wLA h fl e1 e2 pd sg cI k1 k2 .null (if (sX xs (i + 1)) = 0 ∧ k1 ≠ 0 then na else if (sX xs (i + 1)) = 1 ∧ k2 ≠ 0 then nb else n) (if (sX xs (i + 1)) = 0 ∧ k1 ≠ 0 then Na else if (sX xs (i + 1)) = 1 ∧ k2 ≠ 0 then Nb else (pk 256 num n)) (if (sX xs (i + 1)) = 0 ∧ k1 ≠ 0 then Ra else if (sX xs (i + 1)) = 1 ∧ k2 ≠ 0 then Rb else (pk 8 plc q)) (if (sX xs (i + 1)) = 0 ∧ k1 ≠ 0 then qa else if (sX xs (i + 1)) = 1 ∧ k2 ≠ 0 then qb else q) (if (sX xs (i + 1)) = 0 ∧ k1 ≠ 0 then Sa else if (sX xs (i + 1)) = 1 ∧ k2 ≠ 0 then Sb else (pk 64 (fun k => 8 * sig (2 * k) + sig (2 * k + 1)) c)) (if (sX xs (i + 1)) = 0 ∧ k1 ≠ 0 then ca else if (sX xs (i + 1)) = 1 ∧ k2 ≠ 0 then cb else c) na Na Ra qa Sa ca nb Nb Rb qb Sb cb w rb sb pad mo ma mb mc md me mf mg mh mi mj mk ml mn cZ n q c w z ev num plc sig pad row dig far cfr cby que has img kep) [14, 15, 16, 17, 18, 19, 0, 1, 2, 3, 4, 5, 6, 7, 8, 9, 10, 11, 12, 13] rfl
  have hD := hD.sub (ws' := wLA h fl e1 e2 pd sg cI k1 k2 .null (if (sX xs (i + 1)) = 0 ∧ k1 ≠ 0 then na else if (sX xs (i + 1)) = 1 ∧ k2 ≠ 0 then nb else n) (if (sX xs (i + 1)) = 0 ∧ k1 ≠ 0 then Na else if (sX xs (i + 1)) = 1 ∧ k2 ≠ 0 then Nb else (pk 256 num n)) (if (sX xs (i + 1)) = 0 ∧ k1 ≠ 0 then Ra else if (sX xs (i + 1)) = 1 ∧ k2 ≠ 0 then Rb else (pk 8 plc q)) (if (sX xs (i + 1)) = 0 ∧ k1 ≠ 0 then qa else if (sX xs (i + 1)) = 1 ∧ k2 ≠ 0 then qb else q) (if (sX xs (i + 1)) = 0 ∧ k1 ≠ 0 then Sa else if (sX xs (i + 1)) = 1 ∧ k2 ≠ 0 then Sb else (pk 64 (fun k => 8 * sig (2 * k) + sig (2 * k + 1)) c)) (if (sX xs (i + 1)) = 0 ∧ k1 ≠ 0 then ca else if (sX xs (i + 1)) = 1 ∧ k2 ≠ 0 then cb else c) na Na Ra qa Sa ca nb Nb Rb qb Sb cb w rb sb pad mo ma mb mc md me mf mg mh mi mj mk ml mn cZ n q c w z ev num plc sig pad row dig far cfr cby que has img kep) [14, 15, 16, 17, 18, 19, 0, 1, 2, 3, 4, 5, 6, 7, 8, 9, 10, 11, 12, 13] (by decide) rfl
  have hK := va_K.moved (Vm.Alike.refl Gs.vm) hK
  generalize H1 = H at hP hS ⊢
  have hr734 := hw
  subst hr734
  refine lv_aload_n gx gb dL_law_737 rfl (lv_at hl 2 rfl) ?_
  refine lv_aload_n gx gb dL_law_738 rfl (lv_at hl 0 rfl) ?_
  refine lv_iload_n gx gb dL_law_739 rfl (lv_at hl 3 rfl) ?_
  refine lv_iconst (v := nI 1) gx gb dL_law_740 (by decide) ?_
  refine lv_iadd gx gb dL_law_741 ?_
  refine lv_evi (nI (i + 1)) (nI_add i 1) ?_
  refine va_sld gx gb hX hbl hbA hS (vp_in_nI (n := i + 1) (by omega) (by omega)) dL_law_742 ?_
  refine lv_evi (zI (sX xs (i + 1))) (sX_rd xs (by omega)) ?_
  have hPc := hP.sub (ws' := wM mo ma mb mc md me mf mg mh mi mj mk ml mn cI cZ n q c w z ev num plc sig pad row dig far cfr cby que has img kep) [6, 7, 8, 9, 10, 11, 12, 13, 14, 15, 16, 17, 18, 19] rfl
  have hDc := hD.sub (ws' := wM mo ma mb mc md me mf mg mh mi mj mk ml mn cI cZ n q c w z ev num plc sig pad row dig far cfr cby que has img kep) [6, 7, 8, 9, 10, 11, 12, 13, 14, 15, 16, 17, 18, 19] (by decide) rfl
  have hFc := va_free (wc := wM mo ma mb mc md me mf mg mh mi mj mk ml mn cI cZ n q c w z ev num plc sig pad row dig far cfr cby que has img kep) hD hS hA [6, 7, 8, 9, 10, 11, 12, 13, 14, 15, 16, 17, 18, 19] rfl
  refine va_calli (va_runV (As := [.int (zI (sX xs (i + 1)))]) (rest := [.int (zI (if 0 ≤ (sX xs (i + 1)) ∧ (sX xs (i + 1)) ≤ 1 then (if ((sX xs (i + 1)) = 0 ∧ k1 ≠ 0) ∨ ((sX xs (i + 1)) = 1 ∧ k2 ≠ 0) then 1 else -3) else -2))]) ⟨gx, gb, gml, gown, gts⟩ (kX9_restore Gl D cI cJ cZ mo ma mb mc md me mf mg mh mi mj mk ml mn n q c w z ev num plc sig pad row dig far cfr cby que has img kep _ (sX xs (i + 1)) (by omega) (by omega) (by exact hkep)) (cwV 1 gts gL_law_X9_restore rfl rfl rfl (by decide +kernel) ⟨Nat.le_of_ble_eq_true rfl, Nat.le_of_ble_eq_true rfl⟩) ⟨fun a U g mk q => by obtain ⟨q0, q1, qP, qK, qD⟩ := q; exact ⟨q0, q1, qP, va_K.moved (u := U) (U := U.calling g mk a) (Vm.Alike.refl U.vm) qK, qD⟩, va_recv hK hPc (ci := 4) (q0 := 0) rfl rfl, fun U hU hW => ⟨rfl, by rw [hU], by rw [hU]; exact hPc, va_K.moved hW.alike hK, hDc.weaken (fun _ _ _ _ => trivial)⟩⟩ rfl rfl hl.1 rfl (lv_room (Nat.le_of_ble_eq_true rfl)) dL_law_743 ⟨Nat.le_of_ble_eq_true rfl, Nat.le_of_ble_eq_true rfl⟩) hS (fun q _ h => hFc q h) hFc (fun r u t H1 locs ht hvm hw hB hz1 hk1 hS => ?_)
  obtain ⟨hP1, hK1, hD1⟩ := hB
  rw [ht] at hP1
  try dsimp only at hw
  try dsimp only at hP1
  try dsimp only at hD1
  have hK := va_K.moved hvm.symm hK1
  obtain ⟨hP, hD⟩ := va_join (wr := [(h, .inr (3, [.ref fl, .ref e1, .ref e2, .int (nI k1), .int (nI k2), .ref pd, .null])), (fl, .inr (0, [.int (nI (if (sX xs (i + 1)) = 0 ∧ k1 ≠ 0 then na else if (sX xs (i + 1)) = 1 ∧ k2 ≠ 0 then nb else n)), .long (lN (if (sX xs (i + 1)) = 0 ∧ k1 ≠ 0 then Na else if (sX xs (i + 1)) = 1 ∧ k2 ≠ 0 then Nb else (pk 256 num n))), .int (nI (if (sX xs (i + 1)) = 0 ∧ k1 ≠ 0 then Ra else if (sX xs (i + 1)) = 1 ∧ k2 ≠ 0 then Rb else (pk 8 plc q))), .int (nI (if (sX xs (i + 1)) = 0 ∧ k1 ≠ 0 then qa else if (sX xs (i + 1)) = 1 ∧ k2 ≠ 0 then qb else q)), .long (lN (if (sX xs (i + 1)) = 0 ∧ k1 ≠ 0 then Sa else if (sX xs (i + 1)) = 1 ∧ k2 ≠ 0 then Sb else (pk 64 (fun k => 8 * sig (2 * k) + sig (2 * k + 1)) c))), .int (nI (if (sX xs (i + 1)) = 0 ∧ k1 ≠ 0 then ca else if (sX xs (i + 1)) = 1 ∧ k2 ≠ 0 then cb else c))])), (e1, .inr (0, [.int (nI na), .long (lN Na), .int (nI Ra), .int (nI qa), .long (lN Sa), .int (nI ca)])), (e2, .inr (0, [.int (nI nb), .long (lN Nb), .int (nI Rb), .int (nI qb), .long (lN Sb), .int (nI cb)])), (pd, .inr (1, [.ref sg, .int (nI w), .int (nI rb), .int (nI sb)])), (sg, .inl (cI, 60, .inl (aN pad)))]) (w1 := wM mo ma mb mc md me mf mg mh mi mj mk ml mn cI cZ (if (0 ≤ (sX xs (i + 1)) ∧ (sX xs (i + 1)) ≤ 1) ∧ kep (sX xs (i + 1)).toNat ≠ 0 then img (32 * (sX xs (i + 1)).toNat + 26) else n) (if (0 ≤ (sX xs (i + 1)) ∧ (sX xs (i + 1)) ≤ 1) ∧ kep (sX xs (i + 1)).toNat ≠ 0 then img (32 * (sX xs (i + 1)).toNat + 27) else q) (if (0 ≤ (sX xs (i + 1)) ∧ (sX xs (i + 1)) ≤ 1) ∧ kep (sX xs (i + 1)).toNat ≠ 0 then img (32 * (sX xs (i + 1)).toNat + 28) else c) w z ev (if (0 ≤ (sX xs (i + 1)) ∧ (sX xs (i + 1)) ≤ 1) ∧ kep (sX xs (i + 1)).toNat ≠ 0 then cpy (fun k => img (32 * (sX xs (i + 1)).toNat + k)) num 7 else num) (if (0 ≤ (sX xs (i + 1)) ∧ (sX xs (i + 1)) ≤ 1) ∧ kep (sX xs (i + 1)).toNat ≠ 0 then cpy (fun k => img (32 * (sX xs (i + 1)).toNat + 7 + k)) plc 7 else plc) (if (0 ≤ (sX xs (i + 1)) ∧ (sX xs (i + 1)) ≤ 1) ∧ kep (sX xs (i + 1)).toNat ≠ 0 then cpy (fun k => img (32 * (sX xs (i + 1)).toNat + 14 + k)) sig 12 else sig) pad row dig far cfr cby que has img kep) hP hD [6, 7, 8, 9, 10, 11, 12, 13, 14, 15, 16, 17, 18, 19] [0, 1, 2, 3, 4, 5] rfl rfl (by decide) (by decide) hk1 hFc hP1 hD1
  have hP := hP.sub (ws' := wLA h fl e1 e2 pd sg cI k1 k2 .null (if (sX xs (i + 1)) = 0 ∧ k1 ≠ 0 then na else if (sX xs (i + 1)) = 1 ∧ k2 ≠ 0 then nb else n) (if (sX xs (i + 1)) = 0 ∧ k1 ≠ 0 then Na else if (sX xs (i + 1)) = 1 ∧ k2 ≠ 0 then Nb else (pk 256 num n)) (if (sX xs (i + 1)) = 0 ∧ k1 ≠ 0 then Ra else if (sX xs (i + 1)) = 1 ∧ k2 ≠ 0 then Rb else (pk 8 plc q)) (if (sX xs (i + 1)) = 0 ∧ k1 ≠ 0 then qa else if (sX xs (i + 1)) = 1 ∧ k2 ≠ 0 then qb else q) (if (sX xs (i + 1)) = 0 ∧ k1 ≠ 0 then Sa else if (sX xs (i + 1)) = 1 ∧ k2 ≠ 0 then Sb else (pk 64 (fun k => 8 * sig (2 * k) + sig (2 * k + 1)) c)) (if (sX xs (i + 1)) = 0 ∧ k1 ≠ 0 then ca else if (sX xs (i + 1)) = 1 ∧ k2 ≠ 0 then cb else c) na Na Ra qa Sa ca nb Nb Rb qb Sb cb w rb sb pad mo ma mb mc md me mf mg mh mi mj mk ml mn cZ (if (0 ≤ (sX xs (i + 1)) ∧ (sX xs (i + 1)) ≤ 1) ∧ kep (sX xs (i + 1)).toNat ≠ 0 then img (32 * (sX xs (i + 1)).toNat + 26) else n) (if (0 ≤ (sX xs (i + 1)) ∧ (sX xs (i + 1)) ≤ 1) ∧ kep (sX xs (i + 1)).toNat ≠ 0 then img (32 * (sX xs (i + 1)).toNat + 27) else q) (if (0 ≤ (sX xs (i + 1)) ∧ (sX xs (i + 1)) ≤ 1) ∧ kep (sX xs (i + 1)).toNat ≠ 0 then img (32 * (sX xs (i + 1)).toNat + 28) else c) w z ev (if (0 ≤ (sX xs (i + 1)) ∧ (sX xs (i + 1)) ≤ 1) ∧ kep (sX xs (i + 1)).toNat ≠ 0 then cpy (fun k => img (32 * (sX xs (i + 1)).toNat + k)) num 7 else num) (if (0 ≤ (sX xs (i + 1)) ∧ (sX xs (i + 1)) ≤ 1) ∧ kep (sX xs (i + 1)).toNat ≠ 0 then cpy (fun k => img (32 * (sX xs (i + 1)).toNat + 7 + k)) plc 7 else plc) (if (0 ≤ (sX xs (i + 1)) ∧ (sX xs (i + 1)) ≤ 1) ∧ kep (sX xs (i + 1)).toNat ≠ 0 then cpy (fun k => img (32 * (sX xs (i + 1)).toNat + 14 + k)) sig 12 else sig) pad row dig far cfr cby que has img kep) [0, 1, 2, 3, 4, 5, 6, 7, 8, 9, 10, 11, 12, 13, 14, 15, 16, 17, 18, 19] rfl
  have hD := hD.sub (ws' := wLA h fl e1 e2 pd sg cI k1 k2 .null (if (sX xs (i + 1)) = 0 ∧ k1 ≠ 0 then na else if (sX xs (i + 1)) = 1 ∧ k2 ≠ 0 then nb else n) (if (sX xs (i + 1)) = 0 ∧ k1 ≠ 0 then Na else if (sX xs (i + 1)) = 1 ∧ k2 ≠ 0 then Nb else (pk 256 num n)) (if (sX xs (i + 1)) = 0 ∧ k1 ≠ 0 then Ra else if (sX xs (i + 1)) = 1 ∧ k2 ≠ 0 then Rb else (pk 8 plc q)) (if (sX xs (i + 1)) = 0 ∧ k1 ≠ 0 then qa else if (sX xs (i + 1)) = 1 ∧ k2 ≠ 0 then qb else q) (if (sX xs (i + 1)) = 0 ∧ k1 ≠ 0 then Sa else if (sX xs (i + 1)) = 1 ∧ k2 ≠ 0 then Sb else (pk 64 (fun k => 8 * sig (2 * k) + sig (2 * k + 1)) c)) (if (sX xs (i + 1)) = 0 ∧ k1 ≠ 0 then ca else if (sX xs (i + 1)) = 1 ∧ k2 ≠ 0 then cb else c) na Na Ra qa Sa ca nb Nb Rb qb Sb cb w rb sb pad mo ma mb mc md me mf mg mh mi mj mk ml mn cZ (if (0 ≤ (sX xs (i + 1)) ∧ (sX xs (i + 1)) ≤ 1) ∧ kep (sX xs (i + 1)).toNat ≠ 0 then img (32 * (sX xs (i + 1)).toNat + 26) else n) (if (0 ≤ (sX xs (i + 1)) ∧ (sX xs (i + 1)) ≤ 1) ∧ kep (sX xs (i + 1)).toNat ≠ 0 then img (32 * (sX xs (i + 1)).toNat + 27) else q) (if (0 ≤ (sX xs (i + 1)) ∧ (sX xs (i + 1)) ≤ 1) ∧ kep (sX xs (i + 1)).toNat ≠ 0 then img (32 * (sX xs (i + 1)).toNat + 28) else c) w z ev (if (0 ≤ (sX xs (i + 1)) ∧ (sX xs (i + 1)) ≤ 1) ∧ kep (sX xs (i + 1)).toNat ≠ 0 then cpy (fun k => img (32 * (sX xs (i + 1)).toNat + k)) num 7 else num) (if (0 ≤ (sX xs (i + 1)) ∧ (sX xs (i + 1)) ≤ 1) ∧ kep (sX xs (i + 1)).toNat ≠ 0 then cpy (fun k => img (32 * (sX xs (i + 1)).toNat + 7 + k)) plc 7 else plc) (if (0 ≤ (sX xs (i + 1)) ∧ (sX xs (i + 1)) ≤ 1) ∧ kep (sX xs (i + 1)).toNat ≠ 0 then cpy (fun k => img (32 * (sX xs (i + 1)).toNat + 14 + k)) sig 12 else sig) pad row dig far cfr cby que has img kep) [0, 1, 2, 3, 4, 5, 6, 7, 8, 9, 10, 11, 12, 13, 14, 15, 16, 17, 18, 19] (by decide) rfl
  have hK := va_K.moved (Vm.Alike.refl Gs.vm) hK
  generalize H1 = H at hP hS ⊢
  have hr743 := hw
  subst hr743
  refine lv_icmp_eq (tgt := 774) gx gb dL_law_746 (by decide) (fun c746 => ?_) (fun c746 => ?_)
  · skip
    have hNext := lw_restore hI (sX xs (i + 1))
    refine lv_iinc (v := nI (i + 4)) (lv' := [(3, .int (nI (i + 4))), (0, .ref b), (1, .ref h), (2, .ref mo)]) gx gb dL_law_774 hl (k := 3) rfl (nI_add i 4) (by decide) rfl (fun ls hl => ?_)
    refine lv_goto (tgt := 18) gx gb dL_law_777 (by decide) ?_
    exact kk (if (0 ≤ (sX xs (i + 1)) ∧ (sX xs (i + 1)) ≤ 1) ∧ kep (sX xs (i + 1)).toNat ≠ 0 then img (32 * (sX xs (i + 1)).toNat + 26) else n) (if (0 ≤ (sX xs (i + 1)) ∧ (sX xs (i + 1)) ≤ 1) ∧ kep (sX xs (i + 1)).toNat ≠ 0 then img (32 * (sX xs (i + 1)).toNat + 27) else q) (if (0 ≤ (sX xs (i + 1)) ∧ (sX xs (i + 1)) ≤ 1) ∧ kep (sX xs (i + 1)).toNat ≠ 0 then img (32 * (sX xs (i + 1)).toNat + 28) else c) w (if (sX xs (i + 1)) = 0 ∧ k1 ≠ 0 then na else if (sX xs (i + 1)) = 1 ∧ k2 ≠ 0 then nb else n) (if (sX xs (i + 1)) = 0 ∧ k1 ≠ 0 then qa else if (sX xs (i + 1)) = 1 ∧ k2 ≠ 0 then qb else q) (if (sX xs (i + 1)) = 0 ∧ k1 ≠ 0 then ca else if (sX xs (i + 1)) = 1 ∧ k2 ≠ 0 then cb else c) (if (sX xs (i + 1)) = 0 ∧ k1 ≠ 0 then Na else if (sX xs (i + 1)) = 1 ∧ k2 ≠ 0 then Nb else (pk 256 num n)) (if (sX xs (i + 1)) = 0 ∧ k1 ≠ 0 then Ra else if (sX xs (i + 1)) = 1 ∧ k2 ≠ 0 then Rb else (pk 8 plc q)) (if (sX xs (i + 1)) = 0 ∧ k1 ≠ 0 then Sa else if (sX xs (i + 1)) = 1 ∧ k2 ≠ 0 then Sb else (pk 64 (fun k => 8 * sig (2 * k) + sig (2 * k + 1)) c)) k1 k2 na Na Ra qa Sa ca nb Nb Rb qb Sb cb rb sb z ev (if (0 ≤ (sX xs (i + 1)) ∧ (sX xs (i + 1)) ≤ 1) ∧ kep (sX xs (i + 1)).toNat ≠ 0 then cpy (fun k => img (32 * (sX xs (i + 1)).toNat + k)) num 7 else num) (if (0 ≤ (sX xs (i + 1)) ∧ (sX xs (i + 1)) ≤ 1) ∧ kep (sX xs (i + 1)).toNat ≠ 0 then cpy (fun k => img (32 * (sX xs (i + 1)).toNat + 7 + k)) plc 7 else plc) (if (0 ≤ (sX xs (i + 1)) ∧ (sX xs (i + 1)) ≤ 1) ∧ kep (sX xs (i + 1)).toNat ≠ 0 then cpy (fun k => img (32 * (sX xs (i + 1)).toNat + 14 + k)) sig 12 else sig) pad row dig cfr cby que has img kep far hNext H locs hP hD hS ls (lv_sub hl [1, 2, 3, 0] rfl)
  · skip
    exact absurd (congrArg zI (rst_eq hke1 hke2 _)) c746

set_option maxHeartbeats 4000000 in
set_option maxRecDepth 100000 in
theorem lA_told {Gp : Program} {Gl : Launch} {Ge : Env} {Gs : State} {Gm : MethodId} {Gw : List Frame} {Gt : Method} {Gc : Code} {b L : Nat} {xs : Nat → Int32} (hL : L ≤ 256) (C0 : lw_At Gp Gs Gm Gt Gc b L xs) (D : va_G) (cI cJ cZ : ClassId) (A : Nat → Prop) (hA : ∀ q : Nat, Gs.heap.size ≤ q → A q) (hbA : ¬ A b) (hK : va_K D vwCl [(cI, .int), (cJ, .long), (cZ, .boolean)] Gs) (h fl e1 e2 pd sg mo ma mb mc md me mf mg mh mi mj mk ml mn : Nat) (i : Nat) (hi : i + 4 ≤ L) (kk : lwHA Gp Gl Ge Gs Gm Gw Gt Gc b D cI cJ cZ A h fl e1 e2 pd sg mo ma mb mc md me mf mg mh mi mj mk ml mn (i + 4)) (n q c w nX qX cX N R S k1 k2 na Na Ra qa Sa ca nb Nb Rb qb Sb cb rb sb z ev : Nat) (num plc sig pad row dig cfr cby que has img kep : Nat → Nat) (far : Nat → Int32) (hI : lwI num plc sig pad img kep n q c w nX qX cX N R S k1 k2 na Na Ra qa Sa ca nb Nb Rb qb Sb cb) (H : Heap) (locs : List Loc) (hP : va_P D vwCl (wLA h fl e1 e2 pd sg cI k1 k2 .null nX N R qX S cX na Na Ra qa Sa ca nb Nb Rb qb Sb cb w rb sb pad mo ma mb mc md me mf mg mh mi mj mk ml mn cZ n q c w z ev num plc sig pad row dig far cfr cby que has img kep) H) (hD : va_D A (wLA h fl e1 e2 pd sg cI k1 k2 .null nX N R qX S cX na Na Ra qa Sa ca nb Nb Rb qb Sb cb w rb sb pad mo ma mb mc md me mf mg mh mi mj mk ml mn cZ n q c w z ev num plc sig pad row dig far cfr cby que has img kep)) (hS : va_S A Gs.heap H locs) (ls : Array Slot) (hl : lv_has ls 4 [(0, .ref b), (1, .ref h), (2, .ref mo), (3, .int (nI i))]) : W Gp Gl Ge room_1 Gs Gm #[Value.ref b] Gw Gt Gc H locs 20 20499 (lw_Z Gw #[Value.ref b] Gs) (F0 Gm 751 ls []) := by
  obtain ⟨gx, gb, gr, gml, gown0, gts0, hX, hbl, glk, hgv⟩ := id C0
  have gts : ∀ w ∈ wsL_law, w.before #[Value.ref b] Gs = true := fun w h => gts0 w (wsL_law_in w h)
  have gown : Gs.vm.findClass RL = some Gm.cls := gown0
  have hb1 := sX_bd xs (i + 1)
  have hb2 := sX_bd xs (i + 2)
  have hb3 := sX_bd xs (i + 3)
  obtain ⟨⟨⟨hF, hN, hR, hSS⟩, hnX, hqX, hcX⟩, -⟩ := id hI
  subst hN hR hSS hnX hqX hcX
  obtain ⟨-, ⟨hw60, hgp⟩, ⟨hke1, hke2, hk1, hk2⟩, -, -⟩ := id hI
  obtain ⟨hn1, hn7, hq1, hqn, hp, hinj, hnum, hc6, hsg⟩ := id hF
  have hpl6 : ∀ x, x < q → plc x ≤ 6 := fun x hx => by have := hp x hx; omega
  have hnv : ∀ x, x < q → num (plc x) ≤ 99 := fun x hx => hnum _ (hp x hx)
  have hkep : ∀ j, j < 2 → kep j ≤ 1 := fun j hj => by rcases (show j = 0 ∨ j = 1 by omega) with rfl | rfl <;> omega
  have hP : va_P D vwCl (wLA h fl e1 e2 pd sg cI k1 k2 .null n (pk 256 num n) (pk 8 plc q) q (pk 64 (fun k => 8 * sig (2 * k) + sig (2 * k + 1)) c) c na Na Ra qa Sa ca nb Nb Rb qb Sb cb w rb sb pad mo ma mb mc md me mf mg mh mi mj mk ml mn cZ n q c w z ev num plc sig pad row dig far cfr cby que has img kep) H := hP
  have hD : va_D A (wLA h fl e1 e2 pd sg cI k1 k2 .null n (pk 256 num n) (pk 8 plc q) q (pk 64 (fun k => 8 * sig (2 * k) + sig (2 * k + 1)) c) c na Na Ra qa Sa ca nb Nb Rb qb Sb cb w rb sb pad mo ma mb mc md me mf mg mh mi mj mk ml mn cZ n q c w z ev num plc sig pad row dig far cfr cby que has img kep) := hD
  have hl : lv_has ls 4 [(0, .ref b), (1, .ref h), (2, .ref mo), (3, .int (nI i))] := hl
  refine lv_aload_n gx gb dL_law_751 rfl (lv_at hl 1 rfl) ?_
  refine lv_aload_n gx gb dL_law_752 rfl (lv_at hl 0 rfl) ?_
  refine lv_iload_n gx gb dL_law_753 rfl (lv_at hl 3 rfl) ?_
  refine lv_iconst (v := nI 1) gx gb dL_law_754 (by decide) ?_
  refine lv_iadd gx gb dL_law_755 ?_
  refine lv_evi (nI (i + 1)) (nI_add i 1) ?_
  refine va_sld gx gb hX hbl hbA hS (vp_in_nI (n := i + 1) (by omega) (by omega)) dL_law_756 ?_
  refine lv_evi (zI (sX xs (i + 1))) (sX_rd xs (by omega)) ?_
  have hPc := hP.sub (ws' := wX h fl e1 e2 pd sg cI k1 k2 .null n (pk 256 num n) (pk 8 plc q) q (pk 64 (fun k => 8 * sig (2 * k) + sig (2 * k + 1)) c) c na Na Ra qa Sa ca nb Nb Rb qb Sb cb w rb sb pad) [0, 1, 2, 3, 4, 5] rfl
  refine vp_callSi (W.runV (As := [.int (zI (sX xs (i + 1)))]) (rest := []) ⟨gx, gb, gml, gown, gts⟩ (kX8_told Gl D cI cJ cZ h fl e1 e2 pd sg k1 k2 .null n (pk 8 plc q) q (pk 64 (fun k => 8 * sig (2 * k) + sig (2 * k + 1)) c) c na Na Ra qa Sa ca nb Nb Rb qb Sb cb w rb sb pad num (sX xs (i + 1)) (by omega) (by omega) (by omega) (by exact hnum)) (cwV 1 gts gL_law_X8_told rfl rfl rfl (by decide +kernel) ⟨Nat.le_of_ble_eq_true rfl, Nat.le_of_ble_eq_true rfl⟩) ⟨fun a U g mk q => ⟨q.1, q.2.1, va_K.moved (u := U) (U := U.calling g mk a) (Vm.Alike.refl U.vm) q.2.2⟩, va_recv hK hPc (ci := 3) (q0 := 0) rfl rfl, fun U hU hW => ⟨rfl, by rw [hU]; exact hPc, va_K.moved hW.alike hK⟩⟩ rfl rfl hl.1 rfl (lv_room (Nat.le_of_ble_eq_true rfl)) dL_law_757 ⟨Nat.le_of_ble_eq_true rfl, Nat.le_of_ble_eq_true rfl⟩) (fun r hw => ?_)
  have hr757 := hw
  subst hr757
  refine lv_aload_n gx gb dL_law_760 rfl (lv_at hl 2 rfl) ?_
  refine lv_aload_n gx gb dL_law_761 rfl (lv_at hl 0 rfl) ?_
  refine lv_iload_n gx gb dL_law_762 rfl (lv_at hl 3 rfl) ?_
  refine lv_iconst (v := nI 1) gx gb dL_law_763 (by decide) ?_
  refine lv_iadd gx gb dL_law_764 ?_
  refine lv_evi (nI (i + 1)) (nI_add i 1) ?_
  refine va_sld gx gb hX hbl hbA hS (vp_in_nI (n := i + 1) (by omega) (by omega)) dL_law_765 ?_
  refine lv_evi (zI (sX xs (i + 1))) (sX_rd xs (by omega)) ?_
  have hPc := hP.sub (ws' := wM mo ma mb mc md me mf mg mh mi mj mk ml mn cI cZ n q c w z ev num plc sig pad row dig far cfr cby que has img kep) [6, 7, 8, 9, 10, 11, 12, 13, 14, 15, 16, 17, 18, 19] rfl
  refine vp_callSi (W.runV (As := [.int (zI (sX xs (i + 1)))]) (rest := [.int (zI (tolZ w n q c num (sX xs (i + 1))))]) ⟨gx, gb, gml, gown, gts⟩ (kX9_told Gl D cI cJ cZ mo ma mb mc md me mf mg mh mi mj mk ml mn n q c w z ev num plc sig pad row dig far cfr cby que has img kep (sX xs (i + 1)) (by omega) (by omega) (by omega) (by omega) (by omega) (by omega) (by omega)) (cwV 1 gts gL_law_X9_told rfl rfl rfl (by decide +kernel) ⟨Nat.le_of_ble_eq_true rfl, Nat.le_of_ble_eq_true rfl⟩) ⟨fun a U g mk q => ⟨q.1, q.2.1, va_K.moved (u := U) (U := U.calling g mk a) (Vm.Alike.refl U.vm) q.2.2⟩, va_recv hK hPc (ci := 4) (q0 := 0) rfl rfl, fun U hU hW => ⟨rfl, by rw [hU]; exact hPc, va_K.moved hW.alike hK⟩⟩ rfl rfl hl.1 rfl (lv_room (Nat.le_of_ble_eq_true rfl)) dL_law_766 ⟨Nat.le_of_ble_eq_true rfl, Nat.le_of_ble_eq_true rfl⟩) (fun r hw => ?_)
  have hr766 := hw
  subst hr766
  refine lv_icmp_eq (tgt := 774) gx gb dL_law_769 (by decide) (fun c769 => ?_) (fun c769 => ?_)
  · skip
    have hNext := hI
    refine lv_iinc (v := nI (i + 4)) (lv' := [(3, .int (nI (i + 4))), (0, .ref b), (1, .ref h), (2, .ref mo)]) gx gb dL_law_774 hl (k := 3) rfl (nI_add i 4) (by decide) rfl (fun ls hl => ?_)
    refine lv_goto (tgt := 18) gx gb dL_law_777 (by decide) ?_
    exact kk n q c w n q c (pk 256 num n) (pk 8 plc q) (pk 64 (fun k => 8 * sig (2 * k) + sig (2 * k + 1)) c) k1 k2 na Na Ra qa Sa ca nb Nb Rb qb Sb cb rb sb z ev num plc sig pad row dig cfr cby que has img kep far hNext H locs hP hD hS ls (lv_sub hl [1, 2, 3, 0] rfl)
  · skip
    exact absurd rfl c769

