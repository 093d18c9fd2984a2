
set_option maxHeartbeats 4000000 in
set_option maxRecDepth 100000 in
theorem kX9_layRow (Gl : Launch) (D : va_G) (cI cJ cZ : ClassId) (mo : Nat) (ma : Nat) (mb : Nat) (mc : Nat) (md : Nat) (me : Nat) (mf : Nat) (mg : Nat) (mh : Nat) (mi : Nat) (mj : Nat) (mk : Nat) (ml : Nat) (mn : Nat) (n : Nat) (q : Nat) (c : Nat) (w : Nat) (z : Nat) (ev : Nat) (num : Nat → Nat) (plc : Nat → Nat) (sig : Nat → Nat) (pad : Nat → Nat) (row : Nat → Nat) (dig : Nat → Nat) (far : Nat → Int32) (cfr : Nat → Nat) (cby : Nat → Nat) (que : Nat → Nat) (has : Nat → Nat) (img : Nat → Nat) (kep : Nat → Nat) (sz : Nat) (k : Nat) (hq1 : 1 ≤ q) (hq7 : q ≤ 7) (hk : k < 2147483648) (hpl : ∀ x, x < q → plc x ≤ 6) (hij : ij q plc) : Met Gl yX9_layRow wsX9_layRow ({ frames := 1, cells := 0, slots := 0, locals := 23 } : Room) (va_Pc [.ref mo, .int (nI k)] (fun U => U.heap.size = sz ∧ va_P D vwCl (wM mo ma mb mc md me mf mg mh mi mj mk ml mn cI cZ n q c w z ev num plc sig pad row dig far cfr cby que has img kep) U.heap ∧ va_K D vwCl [(cI, .int), (cJ, .long), (cZ, .boolean)] U ∧ va_D (fun _ => True) (wM mo ma mb mc md me mf mg mh mi mj mk ml mn cI cZ n q c w z ev num plc sig pad row dig far cfr cby que has img kep))) (va_Qv (fun u : (Nat → Nat) × (Nat → Nat) => (pr q u.1 plc ∧ ∀ p_, p_ < q → smr u.1 q p_ = lyD q k p_)) (fun (u : (Nat → Nat) × (Nat → Nat)) t => va_P D vwCl (wM mo ma mb mc md me mf mg mh mi mj mk ml mn cI cZ n q c w q ev num plc sig pad u.1 u.2 far cfr cby que has img kep) t.heap ∧ va_K D vwCl [(cI, .int), (cJ, .long), (cZ, .boolean)] t ∧ va_D (va_A (wM mo ma mb mc md me mf mg mh mi mj mk ml mn cI cZ n q c w z ev num plc sig pad row dig far cfr cby que has img kep) sz) (wM mo ma mb mc md me mf mg mh mi mj mk ml mn cI cZ n q c w q ev num plc sig pad u.1 u.2 far cfr cby que has img kep)) (va_A (wM mo ma mb mc md me mf mg mh mi mj mk ml mn cI cZ n q c w z ev num plc sig pad row dig far cfr cby que has img kep) sz)) 0 0 (va_A (wM mo ma mb mc md me mf mg mh mi mj mk ml mn cI cZ n q c w z ev num plc sig pad row dig far cfr cby que has img kep) sz) := by
  refine Met.ofW (cc := cX9_layRow) (maxL := 5) (ret := none) (by decide +kernel) rfl ?_
  intro Gp Ge Gs Gm Ga Gw Gt Gc G1 Bd gml gv
  obtain ⟨rfl, hsz, hP, hK, hD0⟩ := gv
  have gx := Bd.exec
  have gb := Bd.bytes
  have gr := Bd.returns
  have gts := atoms_spec (ws := wsX9_layRow) Bd.pre
  have gown : Gs.vm.findClass RX9 = some Gm.cls := findClass_of_methodNamed Bd.named
  have glk := Bd.notSynchronized
  subst hsz
  have hD := hD0.self (sz := Gs.heap.size)
  generalize hAe : va_A (wM mo ma mb mc md me mf mg mh mi mj mk ml mn cI cZ n q c w z ev num plc sig pad row dig far cfr cby que has img kep) Gs.heap.size = A at hD ⊢
  have hA : ∀ q : Nat, Gs.heap.size ≤ q → A q := fun q h => by rw [← hAe]; exact Or.inr h
  have hS : va_S A Gs.heap Gs.heap [] := va_S.rf
  have hP : va_P D vwCl (wM mo ma mb mc md me mf mg mh mi mj mk ml mn cI cZ n q c w z ev num plc sig pad row dig far cfr cby que has img kep) Gs.heap := hP
  have hl := lv_entry ([.ref mo, .int (nI k)]) (n := 5) (Nat.le_of_ble_eq_true rfl)
  rw [lg_entry_eq]
  generalize (lg_sl ([.ref mo, .int (nI k)]) ++ List.replicate (5 - (lg_sl ([.ref mo, .int (nI k)])).length) Slot.unset).toArray = ls at hl ⊢
  have hl : lv_has ls 5 [(0, .ref mo), (1, .int (nI k))] := hl
  have i9 : ∀ w ∈ wsX90, w ∈ wsX9_layRow := by decide +kernel
  refine lv_aload_n gx gb dX9_layRow_0 rfl (lv_at hl 0 rfl) ?_
  have hPc := hP.sub (ws' := wM mo ma mb mc md me mf mg mh mi mj mk ml mn cI cZ n q c w z ev num plc sig pad row dig far cfr cby que has img kep) [0, 1, 2, 3, 4, 5, 6, 7, 8, 9, 10, 11, 12, 13] rfl
  have hDc := hD.sub (ws' := wM mo ma mb mc md me mf mg mh mi mj mk ml mn cI cZ n q c w z ev num plc sig pad row dig far cfr cby que has img kep) [0, 1, 2, 3, 4, 5, 6, 7, 8, 9, 10, 11, 12, 13] (by decide) rfl
  have hFc := va_free (wc := wM mo ma mb mc md me mf mg mh mi mj mk ml mn cI cZ n q c w z ev num plc sig pad row dig far cfr cby que has img kep) hD hS hA [0, 1, 2, 3, 4, 5, 6, 7, 8, 9, 10, 11, 12, 13] rfl
  refine va_callv (va_runV (As := []) (rest := []) ⟨gx, gb, gml, gown, gts⟩ (kX9_asNow Gl D cI cJ cZ mo ma mb mc md me mf mg mh mi mj mk ml mn n q c w z ev num plc sig pad row dig far cfr cby que has img kep _  ) (cwV 0 gts gX9_layRow_X9_asNow rfl rfl rfl (by decide +kernel) ⟨Nat.le_of_ble_eq_true rfl, Nat.le_of_ble_eq_true rfl⟩) ⟨fun a U g mk q => by obtain ⟨q0, q1, qP, qK, qD⟩ := q; exact ⟨q0, q1, qP, va_K.moved (u := U) (U := U.calling g mk a) (Vm.Alike.refl U.vm) qK, qD⟩, va_recv hK hPc (ci := 4) (q0 := 0) rfl rfl, fun U hU hW => ⟨rfl, by rw [hU], by rw [hU]; exact hPc, va_K.moved hW.alike hK, hDc.weaken (fun _ _ _ _ => trivial)⟩⟩ rfl rfl hl.1 rfl (lv_room (Nat.le_of_ble_eq_true rfl)) dX9_layRow_1 ⟨Nat.le_of_ble_eq_true rfl, Nat.le_of_ble_eq_true rfl⟩) hS (fun q _ h => hFc q h) hFc (fun u t H1 locs ht hvm hw hB hz1 hk1 hS => ?_)
  obtain ⟨hP1, hK1, hD1⟩ := hB
  rw [ht] at hP1
  try dsimp only at hw
  try dsimp only at hP1
  try dsimp only at hD1
  have hK := va_K.moved hvm.symm hK1
  obtain ⟨hP, hD⟩ := va_join (wr := []) (w1 := wM mo ma mb mc md me mf mg mh mi mj mk ml mn cI cZ n q c w q ev num plc sig pad (cpy plc row 7) dig far cfr cby que has img kep) hP hD [0, 1, 2, 3, 4, 5, 6, 7, 8, 9, 10, 11, 12, 13] [] rfl rfl (by decide) (by decide) hk1 hFc hP1 hD1
  have hP := hP.sub (ws' := wM mo ma mb mc md me mf mg mh mi mj mk ml mn cI cZ n q c w q ev num plc sig pad (cpy plc row 7) dig far cfr cby que has img kep) [0, 1, 2, 3, 4, 5, 6, 7, 8, 9, 10, 11, 12, 13] rfl
  have hD := hD.sub (ws' := wM mo ma mb mc md me mf mg mh mi mj mk ml mn cI cZ n q c w q ev num plc sig pad (cpy plc row 7) dig far cfr cby que has img kep) [0, 1, 2, 3, 4, 5, 6, 7, 8, 9, 10, 11, 12, 13] (by decide) rfl
  have hK := va_K.moved (Vm.Alike.refl Gs.vm) hK
  generalize H1 = H at hP hS ⊢
  refine lv_iload_n gx gb dX9_layRow_4 rfl (lv_at hl 1 rfl) ?_
  refine lv_istore_n (lv' := [(2, .int (nI k)), (0, .ref mo), (1, .int (nI k))]) gx gb dX9_layRow_5 rfl hl (by decide) rfl (fun ls hl => ?_)
  refine lv_aload_n gx gb dX9_layRow_6 rfl (lv_at hl 1 rfl) ?_
  refine va_get (D := D) (ci := 4) (v := .int (nI q)) (C := RX9) (T := TX9) (N := 19) gx gb gts i9 gown hK hP 0 rfl rfl 9 (by decide) (gts (.fieldLink RX9 81 "SwanSumsModel" "size" "I") (by decide +kernel)) (fun _ h9 => h9) rfl dX9_layRow_7 ?_
  refine lv_iconst (v := nI 1) gx gb dX9_layRow_10 (by decide) ?_
  refine lv_isub gx gb dX9_layRow_11 ?_
  refine lv_evi (nI (q - 1)) (e_sub (by omega)) ?_
  refine lv_evi (zI (((q : Nat) : Int) - 1)) (by rw [← zI_nat]; congr 1; omega) ?_
  refine lv_istore_n (lv' := [(3, .int (zI (((q : Nat) : Int) - 1))), (2, .int (nI k)), (0, .ref mo), (1, .int (nI k))]) gx gb dX9_layRow_12 rfl hl (by decide) rfl (fun ls hl => ?_)
  have L13 : ∀ fu : Nat, ∀ (i v : Nat) (dg_ : Nat → Nat) (hi : i ≤ q) (hv : v = k / fac (q - i)) (hdg : ∀ x, i ≤ x → x < q → dg_ x = lyD q k x), i < fu → ∀ (H : Heap) (locs : List Loc), va_P D vwCl (wM mo ma mb mc md me mf mg mh mi mj mk ml mn cI cZ n q c w q ev num plc sig pad (cpy plc row 7) dg_ far cfr cby que has img kep) H → va_D A (wM mo ma mb mc md me mf mg mh mi mj mk ml mn cI cZ n q c w q ev num plc sig pad (cpy plc row 7) dg_ far cfr cby que has img kep) → va_S A Gs.heap H locs → ∀ ls : Array Slot, lv_has ls 5 [(2, .int (nI v)), (3, .int (zI (((i : Nat) : Int) - 1))), (0, .ref mo), (1, .int (nI k))] → W Gp Gl Ge (headSpec wsX9_layRow ({ frames := 1, cells := 0, slots := 0, locals := 23 } : Room)).room Gs Gm ([.ref mo, .int (nI k)] : List Value).toArray Gw Gt Gc H locs 0 0 (MQ Gw (va_Qv (fun u : (Nat → Nat) × (Nat → Nat) => (pr q u.1 plc ∧ ∀ p_, p_ < q → smr u.1 q p_ = lyD q k p_)) (fun (u : (Nat → Nat) × (Nat → Nat)) t => va_P D vwCl (wM mo ma mb mc md me mf mg mh mi mj mk ml mn cI cZ n q c w q ev num plc sig pad u.1 u.2 far cfr cby que has img kep) t.heap ∧ va_K D vwCl [(cI, .int), (cJ, .long), (cZ, .boolean)] t ∧ va_D A (wM mo ma mb mc md me mf mg mh mi mj mk ml mn cI cZ n q c w q ev num plc sig pad u.1 u.2 far cfr cby que has img kep)) A) ([.ref mo, .int (nI k)] : List Value).toArray Gs 0 0 A) (F0 Gm 13 ls []) := by
    intro fu
    induction fu with
    | zero => intro i v dg_ hi hv hdg hfu; exact absurd hfu (Nat.not_lt_zero _)
    | succ fu ih13 =>
      intro i v dg_ hi hv hdg hfu H locs hP hD hS ls hl
      refine lv_iload_n gx gb dX9_layRow_13 rfl (lv_at hl 1 rfl) ?_
      refine lv_if_lt (tgt := 46) gx gb dX9_layRow_14 (by decide) (fun c14 => ?_) (fun c14 => ?_)
      · skip
        rw [z0_lt (by omega) (by omega)] at c14
        refine lv_iconst (v := nI 1) gx gb dX9_layRow_46 (by decide) ?_
        refine lv_istore_n (lv' := [(3, .int (nI 1)), (2, .int (nI v)), (0, .ref mo), (1, .int (nI k))]) gx gb dX9_layRow_47 rfl hl (by decide) rfl (fun ls hl => ?_)
        have L48 : ∀ fu : Nat, ∀ (rw_ : Nat → Nat) (p : Nat) (hp1 : 1 ≤ p) (hpq : p ≤ q) (hr : pr q rw_ plc) (hs : ∀ i j, i < j → j < p → rw_ i ≤ rw_ j), (q - p) < fu → ∀ (H : Heap) (locs : List Loc), va_P D vwCl (wM mo ma mb mc md me mf mg mh mi mj mk ml mn cI cZ n q c w q ev num plc sig pad rw_ dg_ far cfr cby que has img kep) H → va_D A (wM mo ma mb mc md me mf mg mh mi mj mk ml mn cI cZ n q c w q ev num plc sig pad rw_ dg_ far cfr cby que has img kep) → va_S A Gs.heap H locs → ∀ ls : Array Slot, lv_has ls 5 [(3, .int (nI p)), (2, .int (nI v)), (0, .ref mo), (1, .int (nI k))] → W Gp Gl Ge (headSpec wsX9_layRow ({ frames := 1, cells := 0, slots := 0, locals := 23 } : Room)).room Gs Gm ([.ref mo, .int (nI k)] : List Value).toArray Gw Gt Gc H locs 0 0 (MQ Gw (va_Qv (fun u : (Nat → Nat) × (Nat → Nat) => (pr q u.1 plc ∧ ∀ p_, p_ < q → smr u.1 q p_ = lyD q k p_)) (fun (u : (Nat → Nat) × (Nat → Nat)) t => va_P D vwCl (wM mo ma mb mc md me mf mg mh mi mj mk ml mn cI cZ n q c w q ev num plc sig pad u.1 u.2 far cfr cby que has img kep) t.heap ∧ va_K D vwCl [(cI, .int), (cJ, .long), (cZ, .boolean)] t ∧ va_D A (wM mo ma mb mc md me mf mg mh mi mj mk ml mn cI cZ n q c w q ev num plc sig pad u.1 u.2 far cfr cby que has img kep)) A) ([.ref mo, .int (nI k)] : List Value).toArray Gs 0 0 A) (F0 Gm 48 ls []) := by
          intro fu
          induction fu with
          | zero => intro rw_ p hp1 hpq hr hs hfu; exact absurd hfu (Nat.not_lt_zero _)
          | succ fu ih48 =>
            intro rw_ p hp1 hpq hr hs hfu H locs hP hD hS ls hl
            refine lv_iload_n gx gb dX9_layRow_48 rfl (lv_at hl 0 rfl) ?_
            refine lv_aload_n gx gb dX9_layRow_49 rfl (lv_at hl 2 rfl) ?_
            refine va_get (D := D) (ci := 4) (v := .int (nI q)) (C := RX9) (T := TX9) (N := 19) gx gb gts i9 gown hK hP 0 rfl rfl 9 (by decide) (gts (.fieldLink RX9 81 "SwanSumsModel" "size" "I") (by decide +kernel)) (fun _ h9 => h9) rfl dX9_layRow_50 ?_
            refine lv_icmp_ge (tgt := 105) gx gb dX9_layRow_53 (by decide) (fun c53 => ?_) (fun c53 => ?_)
            · skip
              rw [nI_leI (by omega) (by omega)] at c53
              refine lv_iconst (v := nI 0) gx gb dX9_layRow_105 (by decide) ?_
              refine lv_istore_n (lv' := [(3, .int (nI 0)), (2, .int (nI v)), (0, .ref mo), (1, .int (nI k))]) gx gb dX9_layRow_106 rfl hl (by decide) rfl (fun ls hl => ?_)
              have L107 : ∀ fu : Nat, ∀ (rw3 : Nat → Nat) (p : Nat) (hpq : p ≤ q) (hpk : pick plc q k rw3 p), (q - p) < fu → ∀ (H : Heap) (locs : List Loc), va_P D vwCl (wM mo ma mb mc md me mf mg mh mi mj mk ml mn cI cZ n q c w q ev num plc sig pad rw3 dg_ far cfr cby que has img kep) H → va_D A (wM mo ma mb mc md me mf mg mh mi mj mk ml mn cI cZ n q c w q ev num plc sig pad rw3 dg_ far cfr cby que has img kep) → va_S A Gs.heap H locs → ∀ ls : Array Slot, lv_has ls 5 [(3, .int (nI p)), (2, .int (nI v)), (0, .ref mo), (1, .int (nI k))] → W Gp Gl Ge (headSpec wsX9_layRow ({ frames := 1, cells := 0, slots := 0, locals := 23 } : Room)).room Gs Gm ([.ref mo, .int (nI k)] : List Value).toArray Gw Gt Gc H locs 0 0 (MQ Gw (va_Qv (fun u : (Nat → Nat) × (Nat → Nat) => (pr q u.1 plc ∧ ∀ p_, p_ < q → smr u.1 q p_ = lyD q k p_)) (fun (u : (Nat → Nat) × (Nat → Nat)) t => va_P D vwCl (wM mo ma mb mc md me mf mg mh mi mj mk ml mn cI cZ n q c w q ev num plc sig pad u.1 u.2 far cfr cby que has img kep) t.heap ∧ va_K D vwCl [(cI, .int), (cJ, .long), (cZ, .boolean)] t ∧ va_D A (wM mo ma mb mc md me mf mg mh mi mj mk ml mn cI cZ n q c w q ev num plc sig pad u.1 u.2 far cfr cby que has img kep)) A) ([.ref mo, .int (nI k)] : List Value).toArray Gs 0 0 A) (F0 Gm 107 ls []) := by
                intro fu
                induction fu with
                | zero => intro rw3 p hpq hpk hfu; exact absurd hfu (Nat.not_lt_zero _)
                | succ fu ih107 =>
                  intro rw3 p hpq hpk hfu H locs hP hD hS ls hl
                  refine lv_iload_n gx gb dX9_layRow_107 rfl (lv_at hl 0 rfl) ?_
                  refine lv_aload_n gx gb dX9_layRow_108 rfl (lv_at hl 2 rfl) ?_
                  refine va_get (D := D) (ci := 4) (v := .int (nI q)) (C := RX9) (T := TX9) (N := 19) gx gb gts i9 gown hK hP 0 rfl rfl 9 (by decide) (gts (.fieldLink RX9 81 "SwanSumsModel" "size" "I") (by decide +kernel)) (fun _ h9 => h9) rfl dX9_layRow_109 ?_
                  refine lv_icmp_ge (tgt := 153) gx gb dX9_layRow_112 (by decide) (fun c112 => ?_) (fun c112 => ?_)
                  · skip
                    rw [nI_leI (by omega) (by omega)] at c112
                    exact W.vret gx gb gr (fun t ht hW => ⟨⟨(rw3, dg_), rfl, (by first | (dsimp only; done) | ((try dsimp only); rw [show p = q by omega] at hpk; exact pick_e hpk)), by rw [ht]; exact hP, va_K.moved hW.alike hK, hD⟩, hS.F ht⟩) hS.2.2 dX9_layRow_153
                  · skip
                    rw [nI_leI (by omega) (by omega)] at c112
                    have hly : lyD q k p < q - p := Nat.mod_lt _ (by omega)
                    have hdp := hdg p (by omega) (by omega)
                    refine lv_iload_n gx gb dX9_layRow_115 rfl (lv_at hl 0 rfl) ?_
                    refine lv_aload_n gx gb dX9_layRow_116 rfl (lv_at hl 2 rfl) ?_
                    refine va_get (D := D) (ci := 4) (v := .ref mf) (C := RX9) (T := TX9) (N := 19) gx gb gts i9 gown hK hP 0 rfl rfl 11 (by decide) (gts (.fieldLink RX9 32 "SwanSumsModel" "digits" "[I") (by decide +kernel)) (fun _ h9 => h9) rfl dX9_layRow_117 ?_
                    refine lv_iload_n gx gb dX9_layRow_120 rfl (lv_at hl 0 rfl) ?_
                    refine va_iald gx gb hK hP 6 0 rfl rfl (vp_in_nI (n := p) (by omega) (by decide)) dX9_layRow_121 ?_
                    refine lv_evi (nI (dg_ p)) (aN_rd dg_ (by omega)) ?_
                    refine lv_evi (nI (lyD q k p)) (congrArg nI hdp) ?_
                    refine lv_iadd gx gb dX9_layRow_122 ?_
                    refine lv_evi (nI (p + (lyD q k p))) (nI_add p (lyD q k p)) ?_
                    refine lv_istore (lv' := [(4, .int (nI (p + (lyD q k p)))), (3, .int (nI p)), (2, .int (nI v)), (0, .ref mo), (1, .int (nI k))]) gx gb dX9_layRow_123 hl (by decide) rfl (fun ls hl => ?_)
                    have L125 : ∀ fu : Nat, ∀ (kk : Nat) (hk1 : p ≤ kk) (hk2 : kk ≤ p + lyD q k p), kk < fu → ∀ (H : Heap) (locs : List Loc), va_P D vwCl (wM mo ma mb mc md me mf mg mh mi mj mk ml mn cI cZ n q c w q ev num plc sig pad (brd kk (p + lyD q k p) rw3) dg_ far cfr cby que has img kep) H → va_D A (wM mo ma mb mc md me mf mg mh mi mj mk ml mn cI cZ n q c w q ev num plc sig pad (brd kk (p + lyD q k p) rw3) dg_ far cfr cby que has img kep) → va_S A Gs.heap H locs → ∀ ls : Array Slot, lv_has ls 5 [(4, .int (nI kk)), (3, .int (nI p)), (2, .int (nI v)), (0, .ref mo), (1, .int (nI k))] → W Gp Gl Ge (headSpec wsX9_layRow ({ frames := 1, cells := 0, slots := 0, locals := 23 } : Room)).room Gs Gm ([.ref mo, .int (nI k)] : List Value).toArray Gw Gt Gc H locs 0 0 (MQ Gw (va_Qv (fun u : (Nat → Nat) × (Nat → Nat) => (pr q u.1 plc ∧ ∀ p_, p_ < q → smr u.1 q p_ = lyD q k p_)) (fun (u : (Nat → Nat) × (Nat → Nat)) t => va_P D vwCl (wM mo ma mb mc md me mf mg mh mi mj mk ml mn cI cZ n q c w q ev num plc sig pad u.1 u.2 far cfr cby que has img kep) t.heap ∧ va_K D vwCl [(cI, .int), (cJ, .long), (cZ, .boolean)] t ∧ va_D A (wM mo ma mb mc md me mf mg mh mi mj mk ml mn cI cZ n q c w q ev num plc sig pad u.1 u.2 far cfr cby que has img kep)) A) ([.ref mo, .int (nI k)] : List Value).toArray Gs 0 0 A) (F0 Gm 125 ls []) := by
                      intro fu
                      induction fu with
                      | zero => intro kk hk1 hk2 hfu; exact absurd hfu (Nat.not_lt_zero _)
                      | succ fu ih125 =>
                        intro kk hk1 hk2 hfu H locs hP hD hS ls hl
                        refine lv_iload gx gb dX9_layRow_125 (lv_at hl 0 rfl) ?_
                        refine lv_iload_n gx gb dX9_layRow_127 rfl (lv_at hl 1 rfl) ?_
                        refine lv_icmp_le (tgt := 147) gx gb dX9_layRow_128 (by decide) (fun c128 => ?_) (fun c128 => ?_)
                        · skip
                          rw [nI_leI (by omega) (by omega)] at c128
                          refine lv_iinc (v := nI (p + 1)) (lv' := [(3, .int (nI (p + 1))), (4, .int (nI kk)), (2, .int (nI v)), (0, .ref mo), (1, .int (nI k))]) gx gb dX9_layRow_147 hl (k := 1) rfl (nI_add p 1) (by decide) rfl (fun ls hl => ?_)
                          refine lv_goto (tgt := 107) gx gb dX9_layRow_150 (by decide) ?_
                          exact ih107 (brd kk (p + lyD q k p) rw3) (p + 1) (by omega) (by rw [show kk = p by omega]; exact pick_s hij hpk (by omega)) (by omega) _ _ hP hD hS ls (lv_sub hl [0, 2, 3, 4] rfl)
                        · skip
                          rw [nI_leI (by omega) (by omega)] at c128
                          refine lv_aload_n gx gb dX9_layRow_131 rfl (lv_at hl 3 rfl) ?_
                          refine lv_iload gx gb dX9_layRow_132 (lv_at hl 0 rfl) ?_
                          refine lv_iload gx gb dX9_layRow_134 (lv_at hl 0 rfl) ?_
                          refine lv_iconst (v := nI 1) gx gb dX9_layRow_136 (by decide) ?_
                          refine lv_isub gx gb dX9_layRow_137 ?_
                          refine lv_evi (nI (kk - 1)) (e_sub (by omega)) ?_
                          have hPc := hP.sub (ws' := wM mo ma mb mc md me mf mg mh mi mj mk ml mn cI cZ n q c w q ev num plc sig pad (brd kk (p + lyD q k p) rw3) dg_ far cfr cby que has img kep) [0, 1, 2, 3, 4, 5, 6, 7, 8, 9, 10, 11, 12, 13] rfl
                          have hDc := hD.sub (ws' := wM mo ma mb mc md me mf mg mh mi mj mk ml mn cI cZ n q c w q ev num plc sig pad (brd kk (p + lyD q k p) rw3) dg_ far cfr cby que has img kep) [0, 1, 2, 3, 4, 5, 6, 7, 8, 9, 10, 11, 12, 13] (by decide) rfl
                          have hFc := va_free (wc := wM mo ma mb mc md me mf mg mh mi mj mk ml mn cI cZ n q c w q ev num plc sig pad (brd kk (p + lyD q k p) rw3) dg_ far cfr cby que has img kep) hD hS hA [0, 1, 2, 3, 4, 5, 6, 7, 8, 9, 10, 11, 12, 13] rfl
                          refine va_callv (va_runV (As := [.int (nI kk), .int (nI (kk - 1))]) (rest := []) ⟨gx, gb, gml, gown, gts⟩ (kX9_change Gl D cI cJ cZ mo ma mb mc md me mf mg mh mi mj mk ml mn n q c w q ev num plc sig pad (brd kk (p + lyD q k p) rw3) dg_ far cfr cby que has img kep _ kk (kk - 1) (by omega) (by omega)) (cwV 2 gts gX9_layRow_X9_change rfl rfl rfl (by decide +kernel) ⟨Nat.le_of_ble_eq_true rfl, Nat.le_of_ble_eq_true rfl⟩) ⟨fun a U g mk q => by obtain ⟨q0, q1, qP, qK, qD⟩ := q; exact ⟨q0, q1, qP, va_K.moved (u := U) (U := U.calling g mk a) (Vm.Alike.refl U.vm) qK, qD⟩, va_recv hK hPc (ci := 4) (q0 := 0) rfl rfl, fun U hU hW => ⟨rfl, by rw [hU], by rw [hU]; exact hPc, va_K.moved hW.alike hK, hDc.weaken (fun _ _ _ _ => trivial)⟩⟩ rfl rfl hl.1 rfl (lv_room (Nat.le_of_ble_eq_true rfl)) dX9_layRow_138 ⟨Nat.le_of_ble_eq_true rfl, Nat.le_of_ble_eq_true rfl⟩) hS (fun q _ h => hFc q h) hFc (fun u t H1 locs ht hvm hw hB hz1 hk1 hS => ?_)
                          obtain ⟨hP1, hK1, hD1⟩ := hB
                          rw [ht] at hP1
                          try dsimp only at hw
                          try dsimp only at hP1
                          try dsimp only at hD1
                          have hK := va_K.moved hvm.symm hK1
                          obtain ⟨hP, hD⟩ := va_join (wr := []) (w1 := wM mo ma mb mc md me mf mg mh mi mj mk ml mn cI cZ n q c w q ev num plc sig pad (swp kk (kk - 1) (brd kk (p + lyD q k p) rw3)) dg_ far cfr cby que has img kep) hP hD [0, 1, 2, 3, 4, 5, 6, 7, 8, 9, 10, 11, 12, 13] [] rfl rfl (by decide) (by decide) hk1 hFc hP1 hD1
                          have hP := hP.sub (ws' := wM mo ma mb mc md me mf mg mh mi mj mk ml mn cI cZ n q c w q ev num plc sig pad (swp kk (kk - 1) (brd kk (p + lyD q k p) rw3)) dg_ far cfr cby que has img kep) [0, 1, 2, 3, 4, 5, 6, 7, 8, 9, 10, 11, 12, 13] rfl
                          have hD := hD.sub (ws' := wM mo ma mb mc md me mf mg mh mi mj mk ml mn cI cZ n q c w q ev num plc sig pad (swp kk (kk - 1) (brd kk (p + lyD q k p) rw3)) dg_ far cfr cby que has img kep) [0, 1, 2, 3, 4, 5, 6, 7, 8, 9, 10, 11, 12, 13] (by decide) rfl
                          have hK := va_K.moved (Vm.Alike.refl Gs.vm) hK
                          generalize H1 = H at hP hS ⊢
                          refine lv_iinc (v := nI (kk - 1)) (lv' := [(4, .int (nI (kk - 1))), (3, .int (nI p)), (2, .int (nI v)), (0, .ref mo), (1, .int (nI k))]) gx gb dX9_layRow_141 hl (k := 0) rfl (e_dec1 (by omega)) (by decide) rfl (fun ls hl => ?_)
                          refine lv_goto (tgt := 125) gx gb dX9_layRow_144 (by decide) ?_
                          rw [show swp kk (kk - 1) (brd kk (p + lyD q k p) rw3) = brd (kk - 1) (p + lyD q k p) rw3 from by obtain ⟨k9, rfl⟩ : ∃ k9, kk = k9 + 1 := ⟨kk - 1, by omega⟩; exact brd_s rw3 hk2] at hP hD
                          exact ih125 (kk - 1) (by omega) (by omega) (by omega) _ _ hP hD hS ls (lv_sub hl [0, 1, 2, 3, 4] rfl)
                    rw [← brd_p (p + lyD q k p) rw3] at hP hD
                    exact L125 _ (p + lyD q k p) (by omega) (by omega) (Nat.lt_succ_self _) _ _ hP hD hS ls (lv_sub hl [0, 1, 2, 3, 4] rfl)
              exact L107 _ rw_ 0 (by omega) (by exact ⟨hr, fun a b h7 h8 h9 => hs a b h8 (by omega), fun a h9 => absurd h9 (Nat.not_lt_zero _)⟩) (Nat.lt_succ_self _) _ _ hP hD hS ls (lv_sub hl [0, 1, 2, 3] rfl)
            · skip
              rw [nI_leI (by omega) (by omega)] at c53
              refine lv_iload_n gx gb dX9_layRow_56 rfl (lv_at hl 0 rfl) ?_
              refine lv_istore (lv' := [(4, .int (nI p)), (3, .int (nI p)), (2, .int (nI v)), (0, .ref mo), (1, .int (nI k))]) gx gb dX9_layRow_57 hl (by decide) rfl (fun ls hl => ?_)
              have L59 : ∀ fu : Nat, ∀ (rw2 : Nat → Nat) (kk : Nat) (hkp : kk ≤ p) (hr2 : pr q rw2 plc) (hi1 : ∀ i j, i < j → j ≤ p → i ≠ kk → j ≠ kk → rw2 i ≤ rw2 j) (hi2 : ∀ j, kk < j → j ≤ p → rw2 kk ≤ rw2 j), kk < fu → ∀ (H : Heap) (locs : List Loc), va_P D vwCl (wM mo ma mb mc md me mf mg mh mi mj mk ml mn cI cZ n q c w q ev num plc sig pad rw2 dg_ far cfr cby que has img kep) H → va_D A (wM mo ma mb mc md me mf mg mh mi mj mk ml mn cI cZ n q c w q ev num plc sig pad rw2 dg_ far cfr cby que has img kep) → va_S A Gs.heap H locs → ∀ ls : Array Slot, lv_has ls 5 [(4, .int (nI kk)), (3, .int (nI p)), (2, .int (nI v)), (0, .ref mo), (1, .int (nI k))] → W Gp Gl Ge (headSpec wsX9_layRow ({ frames := 1, cells := 0, slots := 0, locals := 23 } : Room)).room Gs Gm ([.ref mo, .int (nI k)] : List Value).toArray Gw Gt Gc H locs 0 0 (MQ Gw (va_Qv (fun u : (Nat → Nat) × (Nat → Nat) => (pr q u.1 plc ∧ ∀ p_, p_ < q → smr u.1 q p_ = lyD q k p_)) (fun (u : (Nat → Nat) × (Nat → Nat)) t => va_P D vwCl (wM mo ma mb mc md me mf mg mh mi mj mk ml mn cI cZ n q c w q ev num plc sig pad u.1 u.2 far cfr cby que has img kep) t.heap ∧ va_K D vwCl [(cI, .int), (cJ, .long), (cZ, .boolean)] t ∧ va_D A (wM mo ma mb mc md me mf mg mh mi mj mk ml mn cI cZ n q c w q ev num plc sig pad u.1 u.2 far cfr cby que has img kep)) A) ([.ref mo, .int (nI k)] : List Value).toArray Gs 0 0 A) (F0 Gm 59 ls []) := by
                intro fu
                induction fu with
                | zero => intro rw2 kk hkp hr2 hi1 hi2 hfu; exact absurd hfu (Nat.not_lt_zero _)
                | succ fu ih59 =>
                  intro rw2 kk hkp hr2 hi1 hi2 hfu H locs hP hD hS ls hl
                  refine lv_iload gx gb dX9_layRow_59 (lv_at hl 0 rfl) ?_
                  refine lv_if_le (tgt := 99) gx gb dX9_layRow_61 (by decide) (fun c61 => ?_) (fun c61 => ?_)
                  · skip
                    rw [n0_le (by omega)] at c61
                    refine lv_iinc (v := nI (p + 1)) (lv' := [(3, .int (nI (p + 1))), (4, .int (nI kk)), (2, .int (nI v)), (0, .ref mo), (1, .int (nI k))]) gx gb dX9_layRow_99 hl (k := 1) rfl (nI_add p 1) (by decide) rfl (fun ls hl => ?_)
                    refine lv_goto (tgt := 48) gx gb dX9_layRow_102 (by decide) ?_
                    exact ih48 rw2 (p + 1) (by omega) (by omega) (by exact hr2) (by first | (have e9 : kk = 0 := (by omega); subst e9; exact ins_e0 hi1 hi2) | (obtain ⟨k9, rfl⟩ : ∃ k9, kk = k9 + 1 := ⟨kk - 1, by omega⟩; exact ins_e1 hi1 hi2 (by omega) (by rw [Nat.add_sub_cancel] at c80; omega))) (by omega) _ _ hP hD hS ls (lv_sub hl [0, 2, 3, 4] rfl)
                  · skip
                    rw [n0_le (by omega)] at c61
                    have hb1 := pr_al (R := fun x => x ≤ 6) hr2 hpl kk (by omega)
                    have hb2 := pr_al (R := fun x => x ≤ 6) hr2 hpl (kk - 1) (by omega)
                    refine lv_aload_n gx gb dX9_layRow_64 rfl (lv_at hl 3 rfl) ?_
                    refine va_get (D := D) (ci := 4) (v := .ref me) (C := RX9) (T := TX9) (N := 19) gx gb gts i9 gown hK hP 0 rfl rfl 8 (by decide) (gts (.fieldLink RX9 29 "SwanSumsModel" "row" "[I") (by decide +kernel)) (fun _ h9 => h9) rfl dX9_layRow_65 ?_
                    refine lv_iload gx gb dX9_layRow_68 (lv_at hl 0 rfl) ?_
                    refine va_iald gx gb hK hP 5 0 rfl rfl (vp_in_nI (n := kk) (by omega) (by decide)) dX9_layRow_70 ?_
                    refine lv_evi (nI (rw2 kk)) (aN_rd rw2 (by omega)) ?_
                    refine lv_aload_n gx gb dX9_layRow_71 rfl (lv_at hl 3 rfl) ?_
                    refine va_get (D := D) (ci := 4) (v := .ref me) (C := RX9) (T := TX9) (N := 19) gx gb gts i9 gown hK hP 0 rfl rfl 8 (by decide) (gts (.fieldLink RX9 29 "SwanSumsModel" "row" "[I") (by decide +kernel)) (fun _ h9 => h9) rfl dX9_layRow_72 ?_
                    refine lv_iload gx gb dX9_layRow_75 (lv_at hl 0 rfl) ?_
                    refine lv_iconst (v := nI 1) gx gb dX9_layRow_77 (by decide) ?_
                    refine lv_isub gx gb dX9_layRow_78 ?_
                    refine lv_evi (nI (kk - 1)) (e_sub (by omega)) ?_
                    refine va_iald gx gb hK hP 5 0 rfl rfl (vp_in_nI (n := kk - 1) (by omega) (by decide)) dX9_layRow_79 ?_
                    refine lv_evi (nI (rw2 (kk - 1))) (aN_rd rw2 (by omega)) ?_
                    refine lv_icmp_ge (tgt := 99) gx gb dX9_layRow_80 (by decide) (fun c80 => ?_) (fun c80 => ?_)
                    · skip
                      rw [nI_leI (by omega) (by omega)] at c80
                      refine lv_iinc (v := nI (p + 1)) (lv' := [(3, .int (nI (p + 1))), (4, .int (nI kk)), (2, .int (nI v)), (0, .ref mo), (1, .int (nI k))]) gx gb dX9_layRow_99 hl (k := 1) rfl (nI_add p 1) (by decide) rfl (fun ls hl => ?_)
                      refine lv_goto (tgt := 48) gx gb dX9_layRow_102 (by decide) ?_
                      exact ih48 rw2 (p + 1) (by omega) (by omega) (by exact hr2) (by first | (have e9 : kk = 0 := (by omega); subst e9; exact ins_e0 hi1 hi2) | (obtain ⟨k9, rfl⟩ : ∃ k9, kk = k9 + 1 := ⟨kk - 1, by omega⟩; exact ins_e1 hi1 hi2 (by omega) (by rw [Nat.add_sub_cancel] at c80; omega))) (by omega) _ _ hP hD hS ls (lv_sub hl [0, 2, 3, 4] rfl)
                    · skip
                      rw [nI_leI (by omega) (by omega)] at c80
                      refine lv_aload_n gx gb dX9_layRow_83 rfl (lv_at hl 3 rfl) ?_
                      refine lv_iload gx gb dX9_layRow_84 (lv_at hl 0 rfl) ?_
                      refine lv_iload gx gb dX9_layRow_86 (lv_at hl 0 rfl) ?_
                      refine lv_iconst (v := nI 1) gx gb dX9_layRow_88 (by decide) ?_
                      refine lv_isub gx gb dX9_layRow_89 ?_
                      refine lv_evi (nI (kk - 1)) (e_sub (by omega)) ?_
                      have hPc := hP.sub (ws' := wM mo ma mb mc md me mf mg mh mi mj mk ml mn cI cZ n q c w q ev num plc sig pad rw2 dg_ far cfr cby que has img kep) [0, 1, 2, 3, 4, 5, 6, 7, 8, 9, 10, 11, 12, 13] rfl
                      have hDc := hD.sub (ws' := wM mo ma mb mc md me mf mg mh mi mj mk ml mn cI cZ n q c w q ev num plc sig pad rw2 dg_ far cfr cby que has img kep) [0, 1, 2, 3, 4, 5, 6, 7, 8, 9, 10, 11, 12, 13] (by decide) rfl
                      have hFc := va_free (wc := wM mo ma mb mc md me mf mg mh mi mj mk ml mn cI cZ n q c w q ev num plc sig pad rw2 dg_ far cfr cby que has img kep) hD hS hA [0, 1, 2, 3, 4, 5, 6, 7, 8, 9, 10, 11, 12, 13] rfl
                      refine va_callv (va_runV (As := [.int (nI kk), .int (nI (kk - 1))]) (rest := []) ⟨gx, gb, gml, gown, gts⟩ (kX9_change Gl D cI cJ cZ mo ma mb mc md me mf mg mh mi mj mk ml mn n q c w q ev num plc sig pad rw2 dg_ far cfr cby que has img kep _ kk (kk - 1) (by omega) (by omega)) (cwV 2 gts gX9_layRow_X9_change rfl rfl rfl (by decide +kernel) ⟨Nat.le_of_ble_eq_true rfl, Nat.le_of_ble_eq_true rfl⟩) ⟨fun a U g mk q => by obtain ⟨q0, q1, qP, qK, qD⟩ := q; exact ⟨q0, q1, qP, va_K.moved (u := U) (U := U.calling g mk a) (Vm.Alike.refl U.vm) qK, qD⟩, va_recv hK hPc (ci := 4) (q0 := 0) rfl rfl, fun U hU hW => ⟨rfl, by rw [hU], by rw [hU]; exact hPc, va_K.moved hW.alike hK, hDc.weaken (fun _ _ _ _ => trivial)⟩⟩ rfl rfl hl.1 rfl (lv_room (Nat.le_of_ble_eq_true rfl)) dX9_layRow_90 ⟨Nat.le_of_ble_eq_true rfl, Nat.le_of_ble_eq_true rfl⟩) hS (fun q _ h => hFc q h) hFc (fun u t H1 locs ht hvm hw hB hz1 hk1 hS => ?_)
                      obtain ⟨hP1, hK1, hD1⟩ := hB
                      rw [ht] at hP1
                      try dsimp only at hw
                      try dsimp only at hP1
                      try dsimp only at hD1
                      have hK := va_K.moved hvm.symm hK1
                      obtain ⟨hP, hD⟩ := va_join (wr := []) (w1 := wM mo ma mb mc md me mf mg mh mi mj mk ml mn cI cZ n q c w q ev num plc sig pad (swp kk (kk - 1) rw2) dg_ far cfr cby que has img kep) hP hD [0, 1, 2, 3, 4, 5, 6, 7, 8, 9, 10, 11, 12, 13] [] rfl rfl (by decide) (by decide) hk1 hFc hP1 hD1
                      have hP := hP.sub (ws' := wM mo ma mb mc md me mf mg mh mi mj mk ml mn cI cZ n q c w q ev num plc sig pad (swp kk (kk - 1) rw2) dg_ far cfr cby que has img kep) [0, 1, 2, 3, 4, 5, 6, 7, 8, 9, 10, 11, 12, 13] rfl
                      have hD := hD.sub (ws' := wM mo ma mb mc md me mf mg mh mi mj mk ml mn cI cZ n q c w q ev num plc sig pad (swp kk (kk - 1) rw2) dg_ far cfr cby que has img kep) [0, 1, 2, 3, 4, 5, 6, 7, 8, 9, 10, 11, 12, 13] (by decide) rfl
                      have hK := va_K.moved (Vm.Alike.refl Gs.vm) hK
                      generalize H1 = H at hP hS ⊢
                      refine lv_iinc (v := nI (kk - 1)) (lv' := [(4, .int (nI (kk - 1))), (3, .int (nI p)), (2, .int (nI v)), (0, .ref mo), (1, .int (nI k))]) gx gb dX9_layRow_93 hl (k := 0) rfl (e_dec1 (by omega)) (by decide) rfl (fun ls hl => ?_)
                      refine lv_goto (tgt := 59) gx gb dX9_layRow_96 (by decide) ?_
                      exact ih59 (swp kk (kk - 1) rw2) (kk - 1) (by omega) (by exact pr_tr (pr_swp _ (by omega) (by omega)) hr2) (by obtain ⟨k9, rfl⟩ : ∃ k9, kk = k9 + 1 := ⟨kk - 1, by omega⟩; rw [Nat.add_sub_cancel] at c80 ⊢; exact (ins_s hkp hi1 hi2 (by omega)).1) (by obtain ⟨k9, rfl⟩ : ∃ k9, kk = k9 + 1 := ⟨kk - 1, by omega⟩; rw [Nat.add_sub_cancel] at c80 ⊢; exact (ins_s hkp hi1 hi2 (by omega)).2) (by omega) _ _ hP hD hS ls (lv_sub hl [0, 1, 2, 3, 4] rfl)
              exact L59 _ rw_ p (by omega) (by exact hr) (by exact (ins_0 hs).1) (by exact (ins_0 hs).2) (Nat.lt_succ_self _) _ _ hP hD hS ls (lv_sub hl [0, 1, 2, 3, 4] rfl)
        exact L48 _ (cpy plc row 7) 1 (by omega) (by omega) (by exact pr_cg (fun x hx => cpy7 _ _ (by omega))) (by intro a b h8 h9; omega) (Nat.lt_succ_self _) _ _ hP hD hS ls (lv_sub hl [0, 1, 2, 3] rfl)
      · skip
        rw [z0_lt (by omega) (by omega)] at c14
        have hvb : v ≤ k := by rw [hv]; exact Nat.div_le_self _ _
        refine lv_aload_n gx gb dX9_layRow_17 rfl (lv_at hl 2 rfl) ?_
        refine va_get (D := D) (ci := 4) (v := .ref mf) (C := RX9) (T := TX9) (N := 19) gx gb gts i9 gown hK hP 0 rfl rfl 11 (by decide) (gts (.fieldLink RX9 32 "SwanSumsModel" "digits" "[I") (by decide +kernel)) (fun _ h9 => h9) rfl dX9_layRow_18 ?_
        refine lv_iload_n gx gb dX9_layRow_21 rfl (lv_at hl 1 rfl) ?_
        refine lv_evi (nI (i - 1)) (by rw [← zI_nat]; congr 1; omega) ?_
        refine lv_iload_n gx gb dX9_layRow_22 rfl (lv_at hl 0 rfl) ?_
        refine lv_aload_n gx gb dX9_layRow_23 rfl (lv_at hl 2 rfl) ?_
        refine va_get (D := D) (ci := 4) (v := .int (nI q)) (C := RX9) (T := TX9) (N := 19) gx gb gts i9 gown hK hP 0 rfl rfl 9 (by decide) (gts (.fieldLink RX9 81 "SwanSumsModel" "size" "I") (by decide +kernel)) (fun _ h9 => h9) rfl dX9_layRow_24 ?_
        refine lv_iload_n gx gb dX9_layRow_27 rfl (lv_at hl 1 rfl) ?_
        refine lv_evi (nI (i - 1)) (by rw [← zI_nat]; congr 1; omega) ?_
        refine lv_isub gx gb dX9_layRow_28 ?_
        refine lv_evi (nI (q - (i - 1))) (e_sub (by omega)) ?_
        refine lv_irem gx gb dX9_layRow_29 (nI_ne0 (by omega) (by omega)) ?_
        refine lv_evi (nI (v % (q - (i - 1)))) (e_rem (by omega) (by omega) (by omega)) ?_
        refine va_iast gx gb hK hP hD hS 6 0 rfl rfl (vp_in_nI (n := i - 1) (by omega) (by decide)) dX9_layRow_30 (fun H locs hP hD hS => ?_)
        rw [aN_st dg_ (v % (q - (i - 1))) (by omega)] at hP hD
        have hP : va_P D vwCl (wM mo ma mb mc md me mf mg mh mi mj mk ml mn cI cZ n q c w q ev num plc sig pad (cpy plc row 7) (up dg_ (i - 1) (v % (q - (i - 1)))) far cfr cby que has img kep) H := hP
        have hD : va_D A (wM mo ma mb mc md me mf mg mh mi mj mk ml mn cI cZ n q c w q ev num plc sig pad (cpy plc row 7) (up dg_ (i - 1) (v % (q - (i - 1)))) far cfr cby que has img kep) := hD
        refine lv_iload_n gx gb dX9_layRow_31 rfl (lv_at hl 0 rfl) ?_
        refine lv_aload_n gx gb dX9_layRow_32 rfl (lv_at hl 2 rfl) ?_
        refine va_get (D := D) (ci := 4) (v := .int (nI q)) (C := RX9) (T := TX9) (N := 19) gx gb gts i9 gown hK hP 0 rfl rfl 9 (by decide) (gts (.fieldLink RX9 81 "SwanSumsModel" "size" "I") (by decide +kernel)) (fun _ h9 => h9) rfl dX9_layRow_33 ?_
        refine lv_iload_n gx gb dX9_layRow_36 rfl (lv_at hl 1 rfl) ?_
        refine lv_evi (nI (i - 1)) (by rw [← zI_nat]; congr 1; omega) ?_
        refine lv_isub gx gb dX9_layRow_37 ?_
        refine lv_evi (nI (q - (i - 1))) (e_sub (by omega)) ?_
        refine lv_idiv gx gb dX9_layRow_38 (nI_ne0 (by omega) (by omega)) ?_
        refine lv_evi (nI (v / (q - (i - 1)))) (e_div (by omega) (by omega) (by omega)) ?_
        refine lv_istore_n (lv' := [(2, .int (nI (v / (q - (i - 1))))), (3, .int (zI (((i : Nat) : Int) - 1))), (0, .ref mo), (1, .int (nI k))]) gx gb dX9_layRow_39 rfl hl (by decide) rfl (fun ls hl => ?_)
        refine lv_iinc (v := zI (((i : Nat) : Int) - 1 + (-1))) (lv' := [(3, .int (zI (((i : Nat) : Int) - 1 + (-1)))), (2, .int (nI (v / (q - (i - 1))))), (0, .ref mo), (1, .int (nI k))]) gx gb dX9_layRow_40 hl (k := 1) rfl (zI_add (((i : Nat) : Int) - 1) (-1)) (by decide) rfl (fun ls hl => ?_)
        rw [show zI (((i : Nat) : Int) - 1 + (-1)) = zI (((i - 1 : Nat) : Int) - 1) from by congr 1; omega] at hl
        have hl : lv_has ls 5 [(3, .int (zI (((i - 1 : Nat) : Int) - 1))), (2, .int (nI (v / (q - (i - 1))))), (0, .ref mo), (1, .int (nI k))] := hl
        refine lv_goto (tgt := 13) gx gb dX9_layRow_43 (by decide) ?_
        exact ih13 (i - 1) (v / (q - (i - 1))) (up dg_ (i - 1) (v % (q - (i - 1)))) (by omega) (by rw [hv, Nat.div_div_eq_div_mul, show q - (i - 1) = q - i + 1 by omega, fac]) (by intro x h8 h9; by_cases h7 : x = i - 1; rw [h7, up_s, hv, lyD, show q - 1 - (i - 1) = q - i by omega]; rw [up_n _ _ h7]; exact hdg x (by omega) h9) (by omega) _ _ hP hD hS ls (lv_sub hl [1, 0, 2, 3] rfl)
  exact L13 _ q k dig (by omega) (by rw [Nat.sub_self, fac, Nat.div_one]) (by intro x h8 h9; omega) (Nat.lt_succ_self _) _ _ hP hD hS ls (lv_sub hl [1, 0, 2, 3] rfl)

