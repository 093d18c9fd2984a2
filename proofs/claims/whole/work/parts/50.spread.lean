
set_option maxHeartbeats 4000000 in
set_option maxRecDepth 100000 in
theorem kX9_spread (Gl : Launch) (D : va_G) (cI cJ cZ : ClassId) (mo : Nat) (ma : Nat) (mb : Nat) (mc : Nat) (md : Nat) (me : Nat) (mf : Nat) (mg : Nat) (mh : Nat) (mi : Nat) (mj : Nat) (mk : Nat) (ml : Nat) (mn : Nat) (n : Nat) (q : Nat) (c : Nat) (w : Nat) (z : Nat) (ev : Nat) (num : Nat → Nat) (plc : Nat → Nat) (sig : Nat → Nat) (pad : Nat → Nat) (row : Nat → Nat) (dig : Nat → Nat) (cfr : Nat → Nat) (cby : Nat → Nat) (que : Nat → Nat) (has : Nat → Nat) (img : Nat → Nat) (kep : Nat → Nat) (sz : Nat) (v : Nat → Nat) (S : Nat) (hq1 : 1 ≤ q) (hq7 : q ≤ 7) (hpl : ∀ x, x < q → plc x ≤ 6) (hij : ij q plc) (hv : ∀ r, r < 5040 → v r ≤ 1000000) (haS : arr q S) (hv0 : v (rkC plc q S) = 0) : Met Gl yX9_spread wsX9_spread ({ frames := 3, cells := 0, slots := 0, locals := 66 } : Room) (va_Pc [.ref mo] (fun U => U.heap.size = sz ∧ va_P D vwCl (wM mo ma mb mc md me mf mg mh mi mj mk ml mn cI cZ n q c w z ev num plc sig pad row dig (aN v) cfr cby que has img kep) U.heap ∧ va_K D vwCl [(cI, .int), (cJ, .long), (cZ, .boolean)] U ∧ va_D (fun _ => True) (wM mo ma mb mc md me mf mg mh mi mj mk ml mn cI cZ n q c w z ev num plc sig pad row dig (aN v) cfr cby que has img kep))) (va_Qv (fun u : (Nat → Nat) × (Nat → Nat) × (Nat → Nat) × (Nat) => (spF q (rkV_ plc q v) (rkV_ plc q u.1) ∧ (∀ C_, arr q C_ → rkV_ plc q u.1 C_ ≤ 7) ∧ ∀ r_, r_ < 5040 → u.1 r_ ≤ 1000000)) (fun (u : (Nat → Nat) × (Nat → Nat) × (Nat → Nat) × (Nat)) t => va_P D vwCl (wM mo ma mb mc md me mf mg mh mi mj mk ml mn cI cZ n q c w u.2.2.2 ev num plc sig pad u.2.1 u.2.2.1 (aN u.1) cfr cby que has img kep) t.heap ∧ va_K D vwCl [(cI, .int), (cJ, .long), (cZ, .boolean)] t ∧ va_D (va_A (wM mo ma mb mc md me mf mg mh mi mj mk ml mn cI cZ n q c w z ev num plc sig pad row dig (aN v) cfr cby que has img kep) sz) (wM mo ma mb mc md me mf mg mh mi mj mk ml mn cI cZ n q c w u.2.2.2 ev num plc sig pad u.2.1 u.2.2.1 (aN u.1) cfr cby que has img kep)) (va_A (wM mo ma mb mc md me mf mg mh mi mj mk ml mn cI cZ n q c w z ev num plc sig pad row dig (aN v) cfr cby que has img kep) sz)) 0 0 (va_A (wM mo ma mb mc md me mf mg mh mi mj mk ml mn cI cZ n q c w z ev num plc sig pad row dig (aN v) cfr cby que has img kep) sz) := by
  refine Met.ofW (cc := cX9_spread) (maxL := 6) (ret := none) (by decide +kernel) rfl ?_
  intro Gp Ge Gs Gm Ga Gw Gt Gc G1 Bd gml gv
  obtain ⟨rfl, hsz, hP, hK, hD0⟩ := gv
  have gx := Bd.exec
  have gb := Bd.bytes
  have gr := Bd.returns
  have gts := atoms_spec (ws := wsX9_spread) Bd.pre
  have gown : Gs.vm.findClass RX9 = some Gm.cls := findClass_of_methodNamed Bd.named
  have glk := Bd.notSynchronized
  subst hsz
  have hD := hD0.self (sz := Gs.heap.size)
  generalize hAe : va_A (wM mo ma mb mc md me mf mg mh mi mj mk ml mn cI cZ n q c w z ev num plc sig pad row dig (aN v) cfr cby que has img kep) Gs.heap.size = A at hD ⊢
  have hA : ∀ q : Nat, Gs.heap.size ≤ q → A q := fun q h => by rw [← hAe]; exact Or.inr h
  have hS : va_S A Gs.heap Gs.heap [] := va_S.rf
  have hP : va_P D vwCl (wM mo ma mb mc md me mf mg mh mi mj mk ml mn cI cZ n q c w z ev num plc sig pad row dig (aN v) cfr cby que has img kep) Gs.heap := hP
  have hl := lv_entry ([.ref mo]) (n := 6) (Nat.le_of_ble_eq_true rfl)
  rw [lg_entry_eq]
  generalize (lg_sl ([.ref mo]) ++ List.replicate (6 - (lg_sl ([.ref mo])).length) Slot.unset).toArray = ls at hl ⊢
  have hl : lv_has ls 6 [(0, .ref mo)] := hl
  have i9 : ∀ w ∈ wsX90, w ∈ wsX9_spread := by decide +kernel
  refine lv_iconst (v := nI 1) gx gb dX9_spread_0 (by decide) ?_
  refine lv_istore_n (lv' := [(1, .int (nI 1)), (0, .ref mo)]) gx gb dX9_spread_1 rfl hl (by decide) rfl (fun ls hl => ?_)
  refine lv_iconst (v := nI 0) gx gb dX9_spread_2 (by decide) ?_
  refine lv_istore_n (lv' := [(2, .int (nI 0)), (1, .int (nI 1)), (0, .ref mo)]) gx gb dX9_spread_3 rfl hl (by decide) rfl (fun ls hl => ?_)
  have L4 : ∀ fu : Nat, ∀ (b : Bool) (d : Nat) (v_ rw_ dg_ : Nat → Nat) (z_ : Nat) (hvv : ∀ r, r < 5040 → v_ r ≤ 1000000) (hI : spI q (rkC plc q) (rkV_ plc q v) (rkV_ plc q v_) d 0 0) (hb1 : b = true → d ≤ 7) (hb0 : b = false → 0 < d ∧ ∀ C, arr q C → rkV_ plc q v_ C ≤ d - 1 ∨ 1000000 ≤ rkV_ plc q v_ C) (hd8 : d ≤ 8), (9 - d) < fu → ∀ (H : Heap) (locs : List Loc), va_P D vwCl (wM mo ma mb mc md me mf mg mh mi mj mk ml mn cI cZ n q c w z_ ev num plc sig pad rw_ dg_ (aN v_) cfr cby que has img kep) H → va_D A (wM mo ma mb mc md me mf mg mh mi mj mk ml mn cI cZ n q c w z_ ev num plc sig pad rw_ dg_ (aN v_) cfr cby que has img kep) → va_S A Gs.heap H locs → ∀ ls : Array Slot, lv_has ls 6 [(1, .int (bI b)), (2, .int (nI d)), (0, .ref mo)] → W Gp Gl Ge (headSpec wsX9_spread ({ frames := 3, cells := 0, slots := 0, locals := 66 } : Room)).room Gs Gm ([.ref mo] : List Value).toArray Gw Gt Gc H locs 0 0 (MQ Gw (va_Qv (fun u : (Nat → Nat) × (Nat → Nat) × (Nat → Nat) × (Nat) => (spF q (rkV_ plc q v) (rkV_ plc q u.1) ∧ (∀ C_, arr q C_ → rkV_ plc q u.1 C_ ≤ 7) ∧ ∀ r_, r_ < 5040 → u.1 r_ ≤ 1000000)) (fun (u : (Nat → Nat) × (Nat → Nat) × (Nat → Nat) × (Nat)) t => va_P D vwCl (wM mo ma mb mc md me mf mg mh mi mj mk ml mn cI cZ n q c w u.2.2.2 ev num plc sig pad u.2.1 u.2.2.1 (aN u.1) cfr cby que has img kep) t.heap ∧ va_K D vwCl [(cI, .int), (cJ, .long), (cZ, .boolean)] t ∧ va_D A (wM mo ma mb mc md me mf mg mh mi mj mk ml mn cI cZ n q c w u.2.2.2 ev num plc sig pad u.2.1 u.2.2.1 (aN u.1) cfr cby que has img kep)) A) ([.ref mo] : List Value).toArray Gs 0 0 A) (F0 Gm 4 ls []) := by
    intro fu
    induction fu with
    | zero => intro b d v_ rw_ dg_ z_ hvv hI hb1 hb0 hd8 hfu; exact absurd hfu (Nat.not_lt_zero _)
    | succ fu ih4 =>
      intro b d v_ rw_ dg_ z_ hvv hI hb1 hb0 hd8 hfu H locs hP hD hS ls hl
      refine lv_iload_n gx gb dX9_spread_4 rfl (lv_at hl 0 rfl) ?_
      refine lv_if_eq (tgt := 157) gx gb dX9_spread_5 (by decide) (fun c5 => ?_) (fun c5 => ?_)
      · skip
        rw [b0_eq] at c5
        exact W.vret gx gb gr (fun t ht hW => ⟨⟨(v_, rw_, dg_, z_), rfl, (by first | (dsimp only; done) | ((try dsimp only); obtain ⟨hd0, hn⟩ := hb0 c5; obtain ⟨d9, rfl⟩ : ∃ d9, d = d9 + 1 := ⟨d - 1, by omega⟩; have hf := sp_fin hq7 hI haS hv0 hn; exact ⟨hf.1, hf.2, hvv⟩)), by rw [ht]; exact hP, va_K.moved hW.alike hK, hD⟩, hS.F ht⟩) hS.2.2 dX9_spread_157
      · skip
        rw [b0_eq] at c5
        have c5 := nf_t c5
        have hd7 := hb1 c5
        refine lv_iconst (v := nI 0) gx gb dX9_spread_8 (by decide) ?_
        refine lv_istore_n (lv' := [(1, .int (nI 0)), (2, .int (nI d)), (0, .ref mo)]) gx gb dX9_spread_9 rfl hl (by decide) rfl (fun ls hl => ?_)
        refine lv_iconst (v := nI 0) gx gb dX9_spread_10 (by decide) ?_
        refine lv_istore_n (lv' := [(3, .int (nI 0)), (1, .int (nI 0)), (2, .int (nI d)), (0, .ref mo)]) gx gb dX9_spread_11 rfl hl (by decide) rfl (fun ls hl => ?_)
        have L12 : ∀ fu : Nat, ∀ (k : Nat) (v1 rw1 dg1 : Nat → Nat) (z1 : Nat) (hkq : k ≤ fac q) (hv1 : ∀ r, r < 5040 → v1 r ≤ 1000000) (hI1 : spI q (rkC plc q) (rkV_ plc q v) (rkV_ plc q v1) d k 0), (fac q - k) < fu → ∀ (H : Heap) (locs : List Loc), va_P D vwCl (wM mo ma mb mc md me mf mg mh mi mj mk ml mn cI cZ n q c w z1 ev num plc sig pad rw1 dg1 (aN v1) cfr cby que has img kep) H → va_D A (wM mo ma mb mc md me mf mg mh mi mj mk ml mn cI cZ n q c w z1 ev num plc sig pad rw1 dg1 (aN v1) cfr cby que has img kep) → va_S A Gs.heap H locs → ∀ ls : Array Slot, lv_has ls 6 [(3, .int (nI k)), (1, .int (nI 0)), (2, .int (nI d)), (0, .ref mo)] → W Gp Gl Ge (headSpec wsX9_spread ({ frames := 3, cells := 0, slots := 0, locals := 66 } : Room)).room Gs Gm ([.ref mo] : List Value).toArray Gw Gt Gc H locs 0 0 (MQ Gw (va_Qv (fun u : (Nat → Nat) × (Nat → Nat) × (Nat → Nat) × (Nat) => (spF q (rkV_ plc q v) (rkV_ plc q u.1) ∧ (∀ C_, arr q C_ → rkV_ plc q u.1 C_ ≤ 7) ∧ ∀ r_, r_ < 5040 → u.1 r_ ≤ 1000000)) (fun (u : (Nat → Nat) × (Nat → Nat) × (Nat → Nat) × (Nat)) t => va_P D vwCl (wM mo ma mb mc md me mf mg mh mi mj mk ml mn cI cZ n q c w u.2.2.2 ev num plc sig pad u.2.1 u.2.2.1 (aN u.1) cfr cby que has img kep) t.heap ∧ va_K D vwCl [(cI, .int), (cJ, .long), (cZ, .boolean)] t ∧ va_D A (wM mo ma mb mc md me mf mg mh mi mj mk ml mn cI cZ n q c w u.2.2.2 ev num plc sig pad u.2.1 u.2.2.1 (aN u.1) cfr cby que has img kep)) A) ([.ref mo] : List Value).toArray Gs 0 0 A) (F0 Gm 12 ls []) := by
          intro fu
          induction fu with
          | zero => intro k v1 rw1 dg1 z1 hkq hv1 hI1 hfu; exact absurd hfu (Nat.not_lt_zero _)
          | succ fu ih12 =>
            intro k v1 rw1 dg1 z1 hkq hv1 hI1 hfu H locs hP hD hS ls hl
            have hf7 := fac_7 hq7
            refine lv_iload_n gx gb dX9_spread_12 rfl (lv_at hl 0 rfl) ?_
            refine lv_aload_n gx gb dX9_spread_13 rfl (lv_at hl 3 rfl) ?_
            have hPc := hP.sub (ws' := wM mo ma mb mc md me mf mg mh mi mj mk ml mn cI cZ n q c w z1 ev num plc sig pad rw1 dg1 (aN v1) cfr cby que has img kep) [0, 1, 2, 3, 4, 5, 6, 7, 8, 9, 10, 11, 12, 13] rfl
            refine vp_callSi (W.runV (As := []) (rest := [.int (nI k)]) ⟨gx, gb, gml, gown, gts⟩ (kX9_rowsOf Gl D cI cJ cZ mo ma mb mc md me mf mg mh mi mj mk ml mn n q c w z1 ev num plc sig pad rw1 dg1 (aN v1) cfr cby que has img kep  (by omega) (by omega)) (cwV 0 gts gX9_spread_X9_rowsOf rfl rfl rfl (by decide +kernel) ⟨Nat.le_of_ble_eq_true rfl, Nat.le_of_ble_eq_true rfl⟩) ⟨fun a U g mk q => ⟨q.1, q.2.1, va_K.moved (u := U) (U := U.calling g mk a) (Vm.Alike.refl U.vm) q.2.2⟩, va_recv hK hPc (ci := 4) (q0 := 0) rfl rfl, fun U hU hW => ⟨rfl, by rw [hU]; exact hPc, va_K.moved hW.alike hK⟩⟩ rfl rfl hl.1 rfl (lv_room (Nat.le_of_ble_eq_true rfl)) dX9_spread_14 ⟨Nat.le_of_ble_eq_true rfl, Nat.le_of_ble_eq_true rfl⟩) (fun r hw => ?_)
            have hr14 := hw
            subst hr14
            refine lv_icmp_ge (tgt := 104) gx gb dX9_spread_17 (by decide) (fun c17 => ?_) (fun c17 => ?_)
            · skip
              rw [nI_leI (by omega) (by omega)] at c17
              have hkf : k = fac q := by omega
              rw [hkf] at hI1
              refine lv_iconst (v := nI 0) gx gb dX9_spread_104 (by decide) ?_
              refine lv_istore_n (lv' := [(3, .int (nI 0)), (1, .int (nI 0)), (2, .int (nI d)), (0, .ref mo)]) gx gb dX9_spread_105 rfl hl (by decide) rfl (fun ls hl => ?_)
              have L106 : ∀ fu : Nat, ∀ (k2 : Nat) (b2 : Bool) (hk2 : k2 ≤ fac q) (hb2 : b2 = true ↔ ∃ r, r < k2 ∧ d < v1 r ∧ v1 r < 1000000), (fac q - k2) < fu → ∀ (H : Heap) (locs : List Loc), va_P D vwCl (wM mo ma mb mc md me mf mg mh mi mj mk ml mn cI cZ n q c w z1 ev num plc sig pad rw1 dg1 (aN v1) cfr cby que has img kep) H → va_D A (wM mo ma mb mc md me mf mg mh mi mj mk ml mn cI cZ n q c w z1 ev num plc sig pad rw1 dg1 (aN v1) cfr cby que has img kep) → va_S A Gs.heap H locs → ∀ ls : Array Slot, lv_has ls 6 [(1, .int (bI b2)), (3, .int (nI k2)), (2, .int (nI d)), (0, .ref mo)] → W Gp Gl Ge (headSpec wsX9_spread ({ frames := 3, cells := 0, slots := 0, locals := 66 } : Room)).room Gs Gm ([.ref mo] : List Value).toArray Gw Gt Gc H locs 0 0 (MQ Gw (va_Qv (fun u : (Nat → Nat) × (Nat → Nat) × (Nat → Nat) × (Nat) => (spF q (rkV_ plc q v) (rkV_ plc q u.1) ∧ (∀ C_, arr q C_ → rkV_ plc q u.1 C_ ≤ 7) ∧ ∀ r_, r_ < 5040 → u.1 r_ ≤ 1000000)) (fun (u : (Nat → Nat) × (Nat → Nat) × (Nat → Nat) × (Nat)) t => va_P D vwCl (wM mo ma mb mc md me mf mg mh mi mj mk ml mn cI cZ n q c w u.2.2.2 ev num plc sig pad u.2.1 u.2.2.1 (aN u.1) cfr cby que has img kep) t.heap ∧ va_K D vwCl [(cI, .int), (cJ, .long), (cZ, .boolean)] t ∧ va_D A (wM mo ma mb mc md me mf mg mh mi mj mk ml mn cI cZ n q c w u.2.2.2 ev num plc sig pad u.2.1 u.2.2.1 (aN u.1) cfr cby que has img kep)) A) ([.ref mo] : List Value).toArray Gs 0 0 A) (F0 Gm 106 ls []) := by
                intro fu
                induction fu with
                | zero => intro k2 b2 hk2 hb2 hfu; exact absurd hfu (Nat.not_lt_zero _)
                | succ fu ih106 =>
                  intro k2 b2 hk2 hb2 hfu H locs hP hD hS ls hl
                  refine lv_iload_n gx gb dX9_spread_106 rfl (lv_at hl 1 rfl) ?_
                  refine lv_aload_n gx gb dX9_spread_107 rfl (lv_at hl 3 rfl) ?_
                  have hPc := hP.sub (ws' := wM mo ma mb mc md me mf mg mh mi mj mk ml mn cI cZ n q c w z1 ev num plc sig pad rw1 dg1 (aN v1) cfr cby que has img kep) [0, 1, 2, 3, 4, 5, 6, 7, 8, 9, 10, 11, 12, 13] rfl
                  refine vp_callSi (W.runV (As := []) (rest := [.int (nI k2)]) ⟨gx, gb, gml, gown, gts⟩ (kX9_rowsOf Gl D cI cJ cZ mo ma mb mc md me mf mg mh mi mj mk ml mn n q c w z1 ev num plc sig pad rw1 dg1 (aN v1) cfr cby que has img kep  (by omega) (by omega)) (cwV 0 gts gX9_spread_X9_rowsOf rfl rfl rfl (by decide +kernel) ⟨Nat.le_of_ble_eq_true rfl, Nat.le_of_ble_eq_true rfl⟩) ⟨fun a U g mk q => ⟨q.1, q.2.1, va_K.moved (u := U) (U := U.calling g mk a) (Vm.Alike.refl U.vm) q.2.2⟩, va_recv hK hPc (ci := 4) (q0 := 0) rfl rfl, fun U hU hW => ⟨rfl, by rw [hU]; exact hPc, va_K.moved hW.alike hK⟩⟩ rfl rfl hl.1 rfl (lv_room (Nat.le_of_ble_eq_true rfl)) dX9_spread_108 ⟨Nat.le_of_ble_eq_true rfl, Nat.le_of_ble_eq_true rfl⟩) (fun r hw => ?_)
                  have hr108 := hw
                  subst hr108
                  refine lv_icmp_ge (tgt := 151) gx gb dX9_spread_111 (by decide) (fun c111 => ?_) (fun c111 => ?_)
                  · skip
                    rw [nI_leI (by omega) (by omega)] at c111
                    have hkf2 : k2 = fac q := by omega
                    rw [hkf2] at hb2
                    have hnx := sp_nx hq7 hij hI1 haS hv0 hb2
                    refine lv_iinc (v := nI (d + 1)) (lv' := [(2, .int (nI (d + 1))), (1, .int (bI b2)), (3, .int (nI k2)), (0, .ref mo)]) gx gb dX9_spread_151 hl (k := 2) rfl (nI_add d 1) (by decide) rfl (fun ls hl => ?_)
                    refine lv_goto (tgt := 4) gx gb dX9_spread_154 (by decide) ?_
                    exact ih4 b2 (d + 1) v1 rw1 dg1 z1 (by exact hv1) (by exact hnx.1) (by exact hnx.2.1) (by intro h9; exact ⟨by omega, fun C aC => hnx.2.2 h9 C aC⟩) (by omega) (by omega) _ _ hP hD hS ls (lv_sub hl [1, 0, 3] rfl)
                  · skip
                    rw [nI_leI (by omega) (by omega)] at c111
                    refine lv_iload_n gx gb dX9_spread_114 rfl (lv_at hl 0 rfl) ?_
                    refine lv_if_ne (tgt := 139) gx gb dX9_spread_115 (by decide) (fun c115 => ?_) (fun c115 => ?_)
                    · skip
                      rw [b0_eq] at c115
                      have c115 := nf_t c115
                      refine lv_iconst (v := nI 1) gx gb dX9_spread_139 (by decide) ?_
                      refine lv_goto (tgt := 144) gx gb dX9_spread_140 (by decide) ?_
                      refine lv_istore_n (lv' := [(1, .int (nI 1)), (3, .int (nI k2)), (2, .int (nI d)), (0, .ref mo)]) gx gb dX9_spread_144 rfl hl (by decide) rfl (fun ls hl => ?_)
                      refine lv_iinc (v := nI (k2 + 1)) (lv' := [(3, .int (nI (k2 + 1))), (1, .int (nI 1)), (2, .int (nI d)), (0, .ref mo)]) gx gb dX9_spread_145 hl (k := 1) rfl (nI_add k2 1) (by decide) rfl (fun ls hl => ?_)
                      refine lv_goto (tgt := 106) gx gb dX9_spread_148 (by decide) ?_
                      exact ih106 (k2 + 1) true (by omega) (by first | exact ⟨fun _ => by obtain ⟨r, h1, h2⟩ := hb2.mp c115; exact ⟨r, by omega, h2⟩, fun _ => rfl⟩ | exact ⟨fun _ => ⟨k2, by omega, by omega, by omega⟩, fun _ => rfl⟩ | exact ⟨fun h => (by cases h), fun ⟨r, h1, h2, h3⟩ => by rcases Nat.lt_or_ge r k2 with h4 | h4; (have h5 := hb2.mpr ⟨r, h4, h2, h3⟩; rw [c115] at h5; cases h5); (rw [show r = k2 by omega] at h2 h3; omega)⟩) (by omega) _ _ hP hD hS ls (lv_sub hl [1, 0, 2, 3] rfl)
                    · skip
                      rw [b0_eq] at c115
                      have hvk2 := hv1 k2 (by omega)
                      refine lv_aload_n gx gb dX9_spread_118 rfl (lv_at hl 3 rfl) ?_
                      refine va_get (D := D) (ci := 4) (v := .ref mg) (C := RX9) (T := TX9) (N := 19) gx gb gts i9 gown hK hP 0 rfl rfl 12 (by decide) (gts (.fieldLink RX9 35 "SwanSumsModel" "far" "[I") (by decide +kernel)) (fun _ h9 => h9) rfl dX9_spread_119 ?_
                      refine lv_iload_n gx gb dX9_spread_122 rfl (lv_at hl 1 rfl) ?_
                      refine va_iald gx gb hK hP 7 0 rfl rfl (vp_in_nI (n := k2) (by omega) (by decide)) dX9_spread_123 ?_
                      refine lv_evi (nI (v1 k2)) (aN_rd v1 (by omega)) ?_
                      refine lv_iload_n gx gb dX9_spread_124 rfl (lv_at hl 2 rfl) ?_
                      refine lv_icmp_le (tgt := 143) gx gb dX9_spread_125 (by decide) (fun c125 => ?_) (fun c125 => ?_)
                      · skip
                        rw [nI_leI (by omega) (by omega)] at c125
                        refine lv_iconst (v := nI 0) gx gb dX9_spread_143 (by decide) ?_
                        refine lv_istore_n (lv' := [(1, .int (nI 0)), (3, .int (nI k2)), (2, .int (nI d)), (0, .ref mo)]) gx gb dX9_spread_144 rfl hl (by decide) rfl (fun ls hl => ?_)
                        refine lv_iinc (v := nI (k2 + 1)) (lv' := [(3, .int (nI (k2 + 1))), (1, .int (nI 0)), (2, .int (nI d)), (0, .ref mo)]) gx gb dX9_spread_145 hl (k := 1) rfl (nI_add k2 1) (by decide) rfl (fun ls hl => ?_)
                        refine lv_goto (tgt := 106) gx gb dX9_spread_148 (by decide) ?_
                        exact ih106 (k2 + 1) false (by omega) (by first | exact ⟨fun _ => by obtain ⟨r, h1, h2⟩ := hb2.mp c115; exact ⟨r, by omega, h2⟩, fun _ => rfl⟩ | exact ⟨fun _ => ⟨k2, by omega, by omega, by omega⟩, fun _ => rfl⟩ | exact ⟨fun h => (by cases h), fun ⟨r, h1, h2, h3⟩ => by rcases Nat.lt_or_ge r k2 with h4 | h4; (have h5 := hb2.mpr ⟨r, h4, h2, h3⟩; rw [c115] at h5; cases h5); (rw [show r = k2 by omega] at h2 h3; omega)⟩) (by omega) _ _ hP hD hS ls (lv_sub hl [1, 0, 2, 3] rfl)
                      · skip
                        rw [nI_leI (by omega) (by omega)] at c125
                        refine lv_aload_n gx gb dX9_spread_128 rfl (lv_at hl 3 rfl) ?_
                        refine va_get (D := D) (ci := 4) (v := .ref mg) (C := RX9) (T := TX9) (N := 19) gx gb gts i9 gown hK hP 0 rfl rfl 12 (by decide) (gts (.fieldLink RX9 35 "SwanSumsModel" "far" "[I") (by decide +kernel)) (fun _ h9 => h9) rfl dX9_spread_129 ?_
                        refine lv_iload_n gx gb dX9_spread_132 rfl (lv_at hl 1 rfl) ?_
                        refine va_iald gx gb hK hP 7 0 rfl rfl (vp_in_nI (n := k2) (by omega) (by decide)) dX9_spread_133 ?_
                        refine lv_evi (nI (v1 k2)) (aN_rd v1 (by omega)) ?_
                        refine lv_ldc (v := (1000000)) gx gb gown (gts (.constant RX9 158 (1000000)) (by decide +kernel)) dX9_spread_134 ?_
                        refine lv_evi (nI 1000000) (rfl) ?_
                        refine lv_icmp_ge (tgt := 143) gx gb dX9_spread_136 (by decide) (fun c136 => ?_) (fun c136 => ?_)
                        · skip
                          rw [nI_leI (by omega) (by omega)] at c136
                          refine lv_iconst (v := nI 0) gx gb dX9_spread_143 (by decide) ?_
                          refine lv_istore_n (lv' := [(1, .int (nI 0)), (3, .int (nI k2)), (2, .int (nI d)), (0, .ref mo)]) gx gb dX9_spread_144 rfl hl (by decide) rfl (fun ls hl => ?_)
                          refine lv_iinc (v := nI (k2 + 1)) (lv' := [(3, .int (nI (k2 + 1))), (1, .int (nI 0)), (2, .int (nI d)), (0, .ref mo)]) gx gb dX9_spread_145 hl (k := 1) rfl (nI_add k2 1) (by decide) rfl (fun ls hl => ?_)
                          refine lv_goto (tgt := 106) gx gb dX9_spread_148 (by decide) ?_
                          exact ih106 (k2 + 1) false (by omega) (by first | exact ⟨fun _ => by obtain ⟨r, h1, h2⟩ := hb2.mp c115; exact ⟨r, by omega, h2⟩, fun _ => rfl⟩ | exact ⟨fun _ => ⟨k2, by omega, by omega, by omega⟩, fun _ => rfl⟩ | exact ⟨fun h => (by cases h), fun ⟨r, h1, h2, h3⟩ => by rcases Nat.lt_or_ge r k2 with h4 | h4; (have h5 := hb2.mpr ⟨r, h4, h2, h3⟩; rw [c115] at h5; cases h5); (rw [show r = k2 by omega] at h2 h3; omega)⟩) (by omega) _ _ hP hD hS ls (lv_sub hl [1, 0, 2, 3] rfl)
                        · skip
                          rw [nI_leI (by omega) (by omega)] at c136
                          refine lv_iconst (v := nI 1) gx gb dX9_spread_139 (by decide) ?_
                          refine lv_goto (tgt := 144) gx gb dX9_spread_140 (by decide) ?_
                          refine lv_istore_n (lv' := [(1, .int (nI 1)), (3, .int (nI k2)), (2, .int (nI d)), (0, .ref mo)]) gx gb dX9_spread_144 rfl hl (by decide) rfl (fun ls hl => ?_)
                          refine lv_iinc (v := nI (k2 + 1)) (lv' := [(3, .int (nI (k2 + 1))), (1, .int (nI 1)), (2, .int (nI d)), (0, .ref mo)]) gx gb dX9_spread_145 hl (k := 1) rfl (nI_add k2 1) (by decide) rfl (fun ls hl => ?_)
                          refine lv_goto (tgt := 106) gx gb dX9_spread_148 (by decide) ?_
                          exact ih106 (k2 + 1) true (by omega) (by first | exact ⟨fun _ => by obtain ⟨r, h1, h2⟩ := hb2.mp c115; exact ⟨r, by omega, h2⟩, fun _ => rfl⟩ | exact ⟨fun _ => ⟨k2, by omega, by omega, by omega⟩, fun _ => rfl⟩ | exact ⟨fun h => (by cases h), fun ⟨r, h1, h2, h3⟩ => by rcases Nat.lt_or_ge r k2 with h4 | h4; (have h5 := hb2.mpr ⟨r, h4, h2, h3⟩; rw [c115] at h5; cases h5); (rw [show r = k2 by omega] at h2 h3; omega)⟩) (by omega) _ _ hP hD hS ls (lv_sub hl [1, 0, 2, 3] rfl)
              exact L106 _ 0 false (by omega) (by exact ⟨fun h => (by cases h), fun ⟨r, hr, _⟩ => absurd hr (Nat.not_lt_zero _)⟩) (Nat.lt_succ_self _) _ _ hP hD hS ls (lv_sub hl [1, 0, 2, 3] rfl)
            · skip
              rw [nI_leI (by omega) (by omega)] at c17
              have hvk := hv1 k (by omega)
              refine lv_aload_n gx gb dX9_spread_20 rfl (lv_at hl 3 rfl) ?_
              refine va_get (D := D) (ci := 4) (v := .ref mg) (C := RX9) (T := TX9) (N := 19) gx gb gts i9 gown hK hP 0 rfl rfl 12 (by decide) (gts (.fieldLink RX9 35 "SwanSumsModel" "far" "[I") (by decide +kernel)) (fun _ h9 => h9) rfl dX9_spread_21 ?_
              refine lv_iload_n gx gb dX9_spread_24 rfl (lv_at hl 0 rfl) ?_
              refine va_iald gx gb hK hP 7 0 rfl rfl (vp_in_nI (n := k) (by omega) (by decide)) dX9_spread_25 ?_
              refine lv_evi (nI (v1 k)) (aN_rd v1 (by omega)) ?_
              refine lv_iload_n gx gb dX9_spread_26 rfl (lv_at hl 2 rfl) ?_
              refine lv_icmp_ne (tgt := 98) gx gb dX9_spread_27 (by decide) (fun c27 => ?_) (fun c27 => ?_)
              · skip
                rw [nI_eq (by omega) (by omega)] at c27
                refine lv_iinc (v := nI (k + 1)) (lv' := [(3, .int (nI (k + 1))), (1, .int (nI 0)), (2, .int (nI d)), (0, .ref mo)]) gx gb dX9_spread_98 hl (k := 0) rfl (nI_add k 1) (by decide) rfl (fun ls hl => ?_)
                refine lv_goto (tgt := 12) gx gb dX9_spread_101 (by decide) ?_
                exact ih12 (k + 1) v1 rw1 dg1 z1 (by omega) (by first | exact hv2 | exact hv1) (by first | exact spI_n (by rw [show 3 * q = e by omega]; exact hI2) | exact spI_k2 hI1 (fun C aC hC h9 => c27 (by rw [← hC]; exact h9))) (by omega) _ _ hP hD hS ls (lv_sub hl [0, 1, 2, 3] rfl)
              · skip
                rw [nI_eq (by omega) (by omega)] at c27
                refine lv_iconst (v := nI 0) gx gb dX9_spread_30 (by decide) ?_
                refine lv_istore (lv' := [(4, .int (nI 0)), (3, .int (nI k)), (1, .int (nI 0)), (2, .int (nI d)), (0, .ref mo)]) gx gb dX9_spread_31 hl (by decide) rfl (fun ls hl => ?_)
                have L33 : ∀ fu : Nat, ∀ (e : Nat) (v2 rw2 dg2 : Nat → Nat) (z2 : Nat) (he : e ≤ 3 * q) (hv2 : ∀ r, r < 5040 → v2 r ≤ 1000000) (hI2 : spI q (rkC plc q) (rkV_ plc q v) (rkV_ plc q v2) d k e) (hkd : v2 k = d), (3 * q - e) < fu → ∀ (H : Heap) (locs : List Loc), va_P D vwCl (wM mo ma mb mc md me mf mg mh mi mj mk ml mn cI cZ n q c w z2 ev num plc sig pad rw2 dg2 (aN v2) cfr cby que has img kep) H → va_D A (wM mo ma mb mc md me mf mg mh mi mj mk ml mn cI cZ n q c w z2 ev num plc sig pad rw2 dg2 (aN v2) cfr cby que has img kep) → va_S A Gs.heap H locs → ∀ ls : Array Slot, lv_has ls 6 [(4, .int (nI e)), (3, .int (nI k)), (1, .int (nI 0)), (2, .int (nI d)), (0, .ref mo)] → W Gp Gl Ge (headSpec wsX9_spread ({ frames := 3, cells := 0, slots := 0, locals := 66 } : Room)).room Gs Gm ([.ref mo] : List Value).toArray Gw Gt Gc H locs 0 0 (MQ Gw (va_Qv (fun u : (Nat → Nat) × (Nat → Nat) × (Nat → Nat) × (Nat) => (spF q (rkV_ plc q v) (rkV_ plc q u.1) ∧ (∀ C_, arr q C_ → rkV_ plc q u.1 C_ ≤ 7) ∧ ∀ r_, r_ < 5040 → u.1 r_ ≤ 1000000)) (fun (u : (Nat → Nat) × (Nat → Nat) × (Nat → Nat) × (Nat)) t => va_P D vwCl (wM mo ma mb mc md me mf mg mh mi mj mk ml mn cI cZ n q c w u.2.2.2 ev num plc sig pad u.2.1 u.2.2.1 (aN u.1) cfr cby que has img kep) t.heap ∧ va_K D vwCl [(cI, .int), (cJ, .long), (cZ, .boolean)] t ∧ va_D A (wM mo ma mb mc md me mf mg mh mi mj mk ml mn cI cZ n q c w u.2.2.2 ev num plc sig pad u.2.1 u.2.2.1 (aN u.1) cfr cby que has img kep)) A) ([.ref mo] : List Value).toArray Gs 0 0 A) (F0 Gm 33 ls []) := by
                  intro fu
                  induction fu with
                  | zero => intro e v2 rw2 dg2 z2 he hv2 hI2 hkd hfu; exact absurd hfu (Nat.not_lt_zero _)
                  | succ fu ih33 =>
                    intro e v2 rw2 dg2 z2 he hv2 hI2 hkd hfu H locs hP hD hS ls hl
                    refine lv_iload gx gb dX9_spread_33 (lv_at hl 0 rfl) ?_
                    refine lv_aload_n gx gb dX9_spread_35 rfl (lv_at hl 4 rfl) ?_
                    have hPc := hP.sub (ws' := wM mo ma mb mc md me mf mg mh mi mj mk ml mn cI cZ n q c w z2 ev num plc sig pad rw2 dg2 (aN v2) cfr cby que has img kep) [0, 1, 2, 3, 4, 5, 6, 7, 8, 9, 10, 11, 12, 13] rfl
                    refine vp_callSi (W.runV (As := []) (rest := [.int (nI e)]) ⟨gx, gb, gml, gown, gts⟩ (kX9_kinds Gl D cI cJ cZ mo ma mb mc md me mf mg mh mi mj mk ml mn n q c w z2 ev num plc sig pad rw2 dg2 (aN v2) cfr cby que has img kep  ) (cwV 0 gts gX9_spread_X9_kinds rfl rfl rfl (by decide +kernel) ⟨Nat.le_of_ble_eq_true rfl, Nat.le_of_ble_eq_true rfl⟩) ⟨fun a U g mk q => ⟨q.1, q.2.1, va_K.moved (u := U) (U := U.calling g mk a) (Vm.Alike.refl U.vm) q.2.2⟩, va_recv hK hPc (ci := 4) (q0 := 0) rfl rfl, fun U hU hW => ⟨rfl, by rw [hU]; exact hPc, va_K.moved hW.alike hK⟩⟩ rfl rfl hl.1 rfl (lv_room (Nat.le_of_ble_eq_true rfl)) dX9_spread_36 ⟨Nat.le_of_ble_eq_true rfl, Nat.le_of_ble_eq_true rfl⟩) (fun r hw => ?_)
                    have hr36 := hw
                    subst hr36
                    refine lv_icmp_ge (tgt := 98) gx gb dX9_spread_39 (by decide) (fun c39 => ?_) (fun c39 => ?_)
                    · skip
                      rw [nI_leI (by omega) (by omega)] at c39
                      refine lv_iinc (v := nI (k + 1)) (lv' := [(3, .int (nI (k + 1))), (4, .int (nI e)), (1, .int (nI 0)), (2, .int (nI d)), (0, .ref mo)]) gx gb dX9_spread_98 hl (k := 1) rfl (nI_add k 1) (by decide) rfl (fun ls hl => ?_)
                      refine lv_goto (tgt := 12) gx gb dX9_spread_101 (by decide) ?_
                      exact ih12 (k + 1) v2 rw2 dg2 z2 (by omega) (by first | exact hv2 | exact hv1) (by first | exact spI_n (by rw [show 3 * q = e by omega]; exact hI2) | exact spI_k2 hI1 (fun C aC hC h9 => c27 (by rw [← hC]; exact h9))) (by omega) _ _ hP hD hS ls (lv_sub hl [0, 2, 3, 4] rfl)
                    · skip
                      rw [nI_leI (by omega) (by omega)] at c39
                      have he3 : e < 3 * q := by omega
                      refine lv_aload_n gx gb dX9_spread_42 rfl (lv_at hl 4 rfl) ?_
                      refine lv_iload_n gx gb dX9_spread_43 rfl (lv_at hl 1 rfl) ?_
                      have hPc := hP.sub (ws' := wM mo ma mb mc md me mf mg mh mi mj mk ml mn cI cZ n q c w z2 ev num plc sig pad rw2 dg2 (aN v2) cfr cby que has img kep) [0, 1, 2, 3, 4, 5, 6, 7, 8, 9, 10, 11, 12, 13] rfl
                      have hDc := hD.sub (ws' := wM mo ma mb mc md me mf mg mh mi mj mk ml mn cI cZ n q c w z2 ev num plc sig pad rw2 dg2 (aN v2) cfr cby que has img kep) [0, 1, 2, 3, 4, 5, 6, 7, 8, 9, 10, 11, 12, 13] (by decide) rfl
                      have hFc := va_free (wc := wM mo ma mb mc md me mf mg mh mi mj mk ml mn cI cZ n q c w z2 ev num plc sig pad rw2 dg2 (aN v2) cfr cby que has img kep) hD hS hA [0, 1, 2, 3, 4, 5, 6, 7, 8, 9, 10, 11, 12, 13] rfl
                      refine va_callv (va_runV (As := [.int (nI k)]) (rest := []) ⟨gx, gb, gml, gown, gts⟩ (kX9_layRow Gl D cI cJ cZ mo ma mb mc md me mf mg mh mi mj mk ml mn n q c w z2 ev num plc sig pad rw2 dg2 (aN v2) cfr cby que has img kep _ k (by omega) (by omega) (by omega) (by exact hpl) (by exact hij)) (cwV 1 gts gX9_spread_X9_layRow rfl rfl rfl (by decide +kernel) ⟨Nat.le_of_ble_eq_true rfl, Nat.le_of_ble_eq_true rfl⟩) ⟨fun a U g mk q => by obtain ⟨q0, q1, qP, qK, qD⟩ := q; exact ⟨q0, q1, qP, va_K.moved (u := U) (U := U.calling g mk a) (Vm.Alike.refl U.vm) qK, qD⟩, va_recv hK hPc (ci := 4) (q0 := 0) rfl rfl, fun U hU hW => ⟨rfl, by rw [hU], by rw [hU]; exact hPc, va_K.moved hW.alike hK, hDc.weaken (fun _ _ _ _ => trivial)⟩⟩ rfl rfl hl.1 rfl (lv_room (Nat.le_of_ble_eq_true rfl)) dX9_spread_44 ⟨Nat.le_of_ble_eq_true rfl, Nat.le_of_ble_eq_true rfl⟩) hS (fun q _ h => hFc q h) hFc (fun u t H1 locs ht hvm hw hB hz1 hk1 hS => ?_)
                      obtain ⟨row_44, dig_44⟩ := u
                      obtain ⟨hP1, hK1, hD1⟩ := hB
                      rw [ht] at hP1
                      try dsimp only at hw
                      try dsimp only at hP1
                      try dsimp only at hD1
                      have hK := va_K.moved hvm.symm hK1
                      obtain ⟨hP, hD⟩ := va_join (wr := []) (w1 := wM mo ma mb mc md me mf mg mh mi mj mk ml mn cI cZ n q c w q ev num plc sig pad row_44 dig_44 (aN v2) cfr cby que has img kep) hP hD [0, 1, 2, 3, 4, 5, 6, 7, 8, 9, 10, 11, 12, 13] [] rfl rfl (by decide) (by decide) hk1 hFc hP1 hD1
                      have hP := hP.sub (ws' := wM mo ma mb mc md me mf mg mh mi mj mk ml mn cI cZ n q c w q ev num plc sig pad row_44 dig_44 (aN v2) cfr cby que has img kep) [0, 1, 2, 3, 4, 5, 6, 7, 8, 9, 10, 11, 12, 13] rfl
                      have hD := hD.sub (ws' := wM mo ma mb mc md me mf mg mh mi mj mk ml mn cI cZ n q c w q ev num plc sig pad row_44 dig_44 (aN v2) cfr cby que has img kep) [0, 1, 2, 3, 4, 5, 6, 7, 8, 9, 10, 11, 12, 13] (by decide) rfl
                      have hK := va_K.moved (Vm.Alike.refl Gs.vm) hK
                      generalize H1 = H at hP hS ⊢
                      obtain ⟨C, aC, eC, hrw⟩ := lay_cod hq7 hij hw.1 hw.2 (show k < fac q by omega)
                      have hpr := hw.1
                      refine lv_aload_n gx gb dX9_spread_47 rfl (lv_at hl 4 rfl) ?_
                      refine lv_iload gx gb dX9_spread_48 (lv_at hl 0 rfl) ?_
                      have hPc := hP.sub (ws' := wM mo ma mb mc md me mf mg mh mi mj mk ml mn cI cZ n q c w q ev num plc sig pad row_44 dig_44 (aN v2) cfr cby que has img kep) [0, 1, 2, 3, 4, 5, 6, 7, 8, 9, 10, 11, 12, 13] rfl
                      have hDc := hD.sub (ws' := wM mo ma mb mc md me mf mg mh mi mj mk ml mn cI cZ n q c w q ev num plc sig pad row_44 dig_44 (aN v2) cfr cby que has img kep) [0, 1, 2, 3, 4, 5, 6, 7, 8, 9, 10, 11, 12, 13] (by decide) rfl
                      have hFc := va_free (wc := wM mo ma mb mc md me mf mg mh mi mj mk ml mn cI cZ n q c w q ev num plc sig pad row_44 dig_44 (aN v2) cfr cby que has img kep) hD hS hA [0, 1, 2, 3, 4, 5, 6, 7, 8, 9, 10, 11, 12, 13] rfl
                      refine va_callv (va_runV (As := [.int (nI e)]) (rest := []) ⟨gx, gb, gml, gown, gts⟩ (kX9_goEvent Gl D cI cJ cZ mo ma mb mc md me mf mg mh mi mj mk ml mn n q c w ev num plc sig pad row_44 dig_44 (aN v2) cfr cby que has img kep _ e (by omega) (by omega) (by omega)) (cwV 1 gts gX9_spread_X9_goEvent rfl rfl rfl (by decide +kernel) ⟨Nat.le_of_ble_eq_true rfl, Nat.le_of_ble_eq_true rfl⟩) ⟨fun a U g mk q => by obtain ⟨q0, q1, qP, qK, qD⟩ := q; exact ⟨q0, q1, qP, va_K.moved (u := U) (U := U.calling g mk a) (Vm.Alike.refl U.vm) qK, qD⟩, va_recv hK hPc (ci := 4) (q0 := 0) rfl rfl, fun U hU hW => ⟨rfl, by rw [hU], by rw [hU]; exact hPc, va_K.moved hW.alike hK, hDc.weaken (fun _ _ _ _ => trivial)⟩⟩ rfl rfl hl.1 rfl (lv_room (Nat.le_of_ble_eq_true rfl)) dX9_spread_50 ⟨Nat.le_of_ble_eq_true rfl, Nat.le_of_ble_eq_true rfl⟩) hS (fun q _ h => hFc q h) hFc (fun u t H1 locs ht hvm hw hB hz1 hk1 hS => ?_)
                      obtain ⟨hP1, hK1, hD1⟩ := hB
                      rw [ht] at hP1
                      try dsimp only at hw
                      try dsimp only at hP1
                      try dsimp only at hD1
                      have hK := va_K.moved hvm.symm hK1
                      obtain ⟨hP, hD⟩ := va_join (wr := []) (w1 := wM mo ma mb mc md me mf mg mh mi mj mk ml mn cI cZ n q c w q ev num plc sig pad (evF q e row_44) dig_44 (aN v2) cfr cby que has img kep) hP hD [0, 1, 2, 3, 4, 5, 6, 7, 8, 9, 10, 11, 12, 13] [] rfl rfl (by decide) (by decide) hk1 hFc hP1 hD1
                      have hP := hP.sub (ws' := wM mo ma mb mc md me mf mg mh mi mj mk ml mn cI cZ n q c w q ev num plc sig pad (evF q e row_44) dig_44 (aN v2) cfr cby que has img kep) [0, 1, 2, 3, 4, 5, 6, 7, 8, 9, 10, 11, 12, 13] rfl
                      have hD := hD.sub (ws' := wM mo ma mb mc md me mf mg mh mi mj mk ml mn cI cZ n q c w q ev num plc sig pad (evF q e row_44) dig_44 (aN v2) cfr cby que has img kep) [0, 1, 2, 3, 4, 5, 6, 7, 8, 9, 10, 11, 12, 13] (by decide) rfl
                      have hK := va_K.moved (Vm.Alike.refl Gs.vm) hK
                      generalize H1 = H at hP hS ⊢
                      refine lv_aload_n gx gb dX9_spread_53 rfl (lv_at hl 4 rfl) ?_
                      have hPc := hP.sub (ws' := wM mo ma mb mc md me mf mg mh mi mj mk ml mn cI cZ n q c w q ev num plc sig pad (evF q e row_44) dig_44 (aN v2) cfr cby que has img kep) [0, 1, 2, 3, 4, 5, 6, 7, 8, 9, 10, 11, 12, 13] rfl
                      refine vp_callSi (W.runV (As := []) (rest := []) ⟨gx, gb, gml, gown, gts⟩ (kX9_rank Gl D cI cJ cZ mo ma mb mc md me mf mg mh mi mj mk ml mn n q c w q ev num plc sig pad (evF q e row_44) dig_44 (aN v2) cfr cby que has img kep  (by omega) (by exact pr_al (R := fun x => x ≤ 6) (pr_tr (pr_ev _ he3) hpr) hpl)) (cwV 0 gts gX9_spread_X9_rank rfl rfl rfl (by decide +kernel) ⟨Nat.le_of_ble_eq_true rfl, Nat.le_of_ble_eq_true rfl⟩) ⟨fun a U g mk q => ⟨q.1, q.2.1, va_K.moved (u := U) (U := U.calling g mk a) (Vm.Alike.refl U.vm) q.2.2⟩, va_recv hK hPc (ci := 4) (q0 := 0) rfl rfl, fun U hU hW => ⟨rfl, by rw [hU]; exact hPc, va_K.moved hW.alike hK⟩⟩ rfl rfl hl.1 rfl (lv_room (Nat.le_of_ble_eq_true rfl)) dX9_spread_54 ⟨Nat.le_of_ble_eq_true rfl, Nat.le_of_ble_eq_true rfl⟩) (fun r hw => ?_)
                      have hr54 := hw
                      subst hr54
                      refine lv_evi (nI (rkC plc q (evX q e C))) (congrArg nI (rk_cong (fun i_ hi_ => (evF_cong he3 (fun x hx => (hrw x hx).symm) i_ hi_).trans (rw_ev hq7 aC he3 i_ hi_).symm))) ?_
                      have hrE := rkC_lt plc hq7 (evX q e C)
                      have hvt := hv2 (rkC plc q (evX q e C)) (by omega)
                      refine lv_istore (lv' := [(5, .int (nI (rkC plc q (evX q e C)))), (4, .int (nI e)), (3, .int (nI k)), (1, .int (nI 0)), (2, .int (nI d)), (0, .ref mo)]) gx gb dX9_spread_57 hl (by decide) rfl (fun ls hl => ?_)
                      have L91 : ∀ (x : Nat) (hxx : x = if d + 1 < v2 (rkC plc q (evX q e C)) then d + 1 else v2 (rkC plc q (evX q e C))), ∀ (H : Heap) (locs : List Loc), va_P D vwCl (wM mo ma mb mc md me mf mg mh mi mj mk ml mn cI cZ n q c w q ev num plc sig pad (evF q e row_44) dig_44 (aN v2) cfr cby que has img kep) H → va_D A (wM mo ma mb mc md me mf mg mh mi mj mk ml mn cI cZ n q c w q ev num plc sig pad (evF q e row_44) dig_44 (aN v2) cfr cby que has img kep) → va_S A Gs.heap H locs → ∀ ls : Array Slot, lv_has ls 6 [(5, .int (nI (rkC plc q (evX q e C)))), (4, .int (nI e)), (3, .int (nI k)), (1, .int (nI 0)), (2, .int (nI d)), (0, .ref mo)] → W Gp Gl Ge (headSpec wsX9_spread ({ frames := 3, cells := 0, slots := 0, locals := 66 } : Room)).room Gs Gm ([.ref mo] : List Value).toArray Gw Gt Gc H locs 0 0 (MQ Gw (va_Qv (fun u : (Nat → Nat) × (Nat → Nat) × (Nat → Nat) × (Nat) => (spF q (rkV_ plc q v) (rkV_ plc q u.1) ∧ (∀ C_, arr q C_ → rkV_ plc q u.1 C_ ≤ 7) ∧ ∀ r_, r_ < 5040 → u.1 r_ ≤ 1000000)) (fun (u : (Nat → Nat) × (Nat → Nat) × (Nat → Nat) × (Nat)) t => va_P D vwCl (wM mo ma mb mc md me mf mg mh mi mj mk ml mn cI cZ n q c w u.2.2.2 ev num plc sig pad u.2.1 u.2.2.1 (aN u.1) cfr cby que has img kep) t.heap ∧ va_K D vwCl [(cI, .int), (cJ, .long), (cZ, .boolean)] t ∧ va_D A (wM mo ma mb mc md me mf mg mh mi mj mk ml mn cI cZ n q c w u.2.2.2 ev num plc sig pad u.2.1 u.2.2.1 (aN u.1) cfr cby que has img kep)) A) ([.ref mo] : List Value).toArray Gs 0 0 A) (F0 Gm 91 ls [.int (nI x), .int (nI (rkC plc q (evX q e C))), .ref mg]) := by
                        intro x hxx H locs hP hD hS ls hl
                        have hxb : x ≤ 1000000 := by rw [hxx]; split <;> omega
                        have hup := sp_up hq7 hij hI2 aC eC hkd he3 hxx
                        refine va_iast gx gb hK hP hD hS 7 0 rfl rfl (vp_in_nI (n := rkC plc q (evX q e C)) (by omega) (by decide)) dX9_spread_91 (fun H locs hP hD hS => ?_)
                        rw [aN_st v2 x (by omega)] at hP hD
                        have hP : va_P D vwCl (wM mo ma mb mc md me mf mg mh mi mj mk ml mn cI cZ n q c w q ev num plc sig pad (evF q e row_44) dig_44 (aN (up v2 (rkC plc q (evX q e C)) x)) cfr cby que has img kep) H := hP
                        have hD : va_D A (wM mo ma mb mc md me mf mg mh mi mj mk ml mn cI cZ n q c w q ev num plc sig pad (evF q e row_44) dig_44 (aN (up v2 (rkC plc q (evX q e C)) x)) cfr cby que has img kep) := hD
                        refine lv_iinc (v := nI (e + 1)) (lv' := [(4, .int (nI (e + 1))), (5, .int (nI (rkC plc q (evX q e C)))), (3, .int (nI k)), (1, .int (nI 0)), (2, .int (nI d)), (0, .ref mo)]) gx gb dX9_spread_92 hl (k := 1) rfl (nI_add e 1) (by decide) rfl (fun ls hl => ?_)
                        refine lv_goto (tgt := 33) gx gb dX9_spread_95 (by decide) ?_
                        exact ih33 (e + 1) (up v2 (rkC plc q (evX q e C)) x) (evF q e row_44) dig_44 q (by omega) (by intro r hr; simp only [up]; split; exact hxb; exact hv2 r hr) (by exact hup.1) (by exact hup.2) (by omega) _ _ hP hD hS ls (lv_sub hl [0, 2, 3, 4, 5] rfl)
                      refine lv_aload_n gx gb dX9_spread_59 rfl (lv_at hl 5 rfl) ?_
                      refine va_get (D := D) (ci := 4) (v := .ref mg) (C := RX9) (T := TX9) (N := 19) gx gb gts i9 gown hK hP 0 rfl rfl 12 (by decide) (gts (.fieldLink RX9 35 "SwanSumsModel" "far" "[I") (by decide +kernel)) (fun _ h9 => h9) rfl dX9_spread_60 ?_
                      refine lv_iload gx gb dX9_spread_63 (lv_at hl 0 rfl) ?_
                      refine lv_aload_n gx gb dX9_spread_65 rfl (lv_at hl 5 rfl) ?_
                      refine va_get (D := D) (ci := 4) (v := .ref mg) (C := RX9) (T := TX9) (N := 19) gx gb gts i9 gown hK hP 0 rfl rfl 12 (by decide) (gts (.fieldLink RX9 35 "SwanSumsModel" "far" "[I") (by decide +kernel)) (fun _ h9 => h9) rfl dX9_spread_66 ?_
                      refine lv_iload gx gb dX9_spread_69 (lv_at hl 0 rfl) ?_
                      refine va_iald gx gb hK hP 7 0 rfl rfl (vp_in_nI (n := rkC plc q (evX q e C)) (by omega) (by decide)) dX9_spread_71 ?_
                      refine lv_evi (nI (v2 (rkC plc q (evX q e C)))) (aN_rd v2 (by omega)) ?_
                      refine lv_iload_n gx gb dX9_spread_72 rfl (lv_at hl 4 rfl) ?_
                      refine lv_iconst (v := nI 1) gx gb dX9_spread_73 (by decide) ?_
                      refine lv_iadd gx gb dX9_spread_74 ?_
                      refine lv_evi (nI (d + 1)) (nI_add d 1) ?_
                      refine lv_icmp_le (tgt := 84) gx gb dX9_spread_75 (by decide) (fun c75 => ?_) (fun c75 => ?_)
                      · skip
                        rw [nI_leI (by omega) (by omega)] at c75
                        refine lv_aload_n gx gb dX9_spread_84 rfl (lv_at hl 5 rfl) ?_
                        refine va_get (D := D) (ci := 4) (v := .ref mg) (C := RX9) (T := TX9) (N := 19) gx gb gts i9 gown hK hP 0 rfl rfl 12 (by decide) (gts (.fieldLink RX9 35 "SwanSumsModel" "far" "[I") (by decide +kernel)) (fun _ h9 => h9) rfl dX9_spread_85 ?_
                        refine lv_iload gx gb dX9_spread_88 (lv_at hl 0 rfl) ?_
                        refine va_iald gx gb hK hP 7 0 rfl rfl (vp_in_nI (n := rkC plc q (evX q e C)) (by omega) (by decide)) dX9_spread_90 ?_
                        refine lv_evi (nI (v2 (rkC plc q (evX q e C)))) (aN_rd v2 (by omega)) ?_
                        exact L91 (v2 (rkC plc q (evX q e C))) (by first | (rw [if_pos (by omega)]; done) | (rw [if_neg (by omega)])) _ _ hP hD hS ls (lv_sub hl [0, 1, 2, 3, 4, 5] rfl)
                      · skip
                        rw [nI_leI (by omega) (by omega)] at c75
                        refine lv_iload_n gx gb dX9_spread_78 rfl (lv_at hl 4 rfl) ?_
                        refine lv_iconst (v := nI 1) gx gb dX9_spread_79 (by decide) ?_
                        refine lv_iadd gx gb dX9_spread_80 ?_
                        refine lv_evi (nI (d + 1)) (nI_add d 1) ?_
                        refine lv_goto (tgt := 91) gx gb dX9_spread_81 (by decide) ?_
                        exact L91 (d + 1) (by first | (rw [if_pos (by omega)]; done) | (rw [if_neg (by omega)])) _ _ hP hD hS ls (lv_sub hl [0, 1, 2, 3, 4, 5] rfl)
                exact L33 _ 0 v1 rw1 dg1 z1 (by omega) (by exact hv1) (by exact hI1) (by exact c27) (Nat.lt_succ_self _) _ _ hP hD hS ls (lv_sub hl [0, 1, 2, 3, 4] rfl)
        exact L12 _ 0 v_ rw_ dg_ z_ (by omega) (by exact hvv) (by exact hI) (Nat.lt_succ_self _) _ _ hP hD hS ls (lv_sub hl [0, 1, 2, 3] rfl)
  exact L4 _ true 0 v row dig z (by exact hv) (by exact spI_0 _ _ _) (by intro _; omega) (by intro h9; cases h9) (by omega) (Nat.lt_succ_self _) _ _ hP hD hS ls (lv_sub hl [1, 0, 2] rfl)

set_option maxHeartbeats 4000000 in
set_option maxRecDepth 100000 in
theorem kX9_spreadFrom (Gl : Launch) (D : va_G) (cI cJ cZ : ClassId) (mo : Nat) (ma : Nat) (mb : Nat) (mc : Nat) (md : Nat) (me : Nat) (mf : Nat) (mg : Nat) (mh : Nat) (mi : Nat) (mj : Nat) (mk : Nat) (ml : Nat) (mn : Nat) (n : Nat) (q : Nat) (c : Nat) (w : Nat) (z : Nat) (ev : Nat) (num : Nat → Nat) (plc : Nat → Nat) (sig : Nat → Nat) (pad : Nat → Nat) (row : Nat → Nat) (dig : Nat → Nat) (cfr : Nat → Nat) (cby : Nat → Nat) (que : Nat → Nat) (has : Nat → Nat) (img : Nat → Nat) (kep : Nat → Nat) (sz : Nat) (v : Nat → Nat) (m : Nat) (hq1 : 1 ≤ q) (hq7 : q ≤ 7) (hpl : ∀ x, x < q → plc x ≤ 6) (hij : ij q plc) (hv : ∀ r, r < fac q → v r ≤ m ∨ v r = 1000000) (hm : m ≤ 1000) (hvb : ∀ r, r < 5040 → v r ≤ 1000000) : Met Gl yX9_spreadFrom wsX9_spreadFrom ({ frames := 4, cells := 0, slots := 0, locals := 91 } : Room) (va_Pc [.ref mo] (fun U => U.heap.size = sz ∧ va_P D vwCl (wM mo ma mb mc md me mf mg mh mi mj mk ml mn cI cZ n q c w z ev num plc sig pad row dig (aN v) cfr cby que has img kep) U.heap ∧ va_K D vwCl [(cI, .int), (cJ, .long), (cZ, .boolean)] U ∧ va_D (fun _ => True) (wM mo ma mb mc md me mf mg mh mi mj mk ml mn cI cZ n q c w z ev num plc sig pad row dig (aN v) cfr cby que has img kep))) (va_Qv (fun u : (Nat → Nat) × (Nat → Nat) × (Nat → Nat) × (Nat) => (sfR plc q m v u.1 ∧ ∀ r_, r_ < 5040 → u.1 r_ ≤ 1000000)) (fun (u : (Nat → Nat) × (Nat → Nat) × (Nat → Nat) × (Nat)) t => va_P D vwCl (wM mo ma mb mc md me mf mg mh mi mj mk ml mn cI cZ n q c w u.2.2.2 ev num plc sig pad u.2.1 u.2.2.1 (aN u.1) cfr cby que has img kep) t.heap ∧ va_K D vwCl [(cI, .int), (cJ, .long), (cZ, .boolean)] t ∧ va_D (va_A (wM mo ma mb mc md me mf mg mh mi mj mk ml mn cI cZ n q c w z ev num plc sig pad row dig (aN v) cfr cby que has img kep) sz) (wM mo ma mb mc md me mf mg mh mi mj mk ml mn cI cZ n q c w u.2.2.2 ev num plc sig pad u.2.1 u.2.2.1 (aN u.1) cfr cby que has img kep)) (va_A (wM mo ma mb mc md me mf mg mh mi mj mk ml mn cI cZ n q c w z ev num plc sig pad row dig (aN v) cfr cby que has img kep) sz)) 0 0 (va_A (wM mo ma mb mc md me mf mg mh mi mj mk ml mn cI cZ n q c w z ev num plc sig pad row dig (aN v) cfr cby que has img kep) sz) := by
  refine Met.ofW (cc := cX9_spreadFrom) (maxL := 3) (ret := none) (by decide +kernel) rfl ?_
  intro Gp Ge Gs Gm Ga Gw Gt Gc G1 Bd gml gv
  obtain ⟨rfl, hsz, hP, hK, hD0⟩ := gv
  have gx := Bd.exec
  have gb := Bd.bytes
  have gr := Bd.returns
  have gts := atoms_spec (ws := wsX9_spreadFrom) Bd.pre
  have gown : Gs.vm.findClass RX9 = some Gm.cls := findClass_of_methodNamed Bd.named
  have glk := Bd.notSynchronized
  subst hsz
  have hD := hD0.self (sz := Gs.heap.size)
  generalize hAe : va_A (wM mo ma mb mc md me mf mg mh mi mj mk ml mn cI cZ n q c w z ev num plc sig pad row dig (aN v) cfr cby que has img kep) Gs.heap.size = A at hD ⊢
  have hA : ∀ q : Nat, Gs.heap.size ≤ q → A q := fun q h => by rw [← hAe]; exact Or.inr h
  have hS : va_S A Gs.heap Gs.heap [] := va_S.rf
  have hP : va_P D vwCl (wM mo ma mb mc md me mf mg mh mi mj mk ml mn cI cZ n q c w z ev num plc sig pad row dig (aN v) cfr cby que has img kep) Gs.heap := hP
  have hl := lv_entry ([.ref mo]) (n := 3) (Nat.le_of_ble_eq_true rfl)
  rw [lg_entry_eq]
  generalize (lg_sl ([.ref mo]) ++ List.replicate (3 - (lg_sl ([.ref mo])).length) Slot.unset).toArray = ls at hl ⊢
  have hl : lv_has ls 3 [(0, .ref mo)] := hl
  have i9 : ∀ w ∈ wsX90, w ∈ wsX9_spreadFrom := by decide +kernel
  refine lv_ldc (v := (1000000)) gx gb gown (gts (.constant RX9 158 (1000000)) (by decide +kernel)) dX9_spreadFrom_0 ?_
  refine lv_evi (nI 1000000) (rfl) ?_
  refine lv_istore_n (lv' := [(1, .int (nI 1000000)), (0, .ref mo)]) gx gb dX9_spreadFrom_2 rfl hl (by decide) rfl (fun ls hl => ?_)
  refine lv_iconst (v := nI 0) gx gb dX9_spreadFrom_3 (by decide) ?_
  refine lv_istore_n (lv' := [(2, .int (nI 0)), (1, .int (nI 1000000)), (0, .ref mo)]) gx gb dX9_spreadFrom_4 rfl hl (by decide) rfl (fun ls hl => ?_)
  have L5 : ∀ fu : Nat, ∀ (k l : Nat) (hk : k ≤ fac q) (hl5 : lstR v k l), (fac q - k) < fu → ∀ (H : Heap) (locs : List Loc), va_P D vwCl (wM mo ma mb mc md me mf mg mh mi mj mk ml mn cI cZ n q c w z ev num plc sig pad row dig (aN v) cfr cby que has img kep) H → va_D A (wM mo ma mb mc md me mf mg mh mi mj mk ml mn cI cZ n q c w z ev num plc sig pad row dig (aN v) cfr cby que has img kep) → va_S A Gs.heap H locs → ∀ ls : Array Slot, lv_has ls 3 [(1, .int (nI l)), (2, .int (nI k)), (0, .ref mo)] → W Gp Gl Ge (headSpec wsX9_spreadFrom ({ frames := 4, cells := 0, slots := 0, locals := 91 } : Room)).room Gs Gm ([.ref mo] : List Value).toArray Gw Gt Gc H locs 0 0 (MQ Gw (va_Qv (fun u : (Nat → Nat) × (Nat → Nat) × (Nat → Nat) × (Nat) => (sfR plc q m v u.1 ∧ ∀ r_, r_ < 5040 → u.1 r_ ≤ 1000000)) (fun (u : (Nat → Nat) × (Nat → Nat) × (Nat → Nat) × (Nat)) t => va_P D vwCl (wM mo ma mb mc md me mf mg mh mi mj mk ml mn cI cZ n q c w u.2.2.2 ev num plc sig pad u.2.1 u.2.2.1 (aN u.1) cfr cby que has img kep) t.heap ∧ va_K D vwCl [(cI, .int), (cJ, .long), (cZ, .boolean)] t ∧ va_D A (wM mo ma mb mc md me mf mg mh mi mj mk ml mn cI cZ n q c w u.2.2.2 ev num plc sig pad u.2.1 u.2.2.1 (aN u.1) cfr cby que has img kep)) A) ([.ref mo] : List Value).toArray Gs 0 0 A) (F0 Gm 5 ls []) := by
    intro fu
    induction fu with
    | zero => intro k l hk hl5 hfu; exact absurd hfu (Nat.not_lt_zero _)
    | succ fu ih5 =>
      intro k l hk hl5 hfu H locs hP hD hS ls hl
      have hf7 := fac_7 hq7
      have hlb := hl5.1
      refine lv_iload_n gx gb dX9_spreadFrom_5 rfl (lv_at hl 1 rfl) ?_
      refine lv_aload_n gx gb dX9_spreadFrom_6 rfl (lv_at hl 2 rfl) ?_
      have hPc := hP.sub (ws' := wM mo ma mb mc md me mf mg mh mi mj mk ml mn cI cZ n q c w z ev num plc sig pad row dig (aN v) cfr cby que has img kep) [0, 1, 2, 3, 4, 5, 6, 7, 8, 9, 10, 11, 12, 13] rfl
      refine vp_callSi (W.runV (As := []) (rest := [.int (nI k)]) ⟨gx, gb, gml, gown, gts⟩ (kX9_rowsOf Gl D cI cJ cZ mo ma mb mc md me mf mg mh mi mj mk ml mn n q c w z ev num plc sig pad row dig (aN v) cfr cby que has img kep  (by omega) (by omega)) (cwV 0 gts gX9_spreadFrom_X9_rowsOf rfl rfl rfl (by decide +kernel) ⟨Nat.le_of_ble_eq_true rfl, Nat.le_of_ble_eq_true rfl⟩) ⟨fun a U g mk q => ⟨q.1, q.2.1, va_K.moved (u := U) (U := U.calling g mk a) (Vm.Alike.refl U.vm) q.2.2⟩, va_recv hK hPc (ci := 4) (q0 := 0) rfl rfl, fun U hU hW => ⟨rfl, by rw [hU]; exact hPc, va_K.moved hW.alike hK⟩⟩ rfl rfl hl.1 rfl (lv_room (Nat.le_of_ble_eq_true rfl)) dX9_spreadFrom_7 ⟨Nat.le_of_ble_eq_true rfl, Nat.le_of_ble_eq_true rfl⟩) (fun r hw => ?_)
      have hr7 := hw
      subst hr7
      refine lv_icmp_ge (tgt := 40) gx gb dX9_spreadFrom_10 (by decide) (fun c10 => ?_) (fun c10 => ?_)
      · skip
        rw [nI_leI (by omega) (by omega)] at c10
        have hkf : k = fac q := by omega
        rw [hkf] at hl5
        refine lv_iload_n gx gb dX9_spreadFrom_40 rfl (lv_at hl 0 rfl) ?_
        refine lv_ldc (v := (1000000)) gx gb gown (gts (.constant RX9 158 (1000000)) (by decide +kernel)) dX9_spreadFrom_41 ?_
        refine lv_evi (nI 1000000) (rfl) ?_
        refine lv_icmp_ne (tgt := 47) gx gb dX9_spreadFrom_43 (by decide) (fun c43 => ?_) (fun c43 => ?_)
        · skip
          rw [nI_eq (by omega) (by omega)] at c43
          refine lv_iconst (v := nI 0) gx gb dX9_spreadFrom_47 (by decide) ?_
          refine lv_istore_n (lv' := [(2, .int (nI 0)), (1, .int (nI l)), (0, .ref mo)]) gx gb dX9_spreadFrom_48 rfl hl (by decide) rfl (fun ls hl => ?_)
          have L49 : ∀ fu : Nat, ∀ (k3 : Nat) (vv : Nat → Nat) (hk3 : k3 ≤ fac q) (hAa : ∀ r, r < k3 → vv r = ofs l (v r)) (hBb : ∀ r, k3 ≤ r → vv r = v r), (fac q - k3) < fu → ∀ (H : Heap) (locs : List Loc), va_P D vwCl (wM mo ma mb mc md me mf mg mh mi mj mk ml mn cI cZ n q c w z ev num plc sig pad row dig (aN vv) cfr cby que has img kep) H → va_D A (wM mo ma mb mc md me mf mg mh mi mj mk ml mn cI cZ n q c w z ev num plc sig pad row dig (aN vv) cfr cby que has img kep) → va_S A Gs.heap H locs → ∀ ls : Array Slot, lv_has ls 3 [(2, .int (nI k3)), (1, .int (nI l)), (0, .ref mo)] → W Gp Gl Ge (headSpec wsX9_spreadFrom ({ frames := 4, cells := 0, slots := 0, locals := 91 } : Room)).room Gs Gm ([.ref mo] : List Value).toArray Gw Gt Gc H locs 0 0 (MQ Gw (va_Qv (fun u : (Nat → Nat) × (Nat → Nat) × (Nat → Nat) × (Nat) => (sfR plc q m v u.1 ∧ ∀ r_, r_ < 5040 → u.1 r_ ≤ 1000000)) (fun (u : (Nat → Nat) × (Nat → Nat) × (Nat → Nat) × (Nat)) t => va_P D vwCl (wM mo ma mb mc md me mf mg mh mi mj mk ml mn cI cZ n q c w u.2.2.2 ev num plc sig pad u.2.1 u.2.2.1 (aN u.1) cfr cby que has img kep) t.heap ∧ va_K D vwCl [(cI, .int), (cJ, .long), (cZ, .boolean)] t ∧ va_D A (wM mo ma mb mc md me mf mg mh mi mj mk ml mn cI cZ n q c w u.2.2.2 ev num plc sig pad u.2.1 u.2.2.1 (aN u.1) cfr cby que has img kep)) A) ([.ref mo] : List Value).toArray Gs 0 0 A) (F0 Gm 49 ls []) := by
            intro fu
            induction fu with
            | zero => intro k3 vv hk3 hAa hBb hfu; exact absurd hfu (Nat.not_lt_zero _)
            | succ fu ih49 =>
              intro k3 vv hk3 hAa hBb hfu H locs hP hD hS ls hl
              refine lv_iload_n gx gb dX9_spreadFrom_49 rfl (lv_at hl 0 rfl) ?_
              refine lv_aload_n gx gb dX9_spreadFrom_50 rfl (lv_at hl 2 rfl) ?_
              have hPc := hP.sub (ws' := wM mo ma mb mc md me mf mg mh mi mj mk ml mn cI cZ n q c w z ev num plc sig pad row dig (aN vv) cfr cby que has img kep) [0, 1, 2, 3, 4, 5, 6, 7, 8, 9, 10, 11, 12, 13] rfl
              refine vp_callSi (W.runV (As := []) (rest := [.int (nI k3)]) ⟨gx, gb, gml, gown, gts⟩ (kX9_rowsOf Gl D cI cJ cZ mo ma mb mc md me mf mg mh mi mj mk ml mn n q c w z ev num plc sig pad row dig (aN vv) cfr cby que has img kep  (by omega) (by omega)) (cwV 0 gts gX9_spreadFrom_X9_rowsOf rfl rfl rfl (by decide +kernel) ⟨Nat.le_of_ble_eq_true rfl, Nat.le_of_ble_eq_true rfl⟩) ⟨fun a U g mk q => ⟨q.1, q.2.1, va_K.moved (u := U) (U := U.calling g mk a) (Vm.Alike.refl U.vm) q.2.2⟩, va_recv hK hPc (ci := 4) (q0 := 0) rfl rfl, fun U hU hW => ⟨rfl, by rw [hU]; exact hPc, va_K.moved hW.alike hK⟩⟩ rfl rfl hl.1 rfl (lv_room (Nat.le_of_ble_eq_true rfl)) dX9_spreadFrom_51 ⟨Nat.le_of_ble_eq_true rfl, Nat.le_of_ble_eq_true rfl⟩) (fun r hw => ?_)
              have hr51 := hw
              subst hr51
              refine lv_icmp_ge (tgt := 88) gx gb dX9_spreadFrom_54 (by decide) (fun c54 => ?_) (fun c54 => ?_)
              · skip
                rw [nI_leI (by omega) (by omega)] at c54
                have hkf3 : k3 = fac q := by omega
                obtain ⟨S, aS, eS⟩ := sf_src hq7 hij hl5 c43 (fun r hr => hAa r (by omega))
                have hvb2 : ∀ r, r < 5040 → vv r ≤ 1000000 := fun r hr => by rcases Nat.lt_or_ge r k3 with h9 | h9; (rw [hAa r h9]; have := hvb r hr; unfold ofs; split <;> omega); (rw [hBb r h9]; exact hvb r hr)
                refine lv_aload_n gx gb dX9_spreadFrom_88 rfl (lv_at hl 2 rfl) ?_
                have hPc := hP.sub (ws' := wM mo ma mb mc md me mf mg mh mi mj mk ml mn cI cZ n q c w z ev num plc sig pad row dig (aN vv) cfr cby que has img kep) [0, 1, 2, 3, 4, 5, 6, 7, 8, 9, 10, 11, 12, 13] rfl
                have hDc := hD.sub (ws' := wM mo ma mb mc md me mf mg mh mi mj mk ml mn cI cZ n q c w z ev num plc sig pad row dig (aN vv) cfr cby que has img kep) [0, 1, 2, 3, 4, 5, 6, 7, 8, 9, 10, 11, 12, 13] (by decide) rfl
                have hFc := va_free (wc := wM mo ma mb mc md me mf mg mh mi mj mk ml mn cI cZ n q c w z ev num plc sig pad row dig (aN vv) cfr cby que has img kep) hD hS hA [0, 1, 2, 3, 4, 5, 6, 7, 8, 9, 10, 11, 12, 13] rfl
                refine va_callv (va_runV (As := []) (rest := []) ⟨gx, gb, gml, gown, gts⟩ (kX9_spread Gl D cI cJ cZ mo ma mb mc md me mf mg mh mi mj mk ml mn n q c w z ev num plc sig pad row dig cfr cby que has img kep _ vv S (by omega) (by omega) (by exact hpl) (by exact hij) (by exact hvb2) (by exact aS) (by exact eS)) (cwV 0 gts gX9_spreadFrom_X9_spread rfl rfl rfl (by decide +kernel) ⟨Nat.le_of_ble_eq_true rfl, Nat.le_of_ble_eq_true rfl⟩) ⟨fun a U g mk q => by obtain ⟨q0, q1, qP, qK, qD⟩ := q; exact ⟨q0, q1, qP, va_K.moved (u := U) (U := U.calling g mk a) (Vm.Alike.refl U.vm) qK, qD⟩, va_recv hK hPc (ci := 4) (q0 := 0) rfl rfl, fun U hU hW => ⟨rfl, by rw [hU], by rw [hU]; exact hPc, va_K.moved hW.alike hK, hDc.weaken (fun _ _ _ _ => trivial)⟩⟩ rfl rfl hl.1 rfl (lv_room (Nat.le_of_ble_eq_true rfl)) dX9_spreadFrom_89 ⟨Nat.le_of_ble_eq_true rfl, Nat.le_of_ble_eq_true rfl⟩) hS (fun q _ h => hFc q h) hFc (fun u t H1 locs ht hvm hw hB hz1 hk1 hS => ?_)
                obtain ⟨v_89, row_89, dig_89, z_89⟩ := u
                obtain ⟨hP1, hK1, hD1⟩ := hB
                rw [ht] at hP1
                try dsimp only at hw
                try dsimp only at hP1
                try dsimp only at hD1
                have hK := va_K.moved hvm.symm hK1
                obtain ⟨hP, hD⟩ := va_join (wr := []) (w1 := wM mo ma mb mc md me mf mg mh mi mj mk ml mn cI cZ n q c w z_89 ev num plc sig pad row_89 dig_89 (aN v_89) cfr cby que has img kep) hP hD [0, 1, 2, 3, 4, 5, 6, 7, 8, 9, 10, 11, 12, 13] [] rfl rfl (by decide) (by decide) hk1 hFc hP1 hD1
                have hP := hP.sub (ws' := wM mo ma mb mc md me mf mg mh mi mj mk ml mn cI cZ n q c w z_89 ev num plc sig pad row_89 dig_89 (aN v_89) cfr cby que has img kep) [0, 1, 2, 3, 4, 5, 6, 7, 8, 9, 10, 11, 12, 13] rfl
                have hD := hD.sub (ws' := wM mo ma mb mc md me mf mg mh mi mj mk ml mn cI cZ n q c w z_89 ev num plc sig pad row_89 dig_89 (aN v_89) cfr cby que has img kep) [0, 1, 2, 3, 4, 5, 6, 7, 8, 9, 10, 11, 12, 13] (by decide) rfl
                have hK := va_K.moved (Vm.Alike.refl Gs.vm) hK
                generalize H1 = H at hP hS ⊢
                obtain ⟨hF, h7, hvb3⟩ := hw
                refine lv_iconst (v := nI 0) gx gb dX9_spreadFrom_92 (by decide) ?_
                refine lv_istore_n (lv' := [(2, .int (nI 0)), (1, .int (nI l)), (0, .ref mo)]) gx gb dX9_spreadFrom_93 rfl hl (by decide) rfl (fun ls hl => ?_)
                have L94 : ∀ fu : Nat, ∀ (k4 : Nat) (ww : Nat → Nat) (hk4 : k4 ≤ fac q) (hC : ∀ r, r < k4 → ww r = ofb l (v_89 r)) (hE : ∀ r, k4 ≤ r → ww r = v_89 r), (fac q - k4) < fu → ∀ (H : Heap) (locs : List Loc), va_P D vwCl (wM mo ma mb mc md me mf mg mh mi mj mk ml mn cI cZ n q c w z_89 ev num plc sig pad row_89 dig_89 (aN ww) cfr cby que has img kep) H → va_D A (wM mo ma mb mc md me mf mg mh mi mj mk ml mn cI cZ n q c w z_89 ev num plc sig pad row_89 dig_89 (aN ww) cfr cby que has img kep) → va_S A Gs.heap H locs → ∀ ls : Array Slot, lv_has ls 3 [(2, .int (nI k4)), (1, .int (nI l)), (0, .ref mo)] → W Gp Gl Ge (headSpec wsX9_spreadFrom ({ frames := 4, cells := 0, slots := 0, locals := 91 } : Room)).room Gs Gm ([.ref mo] : List Value).toArray Gw Gt Gc H locs 0 0 (MQ Gw (va_Qv (fun u : (Nat → Nat) × (Nat → Nat) × (Nat → Nat) × (Nat) => (sfR plc q m v u.1 ∧ ∀ r_, r_ < 5040 → u.1 r_ ≤ 1000000)) (fun (u : (Nat → Nat) × (Nat → Nat) × (Nat → Nat) × (Nat)) t => va_P D vwCl (wM mo ma mb mc md me mf mg mh mi mj mk ml mn cI cZ n q c w u.2.2.2 ev num plc sig pad u.2.1 u.2.2.1 (aN u.1) cfr cby que has img kep) t.heap ∧ va_K D vwCl [(cI, .int), (cJ, .long), (cZ, .boolean)] t ∧ va_D A (wM mo ma mb mc md me mf mg mh mi mj mk ml mn cI cZ n q c w u.2.2.2 ev num plc sig pad u.2.1 u.2.2.1 (aN u.1) cfr cby que has img kep)) A) ([.ref mo] : List Value).toArray Gs 0 0 A) (F0 Gm 94 ls []) := by
                  intro fu
                  induction fu with
                  | zero => intro k4 ww hk4 hC hE hfu; exact absurd hfu (Nat.not_lt_zero _)
                  | succ fu ih94 =>
                    intro k4 ww hk4 hC hE hfu H locs hP hD hS ls hl
                    refine lv_iload_n gx gb dX9_spreadFrom_94 rfl (lv_at hl 0 rfl) ?_
                    refine lv_aload_n gx gb dX9_spreadFrom_95 rfl (lv_at hl 2 rfl) ?_
                    have hPc := hP.sub (ws' := wM mo ma mb mc md me mf mg mh mi mj mk ml mn cI cZ n q c w z_89 ev num plc sig pad row_89 dig_89 (aN ww) cfr cby que has img kep) [0, 1, 2, 3, 4, 5, 6, 7, 8, 9, 10, 11, 12, 13] rfl
                    refine vp_callSi (W.runV (As := []) (rest := [.int (nI k4)]) ⟨gx, gb, gml, gown, gts⟩ (kX9_rowsOf Gl D cI cJ cZ mo ma mb mc md me mf mg mh mi mj mk ml mn n q c w z_89 ev num plc sig pad row_89 dig_89 (aN ww) cfr cby que has img kep  (by omega) (by omega)) (cwV 0 gts gX9_spreadFrom_X9_rowsOf rfl rfl rfl (by decide +kernel) ⟨Nat.le_of_ble_eq_true rfl, Nat.le_of_ble_eq_true rfl⟩) ⟨fun a U g mk q => ⟨q.1, q.2.1, va_K.moved (u := U) (U := U.calling g mk a) (Vm.Alike.refl U.vm) q.2.2⟩, va_recv hK hPc (ci := 4) (q0 := 0) rfl rfl, fun U hU hW => ⟨rfl, by rw [hU]; exact hPc, va_K.moved hW.alike hK⟩⟩ rfl rfl hl.1 rfl (lv_room (Nat.le_of_ble_eq_true rfl)) dX9_spreadFrom_96 ⟨Nat.le_of_ble_eq_true rfl, Nat.le_of_ble_eq_true rfl⟩) (fun r hw => ?_)
                    have hr96 := hw
                    subst hr96
                    refine lv_icmp_ge (tgt := 133) gx gb dX9_spreadFrom_99 (by decide) (fun c99 => ?_) (fun c99 => ?_)
                    · skip
                      rw [nI_leI (by omega) (by omega)] at c99
                      exact W.vret gx gb gr (fun t ht hW => ⟨⟨(ww, row_89, dig_89, z_89), rfl, (by first | (dsimp only; done) | ((try dsimp only); have hs := sf_yes hq7 hij hv hm hl5 c43 (fun r hr => hAa r (by omega)) hF h7 (fun r hr => hC r (by omega)); exact ⟨hs, fun r hr => by rcases Nat.lt_or_ge r (fac q) with h9 | h9; (have := hs.1 r h9; omega); (rw [hE r (by omega)]; exact hvb3 r hr)⟩)), by rw [ht]; exact hP, va_K.moved hW.alike hK, hD⟩, hS.F ht⟩) hS.2.2 dX9_spreadFrom_133
                    · skip
                      rw [nI_leI (by omega) (by omega)] at c99
                      have hwk : ww k4 ≤ 1000000 := by rw [hE k4 (Nat.le_refl _)]; exact hvb3 k4 (by omega)
                      refine lv_aload_n gx gb dX9_spreadFrom_102 rfl (lv_at hl 2 rfl) ?_
                      refine va_get (D := D) (ci := 4) (v := .ref mg) (C := RX9) (T := TX9) (N := 19) gx gb gts i9 gown hK hP 0 rfl rfl 12 (by decide) (gts (.fieldLink RX9 35 "SwanSumsModel" "far" "[I") (by decide +kernel)) (fun _ h9 => h9) rfl dX9_spreadFrom_103 ?_
                      refine lv_iload_n gx gb dX9_spreadFrom_106 rfl (lv_at hl 0 rfl) ?_
                      refine lv_dup2_11 gx gb dX9_spreadFrom_107 rfl rfl ?_
                      refine va_iald gx gb hK hP 7 0 rfl rfl (vp_in_nI (n := k4) (by omega) (by decide)) dX9_spreadFrom_108 ?_
                      refine lv_evi (nI (ww k4)) (aN_rd ww (by omega)) ?_
                      have L125 : ∀ (y : Nat) (hyy : y = if ww k4 < 1000000 then l else 0), ∀ (H : Heap) (locs : List Loc), va_P D vwCl (wM mo ma mb mc md me mf mg mh mi mj mk ml mn cI cZ n q c w z_89 ev num plc sig pad row_89 dig_89 (aN ww) cfr cby que has img kep) H → va_D A (wM mo ma mb mc md me mf mg mh mi mj mk ml mn cI cZ n q c w z_89 ev num plc sig pad row_89 dig_89 (aN ww) cfr cby que has img kep) → va_S A Gs.heap H locs → ∀ ls : Array Slot, lv_has ls 3 [(2, .int (nI k4)), (1, .int (nI l)), (0, .ref mo)] → W Gp Gl Ge (headSpec wsX9_spreadFrom ({ frames := 4, cells := 0, slots := 0, locals := 91 } : Room)).room Gs Gm ([.ref mo] : List Value).toArray Gw Gt Gc H locs 0 0 (MQ Gw (va_Qv (fun u : (Nat → Nat) × (Nat → Nat) × (Nat → Nat) × (Nat) => (sfR plc q m v u.1 ∧ ∀ r_, r_ < 5040 → u.1 r_ ≤ 1000000)) (fun (u : (Nat → Nat) × (Nat → Nat) × (Nat → Nat) × (Nat)) t => va_P D vwCl (wM mo ma mb mc md me mf mg mh mi mj mk ml mn cI cZ n q c w u.2.2.2 ev num plc sig pad u.2.1 u.2.2.1 (aN u.1) cfr cby que has img kep) t.heap ∧ va_K D vwCl [(cI, .int), (cJ, .long), (cZ, .boolean)] t ∧ va_D A (wM mo ma mb mc md me mf mg mh mi mj mk ml mn cI cZ n q c w u.2.2.2 ev num plc sig pad u.2.1 u.2.2.1 (aN u.1) cfr cby que has img kep)) A) ([.ref mo] : List Value).toArray Gs 0 0 A) (F0 Gm 125 ls [.int (nI y), .int (nI (ww k4)), .int (nI k4), .ref mg]) := by
                        intro y hyy H locs hP hD hS ls hl
                        refine lv_iadd gx gb dX9_spreadFrom_125 ?_
                        refine lv_evi (nI ((ww k4) + y)) (nI_add (ww k4) y) ?_
                        refine va_iast gx gb hK hP hD hS 7 0 rfl rfl (vp_in_nI (n := k4) (by omega) (by decide)) dX9_spreadFrom_126 (fun H locs hP hD hS => ?_)
                        rw [aN_st ww ((ww k4) + y) (by omega)] at hP hD
                        have hP : va_P D vwCl (wM mo ma mb mc md me mf mg mh mi mj mk ml mn cI cZ n q c w z_89 ev num plc sig pad row_89 dig_89 (aN (up ww k4 ((ww k4) + y))) cfr cby que has img kep) H := hP
                        have hD : va_D A (wM mo ma mb mc md me mf mg mh mi mj mk ml mn cI cZ n q c w z_89 ev num plc sig pad row_89 dig_89 (aN (up ww k4 ((ww k4) + y))) cfr cby que has img kep) := hD
                        refine lv_iinc (v := nI (k4 + 1)) (lv' := [(2, .int (nI (k4 + 1))), (1, .int (nI l)), (0, .ref mo)]) gx gb dX9_spreadFrom_127 hl (k := 0) rfl (nI_add k4 1) (by decide) rfl (fun ls hl => ?_)
                        refine lv_goto (tgt := 94) gx gb dX9_spreadFrom_130 (by decide) ?_
                        exact ih94 (k4 + 1) (up ww k4 ((ww k4) + y)) (by omega) (by exact (ob_up hC hE hyy).1) (by exact (ob_up hC hE hyy).2) (by omega) _ _ hP hD hS ls (lv_sub hl [0, 1, 2] rfl)
                      refine lv_aload_n gx gb dX9_spreadFrom_109 rfl (lv_at hl 2 rfl) ?_
                      refine va_get (D := D) (ci := 4) (v := .ref mg) (C := RX9) (T := TX9) (N := 19) gx gb gts i9 gown hK hP 0 rfl rfl 12 (by decide) (gts (.fieldLink RX9 35 "SwanSumsModel" "far" "[I") (by decide +kernel)) (fun _ h9 => h9) rfl dX9_spreadFrom_110 ?_
                      refine lv_iload_n gx gb dX9_spreadFrom_113 rfl (lv_at hl 0 rfl) ?_
                      refine va_iald gx gb hK hP 7 0 rfl rfl (vp_in_nI (n := k4) (by omega) (by decide)) dX9_spreadFrom_114 ?_
                      refine lv_evi (nI (ww k4)) (aN_rd ww (by omega)) ?_
                      refine lv_ldc (v := (1000000)) gx gb gown (gts (.constant RX9 158 (1000000)) (by decide +kernel)) dX9_spreadFrom_115 ?_
                      refine lv_evi (nI 1000000) (rfl) ?_
                      refine lv_icmp_ge (tgt := 124) gx gb dX9_spreadFrom_117 (by decide) (fun c117 => ?_) (fun c117 => ?_)
                      · skip
                        rw [nI_leI (by omega) (by omega)] at c117
                        refine lv_iconst (v := nI 0) gx gb dX9_spreadFrom_124 (by decide) ?_
                        exact L125 0 (by first | (rw [if_pos (by omega)]; done) | (rw [if_neg (by omega)])) _ _ hP hD hS ls (lv_sub hl [0, 1, 2] rfl)
                      · skip
                        rw [nI_leI (by omega) (by omega)] at c117
                        refine lv_iload_n gx gb dX9_spreadFrom_120 rfl (lv_at hl 1 rfl) ?_
                        refine lv_goto (tgt := 125) gx gb dX9_spreadFrom_121 (by decide) ?_
                        exact L125 l (by first | (rw [if_pos (by omega)]; done) | (rw [if_neg (by omega)])) _ _ hP hD hS ls (lv_sub hl [0, 1, 2] rfl)
                exact L94 _ 0 v_89 (by omega) (by intro r hr; exact absurd hr (Nat.not_lt_zero _)) (by intro r _; rfl) (Nat.lt_succ_self _) _ _ hP hD hS ls (lv_sub hl [0, 1, 2] rfl)
              · skip
                rw [nI_leI (by omega) (by omega)] at c54
                have hvk3 : vv k3 ≤ 1000000 := by rw [hBb k3 (Nat.le_refl _)]; exact hvb k3 (by omega)
                refine lv_aload_n gx gb dX9_spreadFrom_57 rfl (lv_at hl 2 rfl) ?_
                refine va_get (D := D) (ci := 4) (v := .ref mg) (C := RX9) (T := TX9) (N := 19) gx gb gts i9 gown hK hP 0 rfl rfl 12 (by decide) (gts (.fieldLink RX9 35 "SwanSumsModel" "far" "[I") (by decide +kernel)) (fun _ h9 => h9) rfl dX9_spreadFrom_58 ?_
                refine lv_iload_n gx gb dX9_spreadFrom_61 rfl (lv_at hl 0 rfl) ?_
                refine lv_dup2_11 gx gb dX9_spreadFrom_62 rfl rfl ?_
                refine va_iald gx gb hK hP 7 0 rfl rfl (vp_in_nI (n := k3) (by omega) (by decide)) dX9_spreadFrom_63 ?_
                refine lv_evi (nI (vv k3)) (aN_rd vv (by omega)) ?_
                have L80 : ∀ (x : Nat) (hxx : x = if vv k3 < 1000000 then l else 0), ∀ (H : Heap) (locs : List Loc), va_P D vwCl (wM mo ma mb mc md me mf mg mh mi mj mk ml mn cI cZ n q c w z ev num plc sig pad row dig (aN vv) cfr cby que has img kep) H → va_D A (wM mo ma mb mc md me mf mg mh mi mj mk ml mn cI cZ n q c w z ev num plc sig pad row dig (aN vv) cfr cby que has img kep) → va_S A Gs.heap H locs → ∀ ls : Array Slot, lv_has ls 3 [(2, .int (nI k3)), (1, .int (nI l)), (0, .ref mo)] → W Gp Gl Ge (headSpec wsX9_spreadFrom ({ frames := 4, cells := 0, slots := 0, locals := 91 } : Room)).room Gs Gm ([.ref mo] : List Value).toArray Gw Gt Gc H locs 0 0 (MQ Gw (va_Qv (fun u : (Nat → Nat) × (Nat → Nat) × (Nat → Nat) × (Nat) => (sfR plc q m v u.1 ∧ ∀ r_, r_ < 5040 → u.1 r_ ≤ 1000000)) (fun (u : (Nat → Nat) × (Nat → Nat) × (Nat → Nat) × (Nat)) t => va_P D vwCl (wM mo ma mb mc md me mf mg mh mi mj mk ml mn cI cZ n q c w u.2.2.2 ev num plc sig pad u.2.1 u.2.2.1 (aN u.1) cfr cby que has img kep) t.heap ∧ va_K D vwCl [(cI, .int), (cJ, .long), (cZ, .boolean)] t ∧ va_D A (wM mo ma mb mc md me mf mg mh mi mj mk ml mn cI cZ n q c w u.2.2.2 ev num plc sig pad u.2.1 u.2.2.1 (aN u.1) cfr cby que has img kep)) A) ([.ref mo] : List Value).toArray Gs 0 0 A) (F0 Gm 80 ls [.int (nI x), .int (nI (vv k3)), .int (nI k3), .ref mg]) := by
                  intro x hxx H locs hP hD hS ls hl
                  have hlx : x ≤ vv k3 := by rw [hxx, hBb k3 (Nat.le_refl _)]; split; exact hl5.2.1 k3 (by omega); exact Nat.zero_le _
                  refine lv_isub gx gb dX9_spreadFrom_80 ?_
                  refine lv_evi (nI ((vv k3) - x)) (e_sub (by omega)) ?_
                  refine va_iast gx gb hK hP hD hS 7 0 rfl rfl (vp_in_nI (n := k3) (by omega) (by decide)) dX9_spreadFrom_81 (fun H locs hP hD hS => ?_)
                  rw [aN_st vv ((vv k3) - x) (by omega)] at hP hD
                  have hP : va_P D vwCl (wM mo ma mb mc md me mf mg mh mi mj mk ml mn cI cZ n q c w z ev num plc sig pad row dig (aN (up vv k3 ((vv k3) - x))) cfr cby que has img kep) H := hP
                  have hD : va_D A (wM mo ma mb mc md me mf mg mh mi mj mk ml mn cI cZ n q c w z ev num plc sig pad row dig (aN (up vv k3 ((vv k3) - x))) cfr cby que has img kep) := hD
                  refine lv_iinc (v := nI (k3 + 1)) (lv' := [(2, .int (nI (k3 + 1))), (1, .int (nI l)), (0, .ref mo)]) gx gb dX9_spreadFrom_82 hl (k := 0) rfl (nI_add k3 1) (by decide) rfl (fun ls hl => ?_)
                  refine lv_goto (tgt := 49) gx gb dX9_spreadFrom_85 (by decide) ?_
                  exact ih49 (k3 + 1) (up vv k3 ((vv k3) - x)) (by omega) (by exact (of_up hAa hBb hxx).1) (by exact (of_up hAa hBb hxx).2) (by omega) _ _ hP hD hS ls (lv_sub hl [0, 1, 2] rfl)
                refine lv_aload_n gx gb dX9_spreadFrom_64 rfl (lv_at hl 2 rfl) ?_
                refine va_get (D := D) (ci := 4) (v := .ref mg) (C := RX9) (T := TX9) (N := 19) gx gb gts i9 gown hK hP 0 rfl rfl 12 (by decide) (gts (.fieldLink RX9 35 "SwanSumsModel" "far" "[I") (by decide +kernel)) (fun _ h9 => h9) rfl dX9_spreadFrom_65 ?_
                refine lv_iload_n gx gb dX9_spreadFrom_68 rfl (lv_at hl 0 rfl) ?_
                refine va_iald gx gb hK hP 7 0 rfl rfl (vp_in_nI (n := k3) (by omega) (by decide)) dX9_spreadFrom_69 ?_
                refine lv_evi (nI (vv k3)) (aN_rd vv (by omega)) ?_
                refine lv_ldc (v := (1000000)) gx gb gown (gts (.constant RX9 158 (1000000)) (by decide +kernel)) dX9_spreadFrom_70 ?_
                refine lv_evi (nI 1000000) (rfl) ?_
                refine lv_icmp_ge (tgt := 79) gx gb dX9_spreadFrom_72 (by decide) (fun c72 => ?_) (fun c72 => ?_)
                · skip
                  rw [nI_leI (by omega) (by omega)] at c72
                  refine lv_iconst (v := nI 0) gx gb dX9_spreadFrom_79 (by decide) ?_
                  exact L80 0 (by first | (rw [if_pos (by omega)]; done) | (rw [if_neg (by omega)])) _ _ hP hD hS ls (lv_sub hl [0, 1, 2] rfl)
                · skip
                  rw [nI_leI (by omega) (by omega)] at c72
                  refine lv_iload_n gx gb dX9_spreadFrom_75 rfl (lv_at hl 1 rfl) ?_
                  refine lv_goto (tgt := 80) gx gb dX9_spreadFrom_76 (by decide) ?_
                  exact L80 l (by first | (rw [if_pos (by omega)]; done) | (rw [if_neg (by omega)])) _ _ hP hD hS ls (lv_sub hl [0, 1, 2] rfl)
          exact L49 _ 0 v (by omega) (by intro r hr; exact absurd hr (Nat.not_lt_zero _)) (by intro r _; rfl) (Nat.lt_succ_self _) _ _ hP hD hS ls (lv_sub hl [0, 1, 2] rfl)
        · skip
          rw [nI_eq (by omega) (by omega)] at c43
          exact W.vret gx gb gr (fun t ht hW => ⟨⟨(v, row, dig, z), rfl, (by first | (dsimp only; done) | ((try dsimp only); exact ⟨sf_no hv hm hl5 c43, hvb⟩)), by rw [ht]; exact hP, va_K.moved hW.alike hK, hD⟩, hS.F ht⟩) hS.2.2 dX9_spreadFrom_46
      · skip
        rw [nI_leI (by omega) (by omega)] at c10
        have L33 : ∀ (x : Nat) (hxx : x = if v k < l then v k else l), ∀ (H : Heap) (locs : List Loc), va_P D vwCl (wM mo ma mb mc md me mf mg mh mi mj mk ml mn cI cZ n q c w z ev num plc sig pad row dig (aN v) cfr cby que has img kep) H → va_D A (wM mo ma mb mc md me mf mg mh mi mj mk ml mn cI cZ n q c w z ev num plc sig pad row dig (aN v) cfr cby que has img kep) → va_S A Gs.heap H locs → ∀ ls : Array Slot, lv_has ls 3 [(1, .int (nI l)), (2, .int (nI k)), (0, .ref mo)] → W Gp Gl Ge (headSpec wsX9_spreadFrom ({ frames := 4, cells := 0, slots := 0, locals := 91 } : Room)).room Gs Gm ([.ref mo] : List Value).toArray Gw Gt Gc H locs 0 0 (MQ Gw (va_Qv (fun u : (Nat → Nat) × (Nat → Nat) × (Nat → Nat) × (Nat) => (sfR plc q m v u.1 ∧ ∀ r_, r_ < 5040 → u.1 r_ ≤ 1000000)) (fun (u : (Nat → Nat) × (Nat → Nat) × (Nat → Nat) × (Nat)) t => va_P D vwCl (wM mo ma mb mc md me mf mg mh mi mj mk ml mn cI cZ n q c w u.2.2.2 ev num plc sig pad u.2.1 u.2.2.1 (aN u.1) cfr cby que has img kep) t.heap ∧ va_K D vwCl [(cI, .int), (cJ, .long), (cZ, .boolean)] t ∧ va_D A (wM mo ma mb mc md me mf mg mh mi mj mk ml mn cI cZ n q c w u.2.2.2 ev num plc sig pad u.2.1 u.2.2.1 (aN u.1) cfr cby que has img kep)) A) ([.ref mo] : List Value).toArray Gs 0 0 A) (F0 Gm 33 ls [.int (nI x)]) := by
          intro x hxx H locs hP hD hS ls hl
          refine lv_istore_n (lv' := [(1, .int (nI x)), (2, .int (nI k)), (0, .ref mo)]) gx gb dX9_spreadFrom_33 rfl hl (by decide) rfl (fun ls hl => ?_)
          refine lv_iinc (v := nI (k + 1)) (lv' := [(2, .int (nI (k + 1))), (1, .int (nI x)), (0, .ref mo)]) gx gb dX9_spreadFrom_34 hl (k := 1) rfl (nI_add k 1) (by decide) rfl (fun ls hl => ?_)
          refine lv_goto (tgt := 5) gx gb dX9_spreadFrom_37 (by decide) ?_
          exact ih5 (k + 1) x (by omega) (by exact lstR_s hl5 hxx) (by omega) _ _ hP hD hS ls (lv_sub hl [1, 0, 2] rfl)
        have hvk := hvb k (by omega)
        refine lv_aload_n gx gb dX9_spreadFrom_13 rfl (lv_at hl 2 rfl) ?_
        refine va_get (D := D) (ci := 4) (v := .ref mg) (C := RX9) (T := TX9) (N := 19) gx gb gts i9 gown hK hP 0 rfl rfl 12 (by decide) (gts (.fieldLink RX9 35 "SwanSumsModel" "far" "[I") (by decide +kernel)) (fun _ h9 => h9) rfl dX9_spreadFrom_14 ?_
        refine lv_iload_n gx gb dX9_spreadFrom_17 rfl (lv_at hl 1 rfl) ?_
        refine va_iald gx gb hK hP 7 0 rfl rfl (vp_in_nI (n := k) (by omega) (by decide)) dX9_spreadFrom_18 ?_
        refine lv_evi (nI (v k)) (aN_rd v (by omega)) ?_
        refine lv_iload_n gx gb dX9_spreadFrom_19 rfl (lv_at hl 0 rfl) ?_
        refine lv_icmp_ge (tgt := 32) gx gb dX9_spreadFrom_20 (by decide) (fun c20 => ?_) (fun c20 => ?_)
        · skip
          rw [nI_leI (by omega) (by omega)] at c20
          refine lv_iload_n gx gb dX9_spreadFrom_32 rfl (lv_at hl 0 rfl) ?_
          exact L33 l (by first | (rw [if_pos (by omega)]; done) | (rw [if_neg (by omega)])) _ _ hP hD hS ls (lv_sub hl [0, 1, 2] rfl)
        · skip
          rw [nI_leI (by omega) (by omega)] at c20
          refine lv_aload_n gx gb dX9_spreadFrom_23 rfl (lv_at hl 2 rfl) ?_
          refine va_get (D := D) (ci := 4) (v := .ref mg) (C := RX9) (T := TX9) (N := 19) gx gb gts i9 gown hK hP 0 rfl rfl 12 (by decide) (gts (.fieldLink RX9 35 "SwanSumsModel" "far" "[I") (by decide +kernel)) (fun _ h9 => h9) rfl dX9_spreadFrom_24 ?_
          refine lv_iload_n gx gb dX9_spreadFrom_27 rfl (lv_at hl 1 rfl) ?_
          refine va_iald gx gb hK hP 7 0 rfl rfl (vp_in_nI (n := k) (by omega) (by decide)) dX9_spreadFrom_28 ?_
          refine lv_evi (nI (v k)) (aN_rd v (by omega)) ?_
          refine lv_goto (tgt := 33) gx gb dX9_spreadFrom_29 (by decide) ?_
          exact L33 (v k) (by first | (rw [if_pos (by omega)]; done) | (rw [if_neg (by omega)])) _ _ hP hD hS ls (lv_sub hl [0, 1, 2] rfl)
  exact L5 _ 0 1000000 (by omega) (by exact lstR_0 _) (Nat.lt_succ_self _) _ _ hP hD hS ls (lv_sub hl [1, 0, 2] rfl)

set_option maxHeartbeats 4000000 in
set_option maxRecDepth 100000 in
theorem kX9_week (Gl : Launch) (D : va_G) (cI cJ cZ : ClassId) (mo : Nat) (ma : Nat) (mb : Nat) (mc : Nat) (md : Nat) (me : Nat) (mf : Nat) (mg : Nat) (mh : Nat) (mi : Nat) (mj : Nat) (mk : Nat) (ml : Nat) (mn : Nat) (n : Nat) (q : Nat) (c : Nat) (w : Nat) (z : Nat) (ev : Nat) (num : Nat → Nat) (plc : Nat → Nat) (sig : Nat → Nat) (pad : Nat → Nat) (row : Nat → Nat) (dig : Nat → Nat) (far : Nat → Int32) (cfr : Nat → Nat) (cby : Nat → Nat) (que : Nat → Nat) (has : Nat → Nat) (img : Nat → Nat) (kep : Nat → Nat) (sz : Nat) (a b : Int) (hl_a : -2147483648 ≤ a) (hu_a : a < 2147483648) (hl_b : -2147483648 ≤ b) (hu_b : b < 2147483648) (hq1 : 1 ≤ q) (hq7 : q ≤ 7) (hpl : ∀ x, x < q → plc x ≤ 6) (hij : ij q plc) (hnv : ∀ x, x < q → num (plc x) ≤ 99) : Met Gl yX9_week wsX9_week ({ frames := 5, cells := 0, slots := 0, locals := 113 } : Room) (va_Pc [.ref mo, .int (zI a), .int (zI b)] (fun U => U.heap.size = sz ∧ va_P D vwCl (wM mo ma mb mc md me mf mg mh mi mj mk ml mn cI cZ n q c w z ev num plc sig pad row dig far cfr cby que has img kep) U.heap ∧ va_K D vwCl [(cI, .int), (cJ, .long), (cZ, .boolean)] U ∧ va_D (fun _ => True) (wM mo ma mb mc md me mf mg mh mi mj mk ml mn cI cZ n q c w z ev num plc sig pad row dig far cfr cby que has img kep))) (va_Qi (fun (r : Int32) (u : (Nat → Int32) × (Nat → Nat) × (Nat → Nat) × (Nat)) => ∃ zz : Int, r = zI zz ∧ wekR num plc q a b zz) (fun (u : (Nat → Int32) × (Nat → Nat) × (Nat → Nat) × (Nat)) t => va_P D vwCl (wM mo ma mb mc md me mf mg mh mi mj mk ml mn cI cZ n q c w u.2.2.2 ev num plc sig pad u.2.1 u.2.2.1 u.1 cfr cby que has img kep) t.heap ∧ va_K D vwCl [(cI, .int), (cJ, .long), (cZ, .boolean)] t ∧ va_D (va_A (wM mo ma mb mc md me mf mg mh mi mj mk ml mn cI cZ n q c w z ev num plc sig pad row dig far cfr cby que has img kep) sz) (wM mo ma mb mc md me mf mg mh mi mj mk ml mn cI cZ n q c w u.2.2.2 ev num plc sig pad u.2.1 u.2.2.1 u.1 cfr cby que has img kep)) (va_A (wM mo ma mb mc md me mf mg mh mi mj mk ml mn cI cZ n q c w z ev num plc sig pad row dig far cfr cby que has img kep) sz)) 0 0 (va_A (wM mo ma mb mc md me mf mg mh mi mj mk ml mn cI cZ n q c w z ev num plc sig pad row dig far cfr cby que has img kep) sz) := by
  refine Met.ofW (cc := cX9_week) (maxL := 7) (ret := (some .int)) (by decide +kernel) rfl ?_
  intro Gp Ge Gs Gm Ga Gw Gt Gc G1 Bd gml gv
  obtain ⟨rfl, hsz, hP, hK, hD0⟩ := gv
  have gx := Bd.exec
  have gb := Bd.bytes
  have gr := Bd.returns
  have gts := atoms_spec (ws := wsX9_week) Bd.pre
  have gown : Gs.vm.findClass RX9 = some Gm.cls := findClass_of_methodNamed Bd.named
  have glk := Bd.notSynchronized
  subst hsz
  have hD := hD0.self (sz := Gs.heap.size)
  generalize hAe : va_A (wM mo ma mb mc md me mf mg mh mi mj mk ml mn cI cZ n q c w z ev num plc sig pad row dig far cfr cby que has img kep) Gs.heap.size = A at hD ⊢
  have hA : ∀ q : Nat, Gs.heap.size ≤ q → A q := fun q h => by rw [← hAe]; exact Or.inr h
  have hS : va_S A Gs.heap Gs.heap [] := va_S.rf
  have hP : va_P D vwCl (wM mo ma mb mc md me mf mg mh mi mj mk ml mn cI cZ n q c w z ev num plc sig pad row dig far cfr cby que has img kep) Gs.heap := hP
  have hl := lv_entry ([.ref mo, .int (zI a), .int (zI b)]) (n := 7) (Nat.le_of_ble_eq_true rfl)
  rw [lg_entry_eq]
  generalize (lg_sl ([.ref mo, .int (zI a), .int (zI b)]) ++ List.replicate (7 - (lg_sl ([.ref mo, .int (zI a), .int (zI b)])).length) Slot.unset).toArray = ls at hl ⊢
  have hl : lv_has ls 7 [(0, .ref mo), (1, .int (zI a)), (2, .int (zI b))] := hl
  have i9 : ∀ w ∈ wsX90, w ∈ wsX9_week := by decide +kernel
  refine lv_iconst (v := nI 1) gx gb dX9_week_0 (by decide) ?_
  refine lv_istore_n (lv' := [(3, .int (nI 1)), (0, .ref mo), (1, .int (zI a)), (2, .int (zI b))]) gx gb dX9_week_1 rfl hl (by decide) rfl (fun ls hl => ?_)
  refine lv_iconst (v := nI 0) gx gb dX9_week_2 (by decide) ?_
  refine lv_istore (lv' := [(4, .int (nI 0)), (3, .int (nI 1)), (0, .ref mo), (1, .int (zI a)), (2, .int (zI b))]) gx gb dX9_week_3 hl (by decide) rfl (fun ls hl => ?_)
  have L5 : ∀ fu : Nat, ∀ (k : Nat) (hk4 : k ≤ 4) (hkb : k = 0 ∨ (1 ≤ b ∧ b ≤ 4 ∧ (k : Int) ≤ b)), (4 - k) < fu → ∀ (H : Heap) (locs : List Loc), va_P D vwCl (wM mo ma mb mc md me mf mg mh mi mj mk ml mn cI cZ n q c w z ev num plc sig pad row dig far cfr cby que has img kep) H → va_D A (wM mo ma mb mc md me mf mg mh mi mj mk ml mn cI cZ n q c w z ev num plc sig pad row dig far cfr cby que has img kep) → va_S A Gs.heap H locs → ∀ ls : Array Slot, lv_has ls 7 [(3, .int (nI (10 ^ k))), (4, .int (nI k)), (0, .ref mo), (1, .int (zI a)), (2, .int (zI b))] → W Gp Gl Ge (headSpec wsX9_week ({ frames := 5, cells := 0, slots := 0, locals := 113 } : Room)).room Gs Gm ([.ref mo, .int (zI a), .int (zI b)] : List Value).toArray Gw Gt Gc H locs 0 0 (MQ Gw (va_Qi (fun (r : Int32) (u : (Nat → Int32) × (Nat → Nat) × (Nat → Nat) × (Nat)) => ∃ zz : Int, r = zI zz ∧ wekR num plc q a b zz) (fun (u : (Nat → Int32) × (Nat → Nat) × (Nat → Nat) × (Nat)) t => va_P D vwCl (wM mo ma mb mc md me mf mg mh mi mj mk ml mn cI cZ n q c w u.2.2.2 ev num plc sig pad u.2.1 u.2.2.1 u.1 cfr cby que has img kep) t.heap ∧ va_K D vwCl [(cI, .int), (cJ, .long), (cZ, .boolean)] t ∧ va_D A (wM mo ma mb mc md me mf mg mh mi mj mk ml mn cI cZ n q c w u.2.2.2 ev num plc sig pad u.2.1 u.2.2.1 u.1 cfr cby que has img kep)) A) ([.ref mo, .int (zI a), .int (zI b)] : List Value).toArray Gs 0 0 A) (F0 Gm 5 ls []) := by
    intro fu
    induction fu with
    | zero => intro k hk4 hkb hfu; exact absurd hfu (Nat.not_lt_zero _)
    | succ fu ih5 =>
      intro k hk4 hkb hfu H locs hP hD hS ls hl
      have hp4 := pw_4 hk4
      have hp0 : 0 < 10 ^ k := Nat.pow_pos (by omega)
      refine lv_iload gx gb dX9_week_5 (lv_at hl 1 rfl) ?_
      refine lv_iload_n gx gb dX9_week_7 rfl (lv_at hl 4 rfl) ?_
      refine lv_icmp_ge (tgt := 31) gx gb dX9_week_8 (by decide) (fun c8 => ?_) (fun c8 => ?_)
      · skip
        rw [zn_le (by omega) (by omega) (by omega)] at c8
        refine lv_iload_n gx gb dX9_week_31 rfl (lv_at hl 4 rfl) ?_
        refine lv_iconst (v := nI 1) gx gb dX9_week_32 (by decide) ?_
        refine lv_iconst (v := nI 4) gx gb dX9_week_33 (by decide) ?_
        refine lv_evs [.int (zI ((4 : Nat) : Int)), .int (zI ((1 : Nat) : Int)), .int (zI b)] (by simp only [nI_zc]) ?_
        refine vp_callSi (W.runS (As := [.int (zI b), .int (zI ((1 : Nat) : Int)), .int (zI ((4 : Nat) : Int))]) (rest := []) ⟨gx, gb, gml, gown, gts⟩ (kX9_in Gl b ((1 : Nat) : Int) ((4 : Nat) : Int) (by omega) (by omega) (by omega) (by omega) (by omega) (by omega)) (va_cwS 3 gts gX9_week_X9_in rfl rfl rfl (by decide +kernel) ⟨Nat.le_of_ble_eq_true rfl, Nat.le_of_ble_eq_true rfl⟩) ⟨fun _ _ _ _ h => h, fun U hU hW => ⟨rfl, trivial⟩⟩ rfl rfl hl.1 rfl (lv_room (Nat.le_of_ble_eq_true rfl)) dX9_week_34 ⟨Nat.le_of_ble_eq_true rfl, Nat.le_of_ble_eq_true rfl⟩) (fun r hw => ?_)
        have hr34 := hw
        subst hr34
        refine lv_if_eq (tgt := 51) gx gb dX9_week_37 (by decide) (fun c37 => ?_) (fun c37 => ?_)
        · skip
          rw [b0_eq] at c37
          simp only [decide_eq_false_iff_not, Decidable.not_not] at c37
          refine lv_bipush (v := zI (-2)) gx gb dX9_week_51 (by decide) ?_
          exact W.iret (v := zI (-2)) gx gb gr (fun t ht hW => ⟨⟨zI (-2), (far, row, dig, z), rfl, (by first | (dsimp only; done) | ((try dsimp only); exact ⟨-2, rfl, wekR_n (fun h9 => by have h8 := h9.1; have h7 := h9.2.1; first | omega | (rw [show b.toNat = k by omega] at h7; omega))⟩)), by rw [ht]; exact hP, va_K.moved hW.alike hK, hD⟩, hS.F ht⟩) hS.2.2 dX9_week_53
        · skip
          rw [b0_eq] at c37
          simp only [decide_eq_false_iff_not, Decidable.not_not] at c37
          have hbk : b = (k : Int) := by omega
          refine lv_iload_n gx gb dX9_week_40 rfl (lv_at hl 3 rfl) ?_
          refine lv_iconst (v := nI 0) gx gb dX9_week_41 (by decide) ?_
          refine lv_iload_n gx gb dX9_week_42 rfl (lv_at hl 0 rfl) ?_
          refine lv_iconst (v := nI 1) gx gb dX9_week_43 (by decide) ?_
          refine lv_isub gx gb dX9_week_44 ?_
          refine lv_evi (nI ((10 ^ k) - 1)) (e_sub (by omega)) ?_
          refine lv_evs [.int (zI (((10 ^ k) - 1 : Nat) : Int)), .int (zI ((0 : Nat) : Int)), .int (zI a)] (by simp only [nI_zc]) ?_
          refine vp_callSi (W.runS (As := [.int (zI a), .int (zI ((0 : Nat) : Int)), .int (zI (((10 ^ k) - 1 : Nat) : Int))]) (rest := []) ⟨gx, gb, gml, gown, gts⟩ (kX9_in Gl a ((0 : Nat) : Int) (((10 ^ k) - 1 : Nat) : Int) (by omega) (by omega) (by omega) (by omega) (by omega) (by omega)) (va_cwS 3 gts gX9_week_X9_in rfl rfl rfl (by decide +kernel) ⟨Nat.le_of_ble_eq_true rfl, Nat.le_of_ble_eq_true rfl⟩) ⟨fun _ _ _ _ h => h, fun U hU hW => ⟨rfl, trivial⟩⟩ rfl rfl hl.1 rfl (lv_room (Nat.le_of_ble_eq_true rfl)) dX9_week_45 ⟨Nat.le_of_ble_eq_true rfl, Nat.le_of_ble_eq_true rfl⟩) (fun r hw => ?_)
          have hr45 := hw
          subst hr45
          refine lv_if_ne (tgt := 54) gx gb dX9_week_48 (by decide) (fun c48 => ?_) (fun c48 => ?_)
          · skip
            rw [b0_eq] at c48
            simp only [decide_eq_false_iff_not, Decidable.not_not] at c48
            obtain ⟨s, hs⟩ : ∃ s : Nat, a = (s : Int) := ⟨a.toNat, by omega⟩
            rw [show zI a = nI s from by rw [hs, zI_nat]] at hl
            have hsl : s < 10 ^ k := by omega
            have hl : lv_has ls 7 [(3, .int (nI (10 ^ k))), (4, .int (nI k)), (0, .ref mo), (1, .int (nI s)), (2, .int (zI b))] := hl
            refine lv_iconst (v := nI 1) gx gb dX9_week_54 (by decide) ?_
            refine lv_istore (lv' := [(4, .int (nI 1)), (3, .int (nI (10 ^ k))), (0, .ref mo), (1, .int (nI s)), (2, .int (zI b))]) gx gb dX9_week_55 hl (by decide) rfl (fun ls hl => ?_)
            have L57 : ∀ fu : Nat, ∀ (j : Nat) (hj : j ≤ k) (h7 : ∀ x, x < j → dg 10 s x ≤ 6), (k - j) < fu → ∀ (H : Heap) (locs : List Loc), va_P D vwCl (wM mo ma mb mc md me mf mg mh mi mj mk ml mn cI cZ n q c w z ev num plc sig pad row dig far cfr cby que has img kep) H → va_D A (wM mo ma mb mc md me mf mg mh mi mj mk ml mn cI cZ n q c w z ev num plc sig pad row dig far cfr cby que has img kep) → va_S A Gs.heap H locs → ∀ ls : Array Slot, lv_has ls 7 [(4, .int (nI (10 ^ j))), (3, .int (nI (10 ^ k))), (0, .ref mo), (1, .int (nI s)), (2, .int (zI b))] → W Gp Gl Ge (headSpec wsX9_week ({ frames := 5, cells := 0, slots := 0, locals := 113 } : Room)).room Gs Gm ([.ref mo, .int (zI a), .int (zI b)] : List Value).toArray Gw Gt Gc H locs 0 0 (MQ Gw (va_Qi (fun (r : Int32) (u : (Nat → Int32) × (Nat → Nat) × (Nat → Nat) × (Nat)) => ∃ zz : Int, r = zI zz ∧ wekR num plc q a b zz) (fun (u : (Nat → Int32) × (Nat → Nat) × (Nat → Nat) × (Nat)) t => va_P D vwCl (wM mo ma mb mc md me mf mg mh mi mj mk ml mn cI cZ n q c w u.2.2.2 ev num plc sig pad u.2.1 u.2.2.1 u.1 cfr cby que has img kep) t.heap ∧ va_K D vwCl [(cI, .int), (cJ, .long), (cZ, .boolean)] t ∧ va_D A (wM mo ma mb mc md me mf mg mh mi mj mk ml mn cI cZ n q c w u.2.2.2 ev num plc sig pad u.2.1 u.2.2.1 u.1 cfr cby que has img kep)) A) ([.ref mo, .int (zI a), .int (zI b)] : List Value).toArray Gs 0 0 A) (F0 Gm 57 ls []) := by
              intro fu
              induction fu with
              | zero => intro j hj h7 hfu; exact absurd hfu (Nat.not_lt_zero _)
              | succ fu ih57 =>
                intro j hj h7 hfu H locs hP hD hS ls hl
                have hpj := pw_4 (show j ≤ 4 by omega)
                have hpj0 : 0 < 10 ^ j := Nat.pow_pos (by omega)
                have hjk := pw_in (m := k) (j := j)
                refine lv_iload gx gb dX9_week_57 (lv_at hl 0 rfl) ?_
                refine lv_iload_n gx gb dX9_week_59 rfl (lv_at hl 1 rfl) ?_
                refine lv_icmp_ge (tgt := 89) gx gb dX9_week_60 (by decide) (fun c60 => ?_) (fun c60 => ?_)
                · skip
                  rw [nI_leI (by omega) (by omega)] at c60
                  have h7k : ∀ x, x < k → dg 10 s x ≤ 6 := fun x hx => h7 x (by omega)
                  have e_far : far = (aN (fun x_ => (far x_).toBitVec.toNat)) := by exact aN_of far
                  have hP : va_P D vwCl (wM mo ma mb mc md me mf mg mh mi mj mk ml mn cI cZ n q c w z ev num plc sig pad row dig (aN (fun x_ => (far x_).toBitVec.toNat)) cfr cby que has img kep) H := by rw [← e_far]; exact hP
                  have hD : va_D A (wM mo ma mb mc md me mf mg mh mi mj mk ml mn cI cZ n q c w z ev num plc sig pad row dig (aN (fun x_ => (far x_).toBitVec.toNat)) cfr cby que has img kep) := by rw [← e_far]; exact hD
                  refine lv_iconst (v := nI 0) gx gb dX9_week_89 (by decide) ?_
                  refine lv_istore (lv' := [(4, .int (nI 0)), (3, .int (nI (10 ^ k))), (0, .ref mo), (1, .int (nI s)), (2, .int (zI b))]) gx gb dX9_week_90 hl (by decide) rfl (fun ls hl => ?_)
                  have L92 : ∀ fu : Nat, ∀ (i : Nat) (v_ : Nat → Nat) (hi : i ≤ 5040) (hfi : ∀ x, x < i → v_ x = 1000000), (5040 - i) < fu → ∀ (H : Heap) (locs : List Loc), va_P D vwCl (wM mo ma mb mc md me mf mg mh mi mj mk ml mn cI cZ n q c w z ev num plc sig pad row dig (aN v_) cfr cby que has img kep) H → va_D A (wM mo ma mb mc md me mf mg mh mi mj mk ml mn cI cZ n q c w z ev num plc sig pad row dig (aN v_) cfr cby que has img kep) → va_S A Gs.heap H locs → ∀ ls : Array Slot, lv_has ls 7 [(4, .int (nI i)), (3, .int (nI (10 ^ k))), (0, .ref mo), (1, .int (nI s)), (2, .int (zI b))] → W Gp Gl Ge (headSpec wsX9_week ({ frames := 5, cells := 0, slots := 0, locals := 113 } : Room)).room Gs Gm ([.ref mo, .int (zI a), .int (zI b)] : List Value).toArray Gw Gt Gc H locs 0 0 (MQ Gw (va_Qi (fun (r : Int32) (u : (Nat → Int32) × (Nat → Nat) × (Nat → Nat) × (Nat)) => ∃ zz : Int, r = zI zz ∧ wekR num plc q a b zz) (fun (u : (Nat → Int32) × (Nat → Nat) × (Nat → Nat) × (Nat)) t => va_P D vwCl (wM mo ma mb mc md me mf mg mh mi mj mk ml mn cI cZ n q c w u.2.2.2 ev num plc sig pad u.2.1 u.2.2.1 u.1 cfr cby que has img kep) t.heap ∧ va_K D vwCl [(cI, .int), (cJ, .long), (cZ, .boolean)] t ∧ va_D A (wM mo ma mb mc md me mf mg mh mi mj mk ml mn cI cZ n q c w u.2.2.2 ev num plc sig pad u.2.1 u.2.2.1 u.1 cfr cby que has img kep)) A) ([.ref mo, .int (zI a), .int (zI b)] : List Value).toArray Gs 0 0 A) (F0 Gm 92 ls []) := by
                    intro fu
                    induction fu with
                    | zero => intro i v_ hi hfi hfu; exact absurd hfu (Nat.not_lt_zero _)
                    | succ fu ih92 =>
                      intro i v_ hi hfi hfu H locs hP hD hS ls hl
                      refine lv_iload gx gb dX9_week_92 (lv_at hl 0 rfl) ?_
                      refine lv_sipush (v := nI 5040) gx gb dX9_week_94 (by decide) ?_
                      refine lv_icmp_ge (tgt := 115) gx gb dX9_week_97 (by decide) (fun c97 => ?_) (fun c97 => ?_)
                      · skip
                        rw [nI_leI (by omega) (by omega)] at c97
                        refine lv_aload_n gx gb dX9_week_115 rfl (lv_at hl 2 rfl) ?_
                        have hPc := hP.sub (ws' := wM mo ma mb mc md me mf mg mh mi mj mk ml mn cI cZ n q c w z ev num plc sig pad row dig (aN v_) cfr cby que has img kep) [0, 1, 2, 3, 4, 5, 6, 7, 8, 9, 10, 11, 12, 13] rfl
                        have hDc := hD.sub (ws' := wM mo ma mb mc md me mf mg mh mi mj mk ml mn cI cZ n q c w z ev num plc sig pad row dig (aN v_) cfr cby que has img kep) [0, 1, 2, 3, 4, 5, 6, 7, 8, 9, 10, 11, 12, 13] (by decide) rfl
                        have hFc := va_free (wc := wM mo ma mb mc md me mf mg mh mi mj mk ml mn cI cZ n q c w z ev num plc sig pad row dig (aN v_) cfr cby que has img kep) hD hS hA [0, 1, 2, 3, 4, 5, 6, 7, 8, 9, 10, 11, 12, 13] rfl
                        refine va_callv (va_runV (As := []) (rest := []) ⟨gx, gb, gml, gown, gts⟩ (kX9_asNow Gl D cI cJ cZ mo ma mb mc md me mf mg mh mi mj mk ml mn n q c w z ev num plc sig pad row dig (aN v_) cfr cby que has img kep _  ) (cwV 0 gts gX9_week_X9_asNow rfl rfl rfl (by decide +kernel) ⟨Nat.le_of_ble_eq_true rfl, Nat.le_of_ble_eq_true rfl⟩) ⟨fun a U g mk q => by obtain ⟨q0, q1, qP, qK, qD⟩ := q; exact ⟨q0, q1, qP, va_K.moved (u := U) (U := U.calling g mk a) (Vm.Alike.refl U.vm) qK, qD⟩, va_recv hK hPc (ci := 4) (q0 := 0) rfl rfl, fun U hU hW => ⟨rfl, by rw [hU], by rw [hU]; exact hPc, va_K.moved hW.alike hK, hDc.weaken (fun _ _ _ _ => trivial)⟩⟩ rfl rfl hl.1 rfl (lv_room (Nat.le_of_ble_eq_true rfl)) dX9_week_116 ⟨Nat.le_of_ble_eq_true rfl, Nat.le_of_ble_eq_true rfl⟩) hS (fun q _ h => hFc q h) hFc (fun u t H1 locs ht hvm hw hB hz1 hk1 hS => ?_)
                        obtain ⟨hP1, hK1, hD1⟩ := hB
                        rw [ht] at hP1
                        try dsimp only at hw
                        try dsimp only at hP1
                        try dsimp only at hD1
                        have hK := va_K.moved hvm.symm hK1
                        obtain ⟨hP, hD⟩ := va_join (wr := []) (w1 := wM mo ma mb mc md me mf mg mh mi mj mk ml mn cI cZ n q c w q ev num plc sig pad (cpy plc row 7) dig (aN v_) cfr cby que has img kep) hP hD [0, 1, 2, 3, 4, 5, 6, 7, 8, 9, 10, 11, 12, 13] [] rfl rfl (by decide) (by decide) hk1 hFc hP1 hD1
                        have hP := hP.sub (ws' := wM mo ma mb mc md me mf mg mh mi mj mk ml mn cI cZ n q c w q ev num plc sig pad (cpy plc row 7) dig (aN v_) cfr cby que has img kep) [0, 1, 2, 3, 4, 5, 6, 7, 8, 9, 10, 11, 12, 13] rfl
                        have hD := hD.sub (ws' := wM mo ma mb mc md me mf mg mh mi mj mk ml mn cI cZ n q c w q ev num plc sig pad (cpy plc row 7) dig (aN v_) cfr cby que has img kep) [0, 1, 2, 3, 4, 5, 6, 7, 8, 9, 10, 11, 12, 13] (by decide) rfl
                        have hK := va_K.moved (Vm.Alike.refl Gs.vm) hK
                        generalize H1 = H at hP hS ⊢
                        refine lv_aload_n gx gb dX9_week_119 rfl (lv_at hl 2 rfl) ?_
                        refine va_get (D := D) (ci := 4) (v := .ref mg) (C := RX9) (T := TX9) (N := 19) gx gb gts i9 gown hK hP 0 rfl rfl 12 (by decide) (gts (.fieldLink RX9 35 "SwanSumsModel" "far" "[I") (by decide +kernel)) (fun _ h9 => h9) rfl dX9_week_120 ?_
                        refine lv_aload_n gx gb dX9_week_123 rfl (lv_at hl 2 rfl) ?_
                        have hPc := hP.sub (ws' := wM mo ma mb mc md me mf mg mh mi mj mk ml mn cI cZ n q c w q ev num plc sig pad (cpy plc row 7) dig (aN v_) cfr cby que has img kep) [0, 1, 2, 3, 4, 5, 6, 7, 8, 9, 10, 11, 12, 13] rfl
                        refine vp_callSi (W.runV (As := []) (rest := [.ref mg]) ⟨gx, gb, gml, gown, gts⟩ (kX9_rank Gl D cI cJ cZ mo ma mb mc md me mf mg mh mi mj mk ml mn n q c w q ev num plc sig pad (cpy plc row 7) dig (aN v_) cfr cby que has img kep  (by omega) (by intro x hx; rw [cpy7 _ _ (by omega)]; exact hpl x hx)) (cwV 0 gts gX9_week_X9_rank rfl rfl rfl (by decide +kernel) ⟨Nat.le_of_ble_eq_true rfl, Nat.le_of_ble_eq_true rfl⟩) ⟨fun a U g mk q => ⟨q.1, q.2.1, va_K.moved (u := U) (U := U.calling g mk a) (Vm.Alike.refl U.vm) q.2.2⟩, va_recv hK hPc (ci := 4) (q0 := 0) rfl rfl, fun U hU hW => ⟨rfl, by rw [hU]; exact hPc, va_K.moved hW.alike hK⟩⟩ rfl rfl hl.1 rfl (lv_room (Nat.le_of_ble_eq_true rfl)) dX9_week_124 ⟨Nat.le_of_ble_eq_true rfl, Nat.le_of_ble_eq_true rfl⟩) (fun r hw => ?_)
                        have hr124 := hw
                        subst hr124
                        refine lv_evi (nI (rkC plc q (cod q idn))) (congrArg nI ((rk_cong (fun i_ hi_ => cpy7 _ _ (by omega))).trans (rkC_id hq7).symm)) ?_
                        have hr0 := rkC_lt plc hq7 (cod q idn)
                        refine lv_iconst (v := nI 0) gx gb dX9_week_127 (by decide) ?_
                        refine va_iast gx gb hK hP hD hS 7 0 rfl rfl (vp_in_nI (n := rkC plc q (cod q idn)) (by omega) (by decide)) dX9_week_128 (fun H locs hP hD hS => ?_)
                        rw [aN_st v_ 0 (by omega)] at hP hD
                        have hP : va_P D vwCl (wM mo ma mb mc md me mf mg mh mi mj mk ml mn cI cZ n q c w q ev num plc sig pad (cpy plc row 7) dig (aN (up v_ (rkC plc q (cod q idn)) 0)) cfr cby que has img kep) H := hP
                        have hD : va_D A (wM mo ma mb mc md me mf mg mh mi mj mk ml mn cI cZ n q c w q ev num plc sig pad (cpy plc row 7) dig (aN (up v_ (rkC plc q (cod q idn)) 0)) cfr cby que has img kep) := hD
                        refine lv_ldc (v := (1000000)) gx gb gown (gts (.constant RX9 158 (1000000)) (by decide +kernel)) dX9_week_129 ?_
                        refine lv_evi (nI 1000000) (rfl) ?_
                        refine lv_istore (lv' := [(4, .int (nI 1000000)), (3, .int (nI (10 ^ k))), (0, .ref mo), (1, .int (nI s)), (2, .int (zI b))]) gx gb dX9_week_131 hl (by decide) rfl (fun ls hl => ?_)
                        refine lv_iload_n gx gb dX9_week_133 rfl (lv_at hl 1 rfl) ?_
                        refine lv_bipush (v := nI 10) gx gb dX9_week_134 (by decide) ?_
                        refine lv_idiv gx gb dX9_week_136 (nI_ne0 (by omega) (by omega)) ?_
                        refine lv_evi (nI ((10 ^ k) / 10)) (e_div (by omega) (by omega) (by omega)) ?_
                        refine lv_evi (nI (10 ^ k / 10 ^ (0 + 1))) (congrArg nI (by rw [Nat.zero_add, Nat.pow_one])) ?_
                        refine lv_istore (lv' := [(5, .int (nI (10 ^ k / 10 ^ (0 + 1)))), (4, .int (nI 1000000)), (3, .int (nI (10 ^ k))), (0, .ref mo), (1, .int (nI s)), (2, .int (zI b))]) gx gb dX9_week_137 hl (by decide) rfl (fun ls hl => ?_)
                        have L139 : ∀ fu : Nat, ∀ (jj l : Nat) (v5 rw5 dg5 : Nat → Nat) (z5 : Nat) (hjj : jj ≤ k) (hWs : wkS plc q (tkW num plc q s k) v5 jj l) (hvb : ∀ r, r < 5040 → v5 r ≤ 1000000), (k - jj) < fu → ∀ (H : Heap) (locs : List Loc), va_P D vwCl (wM mo ma mb mc md me mf mg mh mi mj mk ml mn cI cZ n q c w z5 ev num plc sig pad rw5 dg5 (aN v5) cfr cby que has img kep) H → va_D A (wM mo ma mb mc md me mf mg mh mi mj mk ml mn cI cZ n q c w z5 ev num plc sig pad rw5 dg5 (aN v5) cfr cby que has img kep) → va_S A Gs.heap H locs → ∀ ls : Array Slot, lv_has ls 7 [(4, .int (nI l)), (5, .int (nI (10 ^ k / 10 ^ (jj + 1)))), (3, .int (nI (10 ^ k))), (0, .ref mo), (1, .int (nI s)), (2, .int (zI b))] → W Gp Gl Ge (headSpec wsX9_week ({ frames := 5, cells := 0, slots := 0, locals := 113 } : Room)).room Gs Gm ([.ref mo, .int (zI a), .int (zI b)] : List Value).toArray Gw Gt Gc H locs 0 0 (MQ Gw (va_Qi (fun (r : Int32) (u : (Nat → Int32) × (Nat → Nat) × (Nat → Nat) × (Nat)) => ∃ zz : Int, r = zI zz ∧ wekR num plc q a b zz) (fun (u : (Nat → Int32) × (Nat → Nat) × (Nat → Nat) × (Nat)) t => va_P D vwCl (wM mo ma mb mc md me mf mg mh mi mj mk ml mn cI cZ n q c w u.2.2.2 ev num plc sig pad u.2.1 u.2.2.1 u.1 cfr cby que has img kep) t.heap ∧ va_K D vwCl [(cI, .int), (cJ, .long), (cZ, .boolean)] t ∧ va_D A (wM mo ma mb mc md me mf mg mh mi mj mk ml mn cI cZ n q c w u.2.2.2 ev num plc sig pad u.2.1 u.2.2.1 u.1 cfr cby que has img kep)) A) ([.ref mo, .int (zI a), .int (zI b)] : List Value).toArray Gs 0 0 A) (F0 Gm 139 ls []) := by
                          intro fu
                          induction fu with
                          | zero => intro jj l v5 rw5 dg5 z5 hjj hWs hvb hfu; exact absurd hfu (Nat.not_lt_zero _)
                          | succ fu ih139 =>
                            intro jj l v5 rw5 dg5 z5 hjj hWs hvb hfu H locs hP hD hS ls hl
                            have hpd : 10 ^ k / 10 ^ (jj + 1) ≤ 10000 := Nat.le_trans (Nat.div_le_self _ _) (pw_4 hk4)
                            have hlb := hWs.2.2.1
                            refine lv_iload gx gb dX9_week_139 (lv_at hl 1 rfl) ?_
                            refine lv_if_le (tgt := 245) gx gb dX9_week_141 (by decide) (fun c141 => ?_) (fun c141 => ?_)
                            · skip
                              rw [n0_le (by omega)] at c141
                              have hkm : jj = k := by rcases Nat.lt_or_ge jj k with h9 | h9; (have := pw_lt h9; omega); omega
                              rw [hkm] at hWs
                              have hk1 : 1 ≤ k := by omega
                              have hwA := wkS_e hq7 hk4 hk1 hWs
                              refine lv_iload gx gb dX9_week_245 (lv_at hl 0 rfl) ?_
                              refine lv_ldc (v := (1000000)) gx gb gown (gts (.constant RX9 158 (1000000)) (by decide +kernel)) dX9_week_247 ?_
                              refine lv_evi (nI 1000000) (rfl) ?_
                              refine lv_icmp_ge (tgt := 257) gx gb dX9_week_249 (by decide) (fun c249 => ?_) (fun c249 => ?_)
                              · skip
                                rw [nI_leI (by omega) (by omega)] at c249
                                refine lv_bipush (v := zI (-6)) gx gb dX9_week_257 (by decide) ?_
                                exact W.iret (v := zI (-6)) gx gb gr (fun t ht hW => ⟨⟨zI (-6), (aN v5, rw5, dg5, z5), rfl, (by first | (dsimp only; done) | ((try dsimp only); first | (rw [if_pos (by omega)] at hwA; exact ⟨(l : Int), (zI_nat l).symm, by rw [hs, hbk]; exact wekR_y hk1 hk4 hsl h7k hwA⟩) | (rw [if_neg (by omega)] at hwA; exact ⟨-6, rfl, by rw [hs, hbk]; exact wekR_y hk1 hk4 hsl h7k hwA⟩))), by rw [ht]; exact hP, va_K.moved hW.alike hK, hD⟩, hS.F ht⟩) hS.2.2 dX9_week_259
                              · skip
                                rw [nI_leI (by omega) (by omega)] at c249
                                refine lv_iload gx gb dX9_week_252 (lv_at hl 0 rfl) ?_
                                refine lv_goto (tgt := 259) gx gb dX9_week_254 (by decide) ?_
                                exact W.iret (v := nI l) gx gb gr (fun t ht hW => ⟨⟨nI l, (aN v5, rw5, dg5, z5), rfl, (by first | (dsimp only; done) | ((try dsimp only); first | (rw [if_pos (by omega)] at hwA; exact ⟨(l : Int), (zI_nat l).symm, by rw [hs, hbk]; exact wekR_y hk1 hk4 hsl h7k hwA⟩) | (rw [if_neg (by omega)] at hwA; exact ⟨-6, rfl, by rw [hs, hbk]; exact wekR_y hk1 hk4 hsl h7k hwA⟩))), by rw [ht]; exact hP, va_K.moved hW.alike hK, hD⟩, hS.F ht⟩) hS.2.2 dX9_week_259
                            · skip
                              rw [n0_le (by omega)] at c141
                              have hjk2 : jj < k := by rcases Nat.lt_or_ge jj k with h9 | h9; exact h9; have := pw_ge h9; omega
                              have hpl2 := pw_lt hjk2
                              have hpos : 0 < 10 ^ k / 10 ^ (jj + 1) := by rw [hpl2.1]; exact hpl2.2
                              have hsd2 := Nat.div_le_self s (10 ^ k / 10 ^ (jj + 1))
                              refine lv_aload_n gx gb dX9_week_144 rfl (lv_at hl 3 rfl) ?_
                              have hPc := hP.sub (ws' := wM mo ma mb mc md me mf mg mh mi mj mk ml mn cI cZ n q c w z5 ev num plc sig pad rw5 dg5 (aN v5) cfr cby que has img kep) [0, 1, 2, 3, 4, 5, 6, 7, 8, 9, 10, 11, 12, 13] rfl
                              have hDc := hD.sub (ws' := wM mo ma mb mc md me mf mg mh mi mj mk ml mn cI cZ n q c w z5 ev num plc sig pad rw5 dg5 (aN v5) cfr cby que has img kep) [0, 1, 2, 3, 4, 5, 6, 7, 8, 9, 10, 11, 12, 13] (by decide) rfl
                              have hFc := va_free (wc := wM mo ma mb mc md me mf mg mh mi mj mk ml mn cI cZ n q c w z5 ev num plc sig pad rw5 dg5 (aN v5) cfr cby que has img kep) hD hS hA [0, 1, 2, 3, 4, 5, 6, 7, 8, 9, 10, 11, 12, 13] rfl
                              refine va_callv (va_runV (As := []) (rest := []) ⟨gx, gb, gml, gown, gts⟩ (kX9_spreadFrom Gl D cI cJ cZ mo ma mb mc md me mf mg mh mi mj mk ml mn n q c w z5 ev num plc sig pad rw5 dg5 cfr cby que has img kep _ v5 (7 * jj) (by omega) (by omega) (by exact hpl) (by exact hij) (by exact hWs.2.1) (by omega) (by exact hvb)) (cwV 0 gts gX9_week_X9_spreadFrom rfl rfl rfl (by decide +kernel) ⟨Nat.le_of_ble_eq_true rfl, Nat.le_of_ble_eq_true rfl⟩) ⟨fun a U g mk q => by obtain ⟨q0, q1, qP, qK, qD⟩ := q; exact ⟨q0, q1, qP, va_K.moved (u := U) (U := U.calling g mk a) (Vm.Alike.refl U.vm) qK, qD⟩, va_recv hK hPc (ci := 4) (q0 := 0) rfl rfl, fun U hU hW => ⟨rfl, by rw [hU], by rw [hU]; exact hPc, va_K.moved hW.alike hK, hDc.weaken (fun _ _ _ _ => trivial)⟩⟩ rfl rfl hl.1 rfl (lv_room (Nat.le_of_ble_eq_true rfl)) dX9_week_145 ⟨Nat.le_of_ble_eq_true rfl, Nat.le_of_ble_eq_true rfl⟩) hS (fun q _ h => hFc q h) hFc (fun u t H1 locs ht hvm hw hB hz1 hk1 hS => ?_)
                              obtain ⟨v_145, row_145, dig_145, z_145⟩ := u
                              obtain ⟨hP1, hK1, hD1⟩ := hB
                              rw [ht] at hP1
                              try dsimp only at hw
                              try dsimp only at hP1
                              try dsimp only at hD1
                              have hK := va_K.moved hvm.symm hK1
                              obtain ⟨hP, hD⟩ := va_join (wr := []) (w1 := wM mo ma mb mc md me mf mg mh mi mj mk ml mn cI cZ n q c w z_145 ev num plc sig pad row_145 dig_145 (aN v_145) cfr cby que has img kep) hP hD [0, 1, 2, 3, 4, 5, 6, 7, 8, 9, 10, 11, 12, 13] [] rfl rfl (by decide) (by decide) hk1 hFc hP1 hD1
                              have hP := hP.sub (ws' := wM mo ma mb mc md me mf mg mh mi mj mk ml mn cI cZ n q c w z_145 ev num plc sig pad row_145 dig_145 (aN v_145) cfr cby que has img kep) [0, 1, 2, 3, 4, 5, 6, 7, 8, 9, 10, 11, 12, 13] rfl
                              have hD := hD.sub (ws' := wM mo ma mb mc md me mf mg mh mi mj mk ml mn cI cZ n q c w z_145 ev num plc sig pad row_145 dig_145 (aN v_145) cfr cby que has img kep) [0, 1, 2, 3, 4, 5, 6, 7, 8, 9, 10, 11, 12, 13] (by decide) rfl
                              have hK := va_K.moved (Vm.Alike.refl Gs.vm) hK
                              generalize H1 = H at hP hS ⊢
                              obtain ⟨hsf, hvb5⟩ := hw
                              refine lv_ldc (v := (1000000)) gx gb gown (gts (.constant RX9 158 (1000000)) (by decide +kernel)) dX9_week_148 ?_
                              refine lv_evi (nI 1000000) (rfl) ?_
                              refine lv_istore (lv' := [(4, .int (nI 1000000)), (5, .int (nI (10 ^ k / 10 ^ (jj + 1)))), (3, .int (nI (10 ^ k))), (0, .ref mo), (1, .int (nI s)), (2, .int (zI b))]) gx gb dX9_week_150 hl (by decide) rfl (fun ls hl => ?_)
                              refine lv_iconst (v := nI 0) gx gb dX9_week_152 (by decide) ?_
                              refine lv_istore (lv' := [(6, .int (nI 0)), (4, .int (nI 1000000)), (5, .int (nI (10 ^ k / 10 ^ (jj + 1)))), (3, .int (nI (10 ^ k))), (0, .ref mo), (1, .int (nI s)), (2, .int (zI b))]) gx gb dX9_week_153 hl (by decide) rfl (fun ls hl => ?_)
                              have L155 : ∀ fu : Nat, ∀ (kk l2 : Nat) (v3 rw3 dg3 : Nat → Nat) (z3 : Nat) (hkk : kk ≤ fac q) (hL : wkL plc q (tkW num plc q s k jj) v_145 v3 kk l2) (hvb6 : ∀ r, r < 5040 → v3 r ≤ 1000000), (fac q - kk) < fu → ∀ (H : Heap) (locs : List Loc), va_P D vwCl (wM mo ma mb mc md me mf mg mh mi mj mk ml mn cI cZ n q c w z3 ev num plc sig pad rw3 dg3 (aN v3) cfr cby que has img kep) H → va_D A (wM mo ma mb mc md me mf mg mh mi mj mk ml mn cI cZ n q c w z3 ev num plc sig pad rw3 dg3 (aN v3) cfr cby que has img kep) → va_S A Gs.heap H locs → ∀ ls : Array Slot, lv_has ls 7 [(4, .int (nI l2)), (6, .int (nI kk)), (5, .int (nI (10 ^ k / 10 ^ (jj + 1)))), (3, .int (nI (10 ^ k))), (0, .ref mo), (1, .int (nI s)), (2, .int (zI b))] → W Gp Gl Ge (headSpec wsX9_week ({ frames := 5, cells := 0, slots := 0, locals := 113 } : Room)).room Gs Gm ([.ref mo, .int (zI a), .int (zI b)] : List Value).toArray Gw Gt Gc H locs 0 0 (MQ Gw (va_Qi (fun (r : Int32) (u : (Nat → Int32) × (Nat → Nat) × (Nat → Nat) × (Nat)) => ∃ zz : Int, r = zI zz ∧ wekR num plc q a b zz) (fun (u : (Nat → Int32) × (Nat → Nat) × (Nat → Nat) × (Nat)) t => va_P D vwCl (wM mo ma mb mc md me mf mg mh mi mj mk ml mn cI cZ n q c w u.2.2.2 ev num plc sig pad u.2.1 u.2.2.1 u.1 cfr cby que has img kep) t.heap ∧ va_K D vwCl [(cI, .int), (cJ, .long), (cZ, .boolean)] t ∧ va_D A (wM mo ma mb mc md me mf mg mh mi mj mk ml mn cI cZ n q c w u.2.2.2 ev num plc sig pad u.2.1 u.2.2.1 u.1 cfr cby que has img kep)) A) ([.ref mo, .int (zI a), .int (zI b)] : List Value).toArray Gs 0 0 A) (F0 Gm 155 ls []) := by
                                intro fu
                                induction fu with
                                | zero => intro kk l2 v3 rw3 dg3 z3 hkk hL hvb6 hfu; exact absurd hfu (Nat.not_lt_zero _)
                                | succ fu ih155 =>
                                  intro kk l2 v3 rw3 dg3 z3 hkk hL hvb6 hfu H locs hP hD hS ls hl
                                  have hf7 := fac_7 hq7
                                  have hl2b := hL.2.2.1
                                  refine lv_iload gx gb dX9_week_155 (lv_at hl 1 rfl) ?_
                                  refine lv_aload_n gx gb dX9_week_157 rfl (lv_at hl 4 rfl) ?_
                                  have hPc := hP.sub (ws' := wM mo ma mb mc md me mf mg mh mi mj mk ml mn cI cZ n q c w z3 ev num plc sig pad rw3 dg3 (aN v3) cfr cby que has img kep) [0, 1, 2, 3, 4, 5, 6, 7, 8, 9, 10, 11, 12, 13] rfl
                                  refine vp_callSi (W.runV (As := []) (rest := [.int (nI kk)]) ⟨gx, gb, gml, gown, gts⟩ (kX9_rowsOf Gl D cI cJ cZ mo ma mb mc md me mf mg mh mi mj mk ml mn n q c w z3 ev num plc sig pad rw3 dg3 (aN v3) cfr cby que has img kep  (by omega) (by omega)) (cwV 0 gts gX9_week_X9_rowsOf rfl rfl rfl (by decide +kernel) ⟨Nat.le_of_ble_eq_true rfl, Nat.le_of_ble_eq_true rfl⟩) ⟨fun a U g mk q => ⟨q.1, q.2.1, va_K.moved (u := U) (U := U.calling g mk a) (Vm.Alike.refl U.vm) q.2.2⟩, va_recv hK hPc (ci := 4) (q0 := 0) rfl rfl, fun U hU hW => ⟨rfl, by rw [hU]; exact hPc, va_K.moved hW.alike hK⟩⟩ rfl rfl hl.1 rfl (lv_room (Nat.le_of_ble_eq_true rfl)) dX9_week_158 ⟨Nat.le_of_ble_eq_true rfl, Nat.le_of_ble_eq_true rfl⟩) (fun r hw => ?_)
                                  have hr158 := hw
                                  subst hr158
                                  refine lv_icmp_ge (tgt := 235) gx gb dX9_week_161 (by decide) (fun c161 => ?_) (fun c161 => ?_)
                                  · skip
                                    rw [nI_leI (by omega) (by omega)] at c161
                                    have hkf : kk = fac q := by omega
                                    rw [hkf] at hL
                                    refine lv_iload gx gb dX9_week_235 (lv_at hl 2 rfl) ?_
                                    refine lv_bipush (v := nI 10) gx gb dX9_week_237 (by decide) ?_
                                    refine lv_idiv gx gb dX9_week_239 (nI_ne0 (by omega) (by omega)) ?_
                                    refine lv_evi (nI ((10 ^ k / 10 ^ (jj + 1)) / 10)) (e_div (by omega) (by omega) (by omega)) ?_
                                    refine lv_evi (nI (10 ^ k / 10 ^ (jj + 1 + 1))) (congrArg nI pw_dv) ?_
                                    refine lv_istore (lv' := [(5, .int (nI (10 ^ k / 10 ^ (jj + 1 + 1)))), (4, .int (nI l2)), (6, .int (nI kk)), (3, .int (nI (10 ^ k))), (0, .ref mo), (1, .int (nI s)), (2, .int (zI b))]) gx gb dX9_week_240 hl (by decide) rfl (fun ls hl => ?_)
                                    refine lv_goto (tgt := 139) gx gb dX9_week_242 (by decide) ?_
                                    exact ih139 (jj + 1) l2 v3 rw3 dg3 z3 (by omega) (by exact wkS_s hq7 (by omega) hij hWs hsf hL) (by exact hvb6) (by omega) _ _ hP hD hS ls (lv_sub hl [1, 0, 3, 4, 5, 6] rfl)
                                  · skip
                                    rw [nI_leI (by omega) (by omega)] at c161
                                    refine lv_aload_n gx gb dX9_week_164 rfl (lv_at hl 4 rfl) ?_
                                    refine lv_iload gx gb dX9_week_165 (lv_at hl 1 rfl) ?_
                                    have hPc := hP.sub (ws' := wM mo ma mb mc md me mf mg mh mi mj mk ml mn cI cZ n q c w z3 ev num plc sig pad rw3 dg3 (aN v3) cfr cby que has img kep) [0, 1, 2, 3, 4, 5, 6, 7, 8, 9, 10, 11, 12, 13] rfl
                                    have hDc := hD.sub (ws' := wM mo ma mb mc md me mf mg mh mi mj mk ml mn cI cZ n q c w z3 ev num plc sig pad rw3 dg3 (aN v3) cfr cby que has img kep) [0, 1, 2, 3, 4, 5, 6, 7, 8, 9, 10, 11, 12, 13] (by decide) rfl
                                    have hFc := va_free (wc := wM mo ma mb mc md me mf mg mh mi mj mk ml mn cI cZ n q c w z3 ev num plc sig pad rw3 dg3 (aN v3) cfr cby que has img kep) hD hS hA [0, 1, 2, 3, 4, 5, 6, 7, 8, 9, 10, 11, 12, 13] rfl
                                    refine va_callv (va_runV (As := [.int (nI kk)]) (rest := []) ⟨gx, gb, gml, gown, gts⟩ (kX9_layRow Gl D cI cJ cZ mo ma mb mc md me mf mg mh mi mj mk ml mn n q c w z3 ev num plc sig pad rw3 dg3 (aN v3) cfr cby que has img kep _ kk (by omega) (by omega) (by omega) (by exact hpl) (by exact hij)) (cwV 1 gts gX9_week_X9_layRow rfl rfl rfl (by decide +kernel) ⟨Nat.le_of_ble_eq_true rfl, Nat.le_of_ble_eq_true rfl⟩) ⟨fun a U g mk q => by obtain ⟨q0, q1, qP, qK, qD⟩ := q; exact ⟨q0, q1, qP, va_K.moved (u := U) (U := U.calling g mk a) (Vm.Alike.refl U.vm) qK, qD⟩, va_recv hK hPc (ci := 4) (q0 := 0) rfl rfl, fun U hU hW => ⟨rfl, by rw [hU], by rw [hU]; exact hPc, va_K.moved hW.alike hK, hDc.weaken (fun _ _ _ _ => trivial)⟩⟩ rfl rfl hl.1 rfl (lv_room (Nat.le_of_ble_eq_true rfl)) dX9_week_167 ⟨Nat.le_of_ble_eq_true rfl, Nat.le_of_ble_eq_true rfl⟩) hS (fun q _ h => hFc q h) hFc (fun u t H1 locs ht hvm hw hB hz1 hk1 hS => ?_)
                                    obtain ⟨row_167, dig_167⟩ := u
                                    obtain ⟨hP1, hK1, hD1⟩ := hB
                                    rw [ht] at hP1
                                    try dsimp only at hw
                                    try dsimp only at hP1
                                    try dsimp only at hD1
                                    have hK := va_K.moved hvm.symm hK1
                                    obtain ⟨hP, hD⟩ := va_join (wr := []) (w1 := wM mo ma mb mc md me mf mg mh mi mj mk ml mn cI cZ n q c w q ev num plc sig pad row_167 dig_167 (aN v3) cfr cby que has img kep) hP hD [0, 1, 2, 3, 4, 5, 6, 7, 8, 9, 10, 11, 12, 13] [] rfl rfl (by decide) (by decide) hk1 hFc hP1 hD1
                                    have hP := hP.sub (ws' := wM mo ma mb mc md me mf mg mh mi mj mk ml mn cI cZ n q c w q ev num plc sig pad row_167 dig_167 (aN v3) cfr cby que has img kep) [0, 1, 2, 3, 4, 5, 6, 7, 8, 9, 10, 11, 12, 13] rfl
                                    have hD := hD.sub (ws' := wM mo ma mb mc md me mf mg mh mi mj mk ml mn cI cZ n q c w q ev num plc sig pad row_167 dig_167 (aN v3) cfr cby que has img kep) [0, 1, 2, 3, 4, 5, 6, 7, 8, 9, 10, 11, 12, 13] (by decide) rfl
                                    have hK := va_K.moved (Vm.Alike.refl Gs.vm) hK
                                    generalize H1 = H at hP hS ⊢
                                    obtain ⟨C, aC, eC, hrw⟩ := lay_cod hq7 hij hw.1 hw.2 (show kk < fac q by omega)
                                    refine lv_aload_n gx gb dX9_week_170 rfl (lv_at hl 4 rfl) ?_
                                    refine va_get (D := D) (ci := 4) (v := .ref mg) (C := RX9) (T := TX9) (N := 19) gx gb gts i9 gown hK hP 0 rfl rfl 12 (by decide) (gts (.fieldLink RX9 35 "SwanSumsModel" "far" "[I") (by decide +kernel)) (fun _ h9 => h9) rfl dX9_week_171 ?_
                                    refine lv_iload gx gb dX9_week_174 (lv_at hl 1 rfl) ?_
                                    have L202 : ∀ (x : Nat) (hxx : x = if tkW num plc q s k jj C = true then v3 kk else 1000000), ∀ (H : Heap) (locs : List Loc), va_P D vwCl (wM mo ma mb mc md me mf mg mh mi mj mk ml mn cI cZ n q c w q ev num plc sig pad row_167 dig_167 (aN v3) cfr cby que has img kep) H → va_D A (wM mo ma mb mc md me mf mg mh mi mj mk ml mn cI cZ n q c w q ev num plc sig pad row_167 dig_167 (aN v3) cfr cby que has img kep) → va_S A Gs.heap H locs → ∀ ls : Array Slot, lv_has ls 7 [(4, .int (nI l2)), (6, .int (nI kk)), (5, .int (nI (10 ^ k / 10 ^ (jj + 1)))), (3, .int (nI (10 ^ k))), (0, .ref mo), (1, .int (nI s)), (2, .int (zI b))] → W Gp Gl Ge (headSpec wsX9_week ({ frames := 5, cells := 0, slots := 0, locals := 113 } : Room)).room Gs Gm ([.ref mo, .int (zI a), .int (zI b)] : List Value).toArray Gw Gt Gc H locs 0 0 (MQ Gw (va_Qi (fun (r : Int32) (u : (Nat → Int32) × (Nat → Nat) × (Nat → Nat) × (Nat)) => ∃ zz : Int, r = zI zz ∧ wekR num plc q a b zz) (fun (u : (Nat → Int32) × (Nat → Nat) × (Nat → Nat) × (Nat)) t => va_P D vwCl (wM mo ma mb mc md me mf mg mh mi mj mk ml mn cI cZ n q c w u.2.2.2 ev num plc sig pad u.2.1 u.2.2.1 u.1 cfr cby que has img kep) t.heap ∧ va_K D vwCl [(cI, .int), (cJ, .long), (cZ, .boolean)] t ∧ va_D A (wM mo ma mb mc md me mf mg mh mi mj mk ml mn cI cZ n q c w u.2.2.2 ev num plc sig pad u.2.1 u.2.2.1 u.1 cfr cby que has img kep)) A) ([.ref mo, .int (zI a), .int (zI b)] : List Value).toArray Gs 0 0 A) (F0 Gm 202 ls [.int (nI x), .int (nI kk), .ref mg]) := by
                                      intro x hxx H locs hP hD hS ls hl
                                      have hxb : x ≤ 1000000 := by rw [hxx]; split; exact hvb6 kk (by omega); exact Nat.le_refl _
                                      refine va_iast gx gb hK hP hD hS 7 0 rfl rfl (vp_in_nI (n := kk) (by omega) (by decide)) dX9_week_202 (fun H locs hP hD hS => ?_)
                                      rw [aN_st v3 x (by omega)] at hP hD
                                      have hP : va_P D vwCl (wM mo ma mb mc md me mf mg mh mi mj mk ml mn cI cZ n q c w q ev num plc sig pad row_167 dig_167 (aN (up v3 kk x)) cfr cby que has img kep) H := hP
                                      have hD : va_D A (wM mo ma mb mc md me mf mg mh mi mj mk ml mn cI cZ n q c w q ev num plc sig pad row_167 dig_167 (aN (up v3 kk x)) cfr cby que has img kep) := hD
                                      have L227 : ∀ (y : Nat) (hyy : y = if up v3 kk x kk < l2 then up v3 kk x kk else l2), ∀ (H : Heap) (locs : List Loc), va_P D vwCl (wM mo ma mb mc md me mf mg mh mi mj mk ml mn cI cZ n q c w q ev num plc sig pad row_167 dig_167 (aN (up v3 kk x)) cfr cby que has img kep) H → va_D A (wM mo ma mb mc md me mf mg mh mi mj mk ml mn cI cZ n q c w q ev num plc sig pad row_167 dig_167 (aN (up v3 kk x)) cfr cby que has img kep) → va_S A Gs.heap H locs → ∀ ls : Array Slot, lv_has ls 7 [(4, .int (nI l2)), (6, .int (nI kk)), (5, .int (nI (10 ^ k / 10 ^ (jj + 1)))), (3, .int (nI (10 ^ k))), (0, .ref mo), (1, .int (nI s)), (2, .int (zI b))] → W Gp Gl Ge (headSpec wsX9_week ({ frames := 5, cells := 0, slots := 0, locals := 113 } : Room)).room Gs Gm ([.ref mo, .int (zI a), .int (zI b)] : List Value).toArray Gw Gt Gc H locs 0 0 (MQ Gw (va_Qi (fun (r : Int32) (u : (Nat → Int32) × (Nat → Nat) × (Nat → Nat) × (Nat)) => ∃ zz : Int, r = zI zz ∧ wekR num plc q a b zz) (fun (u : (Nat → Int32) × (Nat → Nat) × (Nat → Nat) × (Nat)) t => va_P D vwCl (wM mo ma mb mc md me mf mg mh mi mj mk ml mn cI cZ n q c w u.2.2.2 ev num plc sig pad u.2.1 u.2.2.1 u.1 cfr cby que has img kep) t.heap ∧ va_K D vwCl [(cI, .int), (cJ, .long), (cZ, .boolean)] t ∧ va_D A (wM mo ma mb mc md me mf mg mh mi mj mk ml mn cI cZ n q c w u.2.2.2 ev num plc sig pad u.2.1 u.2.2.1 u.1 cfr cby que has img kep)) A) ([.ref mo, .int (zI a), .int (zI b)] : List Value).toArray Gs 0 0 A) (F0 Gm 227 ls [.int (nI y)]) := by
                                        intro y hyy H locs hP hD hS ls hl
                                        refine lv_istore (lv' := [(4, .int (nI y)), (6, .int (nI kk)), (5, .int (nI (10 ^ k / 10 ^ (jj + 1)))), (3, .int (nI (10 ^ k))), (0, .ref mo), (1, .int (nI s)), (2, .int (zI b))]) gx gb dX9_week_227 hl (by decide) rfl (fun ls hl => ?_)
                                        refine lv_iinc (v := nI (kk + 1)) (lv' := [(6, .int (nI (kk + 1))), (4, .int (nI y)), (5, .int (nI (10 ^ k / 10 ^ (jj + 1)))), (3, .int (nI (10 ^ k))), (0, .ref mo), (1, .int (nI s)), (2, .int (zI b))]) gx gb dX9_week_229 hl (k := 1) rfl (nI_add kk 1) (by decide) rfl (fun ls hl => ?_)
                                        refine lv_goto (tgt := 155) gx gb dX9_week_232 (by decide) ?_
                                        exact ih155 (kk + 1) y (up v3 kk x) row_167 dig_167 q (by omega) (by exact wkL_s hq7 hij hL aC eC hxx hyy) (by intro r hr; simp only [up]; split; exact hxb; exact hvb6 r hr) (by omega) _ _ hP hD hS ls (lv_sub hl [1, 0, 2, 3, 4, 5, 6] rfl)
                                      have hux : up v3 kk x kk = x := up_s _ _ _
                                      refine lv_aload_n gx gb dX9_week_203 rfl (lv_at hl 4 rfl) ?_
                                      refine va_get (D := D) (ci := 4) (v := .ref mg) (C := RX9) (T := TX9) (N := 19) gx gb gts i9 gown hK hP 0 rfl rfl 12 (by decide) (gts (.fieldLink RX9 35 "SwanSumsModel" "far" "[I") (by decide +kernel)) (fun _ h9 => h9) rfl dX9_week_204 ?_
                                      refine lv_iload gx gb dX9_week_207 (lv_at hl 1 rfl) ?_
                                      refine va_iald gx gb hK hP 7 0 rfl rfl (vp_in_nI (n := kk) (by omega) (by decide)) dX9_week_209 ?_
                                      refine lv_evi (nI ((up v3 kk x) kk)) (aN_rd (up v3 kk x) (by omega)) ?_
                                      refine lv_iload gx gb dX9_week_210 (lv_at hl 0 rfl) ?_
                                      refine lv_icmp_ge (tgt := 225) gx gb dX9_week_212 (by decide) (fun c212 => ?_) (fun c212 => ?_)
                                      · skip
                                        rw [nI_leI (by omega) (by omega)] at c212
                                        refine lv_iload gx gb dX9_week_225 (lv_at hl 0 rfl) ?_
                                        exact L227 l2 (by first | (rw [if_pos (by omega)]; done) | (rw [if_neg (by omega)])) _ _ hP hD hS ls (lv_sub hl [0, 1, 2, 3, 4, 5, 6] rfl)
                                      · skip
                                        rw [nI_leI (by omega) (by omega)] at c212
                                        refine lv_aload_n gx gb dX9_week_215 rfl (lv_at hl 4 rfl) ?_
                                        refine va_get (D := D) (ci := 4) (v := .ref mg) (C := RX9) (T := TX9) (N := 19) gx gb gts i9 gown hK hP 0 rfl rfl 12 (by decide) (gts (.fieldLink RX9 35 "SwanSumsModel" "far" "[I") (by decide +kernel)) (fun _ h9 => h9) rfl dX9_week_216 ?_
                                        refine lv_iload gx gb dX9_week_219 (lv_at hl 1 rfl) ?_
                                        refine va_iald gx gb hK hP 7 0 rfl rfl (vp_in_nI (n := kk) (by omega) (by decide)) dX9_week_221 ?_
                                        refine lv_evi (nI ((up v3 kk x) kk)) (aN_rd (up v3 kk x) (by omega)) ?_
                                        refine lv_goto (tgt := 227) gx gb dX9_week_222 (by decide) ?_
                                        exact L227 ((up v3 kk x) kk) (by first | (rw [if_pos (by omega)]; done) | (rw [if_neg (by omega)])) _ _ hP hD hS ls (lv_sub hl [0, 1, 2, 3, 4, 5, 6] rfl)
                                    refine lv_aload_n gx gb dX9_week_176 rfl (lv_at hl 4 rfl) ?_
                                    refine lv_iload_n gx gb dX9_week_177 rfl (lv_at hl 5 rfl) ?_
                                    refine lv_iload gx gb dX9_week_178 (lv_at hl 2 rfl) ?_
                                    refine lv_idiv gx gb dX9_week_180 (nI_ne0 (by omega) (by omega)) ?_
                                    refine lv_evi (nI (s / (10 ^ k / 10 ^ (jj + 1)))) (e_div (by omega) (by omega) (by omega)) ?_
                                    refine lv_bipush (v := nI 10) gx gb dX9_week_181 (by decide) ?_
                                    refine lv_irem gx gb dX9_week_183 (nI_ne0 (by omega) (by omega)) ?_
                                    refine lv_evi (nI ((s / (10 ^ k / 10 ^ (jj + 1))) % 10)) (e_rem (by omega) (by omega) (by omega)) ?_
                                    refine lv_evi (nI (dg 10 s (k - 1 - jj))) (congrArg nI (by rw [hpl2.1]; rfl)) ?_
                                    have hPc := hP.sub (ws' := wM mo ma mb mc md me mf mg mh mi mj mk ml mn cI cZ n q c w q ev num plc sig pad row_167 dig_167 (aN v3) cfr cby que has img kep) [0, 1, 2, 3, 4, 5, 6, 7, 8, 9, 10, 11, 12, 13] rfl
                                    refine vp_callSi (W.runV (As := [.int (nI (dg 10 s (k - 1 - jj)))]) (rest := [.int (nI kk), .ref mg]) ⟨gx, gb, gml, gown, gts⟩ (kX9_isTaught Gl D cI cJ cZ mo ma mb mc md me mf mg mh mi mj mk ml mn n q c w q ev num plc sig pad row_167 dig_167 (aN v3) cfr cby que has img kep (dg 10 s (k - 1 - jj)) (by exact h7k _ (by omega)) (by omega) (by omega) (by intro p hp; rw [← hrw p hp]; exact hpl _ (arr_lt aC hq7 p hp)) (by intro p hp; rw [← hrw p hp]; exact hnv _ (arr_lt aC hq7 p hp))) (cwV 1 gts gX9_week_X9_isTaught rfl rfl rfl (by decide +kernel) ⟨Nat.le_of_ble_eq_true rfl, Nat.le_of_ble_eq_true rfl⟩) ⟨fun a U g mk q => ⟨q.1, q.2.1, va_K.moved (u := U) (U := U.calling g mk a) (Vm.Alike.refl U.vm) q.2.2⟩, va_recv hK hPc (ci := 4) (q0 := 0) rfl rfl, fun U hU hW => ⟨rfl, by rw [hU]; exact hPc, va_K.moved hW.alike hK⟩⟩ rfl rfl hl.1 rfl (lv_room (Nat.le_of_ble_eq_true rfl)) dX9_week_184 ⟨Nat.le_of_ble_eq_true rfl, Nat.le_of_ble_eq_true rfl⟩) (fun r hw => ?_)
                                    have hr184 := hw
                                    subst hr184
                                    refine lv_evi (bI (tkW num plc q s k jj C)) (congrArg bI (tau_cong hq1 (fun x hx => congrArg num (hrw x hx).symm))) ?_
                                    refine lv_if_eq (tgt := 200) gx gb dX9_week_187 (by decide) (fun c187 => ?_) (fun c187 => ?_)
                                    · skip
                                      rw [b0_eq] at c187
                                      refine lv_ldc (v := (1000000)) gx gb gown (gts (.constant RX9 158 (1000000)) (by decide +kernel)) dX9_week_200 ?_
                                      refine lv_evi (nI 1000000) (rfl) ?_
                                      exact L202 1000000 (by first | (rw [if_pos c187]; done) | (rw [if_neg (by rw [c187]; decide)])) _ _ hP hD hS ls (lv_sub hl [0, 1, 2, 3, 4, 5, 6] rfl)
                                    · skip
                                      rw [b0_eq] at c187
                                      have c187 := nf_t c187
                                      have hvk6 := hvb6 kk (by omega)
                                      refine lv_aload_n gx gb dX9_week_190 rfl (lv_at hl 4 rfl) ?_
                                      refine va_get (D := D) (ci := 4) (v := .ref mg) (C := RX9) (T := TX9) (N := 19) gx gb gts i9 gown hK hP 0 rfl rfl 12 (by decide) (gts (.fieldLink RX9 35 "SwanSumsModel" "far" "[I") (by decide +kernel)) (fun _ h9 => h9) rfl dX9_week_191 ?_
                                      refine lv_iload gx gb dX9_week_194 (lv_at hl 1 rfl) ?_
                                      refine va_iald gx gb hK hP 7 0 rfl rfl (vp_in_nI (n := kk) (by omega) (by decide)) dX9_week_196 ?_
                                      refine lv_evi (nI (v3 kk)) (aN_rd v3 (by omega)) ?_
                                      refine lv_goto (tgt := 202) gx gb dX9_week_197 (by decide) ?_
                                      exact L202 (v3 kk) (by first | (rw [if_pos c187]; done) | (rw [if_neg (by rw [c187]; decide)])) _ _ hP hD hS ls (lv_sub hl [0, 1, 2, 3, 4, 5, 6] rfl)
                              exact L155 _ 0 1000000 v_145 row_145 dig_145 z_145 (by omega) (by exact wkL_0 _ _ _ _) (by exact hvb5) (Nat.lt_succ_self _) _ _ hP hD hS ls (lv_sub hl [1, 0, 2, 3, 4, 5, 6] rfl)
                        exact L139 _ 0 1000000 (up v_ (rkC plc q (cod q idn)) 0) (cpy plc row 7) dig q (by omega) (by exact wkS_0 hq7 hij (fun r hr => hfi r (by omega))) (by intro r hr; simp only [up]; split; omega; exact Nat.le_of_eq (hfi r (by omega))) (Nat.lt_succ_self _) _ _ hP hD hS ls (lv_sub hl [1, 0, 2, 3, 4, 5] rfl)
                      · skip
                        rw [nI_leI (by omega) (by omega)] at c97
                        refine lv_aload_n gx gb dX9_week_100 rfl (lv_at hl 2 rfl) ?_
                        refine va_get (D := D) (ci := 4) (v := .ref mg) (C := RX9) (T := TX9) (N := 19) gx gb gts i9 gown hK hP 0 rfl rfl 12 (by decide) (gts (.fieldLink RX9 35 "SwanSumsModel" "far" "[I") (by decide +kernel)) (fun _ h9 => h9) rfl dX9_week_101 ?_
                        refine lv_iload gx gb dX9_week_104 (lv_at hl 0 rfl) ?_
                        refine lv_ldc (v := (1000000)) gx gb gown (gts (.constant RX9 158 (1000000)) (by decide +kernel)) dX9_week_106 ?_
                        refine lv_evi (nI 1000000) (rfl) ?_
                        refine va_iast gx gb hK hP hD hS 7 0 rfl rfl (vp_in_nI (n := i) (by omega) (by decide)) dX9_week_108 (fun H locs hP hD hS => ?_)
                        rw [aN_st v_ 1000000 (by omega)] at hP hD
                        have hP : va_P D vwCl (wM mo ma mb mc md me mf mg mh mi mj mk ml mn cI cZ n q c w z ev num plc sig pad row dig (aN (up v_ i 1000000)) cfr cby que has img kep) H := hP
                        have hD : va_D A (wM mo ma mb mc md me mf mg mh mi mj mk ml mn cI cZ n q c w z ev num plc sig pad row dig (aN (up v_ i 1000000)) cfr cby que has img kep) := hD
                        refine lv_iinc (v := nI (i + 1)) (lv' := [(4, .int (nI (i + 1))), (3, .int (nI (10 ^ k))), (0, .ref mo), (1, .int (nI s)), (2, .int (zI b))]) gx gb dX9_week_109 hl (k := 0) rfl (nI_add i 1) (by decide) rfl (fun ls hl => ?_)
                        refine lv_goto (tgt := 92) gx gb dX9_week_112 (by decide) ?_
                        exact ih92 (i + 1) (up v_ i 1000000) (by omega) (by intro x hx; simp only [up]; split; rfl; exact hfi x (by omega)) (by omega) _ _ hP hD hS ls (lv_sub hl [0, 1, 2, 3, 4] rfl)
                  exact L92 _ 0 (fun x_ => (far x_).toBitVec.toNat) (by omega) (by intro x hx; exact absurd hx (Nat.not_lt_zero _)) (Nat.lt_succ_self _) _ _ hP hD hS ls (lv_sub hl [0, 1, 2, 3, 4] rfl)
                · skip
                  rw [nI_leI (by omega) (by omega)] at c60
                  have hdg : dg 10 s j < 10 := Nat.mod_lt _ (by omega)
                  have hsd := Nat.div_le_self s (10 ^ j)
                  refine lv_iload_n gx gb dX9_week_63 rfl (lv_at hl 3 rfl) ?_
                  refine lv_iload gx gb dX9_week_64 (lv_at hl 0 rfl) ?_
                  refine lv_idiv gx gb dX9_week_66 (nI_ne0 (by omega) (by omega)) ?_
                  refine lv_evi (nI (s / (10 ^ j))) (e_div (by omega) (by omega) (by omega)) ?_
                  refine lv_bipush (v := nI 10) gx gb dX9_week_67 (by decide) ?_
                  refine lv_irem gx gb dX9_week_69 (nI_ne0 (by omega) (by omega)) ?_
                  refine lv_evi (nI ((s / (10 ^ j)) % 10)) (e_rem (by omega) (by omega) (by omega)) ?_
                  refine lv_evi (nI (dg 10 s j)) (rfl) ?_
                  refine lv_evs [.int (zI ((dg 10 s j : Nat) : Int))] (by simp only [nI_zc]) ?_
                  refine vp_callSi (W.runS (As := [.int (zI ((dg 10 s j : Nat) : Int))]) (rest := []) ⟨gx, gb, gml, gown, gts⟩ (kX9_isLesson Gl ((dg 10 s j : Nat) : Int) (by omega) (by omega)) (va_cwS 1 gts gX9_week_X9_isLesson rfl rfl rfl (by decide +kernel) ⟨Nat.le_of_ble_eq_true rfl, Nat.le_of_ble_eq_true rfl⟩) ⟨fun _ _ _ _ h => h, fun U hU hW => ⟨rfl, trivial⟩⟩ rfl rfl hl.1 rfl (lv_room (Nat.le_of_ble_eq_true rfl)) dX9_week_70 ⟨Nat.le_of_ble_eq_true rfl, Nat.le_of_ble_eq_true rfl⟩) (fun r hw => ?_)
                  have hr70 := hw
                  subst hr70
                  refine lv_if_ne (tgt := 79) gx gb dX9_week_73 (by decide) (fun c73 => ?_) (fun c73 => ?_)
                  · skip
                    rw [b0_eq] at c73
                    simp only [decide_eq_false_iff_not, Decidable.not_not] at c73
                    refine lv_iload gx gb dX9_week_79 (lv_at hl 0 rfl) ?_
                    refine lv_bipush (v := nI 10) gx gb dX9_week_81 (by decide) ?_
                    refine lv_imul gx gb dX9_week_83 ?_
                    refine lv_evi (nI ((10 ^ j) * 10)) (pk_mul (10 ^ j) 10) ?_
                    refine lv_istore (lv' := [(4, .int (nI ((10 ^ j) * 10))), (3, .int (nI (10 ^ k))), (0, .ref mo), (1, .int (nI s)), (2, .int (zI b))]) gx gb dX9_week_84 hl (by decide) rfl (fun ls hl => ?_)
                    refine lv_goto (tgt := 57) gx gb dX9_week_86 (by decide) ?_
                    exact ih57 (j + 1) (by omega) (by intro x hx; rcases Nat.lt_or_ge x j with h9 | h9; exact h7 x h9; rw [show x = j by omega]; omega) (by omega) _ _ hP hD hS ls (lv_sub hl [0, 1, 2, 3, 4] rfl)
                  · skip
                    rw [b0_eq] at c73
                    simp only [decide_eq_false_iff_not, Decidable.not_not] at c73
                    refine lv_bipush (v := zI (-2)) gx gb dX9_week_76 (by decide) ?_
                    exact W.iret (v := zI (-2)) gx gb gr (fun t ht hW => ⟨⟨zI (-2), (far, row, dig, z), rfl, (by first | (dsimp only; done) | ((try dsimp only); exact ⟨-2, rfl, wekR_n (fun h9 => by have h8 := h9.2.2 j (by omega); rw [show a.toNat = s by omega] at h8; omega)⟩)), by rw [ht]; exact hP, va_K.moved hW.alike hK, hD⟩, hS.F ht⟩) hS.2.2 dX9_week_78
            exact L57 _ 0 (by omega) (by intro x hx; exact absurd hx (Nat.not_lt_zero _)) (Nat.lt_succ_self _) _ _ hP hD hS ls (lv_sub hl [0, 1, 2, 3, 4] rfl)
          · skip
            rw [b0_eq] at c48
            simp only [decide_eq_false_iff_not, Decidable.not_not] at c48
            refine lv_bipush (v := zI (-2)) gx gb dX9_week_51 (by decide) ?_
            exact W.iret (v := zI (-2)) gx gb gr (fun t ht hW => ⟨⟨zI (-2), (far, row, dig, z), rfl, (by first | (dsimp only; done) | ((try dsimp only); exact ⟨-2, rfl, wekR_n (fun h9 => by have h8 := h9.1; have h7 := h9.2.1; first | omega | (rw [show b.toNat = k by omega] at h7; omega))⟩)), by rw [ht]; exact hP, va_K.moved hW.alike hK, hD⟩, hS.F ht⟩) hS.2.2 dX9_week_53
      · skip
        rw [zn_le (by omega) (by omega) (by omega)] at c8
        refine lv_iload_n gx gb dX9_week_11 rfl (lv_at hl 4 rfl) ?_
        refine lv_iconst (v := nI 1) gx gb dX9_week_12 (by decide) ?_
        refine lv_iconst (v := nI 4) gx gb dX9_week_13 (by decide) ?_
        refine lv_evs [.int (zI ((4 : Nat) : Int)), .int (zI ((1 : Nat) : Int)), .int (zI b)] (by simp only [nI_zc]) ?_
        refine vp_callSi (W.runS (As := [.int (zI b), .int (zI ((1 : Nat) : Int)), .int (zI ((4 : Nat) : Int))]) (rest := []) ⟨gx, gb, gml, gown, gts⟩ (kX9_in Gl b ((1 : Nat) : Int) ((4 : Nat) : Int) (by omega) (by omega) (by omega) (by omega) (by omega) (by omega)) (va_cwS 3 gts gX9_week_X9_in rfl rfl rfl (by decide +kernel) ⟨Nat.le_of_ble_eq_true rfl, Nat.le_of_ble_eq_true rfl⟩) ⟨fun _ _ _ _ h => h, fun U hU hW => ⟨rfl, trivial⟩⟩ rfl rfl hl.1 rfl (lv_room (Nat.le_of_ble_eq_true rfl)) dX9_week_14 ⟨Nat.le_of_ble_eq_true rfl, Nat.le_of_ble_eq_true rfl⟩) (fun r hw => ?_)
        have hr14 := hw
        subst hr14
        refine lv_if_eq (tgt := 31) gx gb dX9_week_17 (by decide) (fun c17 => ?_) (fun c17 => ?_)
        · skip
          rw [b0_eq] at c17
          simp only [decide_eq_false_iff_not, Decidable.not_not] at c17
          refine lv_iload_n gx gb dX9_week_31 rfl (lv_at hl 4 rfl) ?_
          refine lv_iconst (v := nI 1) gx gb dX9_week_32 (by decide) ?_
          refine lv_iconst (v := nI 4) gx gb dX9_week_33 (by decide) ?_
          refine lv_evs [.int (zI ((4 : Nat) : Int)), .int (zI ((1 : Nat) : Int)), .int (zI b)] (by simp only [nI_zc]) ?_
          refine vp_callSi (W.runS (As := [.int (zI b), .int (zI ((1 : Nat) : Int)), .int (zI ((4 : Nat) : Int))]) (rest := []) ⟨gx, gb, gml, gown, gts⟩ (kX9_in Gl b ((1 : Nat) : Int) ((4 : Nat) : Int) (by omega) (by omega) (by omega) (by omega) (by omega) (by omega)) (va_cwS 3 gts gX9_week_X9_in rfl rfl rfl (by decide +kernel) ⟨Nat.le_of_ble_eq_true rfl, Nat.le_of_ble_eq_true rfl⟩) ⟨fun _ _ _ _ h => h, fun U hU hW => ⟨rfl, trivial⟩⟩ rfl rfl hl.1 rfl (lv_room (Nat.le_of_ble_eq_true rfl)) dX9_week_34 ⟨Nat.le_of_ble_eq_true rfl, Nat.le_of_ble_eq_true rfl⟩) (fun r hw => ?_)
          have hr34 := hw
          subst hr34
          refine lv_if_eq (tgt := 51) gx gb dX9_week_37 (by decide) (fun c37 => ?_) (fun c37 => ?_)
          · skip
            rw [b0_eq] at c37
            simp only [decide_eq_false_iff_not, Decidable.not_not] at c37
            refine lv_bipush (v := zI (-2)) gx gb dX9_week_51 (by decide) ?_
            exact W.iret (v := zI (-2)) gx gb gr (fun t ht hW => ⟨⟨zI (-2), (far, row, dig, z), rfl, (by first | (dsimp only; done) | ((try dsimp only); exact ⟨-2, rfl, wekR_n (fun h9 => by have h8 := h9.1; have h7 := h9.2.1; first | omega | (rw [show b.toNat = k by omega] at h7; omega))⟩)), by rw [ht]; exact hP, va_K.moved hW.alike hK, hD⟩, hS.F ht⟩) hS.2.2 dX9_week_53
          · skip
            rw [b0_eq] at c37
            simp only [decide_eq_false_iff_not, Decidable.not_not] at c37
            have hbk : b = (k : Int) := by omega
            refine lv_iload_n gx gb dX9_week_40 rfl (lv_at hl 3 rfl) ?_
            refine lv_iconst (v := nI 0) gx gb dX9_week_41 (by decide) ?_
            refine lv_iload_n gx gb dX9_week_42 rfl (lv_at hl 0 rfl) ?_
            refine lv_iconst (v := nI 1) gx gb dX9_week_43 (by decide) ?_
            refine lv_isub gx gb dX9_week_44 ?_
            refine lv_evi (nI ((10 ^ k) - 1)) (e_sub (by omega)) ?_
            refine lv_evs [.int (zI (((10 ^ k) - 1 : Nat) : Int)), .int (zI ((0 : Nat) : Int)), .int (zI a)] (by simp only [nI_zc]) ?_
            refine vp_callSi (W.runS (As := [.int (zI a), .int (zI ((0 : Nat) : Int)), .int (zI (((10 ^ k) - 1 : Nat) : Int))]) (rest := []) ⟨gx, gb, gml, gown, gts⟩ (kX9_in Gl a ((0 : Nat) : Int) (((10 ^ k) - 1 : Nat) : Int) (by omega) (by omega) (by omega) (by omega) (by omega) (by omega)) (va_cwS 3 gts gX9_week_X9_in rfl rfl rfl (by decide +kernel) ⟨Nat.le_of_ble_eq_true rfl, Nat.le_of_ble_eq_true rfl⟩) ⟨fun _ _ _ _ h => h, fun U hU hW => ⟨rfl, trivial⟩⟩ rfl rfl hl.1 rfl (lv_room (Nat.le_of_ble_eq_true rfl)) dX9_week_45 ⟨Nat.le_of_ble_eq_true rfl, Nat.le_of_ble_eq_true rfl⟩) (fun r hw => ?_)
            have hr45 := hw
            subst hr45
            refine lv_if_ne (tgt := 54) gx gb dX9_week_48 (by decide) (fun c48 => ?_) (fun c48 => ?_)
            · skip
              rw [b0_eq] at c48
              simp only [decide_eq_false_iff_not, Decidable.not_not] at c48
              obtain ⟨s, hs⟩ : ∃ s : Nat, a = (s : Int) := ⟨a.toNat, by omega⟩
              rw [show zI a = nI s from by rw [hs, zI_nat]] at hl
              have hsl : s < 10 ^ k := by omega
              have hl : lv_has ls 7 [(3, .int (nI (10 ^ k))), (4, .int (nI k)), (0, .ref mo), (1, .int (nI s)), (2, .int (zI b))] := hl
              refine lv_iconst (v := nI 1) gx gb dX9_week_54 (by decide) ?_
              refine lv_istore (lv' := [(4, .int (nI 1)), (3, .int (nI (10 ^ k))), (0, .ref mo), (1, .int (nI s)), (2, .int (zI b))]) gx gb dX9_week_55 hl (by decide) rfl (fun ls hl => ?_)
              have L57 : ∀ fu : Nat, ∀ (j : Nat) (hj : j ≤ k) (h7 : ∀ x, x < j → dg 10 s x ≤ 6), (k - j) < fu → ∀ (H : Heap) (locs : List Loc), va_P D vwCl (wM mo ma mb mc md me mf mg mh mi mj mk ml mn cI cZ n q c w z ev num plc sig pad row dig far cfr cby que has img kep) H → va_D A (wM mo ma mb mc md me mf mg mh mi mj mk ml mn cI cZ n q c w z ev num plc sig pad row dig far cfr cby que has img kep) → va_S A Gs.heap H locs → ∀ ls : Array Slot, lv_has ls 7 [(4, .int (nI (10 ^ j))), (3, .int (nI (10 ^ k))), (0, .ref mo), (1, .int (nI s)), (2, .int (zI b))] → W Gp Gl Ge (headSpec wsX9_week ({ frames := 5, cells := 0, slots := 0, locals := 113 } : Room)).room Gs Gm ([.ref mo, .int (zI a), .int (zI b)] : List Value).toArray Gw Gt Gc H locs 0 0 (MQ Gw (va_Qi (fun (r : Int32) (u : (Nat → Int32) × (Nat → Nat) × (Nat → Nat) × (Nat)) => ∃ zz : Int, r = zI zz ∧ wekR num plc q a b zz) (fun (u : (Nat → Int32) × (Nat → Nat) × (Nat → Nat) × (Nat)) t => va_P D vwCl (wM mo ma mb mc md me mf mg mh mi mj mk ml mn cI cZ n q c w u.2.2.2 ev num plc sig pad u.2.1 u.2.2.1 u.1 cfr cby que has img kep) t.heap ∧ va_K D vwCl [(cI, .int), (cJ, .long), (cZ, .boolean)] t ∧ va_D A (wM mo ma mb mc md me mf mg mh mi mj mk ml mn cI cZ n q c w u.2.2.2 ev num plc sig pad u.2.1 u.2.2.1 u.1 cfr cby que has img kep)) A) ([.ref mo, .int (zI a), .int (zI b)] : List Value).toArray Gs 0 0 A) (F0 Gm 57 ls []) := by
                intro fu
                induction fu with
                | zero => intro j hj h7 hfu; exact absurd hfu (Nat.not_lt_zero _)
                | succ fu ih57 =>
                  intro j hj h7 hfu H locs hP hD hS ls hl
                  have hpj := pw_4 (show j ≤ 4 by omega)
                  have hpj0 : 0 < 10 ^ j := Nat.pow_pos (by omega)
                  have hjk := pw_in (m := k) (j := j)
                  refine lv_iload gx gb dX9_week_57 (lv_at hl 0 rfl) ?_
                  refine lv_iload_n gx gb dX9_week_59 rfl (lv_at hl 1 rfl) ?_
                  refine lv_icmp_ge (tgt := 89) gx gb dX9_week_60 (by decide) (fun c60 => ?_) (fun c60 => ?_)
                  · skip
                    rw [nI_leI (by omega) (by omega)] at c60
                    have h7k : ∀ x, x < k → dg 10 s x ≤ 6 := fun x hx => h7 x (by omega)
                    have e_far : far = (aN (fun x_ => (far x_).toBitVec.toNat)) := by exact aN_of far
                    have hP : va_P D vwCl (wM mo ma mb mc md me mf mg mh mi mj mk ml mn cI cZ n q c w z ev num plc sig pad row dig (aN (fun x_ => (far x_).toBitVec.toNat)) cfr cby que has img kep) H := by rw [← e_far]; exact hP
                    have hD : va_D A (wM mo ma mb mc md me mf mg mh mi mj mk ml mn cI cZ n q c w z ev num plc sig pad row dig (aN (fun x_ => (far x_).toBitVec.toNat)) cfr cby que has img kep) := by rw [← e_far]; exact hD
                    refine lv_iconst (v := nI 0) gx gb dX9_week_89 (by decide) ?_
                    refine lv_istore (lv' := [(4, .int (nI 0)), (3, .int (nI (10 ^ k))), (0, .ref mo), (1, .int (nI s)), (2, .int (zI b))]) gx gb dX9_week_90 hl (by decide) rfl (fun ls hl => ?_)
                    have L92 : ∀ fu : Nat, ∀ (i : Nat) (v_ : Nat → Nat) (hi : i ≤ 5040) (hfi : ∀ x, x < i → v_ x = 1000000), (5040 - i) < fu → ∀ (H : Heap) (locs : List Loc), va_P D vwCl (wM mo ma mb mc md me mf mg mh mi mj mk ml mn cI cZ n q c w z ev num plc sig pad row dig (aN v_) cfr cby que has img kep) H → va_D A (wM mo ma mb mc md me mf mg mh mi mj mk ml mn cI cZ n q c w z ev num plc sig pad row dig (aN v_) cfr cby que has img kep) → va_S A Gs.heap H locs → ∀ ls : Array Slot, lv_has ls 7 [(4, .int (nI i)), (3, .int (nI (10 ^ k))), (0, .ref mo), (1, .int (nI s)), (2, .int (zI b))] → W Gp Gl Ge (headSpec wsX9_week ({ frames := 5, cells := 0, slots := 0, locals := 113 } : Room)).room Gs Gm ([.ref mo, .int (zI a), .int (zI b)] : List Value).toArray Gw Gt Gc H locs 0 0 (MQ Gw (va_Qi (fun (r : Int32) (u : (Nat → Int32) × (Nat → Nat) × (Nat → Nat) × (Nat)) => ∃ zz : Int, r = zI zz ∧ wekR num plc q a b zz) (fun (u : (Nat → Int32) × (Nat → Nat) × (Nat → Nat) × (Nat)) t => va_P D vwCl (wM mo ma mb mc md me mf mg mh mi mj mk ml mn cI cZ n q c w u.2.2.2 ev num plc sig pad u.2.1 u.2.2.1 u.1 cfr cby que has img kep) t.heap ∧ va_K D vwCl [(cI, .int), (cJ, .long), (cZ, .boolean)] t ∧ va_D A (wM mo ma mb mc md me mf mg mh mi mj mk ml mn cI cZ n q c w u.2.2.2 ev num plc sig pad u.2.1 u.2.2.1 u.1 cfr cby que has img kep)) A) ([.ref mo, .int (zI a), .int (zI b)] : List Value).toArray Gs 0 0 A) (F0 Gm 92 ls []) := by
                      intro fu
                      induction fu with
                      | zero => intro i v_ hi hfi hfu; exact absurd hfu (Nat.not_lt_zero _)
                      | succ fu ih92 =>
                        intro i v_ hi hfi hfu H locs hP hD hS ls hl
                        refine lv_iload gx gb dX9_week_92 (lv_at hl 0 rfl) ?_
                        refine lv_sipush (v := nI 5040) gx gb dX9_week_94 (by decide) ?_
                        refine lv_icmp_ge (tgt := 115) gx gb dX9_week_97 (by decide) (fun c97 => ?_) (fun c97 => ?_)
                        · skip
                          rw [nI_leI (by omega) (by omega)] at c97
                          refine lv_aload_n gx gb dX9_week_115 rfl (lv_at hl 2 rfl) ?_
                          have hPc := hP.sub (ws' := wM mo ma mb mc md me mf mg mh mi mj mk ml mn cI cZ n q c w z ev num plc sig pad row dig (aN v_) cfr cby que has img kep) [0, 1, 2, 3, 4, 5, 6, 7, 8, 9, 10, 11, 12, 13] rfl
                          have hDc := hD.sub (ws' := wM mo ma mb mc md me mf mg mh mi mj mk ml mn cI cZ n q c w z ev num plc sig pad row dig (aN v_) cfr cby que has img kep) [0, 1, 2, 3, 4, 5, 6, 7, 8, 9, 10, 11, 12, 13] (by decide) rfl
                          have hFc := va_free (wc := wM mo ma mb mc md me mf mg mh mi mj mk ml mn cI cZ n q c w z ev num plc sig pad row dig (aN v_) cfr cby que has img kep) hD hS hA [0, 1, 2, 3, 4, 5, 6, 7, 8, 9, 10, 11, 12, 13] rfl
                          refine va_callv (va_runV (As := []) (rest := []) ⟨gx, gb, gml, gown, gts⟩ (kX9_asNow Gl D cI cJ cZ mo ma mb mc md me mf mg mh mi mj mk ml mn n q c w z ev num plc sig pad row dig (aN v_) cfr cby que has img kep _  ) (cwV 0 gts gX9_week_X9_asNow rfl rfl rfl (by decide +kernel) ⟨Nat.le_of_ble_eq_true rfl, Nat.le_of_ble_eq_true rfl⟩) ⟨fun a U g mk q => by obtain ⟨q0, q1, qP, qK, qD⟩ := q; exact ⟨q0, q1, qP, va_K.moved (u := U) (U := U.calling g mk a) (Vm.Alike.refl U.vm) qK, qD⟩, va_recv hK hPc (ci := 4) (q0 := 0) rfl rfl, fun U hU hW => ⟨rfl, by rw [hU], by rw [hU]; exact hPc, va_K.moved hW.alike hK, hDc.weaken (fun _ _ _ _ => trivial)⟩⟩ rfl rfl hl.1 rfl (lv_room (Nat.le_of_ble_eq_true rfl)) dX9_week_116 ⟨Nat.le_of_ble_eq_true rfl, Nat.le_of_ble_eq_true rfl⟩) hS (fun q _ h => hFc q h) hFc (fun u t H1 locs ht hvm hw hB hz1 hk1 hS => ?_)
                          obtain ⟨hP1, hK1, hD1⟩ := hB
                          rw [ht] at hP1
                          try dsimp only at hw
                          try dsimp only at hP1
                          try dsimp only at hD1
                          have hK := va_K.moved hvm.symm hK1
                          obtain ⟨hP, hD⟩ := va_join (wr := []) (w1 := wM mo ma mb mc md me mf mg mh mi mj mk ml mn cI cZ n q c w q ev num plc sig pad (cpy plc row 7) dig (aN v_) cfr cby que has img kep) hP hD [0, 1, 2, 3, 4, 5, 6, 7, 8, 9, 10, 11, 12, 13] [] rfl rfl (by decide) (by decide) hk1 hFc hP1 hD1
                          have hP := hP.sub (ws' := wM mo ma mb mc md me mf mg mh mi mj mk ml mn cI cZ n q c w q ev num plc sig pad (cpy plc row 7) dig (aN v_) cfr cby que has img kep) [0, 1, 2, 3, 4, 5, 6, 7, 8, 9, 10, 11, 12, 13] rfl
                          have hD := hD.sub (ws' := wM mo ma mb mc md me mf mg mh mi mj mk ml mn cI cZ n q c w q ev num plc sig pad (cpy plc row 7) dig (aN v_) cfr cby que has img kep) [0, 1, 2, 3, 4, 5, 6, 7, 8, 9, 10, 11, 12, 13] (by decide) rfl
                          have hK := va_K.moved (Vm.Alike.refl Gs.vm) hK
                          generalize H1 = H at hP hS ⊢
                          refine lv_aload_n gx gb dX9_week_119 rfl (lv_at hl 2 rfl) ?_
                          refine va_get (D := D) (ci := 4) (v := .ref mg) (C := RX9) (T := TX9) (N := 19) gx gb gts i9 gown hK hP 0 rfl rfl 12 (by decide) (gts (.fieldLink RX9 35 "SwanSumsModel" "far" "[I") (by decide +kernel)) (fun _ h9 => h9) rfl dX9_week_120 ?_
                          refine lv_aload_n gx gb dX9_week_123 rfl (lv_at hl 2 rfl) ?_
                          have hPc := hP.sub (ws' := wM mo ma mb mc md me mf mg mh mi mj mk ml mn cI cZ n q c w q ev num plc sig pad (cpy plc row 7) dig (aN v_) cfr cby que has img kep) [0, 1, 2, 3, 4, 5, 6, 7, 8, 9, 10, 11, 12, 13] rfl
                          refine vp_callSi (W.runV (As := []) (rest := [.ref mg]) ⟨gx, gb, gml, gown, gts⟩ (kX9_rank Gl D cI cJ cZ mo ma mb mc md me mf mg mh mi mj mk ml mn n q c w q ev num plc sig pad (cpy plc row 7) dig (aN v_) cfr cby que has img kep  (by omega) (by intro x hx; rw [cpy7 _ _ (by omega)]; exact hpl x hx)) (cwV 0 gts gX9_week_X9_rank rfl rfl rfl (by decide +kernel) ⟨Nat.le_of_ble_eq_true rfl, Nat.le_of_ble_eq_true rfl⟩) ⟨fun a U g mk q => ⟨q.1, q.2.1, va_K.moved (u := U) (U := U.calling g mk a) (Vm.Alike.refl U.vm) q.2.2⟩, va_recv hK hPc (ci := 4) (q0 := 0) rfl rfl, fun U hU hW => ⟨rfl, by rw [hU]; exact hPc, va_K.moved hW.alike hK⟩⟩ rfl rfl hl.1 rfl (lv_room (Nat.le_of_ble_eq_true rfl)) dX9_week_124 ⟨Nat.le_of_ble_eq_true rfl, Nat.le_of_ble_eq_true rfl⟩) (fun r hw => ?_)
                          have hr124 := hw
                          subst hr124
                          refine lv_evi (nI (rkC plc q (cod q idn))) (congrArg nI ((rk_cong (fun i_ hi_ => cpy7 _ _ (by omega))).trans (rkC_id hq7).symm)) ?_
                          have hr0 := rkC_lt plc hq7 (cod q idn)
                          refine lv_iconst (v := nI 0) gx gb dX9_week_127 (by decide) ?_
                          refine va_iast gx gb hK hP hD hS 7 0 rfl rfl (vp_in_nI (n := rkC plc q (cod q idn)) (by omega) (by decide)) dX9_week_128 (fun H locs hP hD hS => ?_)
                          rw [aN_st v_ 0 (by omega)] at hP hD
                          have hP : va_P D vwCl (wM mo ma mb mc md me mf mg mh mi mj mk ml mn cI cZ n q c w q ev num plc sig pad (cpy plc row 7) dig (aN (up v_ (rkC plc q (cod q idn)) 0)) cfr cby que has img kep) H := hP
                          have hD : va_D A (wM mo ma mb mc md me mf mg mh mi mj mk ml mn cI cZ n q c w q ev num plc sig pad (cpy plc row 7) dig (aN (up v_ (rkC plc q (cod q idn)) 0)) cfr cby que has img kep) := hD
                          refine lv_ldc (v := (1000000)) gx gb gown (gts (.constant RX9 158 (1000000)) (by decide +kernel)) dX9_week_129 ?_
                          refine lv_evi (nI 1000000) (rfl) ?_
                          refine lv_istore (lv' := [(4, .int (nI 1000000)), (3, .int (nI (10 ^ k))), (0, .ref mo), (1, .int (nI s)), (2, .int (zI b))]) gx gb dX9_week_131 hl (by decide) rfl (fun ls hl => ?_)
                          refine lv_iload_n gx gb dX9_week_133 rfl (lv_at hl 1 rfl) ?_
                          refine lv_bipush (v := nI 10) gx gb dX9_week_134 (by decide) ?_
                          refine lv_idiv gx gb dX9_week_136 (nI_ne0 (by omega) (by omega)) ?_
                          refine lv_evi (nI ((10 ^ k) / 10)) (e_div (by omega) (by omega) (by omega)) ?_
                          refine lv_evi (nI (10 ^ k / 10 ^ (0 + 1))) (congrArg nI (by rw [Nat.zero_add, Nat.pow_one])) ?_
                          refine lv_istore (lv' := [(5, .int (nI (10 ^ k / 10 ^ (0 + 1)))), (4, .int (nI 1000000)), (3, .int (nI (10 ^ k))), (0, .ref mo), (1, .int (nI s)), (2, .int (zI b))]) gx gb dX9_week_137 hl (by decide) rfl (fun ls hl => ?_)
                          have L139 : ∀ fu : Nat, ∀ (jj l : Nat) (v5 rw5 dg5 : Nat → Nat) (z5 : Nat) (hjj : jj ≤ k) (hWs : wkS plc q (tkW num plc q s k) v5 jj l) (hvb : ∀ r, r < 5040 → v5 r ≤ 1000000), (k - jj) < fu → ∀ (H : Heap) (locs : List Loc), va_P D vwCl (wM mo ma mb mc md me mf mg mh mi mj mk ml mn cI cZ n q c w z5 ev num plc sig pad rw5 dg5 (aN v5) cfr cby que has img kep) H → va_D A (wM mo ma mb mc md me mf mg mh mi mj mk ml mn cI cZ n q c w z5 ev num plc sig pad rw5 dg5 (aN v5) cfr cby que has img kep) → va_S A Gs.heap H locs → ∀ ls : Array Slot, lv_has ls 7 [(4, .int (nI l)), (5, .int (nI (10 ^ k / 10 ^ (jj + 1)))), (3, .int (nI (10 ^ k))), (0, .ref mo), (1, .int (nI s)), (2, .int (zI b))] → W Gp Gl Ge (headSpec wsX9_week ({ frames := 5, cells := 0, slots := 0, locals := 113 } : Room)).room Gs Gm ([.ref mo, .int (zI a), .int (zI b)] : List Value).toArray Gw Gt Gc H locs 0 0 (MQ Gw (va_Qi (fun (r : Int32) (u : (Nat → Int32) × (Nat → Nat) × (Nat → Nat) × (Nat)) => ∃ zz : Int, r = zI zz ∧ wekR num plc q a b zz) (fun (u : (Nat → Int32) × (Nat → Nat) × (Nat → Nat) × (Nat)) t => va_P D vwCl (wM mo ma mb mc md me mf mg mh mi mj mk ml mn cI cZ n q c w u.2.2.2 ev num plc sig pad u.2.1 u.2.2.1 u.1 cfr cby que has img kep) t.heap ∧ va_K D vwCl [(cI, .int), (cJ, .long), (cZ, .boolean)] t ∧ va_D A (wM mo ma mb mc md me mf mg mh mi mj mk ml mn cI cZ n q c w u.2.2.2 ev num plc sig pad u.2.1 u.2.2.1 u.1 cfr cby que has img kep)) A) ([.ref mo, .int (zI a), .int (zI b)] : List Value).toArray Gs 0 0 A) (F0 Gm 139 ls []) := by
                            intro fu
                            induction fu with
                            | zero => intro jj l v5 rw5 dg5 z5 hjj hWs hvb hfu; exact absurd hfu (Nat.not_lt_zero _)
                            | succ fu ih139 =>
                              intro jj l v5 rw5 dg5 z5 hjj hWs hvb hfu H locs hP hD hS ls hl
                              have hpd : 10 ^ k / 10 ^ (jj + 1) ≤ 10000 := Nat.le_trans (Nat.div_le_self _ _) (pw_4 hk4)
                              have hlb := hWs.2.2.1
                              refine lv_iload gx gb dX9_week_139 (lv_at hl 1 rfl) ?_
                              refine lv_if_le (tgt := 245) gx gb dX9_week_141 (by decide) (fun c141 => ?_) (fun c141 => ?_)
                              · skip
                                rw [n0_le (by omega)] at c141
                                have hkm : jj = k := by rcases Nat.lt_or_ge jj k with h9 | h9; (have := pw_lt h9; omega); omega
                                rw [hkm] at hWs
                                have hk1 : 1 ≤ k := by omega
                                have hwA := wkS_e hq7 hk4 hk1 hWs
                                refine lv_iload gx gb dX9_week_245 (lv_at hl 0 rfl) ?_
                                refine lv_ldc (v := (1000000)) gx gb gown (gts (.constant RX9 158 (1000000)) (by decide +kernel)) dX9_week_247 ?_
                                refine lv_evi (nI 1000000) (rfl) ?_
                                refine lv_icmp_ge (tgt := 257) gx gb dX9_week_249 (by decide) (fun c249 => ?_) (fun c249 => ?_)
                                · skip
                                  rw [nI_leI (by omega) (by omega)] at c249
                                  refine lv_bipush (v := zI (-6)) gx gb dX9_week_257 (by decide) ?_
                                  exact W.iret (v := zI (-6)) gx gb gr (fun t ht hW => ⟨⟨zI (-6), (aN v5, rw5, dg5, z5), rfl, (by first | (dsimp only; done) | ((try dsimp only); first | (rw [if_pos (by omega)] at hwA; exact ⟨(l : Int), (zI_nat l).symm, by rw [hs, hbk]; exact wekR_y hk1 hk4 hsl h7k hwA⟩) | (rw [if_neg (by omega)] at hwA; exact ⟨-6, rfl, by rw [hs, hbk]; exact wekR_y hk1 hk4 hsl h7k hwA⟩))), by rw [ht]; exact hP, va_K.moved hW.alike hK, hD⟩, hS.F ht⟩) hS.2.2 dX9_week_259
                                · skip
                                  rw [nI_leI (by omega) (by omega)] at c249
                                  refine lv_iload gx gb dX9_week_252 (lv_at hl 0 rfl) ?_
                                  refine lv_goto (tgt := 259) gx gb dX9_week_254 (by decide) ?_
                                  exact W.iret (v := nI l) gx gb gr (fun t ht hW => ⟨⟨nI l, (aN v5, rw5, dg5, z5), rfl, (by first | (dsimp only; done) | ((try dsimp only); first | (rw [if_pos (by omega)] at hwA; exact ⟨(l : Int), (zI_nat l).symm, by rw [hs, hbk]; exact wekR_y hk1 hk4 hsl h7k hwA⟩) | (rw [if_neg (by omega)] at hwA; exact ⟨-6, rfl, by rw [hs, hbk]; exact wekR_y hk1 hk4 hsl h7k hwA⟩))), by rw [ht]; exact hP, va_K.moved hW.alike hK, hD⟩, hS.F ht⟩) hS.2.2 dX9_week_259
                              · skip
                                rw [n0_le (by omega)] at c141
                                have hjk2 : jj < k := by rcases Nat.lt_or_ge jj k with h9 | h9; exact h9; have := pw_ge h9; omega
                                have hpl2 := pw_lt hjk2
                                have hpos : 0 < 10 ^ k / 10 ^ (jj + 1) := by rw [hpl2.1]; exact hpl2.2
                                have hsd2 := Nat.div_le_self s (10 ^ k / 10 ^ (jj + 1))
                                refine lv_aload_n gx gb dX9_week_144 rfl (lv_at hl 3 rfl) ?_
                                have hPc := hP.sub (ws' := wM mo ma mb mc md me mf mg mh mi mj mk ml mn cI cZ n q c w z5 ev num plc sig pad rw5 dg5 (aN v5) cfr cby que has img kep) [0, 1, 2, 3, 4, 5, 6, 7, 8, 9, 10, 11, 12, 13] rfl
                                have hDc := hD.sub (ws' := wM mo ma mb mc md me mf mg mh mi mj mk ml mn cI cZ n q c w z5 ev num plc sig pad rw5 dg5 (aN v5) cfr cby que has img kep) [0, 1, 2, 3, 4, 5, 6, 7, 8, 9, 10, 11, 12, 13] (by decide) rfl
                                have hFc := va_free (wc := wM mo ma mb mc md me mf mg mh mi mj mk ml mn cI cZ n q c w z5 ev num plc sig pad rw5 dg5 (aN v5) cfr cby que has img kep) hD hS hA [0, 1, 2, 3, 4, 5, 6, 7, 8, 9, 10, 11, 12, 13] rfl
                                refine va_callv (va_runV (As := []) (rest := []) ⟨gx, gb, gml, gown, gts⟩ (kX9_spreadFrom Gl D cI cJ cZ mo ma mb mc md me mf mg mh mi mj mk ml mn n q c w z5 ev num plc sig pad rw5 dg5 cfr cby que has img kep _ v5 (7 * jj) (by omega) (by omega) (by exact hpl) (by exact hij) (by exact hWs.2.1) (by omega) (by exact hvb)) (cwV 0 gts gX9_week_X9_spreadFrom rfl rfl rfl (by decide +kernel) ⟨Nat.le_of_ble_eq_true rfl, Nat.le_of_ble_eq_true rfl⟩) ⟨fun a U g mk q => by obtain ⟨q0, q1, qP, qK, qD⟩ := q; exact ⟨q0, q1, qP, va_K.moved (u := U) (U := U.calling g mk a) (Vm.Alike.refl U.vm) qK, qD⟩, va_recv hK hPc (ci := 4) (q0 := 0) rfl rfl, fun U hU hW => ⟨rfl, by rw [hU], by rw [hU]; exact hPc, va_K.moved hW.alike hK, hDc.weaken (fun _ _ _ _ => trivial)⟩⟩ rfl rfl hl.1 rfl (lv_room (Nat.le_of_ble_eq_true rfl)) dX9_week_145 ⟨Nat.le_of_ble_eq_true rfl, Nat.le_of_ble_eq_true rfl⟩) hS (fun q _ h => hFc q h) hFc (fun u t H1 locs ht hvm hw hB hz1 hk1 hS => ?_)
                                obtain ⟨v_145, row_145, dig_145, z_145⟩ := u
                                obtain ⟨hP1, hK1, hD1⟩ := hB
                                rw [ht] at hP1
                                try dsimp only at hw
                                try dsimp only at hP1
                                try dsimp only at hD1
                                have hK := va_K.moved hvm.symm hK1
                                obtain ⟨hP, hD⟩ := va_join (wr := []) (w1 := wM mo ma mb mc md me mf mg mh mi mj mk ml mn cI cZ n q c w z_145 ev num plc sig pad row_145 dig_145 (aN v_145) cfr cby que has img kep) hP hD [0, 1, 2, 3, 4, 5, 6, 7, 8, 9, 10, 11, 12, 13] [] rfl rfl (by decide) (by decide) hk1 hFc hP1 hD1
                                have hP := hP.sub (ws' := wM mo ma mb mc md me mf mg mh mi mj mk ml mn cI cZ n q c w z_145 ev num plc sig pad row_145 dig_145 (aN v_145) cfr cby que has img kep) [0, 1, 2, 3, 4, 5, 6, 7, 8, 9, 10, 11, 12, 13] rfl
                                have hD := hD.sub (ws' := wM mo ma mb mc md me mf mg mh mi mj mk ml mn cI cZ n q c w z_145 ev num plc sig pad row_145 dig_145 (aN v_145) cfr cby que has img kep) [0, 1, 2, 3, 4, 5, 6, 7, 8, 9, 10, 11, 12, 13] (by decide) rfl
                                have hK := va_K.moved (Vm.Alike.refl Gs.vm) hK
                                generalize H1 = H at hP hS ⊢
                                obtain ⟨hsf, hvb5⟩ := hw
                                refine lv_ldc (v := (1000000)) gx gb gown (gts (.constant RX9 158 (1000000)) (by decide +kernel)) dX9_week_148 ?_
                                refine lv_evi (nI 1000000) (rfl) ?_
                                refine lv_istore (lv' := [(4, .int (nI 1000000)), (5, .int (nI (10 ^ k / 10 ^ (jj + 1)))), (3, .int (nI (10 ^ k))), (0, .ref mo), (1, .int (nI s)), (2, .int (zI b))]) gx gb dX9_week_150 hl (by decide) rfl (fun ls hl => ?_)
                                refine lv_iconst (v := nI 0) gx gb dX9_week_152 (by decide) ?_
                                refine lv_istore (lv' := [(6, .int (nI 0)), (4, .int (nI 1000000)), (5, .int (nI (10 ^ k / 10 ^ (jj + 1)))), (3, .int (nI (10 ^ k))), (0, .ref mo), (1, .int (nI s)), (2, .int (zI b))]) gx gb dX9_week_153 hl (by decide) rfl (fun ls hl => ?_)
                                have L155 : ∀ fu : Nat, ∀ (kk l2 : Nat) (v3 rw3 dg3 : Nat → Nat) (z3 : Nat) (hkk : kk ≤ fac q) (hL : wkL plc q (tkW num plc q s k jj) v_145 v3 kk l2) (hvb6 : ∀ r, r < 5040 → v3 r ≤ 1000000), (fac q - kk) < fu → ∀ (H : Heap) (locs : List Loc), va_P D vwCl (wM mo ma mb mc md me mf mg mh mi mj mk ml mn cI cZ n q c w z3 ev num plc sig pad rw3 dg3 (aN v3) cfr cby que has img kep) H → va_D A (wM mo ma mb mc md me mf mg mh mi mj mk ml mn cI cZ n q c w z3 ev num plc sig pad rw3 dg3 (aN v3) cfr cby que has img kep) → va_S A Gs.heap H locs → ∀ ls : Array Slot, lv_has ls 7 [(4, .int (nI l2)), (6, .int (nI kk)), (5, .int (nI (10 ^ k / 10 ^ (jj + 1)))), (3, .int (nI (10 ^ k))), (0, .ref mo), (1, .int (nI s)), (2, .int (zI b))] → W Gp Gl Ge (headSpec wsX9_week ({ frames := 5, cells := 0, slots := 0, locals := 113 } : Room)).room Gs Gm ([.ref mo, .int (zI a), .int (zI b)] : List Value).toArray Gw Gt Gc H locs 0 0 (MQ Gw (va_Qi (fun (r : Int32) (u : (Nat → Int32) × (Nat → Nat) × (Nat → Nat) × (Nat)) => ∃ zz : Int, r = zI zz ∧ wekR num plc q a b zz) (fun (u : (Nat → Int32) × (Nat → Nat) × (Nat → Nat) × (Nat)) t => va_P D vwCl (wM mo ma mb mc md me mf mg mh mi mj mk ml mn cI cZ n q c w u.2.2.2 ev num plc sig pad u.2.1 u.2.2.1 u.1 cfr cby que has img kep) t.heap ∧ va_K D vwCl [(cI, .int), (cJ, .long), (cZ, .boolean)] t ∧ va_D A (wM mo ma mb mc md me mf mg mh mi mj mk ml mn cI cZ n q c w u.2.2.2 ev num plc sig pad u.2.1 u.2.2.1 u.1 cfr cby que has img kep)) A) ([.ref mo, .int (zI a), .int (zI b)] : List Value).toArray Gs 0 0 A) (F0 Gm 155 ls []) := by
                                  intro fu
                                  induction fu with
                                  | zero => intro kk l2 v3 rw3 dg3 z3 hkk hL hvb6 hfu; exact absurd hfu (Nat.not_lt_zero _)
                                  | succ fu ih155 =>
                                    intro kk l2 v3 rw3 dg3 z3 hkk hL hvb6 hfu H locs hP hD hS ls hl
                                    have hf7 := fac_7 hq7
                                    have hl2b := hL.2.2.1
                                    refine lv_iload gx gb dX9_week_155 (lv_at hl 1 rfl) ?_
                                    refine lv_aload_n gx gb dX9_week_157 rfl (lv_at hl 4 rfl) ?_
                                    have hPc := hP.sub (ws' := wM mo ma mb mc md me mf mg mh mi mj mk ml mn cI cZ n q c w z3 ev num plc sig pad rw3 dg3 (aN v3) cfr cby que has img kep) [0, 1, 2, 3, 4, 5, 6, 7, 8, 9, 10, 11, 12, 13] rfl
                                    refine vp_callSi (W.runV (As := []) (rest := [.int (nI kk)]) ⟨gx, gb, gml, gown, gts⟩ (kX9_rowsOf Gl D cI cJ cZ mo ma mb mc md me mf mg mh mi mj mk ml mn n q c w z3 ev num plc sig pad rw3 dg3 (aN v3) cfr cby que has img kep  (by omega) (by omega)) (cwV 0 gts gX9_week_X9_rowsOf rfl rfl rfl (by decide +kernel) ⟨Nat.le_of_ble_eq_true rfl, Nat.le_of_ble_eq_true rfl⟩) ⟨fun a U g mk q => ⟨q.1, q.2.1, va_K.moved (u := U) (U := U.calling g mk a) (Vm.Alike.refl U.vm) q.2.2⟩, va_recv hK hPc (ci := 4) (q0 := 0) rfl rfl, fun U hU hW => ⟨rfl, by rw [hU]; exact hPc, va_K.moved hW.alike hK⟩⟩ rfl rfl hl.1 rfl (lv_room (Nat.le_of_ble_eq_true rfl)) dX9_week_158 ⟨Nat.le_of_ble_eq_true rfl, Nat.le_of_ble_eq_true rfl⟩) (fun r hw => ?_)
                                    have hr158 := hw
                                    subst hr158
                                    refine lv_icmp_ge (tgt := 235) gx gb dX9_week_161 (by decide) (fun c161 => ?_) (fun c161 => ?_)
                                    · skip
                                      rw [nI_leI (by omega) (by omega)] at c161
                                      have hkf : kk = fac q := by omega
                                      rw [hkf] at hL
                                      refine lv_iload gx gb dX9_week_235 (lv_at hl 2 rfl) ?_
                                      refine lv_bipush (v := nI 10) gx gb dX9_week_237 (by decide) ?_
                                      refine lv_idiv gx gb dX9_week_239 (nI_ne0 (by omega) (by omega)) ?_
                                      refine lv_evi (nI ((10 ^ k / 10 ^ (jj + 1)) / 10)) (e_div (by omega) (by omega) (by omega)) ?_
                                      refine lv_evi (nI (10 ^ k / 10 ^ (jj + 1 + 1))) (congrArg nI pw_dv) ?_
                                      refine lv_istore (lv' := [(5, .int (nI (10 ^ k / 10 ^ (jj + 1 + 1)))), (4, .int (nI l2)), (6, .int (nI kk)), (3, .int (nI (10 ^ k))), (0, .ref mo), (1, .int (nI s)), (2, .int (zI b))]) gx gb dX9_week_240 hl (by decide) rfl (fun ls hl => ?_)
                                      refine lv_goto (tgt := 139) gx gb dX9_week_242 (by decide) ?_
                                      exact ih139 (jj + 1) l2 v3 rw3 dg3 z3 (by omega) (by exact wkS_s hq7 (by omega) hij hWs hsf hL) (by exact hvb6) (by omega) _ _ hP hD hS ls (lv_sub hl [1, 0, 3, 4, 5, 6] rfl)
                                    · skip
                                      rw [nI_leI (by omega) (by omega)] at c161
                                      refine lv_aload_n gx gb dX9_week_164 rfl (lv_at hl 4 rfl) ?_
                                      refine lv_iload gx gb dX9_week_165 (lv_at hl 1 rfl) ?_
                                      have hPc := hP.sub (ws' := wM mo ma mb mc md me mf mg mh mi mj mk ml mn cI cZ n q c w z3 ev num plc sig pad rw3 dg3 (aN v3) cfr cby que has img kep) [0, 1, 2, 3, 4, 5, 6, 7, 8, 9, 10, 11, 12, 13] rfl
                                      have hDc := hD.sub (ws' := wM mo ma mb mc md me mf mg mh mi mj mk ml mn cI cZ n q c w z3 ev num plc sig pad rw3 dg3 (aN v3) cfr cby que has img kep) [0, 1, 2, 3, 4, 5, 6, 7, 8, 9, 10, 11, 12, 13] (by decide) rfl
                                      have hFc := va_free (wc := wM mo ma mb mc md me mf mg mh mi mj mk ml mn cI cZ n q c w z3 ev num plc sig pad rw3 dg3 (aN v3) cfr cby que has img kep) hD hS hA [0, 1, 2, 3, 4, 5, 6, 7, 8, 9, 10, 11, 12, 13] rfl
                                      refine va_callv (va_runV (As := [.int (nI kk)]) (rest := []) ⟨gx, gb, gml, gown, gts⟩ (kX9_layRow Gl D cI cJ cZ mo ma mb mc md me mf mg mh mi mj mk ml mn n q c w z3 ev num plc sig pad rw3 dg3 (aN v3) cfr cby que has img kep _ kk (by omega) (by omega) (by omega) (by exact hpl) (by exact hij)) (cwV 1 gts gX9_week_X9_layRow rfl rfl rfl (by decide +kernel) ⟨Nat.le_of_ble_eq_true rfl, Nat.le_of_ble_eq_true rfl⟩) ⟨fun a U g mk q => by obtain ⟨q0, q1, qP, qK, qD⟩ := q; exact ⟨q0, q1, qP, va_K.moved (u := U) (U := U.calling g mk a) (Vm.Alike.refl U.vm) qK, qD⟩, va_recv hK hPc (ci := 4) (q0 := 0) rfl rfl, fun U hU hW => ⟨rfl, by rw [hU], by rw [hU]; exact hPc, va_K.moved hW.alike hK, hDc.weaken (fun _ _ _ _ => trivial)⟩⟩ rfl rfl hl.1 rfl (lv_room (Nat.le_of_ble_eq_true rfl)) dX9_week_167 ⟨Nat.le_of_ble_eq_true rfl, Nat.le_of_ble_eq_true rfl⟩) hS (fun q _ h => hFc q h) hFc (fun u t H1 locs ht hvm hw hB hz1 hk1 hS => ?_)
                                      obtain ⟨row_167, dig_167⟩ := u
                                      obtain ⟨hP1, hK1, hD1⟩ := hB
                                      rw [ht] at hP1
                                      try dsimp only at hw
                                      try dsimp only at hP1
                                      try dsimp only at hD1
                                      have hK := va_K.moved hvm.symm hK1
                                      obtain ⟨hP, hD⟩ := va_join (wr := []) (w1 := wM mo ma mb mc md me mf mg mh mi mj mk ml mn cI cZ n q c w q ev num plc sig pad row_167 dig_167 (aN v3) cfr cby que has img kep) hP hD [0, 1, 2, 3, 4, 5, 6, 7, 8, 9, 10, 11, 12, 13] [] rfl rfl (by decide) (by decide) hk1 hFc hP1 hD1
                                      have hP := hP.sub (ws' := wM mo ma mb mc md me mf mg mh mi mj mk ml mn cI cZ n q c w q ev num plc sig pad row_167 dig_167 (aN v3) cfr cby que has img kep) [0, 1, 2, 3, 4, 5, 6, 7, 8, 9, 10, 11, 12, 13] rfl
                                      have hD := hD.sub (ws' := wM mo ma mb mc md me mf mg mh mi mj mk ml mn cI cZ n q c w q ev num plc sig pad row_167 dig_167 (aN v3) cfr cby que has img kep) [0, 1, 2, 3, 4, 5, 6, 7, 8, 9, 10, 11, 12, 13] (by decide) rfl
                                      have hK := va_K.moved (Vm.Alike.refl Gs.vm) hK
                                      generalize H1 = H at hP hS ⊢
                                      obtain ⟨C, aC, eC, hrw⟩ := lay_cod hq7 hij hw.1 hw.2 (show kk < fac q by omega)
                                      refine lv_aload_n gx gb dX9_week_170 rfl (lv_at hl 4 rfl) ?_
                                      refine va_get (D := D) (ci := 4) (v := .ref mg) (C := RX9) (T := TX9) (N := 19) gx gb gts i9 gown hK hP 0 rfl rfl 12 (by decide) (gts (.fieldLink RX9 35 "SwanSumsModel" "far" "[I") (by decide +kernel)) (fun _ h9 => h9) rfl dX9_week_171 ?_
                                      refine lv_iload gx gb dX9_week_174 (lv_at hl 1 rfl) ?_
                                      have L202 : ∀ (x : Nat) (hxx : x = if tkW num plc q s k jj C = true then v3 kk else 1000000), ∀ (H : Heap) (locs : List Loc), va_P D vwCl (wM mo ma mb mc md me mf mg mh mi mj mk ml mn cI cZ n q c w q ev num plc sig pad row_167 dig_167 (aN v3) cfr cby que has img kep) H → va_D A (wM mo ma mb mc md me mf mg mh mi mj mk ml mn cI cZ n q c w q ev num plc sig pad row_167 dig_167 (aN v3) cfr cby que has img kep) → va_S A Gs.heap H locs → ∀ ls : Array Slot, lv_has ls 7 [(4, .int (nI l2)), (6, .int (nI kk)), (5, .int (nI (10 ^ k / 10 ^ (jj + 1)))), (3, .int (nI (10 ^ k))), (0, .ref mo), (1, .int (nI s)), (2, .int (zI b))] → W Gp Gl Ge (headSpec wsX9_week ({ frames := 5, cells := 0, slots := 0, locals := 113 } : Room)).room Gs Gm ([.ref mo, .int (zI a), .int (zI b)] : List Value).toArray Gw Gt Gc H locs 0 0 (MQ Gw (va_Qi (fun (r : Int32) (u : (Nat → Int32) × (Nat → Nat) × (Nat → Nat) × (Nat)) => ∃ zz : Int, r = zI zz ∧ wekR num plc q a b zz) (fun (u : (Nat → Int32) × (Nat → Nat) × (Nat → Nat) × (Nat)) t => va_P D vwCl (wM mo ma mb mc md me mf mg mh mi mj mk ml mn cI cZ n q c w u.2.2.2 ev num plc sig pad u.2.1 u.2.2.1 u.1 cfr cby que has img kep) t.heap ∧ va_K D vwCl [(cI, .int), (cJ, .long), (cZ, .boolean)] t ∧ va_D A (wM mo ma mb mc md me mf mg mh mi mj mk ml mn cI cZ n q c w u.2.2.2 ev num plc sig pad u.2.1 u.2.2.1 u.1 cfr cby que has img kep)) A) ([.ref mo, .int (zI a), .int (zI b)] : List Value).toArray Gs 0 0 A) (F0 Gm 202 ls [.int (nI x), .int (nI kk), .ref mg]) := by
                                        intro x hxx H locs hP hD hS ls hl
                                        have hxb : x ≤ 1000000 := by rw [hxx]; split; exact hvb6 kk (by omega); exact Nat.le_refl _
                                        refine va_iast gx gb hK hP hD hS 7 0 rfl rfl (vp_in_nI (n := kk) (by omega) (by decide)) dX9_week_202 (fun H locs hP hD hS => ?_)
                                        rw [aN_st v3 x (by omega)] at hP hD
                                        have hP : va_P D vwCl (wM mo ma mb mc md me mf mg mh mi mj mk ml mn cI cZ n q c w q ev num plc sig pad row_167 dig_167 (aN (up v3 kk x)) cfr cby que has img kep) H := hP
                                        have hD : va_D A (wM mo ma mb mc md me mf mg mh mi mj mk ml mn cI cZ n q c w q ev num plc sig pad row_167 dig_167 (aN (up v3 kk x)) cfr cby que has img kep) := hD
                                        have L227 : ∀ (y : Nat) (hyy : y = if up v3 kk x kk < l2 then up v3 kk x kk else l2), ∀ (H : Heap) (locs : List Loc), va_P D vwCl (wM mo ma mb mc md me mf mg mh mi mj mk ml mn cI cZ n q c w q ev num plc sig pad row_167 dig_167 (aN (up v3 kk x)) cfr cby que has img kep) H → va_D A (wM mo ma mb mc md me mf mg mh mi mj mk ml mn cI cZ n q c w q ev num plc sig pad row_167 dig_167 (aN (up v3 kk x)) cfr cby que has img kep) → va_S A Gs.heap H locs → ∀ ls : Array Slot, lv_has ls 7 [(4, .int (nI l2)), (6, .int (nI kk)), (5, .int (nI (10 ^ k / 10 ^ (jj + 1)))), (3, .int (nI (10 ^ k))), (0, .ref mo), (1, .int (nI s)), (2, .int (zI b))] → W Gp Gl Ge (headSpec wsX9_week ({ frames := 5, cells := 0, slots := 0, locals := 113 } : Room)).room Gs Gm ([.ref mo, .int (zI a), .int (zI b)] : List Value).toArray Gw Gt Gc H locs 0 0 (MQ Gw (va_Qi (fun (r : Int32) (u : (Nat → Int32) × (Nat → Nat) × (Nat → Nat) × (Nat)) => ∃ zz : Int, r = zI zz ∧ wekR num plc q a b zz) (fun (u : (Nat → Int32) × (Nat → Nat) × (Nat → Nat) × (Nat)) t => va_P D vwCl (wM mo ma mb mc md me mf mg mh mi mj mk ml mn cI cZ n q c w u.2.2.2 ev num plc sig pad u.2.1 u.2.2.1 u.1 cfr cby que has img kep) t.heap ∧ va_K D vwCl [(cI, .int), (cJ, .long), (cZ, .boolean)] t ∧ va_D A (wM mo ma mb mc md me mf mg mh mi mj mk ml mn cI cZ n q c w u.2.2.2 ev num plc sig pad u.2.1 u.2.2.1 u.1 cfr cby que has img kep)) A) ([.ref mo, .int (zI a), .int (zI b)] : List Value).toArray Gs 0 0 A) (F0 Gm 227 ls [.int (nI y)]) := by
                                          intro y hyy H locs hP hD hS ls hl
                                          refine lv_istore (lv' := [(4, .int (nI y)), (6, .int (nI kk)), (5, .int (nI (10 ^ k / 10 ^ (jj + 1)))), (3, .int (nI (10 ^ k))), (0, .ref mo), (1, .int (nI s)), (2, .int (zI b))]) gx gb dX9_week_227 hl (by decide) rfl (fun ls hl => ?_)
                                          refine lv_iinc (v := nI (kk + 1)) (lv' := [(6, .int (nI (kk + 1))), (4, .int (nI y)), (5, .int (nI (10 ^ k / 10 ^ (jj + 1)))), (3, .int (nI (10 ^ k))), (0, .ref mo), (1, .int (nI s)), (2, .int (zI b))]) gx gb dX9_week_229 hl (k := 1) rfl (nI_add kk 1) (by decide) rfl (fun ls hl => ?_)
                                          refine lv_goto (tgt := 155) gx gb dX9_week_232 (by decide) ?_
                                          exact ih155 (kk + 1) y (up v3 kk x) row_167 dig_167 q (by omega) (by exact wkL_s hq7 hij hL aC eC hxx hyy) (by intro r hr; simp only [up]; split; exact hxb; exact hvb6 r hr) (by omega) _ _ hP hD hS ls (lv_sub hl [1, 0, 2, 3, 4, 5, 6] rfl)
                                        have hux : up v3 kk x kk = x := up_s _ _ _
                                        refine lv_aload_n gx gb dX9_week_203 rfl (lv_at hl 4 rfl) ?_
                                        refine va_get (D := D) (ci := 4) (v := .ref mg) (C := RX9) (T := TX9) (N := 19) gx gb gts i9 gown hK hP 0 rfl rfl 12 (by decide) (gts (.fieldLink RX9 35 "SwanSumsModel" "far" "[I") (by decide +kernel)) (fun _ h9 => h9) rfl dX9_week_204 ?_
                                        refine lv_iload gx gb dX9_week_207 (lv_at hl 1 rfl) ?_
                                        refine va_iald gx gb hK hP 7 0 rfl rfl (vp_in_nI (n := kk) (by omega) (by decide)) dX9_week_209 ?_
                                        refine lv_evi (nI ((up v3 kk x) kk)) (aN_rd (up v3 kk x) (by omega)) ?_
                                        refine lv_iload gx gb dX9_week_210 (lv_at hl 0 rfl) ?_
                                        refine lv_icmp_ge (tgt := 225) gx gb dX9_week_212 (by decide) (fun c212 => ?_) (fun c212 => ?_)
                                        · skip
                                          rw [nI_leI (by omega) (by omega)] at c212
                                          refine lv_iload gx gb dX9_week_225 (lv_at hl 0 rfl) ?_
                                          exact L227 l2 (by first | (rw [if_pos (by omega)]; done) | (rw [if_neg (by omega)])) _ _ hP hD hS ls (lv_sub hl [0, 1, 2, 3, 4, 5, 6] rfl)
                                        · skip
                                          rw [nI_leI (by omega) (by omega)] at c212
                                          refine lv_aload_n gx gb dX9_week_215 rfl (lv_at hl 4 rfl) ?_
                                          refine va_get (D := D) (ci := 4) (v := .ref mg) (C := RX9) (T := TX9) (N := 19) gx gb gts i9 gown hK hP 0 rfl rfl 12 (by decide) (gts (.fieldLink RX9 35 "SwanSumsModel" "far" "[I") (by decide +kernel)) (fun _ h9 => h9) rfl dX9_week_216 ?_
                                          refine lv_iload gx gb dX9_week_219 (lv_at hl 1 rfl) ?_
                                          refine va_iald gx gb hK hP 7 0 rfl rfl (vp_in_nI (n := kk) (by omega) (by decide)) dX9_week_221 ?_
                                          refine lv_evi (nI ((up v3 kk x) kk)) (aN_rd (up v3 kk x) (by omega)) ?_
                                          refine lv_goto (tgt := 227) gx gb dX9_week_222 (by decide) ?_
                                          exact L227 ((up v3 kk x) kk) (by first | (rw [if_pos (by omega)]; done) | (rw [if_neg (by omega)])) _ _ hP hD hS ls (lv_sub hl [0, 1, 2, 3, 4, 5, 6] rfl)
                                      refine lv_aload_n gx gb dX9_week_176 rfl (lv_at hl 4 rfl) ?_
                                      refine lv_iload_n gx gb dX9_week_177 rfl (lv_at hl 5 rfl) ?_
                                      refine lv_iload gx gb dX9_week_178 (lv_at hl 2 rfl) ?_
                                      refine lv_idiv gx gb dX9_week_180 (nI_ne0 (by omega) (by omega)) ?_
                                      refine lv_evi (nI (s / (10 ^ k / 10 ^ (jj + 1)))) (e_div (by omega) (by omega) (by omega)) ?_
                                      refine lv_bipush (v := nI 10) gx gb dX9_week_181 (by decide) ?_
                                      refine lv_irem gx gb dX9_week_183 (nI_ne0 (by omega) (by omega)) ?_
                                      refine lv_evi (nI ((s / (10 ^ k / 10 ^ (jj + 1))) % 10)) (e_rem (by omega) (by omega) (by omega)) ?_
                                      refine lv_evi (nI (dg 10 s (k - 1 - jj))) (congrArg nI (by rw [hpl2.1]; rfl)) ?_
                                      have hPc := hP.sub (ws' := wM mo ma mb mc md me mf mg mh mi mj mk ml mn cI cZ n q c w q ev num plc sig pad row_167 dig_167 (aN v3) cfr cby que has img kep) [0, 1, 2, 3, 4, 5, 6, 7, 8, 9, 10, 11, 12, 13] rfl
                                      refine vp_callSi (W.runV (As := [.int (nI (dg 10 s (k - 1 - jj)))]) (rest := [.int (nI kk), .ref mg]) ⟨gx, gb, gml, gown, gts⟩ (kX9_isTaught Gl D cI cJ cZ mo ma mb mc md me mf mg mh mi mj mk ml mn n q c w q ev num plc sig pad row_167 dig_167 (aN v3) cfr cby que has img kep (dg 10 s (k - 1 - jj)) (by exact h7k _ (by omega)) (by omega) (by omega) (by intro p hp; rw [← hrw p hp]; exact hpl _ (arr_lt aC hq7 p hp)) (by intro p hp; rw [← hrw p hp]; exact hnv _ (arr_lt aC hq7 p hp))) (cwV 1 gts gX9_week_X9_isTaught rfl rfl rfl (by decide +kernel) ⟨Nat.le_of_ble_eq_true rfl, Nat.le_of_ble_eq_true rfl⟩) ⟨fun a U g mk q => ⟨q.1, q.2.1, va_K.moved (u := U) (U := U.calling g mk a) (Vm.Alike.refl U.vm) q.2.2⟩, va_recv hK hPc (ci := 4) (q0 := 0) rfl rfl, fun U hU hW => ⟨rfl, by rw [hU]; exact hPc, va_K.moved hW.alike hK⟩⟩ rfl rfl hl.1 rfl (lv_room (Nat.le_of_ble_eq_true rfl)) dX9_week_184 ⟨Nat.le_of_ble_eq_true rfl, Nat.le_of_ble_eq_true rfl⟩) (fun r hw => ?_)
                                      have hr184 := hw
                                      subst hr184
                                      refine lv_evi (bI (tkW num plc q s k jj C)) (congrArg bI (tau_cong hq1 (fun x hx => congrArg num (hrw x hx).symm))) ?_
                                      refine lv_if_eq (tgt := 200) gx gb dX9_week_187 (by decide) (fun c187 => ?_) (fun c187 => ?_)
                                      · skip
                                        rw [b0_eq] at c187
                                        refine lv_ldc (v := (1000000)) gx gb gown (gts (.constant RX9 158 (1000000)) (by decide +kernel)) dX9_week_200 ?_
                                        refine lv_evi (nI 1000000) (rfl) ?_
                                        exact L202 1000000 (by first | (rw [if_pos c187]; done) | (rw [if_neg (by rw [c187]; decide)])) _ _ hP hD hS ls (lv_sub hl [0, 1, 2, 3, 4, 5, 6] rfl)
                                      · skip
                                        rw [b0_eq] at c187
                                        have c187 := nf_t c187
                                        have hvk6 := hvb6 kk (by omega)
                                        refine lv_aload_n gx gb dX9_week_190 rfl (lv_at hl 4 rfl) ?_
                                        refine va_get (D := D) (ci := 4) (v := .ref mg) (C := RX9) (T := TX9) (N := 19) gx gb gts i9 gown hK hP 0 rfl rfl 12 (by decide) (gts (.fieldLink RX9 35 "SwanSumsModel" "far" "[I") (by decide +kernel)) (fun _ h9 => h9) rfl dX9_week_191 ?_
                                        refine lv_iload gx gb dX9_week_194 (lv_at hl 1 rfl) ?_
                                        refine va_iald gx gb hK hP 7 0 rfl rfl (vp_in_nI (n := kk) (by omega) (by decide)) dX9_week_196 ?_
                                        refine lv_evi (nI (v3 kk)) (aN_rd v3 (by omega)) ?_
                                        refine lv_goto (tgt := 202) gx gb dX9_week_197 (by decide) ?_
                                        exact L202 (v3 kk) (by first | (rw [if_pos c187]; done) | (rw [if_neg (by rw [c187]; decide)])) _ _ hP hD hS ls (lv_sub hl [0, 1, 2, 3, 4, 5, 6] rfl)
                                exact L155 _ 0 1000000 v_145 row_145 dig_145 z_145 (by omega) (by exact wkL_0 _ _ _ _) (by exact hvb5) (Nat.lt_succ_self _) _ _ hP hD hS ls (lv_sub hl [1, 0, 2, 3, 4, 5, 6] rfl)
                          exact L139 _ 0 1000000 (up v_ (rkC plc q (cod q idn)) 0) (cpy plc row 7) dig q (by omega) (by exact wkS_0 hq7 hij (fun r hr => hfi r (by omega))) (by intro r hr; simp only [up]; split; omega; exact Nat.le_of_eq (hfi r (by omega))) (Nat.lt_succ_self _) _ _ hP hD hS ls (lv_sub hl [1, 0, 2, 3, 4, 5] rfl)
                        · skip
                          rw [nI_leI (by omega) (by omega)] at c97
                          refine lv_aload_n gx gb dX9_week_100 rfl (lv_at hl 2 rfl) ?_
                          refine va_get (D := D) (ci := 4) (v := .ref mg) (C := RX9) (T := TX9) (N := 19) gx gb gts i9 gown hK hP 0 rfl rfl 12 (by decide) (gts (.fieldLink RX9 35 "SwanSumsModel" "far" "[I") (by decide +kernel)) (fun _ h9 => h9) rfl dX9_week_101 ?_
                          refine lv_iload gx gb dX9_week_104 (lv_at hl 0 rfl) ?_
                          refine lv_ldc (v := (1000000)) gx gb gown (gts (.constant RX9 158 (1000000)) (by decide +kernel)) dX9_week_106 ?_
                          refine lv_evi (nI 1000000) (rfl) ?_
                          refine va_iast gx gb hK hP hD hS 7 0 rfl rfl (vp_in_nI (n := i) (by omega) (by decide)) dX9_week_108 (fun H locs hP hD hS => ?_)
                          rw [aN_st v_ 1000000 (by omega)] at hP hD
                          have hP : va_P D vwCl (wM mo ma mb mc md me mf mg mh mi mj mk ml mn cI cZ n q c w z ev num plc sig pad row dig (aN (up v_ i 1000000)) cfr cby que has img kep) H := hP
                          have hD : va_D A (wM mo ma mb mc md me mf mg mh mi mj mk ml mn cI cZ n q c w z ev num plc sig pad row dig (aN (up v_ i 1000000)) cfr cby que has img kep) := hD
                          refine lv_iinc (v := nI (i + 1)) (lv' := [(4, .int (nI (i + 1))), (3, .int (nI (10 ^ k))), (0, .ref mo), (1, .int (nI s)), (2, .int (zI b))]) gx gb dX9_week_109 hl (k := 0) rfl (nI_add i 1) (by decide) rfl (fun ls hl => ?_)
                          refine lv_goto (tgt := 92) gx gb dX9_week_112 (by decide) ?_
                          exact ih92 (i + 1) (up v_ i 1000000) (by omega) (by intro x hx; simp only [up]; split; rfl; exact hfi x (by omega)) (by omega) _ _ hP hD hS ls (lv_sub hl [0, 1, 2, 3, 4] rfl)
                    exact L92 _ 0 (fun x_ => (far x_).toBitVec.toNat) (by omega) (by intro x hx; exact absurd hx (Nat.not_lt_zero _)) (Nat.lt_succ_self _) _ _ hP hD hS ls (lv_sub hl [0, 1, 2, 3, 4] rfl)
                  · skip
                    rw [nI_leI (by omega) (by omega)] at c60
                    have hdg : dg 10 s j < 10 := Nat.mod_lt _ (by omega)
                    have hsd := Nat.div_le_self s (10 ^ j)
                    refine lv_iload_n gx gb dX9_week_63 rfl (lv_at hl 3 rfl) ?_
                    refine lv_iload gx gb dX9_week_64 (lv_at hl 0 rfl) ?_
                    refine lv_idiv gx gb dX9_week_66 (nI_ne0 (by omega) (by omega)) ?_
                    refine lv_evi (nI (s / (10 ^ j))) (e_div (by omega) (by omega) (by omega)) ?_
                    refine lv_bipush (v := nI 10) gx gb dX9_week_67 (by decide) ?_
                    refine lv_irem gx gb dX9_week_69 (nI_ne0 (by omega) (by omega)) ?_
                    refine lv_evi (nI ((s / (10 ^ j)) % 10)) (e_rem (by omega) (by omega) (by omega)) ?_
                    refine lv_evi (nI (dg 10 s j)) (rfl) ?_
                    refine lv_evs [.int (zI ((dg 10 s j : Nat) : Int))] (by simp only [nI_zc]) ?_
                    refine vp_callSi (W.runS (As := [.int (zI ((dg 10 s j : Nat) : Int))]) (rest := []) ⟨gx, gb, gml, gown, gts⟩ (kX9_isLesson Gl ((dg 10 s j : Nat) : Int) (by omega) (by omega)) (va_cwS 1 gts gX9_week_X9_isLesson rfl rfl rfl (by decide +kernel) ⟨Nat.le_of_ble_eq_true rfl, Nat.le_of_ble_eq_true rfl⟩) ⟨fun _ _ _ _ h => h, fun U hU hW => ⟨rfl, trivial⟩⟩ rfl rfl hl.1 rfl (lv_room (Nat.le_of_ble_eq_true rfl)) dX9_week_70 ⟨Nat.le_of_ble_eq_true rfl, Nat.le_of_ble_eq_true rfl⟩) (fun r hw => ?_)
                    have hr70 := hw
                    subst hr70
                    refine lv_if_ne (tgt := 79) gx gb dX9_week_73 (by decide) (fun c73 => ?_) (fun c73 => ?_)
                    · skip
                      rw [b0_eq] at c73
                      simp only [decide_eq_false_iff_not, Decidable.not_not] at c73
                      refine lv_iload gx gb dX9_week_79 (lv_at hl 0 rfl) ?_
                      refine lv_bipush (v := nI 10) gx gb dX9_week_81 (by decide) ?_
                      refine lv_imul gx gb dX9_week_83 ?_
                      refine lv_evi (nI ((10 ^ j) * 10)) (pk_mul (10 ^ j) 10) ?_
                      refine lv_istore (lv' := [(4, .int (nI ((10 ^ j) * 10))), (3, .int (nI (10 ^ k))), (0, .ref mo), (1, .int (nI s)), (2, .int (zI b))]) gx gb dX9_week_84 hl (by decide) rfl (fun ls hl => ?_)
                      refine lv_goto (tgt := 57) gx gb dX9_week_86 (by decide) ?_
                      exact ih57 (j + 1) (by omega) (by intro x hx; rcases Nat.lt_or_ge x j with h9 | h9; exact h7 x h9; rw [show x = j by omega]; omega) (by omega) _ _ hP hD hS ls (lv_sub hl [0, 1, 2, 3, 4] rfl)
                    · skip
                      rw [b0_eq] at c73
                      simp only [decide_eq_false_iff_not, Decidable.not_not] at c73
                      refine lv_bipush (v := zI (-2)) gx gb dX9_week_76 (by decide) ?_
                      exact W.iret (v := zI (-2)) gx gb gr (fun t ht hW => ⟨⟨zI (-2), (far, row, dig, z), rfl, (by first | (dsimp only; done) | ((try dsimp only); exact ⟨-2, rfl, wekR_n (fun h9 => by have h8 := h9.2.2 j (by omega); rw [show a.toNat = s by omega] at h8; omega)⟩)), by rw [ht]; exact hP, va_K.moved hW.alike hK, hD⟩, hS.F ht⟩) hS.2.2 dX9_week_78
              exact L57 _ 0 (by omega) (by intro x hx; exact absurd hx (Nat.not_lt_zero _)) (Nat.lt_succ_self _) _ _ hP hD hS ls (lv_sub hl [0, 1, 2, 3, 4] rfl)
            · skip
              rw [b0_eq] at c48
              simp only [decide_eq_false_iff_not, Decidable.not_not] at c48
              refine lv_bipush (v := zI (-2)) gx gb dX9_week_51 (by decide) ?_
              exact W.iret (v := zI (-2)) gx gb gr (fun t ht hW => ⟨⟨zI (-2), (far, row, dig, z), rfl, (by first | (dsimp only; done) | ((try dsimp only); exact ⟨-2, rfl, wekR_n (fun h9 => by have h8 := h9.1; have h7 := h9.2.1; first | omega | (rw [show b.toNat = k by omega] at h7; omega))⟩)), by rw [ht]; exact hP, va_K.moved hW.alike hK, hD⟩, hS.F ht⟩) hS.2.2 dX9_week_53
        · skip
          rw [b0_eq] at c17
          simp only [decide_eq_false_iff_not, Decidable.not_not] at c17
          refine lv_iload_n gx gb dX9_week_20 rfl (lv_at hl 0 rfl) ?_
          refine lv_bipush (v := nI 10) gx gb dX9_week_21 (by decide) ?_
          refine lv_imul gx gb dX9_week_23 ?_
          refine lv_evi (nI ((10 ^ k) * 10)) (pk_mul (10 ^ k) 10) ?_
          refine lv_istore_n (lv' := [(3, .int (nI ((10 ^ k) * 10))), (4, .int (nI k)), (0, .ref mo), (1, .int (zI a)), (2, .int (zI b))]) gx gb dX9_week_24 rfl hl (by decide) rfl (fun ls hl => ?_)
          refine lv_iinc (v := nI (k + 1)) (lv' := [(4, .int (nI (k + 1))), (3, .int (nI ((10 ^ k) * 10))), (0, .ref mo), (1, .int (zI a)), (2, .int (zI b))]) gx gb dX9_week_25 hl (k := 1) rfl (nI_add k 1) (by decide) rfl (fun ls hl => ?_)
          refine lv_goto (tgt := 5) gx gb dX9_week_28 (by decide) ?_
          exact ih5 (k + 1) (by omega) (by omega) (by omega) _ _ hP hD hS ls (lv_sub hl [1, 0, 2, 3, 4] rfl)
  exact L5 _ 0 (by omega) (by omega) (Nat.lt_succ_self _) _ _ hP hD hS ls (lv_sub hl [1, 0, 2, 3, 4] rfl)

