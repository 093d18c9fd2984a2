
set_option maxHeartbeats 4000000 in
set_option maxRecDepth 100000 in
theorem kX0_commonDivisor (Gl : Launch) (a b : Nat) (hab : a ≤ b) (hb : b ≤ 343) : Met Gl yX0_commonDivisor wsX0_commonDivisor ({ frames := 0, cells := 0, slots := 0, locals := 0 } : Room) (va_Pc [.int (nI a), .int (nI b)] (fun _ => True)) (vp_Si (fun r : Int32 => r = nI (Nat.gcd a b))) 0 0 (fun _ => False) := by
  refine Met.ofW (cc := cX0_commonDivisor) (maxL := 6) (ret := (some .int)) (by decide +kernel) rfl ?_
  intro Gp Ge Gs Gm Ga Gw Gt Gc G1 Bd gml gv
  obtain ⟨rfl, -⟩ := gv
  have gx := Bd.exec
  have gb := Bd.bytes
  have gr := Bd.returns
  have gts := atoms_spec (ws := wsX0_commonDivisor) Bd.pre
  have gown : Gs.vm.findClass RX0 = some Gm.cls := findClass_of_methodNamed Bd.named
  have glk := Bd.notSynchronized
  have hl := lv_entry ([.int (nI a), .int (nI b)]) (n := 6) (Nat.le_of_ble_eq_true rfl)
  rw [lg_entry_eq]
  generalize (lg_sl ([.int (nI a), .int (nI b)]) ++ List.replicate (6 - (lg_sl ([.int (nI a), .int (nI b)])).length) Slot.unset).toArray = ls at hl ⊢
  have hl : lv_has ls 6 [(0, .int (nI a)), (1, .int (nI b))] := hl
  refine lv_iload_n gx gb dX0_commonDivisor_0 rfl (lv_at hl 1 rfl) ?_
  refine lv_istore_n (lv' := [(2, .int (nI b)), (0, .int (nI a)), (1, .int (nI b))]) gx gb dX0_commonDivisor_1 rfl hl (by decide) rfl (fun ls hl => ?_)
  refine lv_iload_n gx gb dX0_commonDivisor_2 rfl (lv_at hl 1 rfl) ?_
  refine lv_istore_n (lv' := [(3, .int (nI a)), (2, .int (nI b)), (0, .int (nI a)), (1, .int (nI b))]) gx gb dX0_commonDivisor_3 rfl hl (by decide) rfl (fun ls hl => ?_)
  refine lv_iconst (v := nI 0) gx gb dX0_commonDivisor_4 (by decide) ?_
  refine lv_istore (lv' := [(4, .int (nI 0)), (3, .int (nI a)), (2, .int (nI b)), (0, .int (nI a)), (1, .int (nI b))]) gx gb dX0_commonDivisor_5 hl (by decide) rfl (fun ls hl => ?_)
  have L7 : ∀ fu : Nat, ∀ (G l k : Nat) (hg : Nat.gcd G l = Nat.gcd a b) (hle : l ≤ G) (hm : G * l * 2 ^ k ≤ 117649) (hk : k ≤ 64) (hG : G ≤ 343), (64 - k) < fu → ∀ ls : Array Slot, lv_has ls 6 [(2, .int (nI G)), (3, .int (nI l)), (4, .int (nI k)), (0, .int (nI a)), (1, .int (nI b))] → W Gp Gl Ge (headSpec wsX0_commonDivisor ({ frames := 0, cells := 0, slots := 0, locals := 0 } : Room)).room Gs Gm ([.int (nI a), .int (nI b)] : List Value).toArray Gw Gt Gc Gs.heap [] 0 0 (MQ Gw (vp_Si (fun r : Int32 => r = nI (Nat.gcd a b))) ([.int (nI a), .int (nI b)] : List Value).toArray Gs 0 0 (fun _ => False)) (F0 Gm 7 ls []) := by
    intro fu
    induction fu with
    | zero => intro G l k hg hle hm hk hG hfu; exact absurd hfu (Nat.not_lt_zero _)
    | succ fu ih7 =>
      intro G l k hg hle hm hk hG hfu ls hl
      refine lv_iload gx gb dX0_commonDivisor_7 (lv_at hl 2 rfl) ?_
      refine lv_bipush (v := nI 64) gx gb dX0_commonDivisor_9 (by decide) ?_
      refine lv_icmp_ge (tgt := 34) gx gb dX0_commonDivisor_11 (by decide) (fun c11 => ?_) (fun c11 => ?_)
      · skip
        rw [nI_leI (by omega) (by omega)] at c11
        refine lv_iload_n gx gb dX0_commonDivisor_34 rfl (lv_at hl 0 rfl) ?_
        exact W.iret (v := nI G) gx gb gr (fun t ht hW => ⟨nI G, rfl, (by first | (dsimp only; done) | ((try dsimp only); have h0 : l = 0 := (Nat.eq_zero_or_pos l).elim id (fun hp => absurd (show k = 64 by omega) (fun h9 => cd_e (h9 ▸ hm) hp hle)); rw [h0] at hg; exact congrArg nI (gcd_z hg))), ht⟩) (fun q h => by cases h) dX0_commonDivisor_35
      · skip
        rw [nI_leI (by omega) (by omega)] at c11
        refine lv_iload_n gx gb dX0_commonDivisor_14 rfl (lv_at hl 1 rfl) ?_
        refine lv_if_le (tgt := 34) gx gb dX0_commonDivisor_15 (by decide) (fun c15 => ?_) (fun c15 => ?_)
        · skip
          rw [n0_le (by omega)] at c15
          refine lv_iload_n gx gb dX0_commonDivisor_34 rfl (lv_at hl 0 rfl) ?_
          exact W.iret (v := nI G) gx gb gr (fun t ht hW => ⟨nI G, rfl, (by first | (dsimp only; done) | ((try dsimp only); have h0 : l = 0 := (Nat.eq_zero_or_pos l).elim id (fun hp => absurd (show k = 64 by omega) (fun h9 => cd_e (h9 ▸ hm) hp hle)); rw [h0] at hg; exact congrArg nI (gcd_z hg))), ht⟩) (fun q h => by cases h) dX0_commonDivisor_35
        · skip
          rw [n0_le (by omega)] at c15
          refine lv_iload_n gx gb dX0_commonDivisor_18 rfl (lv_at hl 0 rfl) ?_
          refine lv_iload_n gx gb dX0_commonDivisor_19 rfl (lv_at hl 1 rfl) ?_
          refine lv_irem gx gb dX0_commonDivisor_20 (nI_ne0 (by omega) (by omega)) ?_
          refine lv_evi (nI (G % l)) (e_rem (by omega) (by omega) (by omega)) ?_
          refine lv_istore (lv' := [(5, .int (nI (G % l))), (2, .int (nI G)), (3, .int (nI l)), (4, .int (nI k)), (0, .int (nI a)), (1, .int (nI b))]) gx gb dX0_commonDivisor_21 hl (by decide) rfl (fun ls hl => ?_)
          refine lv_iload_n gx gb dX0_commonDivisor_23 rfl (lv_at hl 2 rfl) ?_
          refine lv_istore_n (lv' := [(2, .int (nI l)), (5, .int (nI (G % l))), (3, .int (nI l)), (4, .int (nI k)), (0, .int (nI a)), (1, .int (nI b))]) gx gb dX0_commonDivisor_24 rfl hl (by decide) rfl (fun ls hl => ?_)
          refine lv_iload gx gb dX0_commonDivisor_25 (lv_at hl 1 rfl) ?_
          refine lv_istore_n (lv' := [(3, .int (nI (G % l))), (2, .int (nI l)), (5, .int (nI (G % l))), (4, .int (nI k)), (0, .int (nI a)), (1, .int (nI b))]) gx gb dX0_commonDivisor_27 rfl hl (by decide) rfl (fun ls hl => ?_)
          refine lv_iinc (v := nI (k + 1)) (lv' := [(4, .int (nI (k + 1))), (3, .int (nI (G % l))), (2, .int (nI l)), (5, .int (nI (G % l))), (0, .int (nI a)), (1, .int (nI b))]) gx gb dX0_commonDivisor_28 hl (k := 3) rfl (nI_add k 1) (by decide) rfl (fun ls hl => ?_)
          refine lv_goto (tgt := 7) gx gb dX0_commonDivisor_31 (by decide) ?_
          exact ih7 l (G % l) (k + 1) (by exact gcd_s hg) (by have := Nat.mod_lt G (show 0 < l by omega); omega) (by exact cd_s hm (by omega) hle) (by omega) (by omega) (by omega) ls (lv_sub hl [2, 1, 0, 4, 5] rfl)
  exact L7 _ b a 0 (by exact Nat.gcd_comm b a) (by omega) (by exact cd_0 (by omega) hb) (by omega) (by omega) (Nat.lt_succ_self _) ls (lv_sub hl [2, 1, 0, 3, 4] rfl)

set_option maxHeartbeats 4000000 in
set_option maxRecDepth 100000 in
theorem kX9_pikes (Gl : Launch) (D : va_G) (cI cJ cZ : ClassId) (mo : Nat) (ma : Nat) (mb : Nat) (mc : Nat) (md : Nat) (me : Nat) (mf : Nat) (mg : Nat) (mh : Nat) (mi : Nat) (mj : Nat) (mk : Nat) (ml : Nat) (mn : Nat) (n : Nat) (q : Nat) (c : Nat) (w : Nat) (z : Nat) (ev : Nat) (num : Nat → Nat) (plc : Nat → Nat) (sig : Nat → Nat) (pad : Nat → Nat) (row : Nat → Nat) (dig : Nat → Nat) (far : Nat → Int32) (cfr : Nat → Nat) (cby : Nat → Nat) (que : Nat → Nat) (has : Nat → Nat) (img : Nat → Nat) (kep : Nat → Nat) (sz : Nat) (a b e_ : Int) (hl_a : -2147483648 ≤ a) (hu_a : a < 2147483648) (hl_b : -2147483648 ≤ b) (hu_b : b < 2147483648) (hl_e_ : -2147483648 ≤ e_) (hu_e_ : e_ < 2147483648) (hn1 : 1 ≤ n) (hn7 : n ≤ 7) (hq1 : 1 ≤ q) (hqn : q ≤ n) (hp : ∀ k, k < q → plc k < n) (hnum : ∀ k, k < n → num k ≤ 99) : Met Gl yX9_pikes wsX9_pikes ({ frames := 3, cells := 0, slots := 0, locals := 71 } : Room) (va_Pc [.ref mo, .int (zI a), .int (zI b), .int (zI e_)] (fun U => U.heap.size = sz ∧ va_P D vwCl (wM mo ma mb mc md me mf mg mh mi mj mk ml mn cI cZ n q c w z ev num plc sig pad row dig far cfr cby que has img kep) U.heap ∧ va_K D vwCl [(cI, .int), (cJ, .long), (cZ, .boolean)] U ∧ va_D (fun _ => True) (wM mo ma mb mc md me mf mg mh mi mj mk ml mn cI cZ n q c w z ev num plc sig pad row dig far cfr cby que has img kep))) (va_Ql (fun (r : Int64) (u : (Nat → Nat) × (Nat)) => r = pikJ num plc q a b e_) (fun (u : (Nat → Nat) × (Nat)) t => va_P D vwCl (wM mo ma mb mc md me mf mg mh mi mj mk ml mn cI cZ n q c w u.2 ev num plc sig pad u.1 dig far cfr cby que has img kep) t.heap ∧ va_K D vwCl [(cI, .int), (cJ, .long), (cZ, .boolean)] t ∧ va_D (va_A (wM mo ma mb mc md me mf mg mh mi mj mk ml mn cI cZ n q c w z ev num plc sig pad row dig far cfr cby que has img kep) sz) (wM mo ma mb mc md me mf mg mh mi mj mk ml mn cI cZ n q c w u.2 ev num plc sig pad u.1 dig far cfr cby que has img kep)) (va_A (wM mo ma mb mc md me mf mg mh mi mj mk ml mn cI cZ n q c w z ev num plc sig pad row dig far cfr cby que has img kep) sz)) 0 0 (va_A (wM mo ma mb mc md me mf mg mh mi mj mk ml mn cI cZ n q c w z ev num plc sig pad row dig far cfr cby que has img kep) sz) := by
  refine Met.ofW (cc := cX9_pikes) (maxL := 9) (ret := (some .long)) (by decide +kernel) rfl ?_
  intro Gp Ge Gs Gm Ga Gw Gt Gc G1 Bd gml gv
  obtain ⟨rfl, hsz, hP, hK, hD0⟩ := gv
  have gx := Bd.exec
  have gb := Bd.bytes
  have gr := Bd.returns
  have gts := atoms_spec (ws := wsX9_pikes) Bd.pre
  have gown : Gs.vm.findClass RX9 = some Gm.cls := findClass_of_methodNamed Bd.named
  have glk := Bd.notSynchronized
  subst hsz
  have hD := hD0.self (sz := Gs.heap.size)
  generalize hAe : va_A (wM mo ma mb mc md me mf mg mh mi mj mk ml mn cI cZ n q c w z ev num plc sig pad row dig far cfr cby que has img kep) Gs.heap.size = A at hD ⊢
  have hA : ∀ q : Nat, Gs.heap.size ≤ q → A q := fun q h => by rw [← hAe]; exact Or.inr h
  have hS : va_S A Gs.heap Gs.heap [] := va_S.rf
  have hP : va_P D vwCl (wM mo ma mb mc md me mf mg mh mi mj mk ml mn cI cZ n q c w z ev num plc sig pad row dig far cfr cby que has img kep) Gs.heap := hP
  have hl := lv_entry ([.ref mo, .int (zI a), .int (zI b), .int (zI e_)]) (n := 9) (Nat.le_of_ble_eq_true rfl)
  rw [lg_entry_eq]
  generalize (lg_sl ([.ref mo, .int (zI a), .int (zI b), .int (zI e_)]) ++ List.replicate (9 - (lg_sl ([.ref mo, .int (zI a), .int (zI b), .int (zI e_)])).length) Slot.unset).toArray = ls at hl ⊢
  have hl : lv_has ls 9 [(0, .ref mo), (1, .int (zI a)), (2, .int (zI b)), (3, .int (zI e_))] := hl
  have i9 : ∀ w ∈ wsX90, w ∈ wsX9_pikes := by decide +kernel
  refine lv_iload_n gx gb dX9_pikes_0 rfl (lv_at hl 1 rfl) ?_
  refine vp_callSi (W.runS (As := [.int (zI a)]) (rest := []) ⟨gx, gb, gml, gown, gts⟩ (kX9_isLesson Gl a (by omega) (by omega)) (va_cwS 1 gts gX9_pikes_X9_isLesson rfl rfl rfl (by decide +kernel) ⟨Nat.le_of_ble_eq_true rfl, Nat.le_of_ble_eq_true rfl⟩) ⟨fun _ _ _ _ h => h, fun U hU hW => ⟨rfl, trivial⟩⟩ rfl rfl hl.1 rfl (lv_room (Nat.le_of_ble_eq_true rfl)) dX9_pikes_1 ⟨Nat.le_of_ble_eq_true rfl, Nat.le_of_ble_eq_true rfl⟩) (fun r hw => ?_)
  have hr1 := hw
  subst hr1
  refine lv_if_eq (tgt := 25) gx gb dX9_pikes_4 (by decide) (fun c4 => ?_) (fun c4 => ?_)
  · skip
    rw [b0_eq] at c4
    simp only [decide_eq_false_iff_not, Decidable.not_not] at c4
    refine lv_ldc2 (v := (-1000000000000000002)) gx gb gown (gts (.constantLong RX9 168 (-1000000000000000002)) (by decide +kernel)) dX9_pikes_25 ?_
    exact W.lret (v := (-1000000000000000002)) gx gb gr (fun t ht hW => ⟨⟨(-1000000000000000002), (row, z), rfl, (by first | (dsimp only; done) | ((try dsimp only); rw [pikJ, if_neg (by omega)])), by rw [ht]; exact hP, va_K.moved hW.alike hK, hD⟩, hS.F ht⟩) hS.2.2 dX9_pikes_28
  · skip
    rw [b0_eq] at c4
    simp only [decide_eq_false_iff_not, Decidable.not_not] at c4
    refine lv_iload_n gx gb dX9_pikes_7 rfl (lv_at hl 2 rfl) ?_
    refine lv_iconst (v := nI 0) gx gb dX9_pikes_8 (by decide) ?_
    refine lv_iconst (v := nI 3) gx gb dX9_pikes_9 (by decide) ?_
    refine lv_evs [.int (zI ((3 : Nat) : Int)), .int (zI ((0 : Nat) : Int)), .int (zI b)] (by simp only [nI_zc]) ?_
    refine vp_callSi (W.runS (As := [.int (zI b), .int (zI ((0 : Nat) : Int)), .int (zI ((3 : Nat) : Int))]) (rest := []) ⟨gx, gb, gml, gown, gts⟩ (kX9_in Gl b ((0 : Nat) : Int) ((3 : Nat) : Int) (by omega) (by omega) (by omega) (by omega) (by omega) (by omega)) (va_cwS 3 gts gX9_pikes_X9_in rfl rfl rfl (by decide +kernel) ⟨Nat.le_of_ble_eq_true rfl, Nat.le_of_ble_eq_true rfl⟩) ⟨fun _ _ _ _ h => h, fun U hU hW => ⟨rfl, trivial⟩⟩ rfl rfl hl.1 rfl (lv_room (Nat.le_of_ble_eq_true rfl)) dX9_pikes_10 ⟨Nat.le_of_ble_eq_true rfl, Nat.le_of_ble_eq_true rfl⟩) (fun r hw => ?_)
    have hr10 := hw
    subst hr10
    refine lv_if_eq (tgt := 25) gx gb dX9_pikes_13 (by decide) (fun c13 => ?_) (fun c13 => ?_)
    · skip
      rw [b0_eq] at c13
      simp only [decide_eq_false_iff_not, Decidable.not_not] at c13
      refine lv_ldc2 (v := (-1000000000000000002)) gx gb gown (gts (.constantLong RX9 168 (-1000000000000000002)) (by decide +kernel)) dX9_pikes_25 ?_
      exact W.lret (v := (-1000000000000000002)) gx gb gr (fun t ht hW => ⟨⟨(-1000000000000000002), (row, z), rfl, (by first | (dsimp only; done) | ((try dsimp only); rw [pikJ, if_neg (by omega)])), by rw [ht]; exact hP, va_K.moved hW.alike hK, hD⟩, hS.F ht⟩) hS.2.2 dX9_pikes_28
    · skip
      rw [b0_eq] at c13
      simp only [decide_eq_false_iff_not, Decidable.not_not] at c13
      refine lv_iload_n gx gb dX9_pikes_16 rfl (lv_at hl 3 rfl) ?_
      refine lv_iconst (v := nI 0) gx gb dX9_pikes_17 (by decide) ?_
      refine lv_iconst (v := nI 1) gx gb dX9_pikes_18 (by decide) ?_
      refine lv_evs [.int (zI ((1 : Nat) : Int)), .int (zI ((0 : Nat) : Int)), .int (zI e_)] (by simp only [nI_zc]) ?_
      refine vp_callSi (W.runS (As := [.int (zI e_), .int (zI ((0 : Nat) : Int)), .int (zI ((1 : Nat) : Int))]) (rest := []) ⟨gx, gb, gml, gown, gts⟩ (kX9_in Gl e_ ((0 : Nat) : Int) ((1 : Nat) : Int) (by omega) (by omega) (by omega) (by omega) (by omega) (by omega)) (va_cwS 3 gts gX9_pikes_X9_in rfl rfl rfl (by decide +kernel) ⟨Nat.le_of_ble_eq_true rfl, Nat.le_of_ble_eq_true rfl⟩) ⟨fun _ _ _ _ h => h, fun U hU hW => ⟨rfl, trivial⟩⟩ rfl rfl hl.1 rfl (lv_room (Nat.le_of_ble_eq_true rfl)) dX9_pikes_19 ⟨Nat.le_of_ble_eq_true rfl, Nat.le_of_ble_eq_true rfl⟩) (fun r hw => ?_)
      have hr19 := hw
      subst hr19
      refine lv_if_ne (tgt := 29) gx gb dX9_pikes_22 (by decide) (fun c22 => ?_) (fun c22 => ?_)
      · skip
        rw [b0_eq] at c22
        simp only [decide_eq_false_iff_not, Decidable.not_not] at c22
        obtain ⟨k, hk⟩ : ∃ k : Nat, a = (k : Int) := ⟨a.toNat, by omega⟩
        rw [show zI a = nI k from by rw [hk, zI_nat]] at hl
        obtain ⟨m, hm⟩ : ∃ m : Nat, b = (m : Int) := ⟨b.toNat, by omega⟩
        rw [show zI b = nI m from by rw [hm, zI_nat]] at hl
        have hl : lv_has ls 9 [(0, .ref mo), (1, .int (nI k)), (2, .int (nI m)), (3, .int (zI e_))] := hl
        refine lv_iconst (v := nI 1) gx gb dX9_pikes_29 (by decide) ?_
        refine lv_istore (lv' := [(4, .int (nI 1)), (0, .ref mo), (1, .int (nI k)), (2, .int (nI m)), (3, .int (zI e_))]) gx gb dX9_pikes_30 hl (by decide) rfl (fun ls hl => ?_)
        refine lv_iconst (v := nI 0) gx gb dX9_pikes_32 (by decide) ?_
        refine lv_istore (lv' := [(5, .int (nI 0)), (4, .int (nI 1)), (0, .ref mo), (1, .int (nI k)), (2, .int (nI m)), (3, .int (zI e_))]) gx gb dX9_pikes_33 hl (by decide) rfl (fun ls hl => ?_)
        have L35 : ∀ fu : Nat, ∀ (i : Nat) (hi : i ≤ m), (m - i) < fu → ∀ (H : Heap) (locs : List Loc), va_P D vwCl (wM mo ma mb mc md me mf mg mh mi mj mk ml mn cI cZ n q c w z ev num plc sig pad row dig far cfr cby que has img kep) H → va_D A (wM mo ma mb mc md me mf mg mh mi mj mk ml mn cI cZ n q c w z ev num plc sig pad row dig far cfr cby que has img kep) → va_S A Gs.heap H locs → ∀ ls : Array Slot, lv_has ls 9 [(4, .int (nI (q ^ i))), (5, .int (nI i)), (0, .ref mo), (1, .int (nI k)), (2, .int (nI m)), (3, .int (zI e_))] → W Gp Gl Ge (headSpec wsX9_pikes ({ frames := 3, cells := 0, slots := 0, locals := 71 } : Room)).room Gs Gm ([.ref mo, .int (zI a), .int (zI b), .int (zI e_)] : List Value).toArray Gw Gt Gc H locs 0 0 (MQ Gw (va_Ql (fun (r : Int64) (u : (Nat → Nat) × (Nat)) => r = pikJ num plc q a b e_) (fun (u : (Nat → Nat) × (Nat)) t => va_P D vwCl (wM mo ma mb mc md me mf mg mh mi mj mk ml mn cI cZ n q c w u.2 ev num plc sig pad u.1 dig far cfr cby que has img kep) t.heap ∧ va_K D vwCl [(cI, .int), (cJ, .long), (cZ, .boolean)] t ∧ va_D A (wM mo ma mb mc md me mf mg mh mi mj mk ml mn cI cZ n q c w u.2 ev num plc sig pad u.1 dig far cfr cby que has img kep)) A) ([.ref mo, .int (zI a), .int (zI b), .int (zI e_)] : List Value).toArray Gs 0 0 A) (F0 Gm 35 ls []) := by
          intro fu
          induction fu with
          | zero => intro i hi hfu; exact absurd hfu (Nat.not_lt_zero _)
          | succ fu ih35 =>
            intro i hi hfu H locs hP hD hS ls hl
            have hqi := qm_s (q := q) hq1 hi
            have hqm := qm_bd (m := m) hq1 (by omega) (by omega)
            refine lv_iload gx gb dX9_pikes_35 (lv_at hl 1 rfl) ?_
            refine lv_iload_n gx gb dX9_pikes_37 rfl (lv_at hl 4 rfl) ?_
            refine lv_icmp_ge (tgt := 56) gx gb dX9_pikes_38 (by decide) (fun c38 => ?_) (fun c38 => ?_)
            · skip
              rw [nI_leI (by omega) (by omega)] at c38
              have e9 : m = i := (by omega)
              subst e9
              have hl : lv_has ls 9 [(4, .int (nI (q ^ m))), (5, .int (nI m)), (0, .ref mo), (1, .int (nI k)), (2, .int (nI m)), (3, .int (zI e_))] := hl
              refine lv_iconst (v := nI 0) gx gb dX9_pikes_56 (by decide) ?_
              refine lv_istore (lv' := [(5, .int (nI 0)), (4, .int (nI (q ^ m))), (0, .ref mo), (1, .int (nI k)), (2, .int (nI m)), (3, .int (zI e_))]) gx gb dX9_pikes_57 hl (by decide) rfl (fun ls hl => ?_)
              refine lv_iconst (v := nI 0) gx gb dX9_pikes_59 (by decide) ?_
              refine lv_istore (lv' := [(6, .int (nI 0)), (5, .int (nI 0)), (4, .int (nI (q ^ m))), (0, .ref mo), (1, .int (nI k)), (2, .int (nI m)), (3, .int (zI e_))]) gx gb dX9_pikes_60 hl (by decide) rfl (fun ls hl => ?_)
              have L62 : ∀ fu : Nat, ∀ (rw_ : Nat → Nat) (zz i : Nat) (hi : i ≤ q ^ m), (q ^ m - i) < fu → ∀ (H : Heap) (locs : List Loc), va_P D vwCl (wM mo ma mb mc md me mf mg mh mi mj mk ml mn cI cZ n q c w zz ev num plc sig pad rw_ dig far cfr cby que has img kep) H → va_D A (wM mo ma mb mc md me mf mg mh mi mj mk ml mn cI cZ n q c w zz ev num plc sig pad rw_ dig far cfr cby que has img kep) → va_S A Gs.heap H locs → ∀ ls : Array Slot, lv_has ls 9 [(4, .int (nI (q ^ m))), (5, .int (nI (cnT (pkT num plc k q m) i))), (6, .int (nI i)), (0, .ref mo), (1, .int (nI k)), (2, .int (nI m)), (3, .int (zI e_))] → W Gp Gl Ge (headSpec wsX9_pikes ({ frames := 3, cells := 0, slots := 0, locals := 71 } : Room)).room Gs Gm ([.ref mo, .int (zI a), .int (zI b), .int (zI e_)] : List Value).toArray Gw Gt Gc H locs 0 0 (MQ Gw (va_Ql (fun (r : Int64) (u : (Nat → Nat) × (Nat)) => r = pikJ num plc q a b e_) (fun (u : (Nat → Nat) × (Nat)) t => va_P D vwCl (wM mo ma mb mc md me mf mg mh mi mj mk ml mn cI cZ n q c w u.2 ev num plc sig pad u.1 dig far cfr cby que has img kep) t.heap ∧ va_K D vwCl [(cI, .int), (cJ, .long), (cZ, .boolean)] t ∧ va_D A (wM mo ma mb mc md me mf mg mh mi mj mk ml mn cI cZ n q c w u.2 ev num plc sig pad u.1 dig far cfr cby que has img kep)) A) ([.ref mo, .int (zI a), .int (zI b), .int (zI e_)] : List Value).toArray Gs 0 0 A) (F0 Gm 62 ls []) := by
                intro fu
                induction fu with
                | zero => intro rw_ zz i hi hfu; exact absurd hfu (Nat.not_lt_zero _)
                | succ fu ih62 =>
                  intro rw_ zz i hi hfu H locs hP hD hS ls hl
                  have hqm := qm_bd (m := m) hq1 (by omega) (by omega)
                  have hcn := cnT_le (pkT num plc k q m) i
                  refine lv_iload gx gb dX9_pikes_62 (lv_at hl 2 rfl) ?_
                  refine lv_iload gx gb dX9_pikes_64 (lv_at hl 0 rfl) ?_
                  refine lv_icmp_ge (tgt := 136) gx gb dX9_pikes_66 (by decide) (fun c66 => ?_) (fun c66 => ?_)
                  · skip
                    rw [nI_leI (by omega) (by omega)] at c66
                    refine lv_iload gx gb dX9_pikes_136 (lv_at hl 1 rfl) ?_
                    refine lv_istore (lv' := [(6, .int (nI (cnT (pkT num plc k q m) i))), (4, .int (nI (q ^ m))), (5, .int (nI (cnT (pkT num plc k q m) i))), (0, .ref mo), (1, .int (nI k)), (2, .int (nI m)), (3, .int (zI e_))]) gx gb dX9_pikes_138 hl (by decide) rfl (fun ls hl => ?_)
                    refine lv_iload gx gb dX9_pikes_140 (lv_at hl 1 rfl) ?_
                    refine lv_istore (lv' := [(7, .int (nI (q ^ m))), (6, .int (nI (cnT (pkT num plc k q m) i))), (4, .int (nI (q ^ m))), (5, .int (nI (cnT (pkT num plc k q m) i))), (0, .ref mo), (1, .int (nI k)), (2, .int (nI m)), (3, .int (zI e_))]) gx gb dX9_pikes_142 hl (by decide) rfl (fun ls hl => ?_)
                    have L144 : ∀ fu : Nat, ∀ (x y : Nat) (hg : Nat.gcd x y = pkG num plc k q m) (hx3 : x ≤ 343) (hy3 : y ≤ 343), y < fu → ∀ (H : Heap) (locs : List Loc), va_P D vwCl (wM mo ma mb mc md me mf mg mh mi mj mk ml mn cI cZ n q c w zz ev num plc sig pad rw_ dig far cfr cby que has img kep) H → va_D A (wM mo ma mb mc md me mf mg mh mi mj mk ml mn cI cZ n q c w zz ev num plc sig pad rw_ dig far cfr cby que has img kep) → va_S A Gs.heap H locs → ∀ ls : Array Slot, lv_has ls 9 [(6, .int (nI x)), (7, .int (nI y)), (4, .int (nI (q ^ m))), (5, .int (nI (cnT (pkT num plc k q m) i))), (0, .ref mo), (1, .int (nI k)), (2, .int (nI m)), (3, .int (zI e_))] → W Gp Gl Ge (headSpec wsX9_pikes ({ frames := 3, cells := 0, slots := 0, locals := 71 } : Room)).room Gs Gm ([.ref mo, .int (zI a), .int (zI b), .int (zI e_)] : List Value).toArray Gw Gt Gc H locs 0 0 (MQ Gw (va_Ql (fun (r : Int64) (u : (Nat → Nat) × (Nat)) => r = pikJ num plc q a b e_) (fun (u : (Nat → Nat) × (Nat)) t => va_P D vwCl (wM mo ma mb mc md me mf mg mh mi mj mk ml mn cI cZ n q c w u.2 ev num plc sig pad u.1 dig far cfr cby que has img kep) t.heap ∧ va_K D vwCl [(cI, .int), (cJ, .long), (cZ, .boolean)] t ∧ va_D A (wM mo ma mb mc md me mf mg mh mi mj mk ml mn cI cZ n q c w u.2 ev num plc sig pad u.1 dig far cfr cby que has img kep)) A) ([.ref mo, .int (zI a), .int (zI b), .int (zI e_)] : List Value).toArray Gs 0 0 A) (F0 Gm 144 ls []) := by
                      intro fu
                      induction fu with
                      | zero => intro x y hg hx3 hy3 hfu; exact absurd hfu (Nat.not_lt_zero _)
                      | succ fu ih144 =>
                        intro x y hg hx3 hy3 hfu H locs hP hD hS ls hl
                        have hqm := qm_bd (m := m) hq1 (by omega) (by omega)
                        refine lv_iload gx gb dX9_pikes_144 (lv_at hl 1 rfl) ?_
                        refine lv_if_eq (tgt := 167) gx gb dX9_pikes_146 (by decide) (fun c146 => ?_) (fun c146 => ?_)
                        · skip
                          rw [n0_eq (by omega)] at c146
                          have hy0 : y = 0 := (by omega)
                          rw [hy0] at hg
                          have hxg := gcd_z hg
                          have hd1 := Nat.div_le_self (q ^ m) x
                          have hd2 := Nat.div_le_self (cnT (pkT num plc k q m) i) x
                          have hgp : 0 < pkG num plc k q m := Nat.gcd_pos_of_pos_right _ (by omega)
                          refine lv_iload_n gx gb dX9_pikes_167 rfl (lv_at hl 7 rfl) ?_
                          refine lv_if_ne (tgt := 180) gx gb dX9_pikes_168 (by decide) (fun c168 => ?_) (fun c168 => ?_)
                          · skip
                            rw [z0_eq (by omega) (by omega)] at c168
                            refine lv_iload gx gb dX9_pikes_180 (lv_at hl 2 rfl) ?_
                            refine lv_iload gx gb dX9_pikes_182 (lv_at hl 0 rfl) ?_
                            refine lv_idiv gx gb dX9_pikes_184 (nI_ne0 (by omega) (by omega)) ?_
                            refine lv_evi (nI ((q ^ m) / x)) (e_div (by omega) (by omega) (by omega)) ?_
                            refine lv_i2l (v := lN ((q ^ m) / x)) gx gb dX9_pikes_185 (nI_l (by omega)) ?_
                            exact W.lret (v := lN ((q ^ m) / x)) gx gb gr (fun t ht hW => ⟨⟨lN ((q ^ m) / x), (rw_, zz), rfl, (by first | (dsimp only; done) | ((try dsimp only); first | (rw [pikJ, if_pos (by omega), if_pos (by omega), hk, hm, hxg, show i = q ^ m by omega]; rfl) | (rw [pikJ, if_pos (by omega), if_neg (by omega), hk, hm, hxg]; rfl))), by rw [ht]; exact hP, va_K.moved hW.alike hK, hD⟩, hS.F ht⟩) hS.2.2 dX9_pikes_186
                          · skip
                            rw [z0_eq (by omega) (by omega)] at c168
                            refine lv_iload gx gb dX9_pikes_171 (lv_at hl 3 rfl) ?_
                            refine lv_iload gx gb dX9_pikes_173 (lv_at hl 0 rfl) ?_
                            refine lv_idiv gx gb dX9_pikes_175 (nI_ne0 (by omega) (by omega)) ?_
                            refine lv_evi (nI ((cnT (pkT num plc k q m) i) / x)) (e_div (by omega) (by omega) (by omega)) ?_
                            refine lv_i2l (v := lN ((cnT (pkT num plc k q m) i) / x)) gx gb dX9_pikes_176 (nI_l (by omega)) ?_
                            refine lv_goto (tgt := 186) gx gb dX9_pikes_177 (by decide) ?_
                            exact W.lret (v := lN ((cnT (pkT num plc k q m) i) / x)) gx gb gr (fun t ht hW => ⟨⟨lN ((cnT (pkT num plc k q m) i) / x), (rw_, zz), rfl, (by first | (dsimp only; done) | ((try dsimp only); first | (rw [pikJ, if_pos (by omega), if_pos (by omega), hk, hm, hxg, show i = q ^ m by omega]; rfl) | (rw [pikJ, if_pos (by omega), if_neg (by omega), hk, hm, hxg]; rfl))), by rw [ht]; exact hP, va_K.moved hW.alike hK, hD⟩, hS.F ht⟩) hS.2.2 dX9_pikes_186
                        · skip
                          rw [n0_eq (by omega)] at c146
                          refine lv_iload gx gb dX9_pikes_149 (lv_at hl 0 rfl) ?_
                          refine lv_iload gx gb dX9_pikes_151 (lv_at hl 1 rfl) ?_
                          refine lv_irem gx gb dX9_pikes_153 (nI_ne0 (by omega) (by omega)) ?_
                          refine lv_evi (nI (x % y)) (e_rem (by omega) (by omega) (by omega)) ?_
                          refine lv_istore (lv' := [(8, .int (nI (x % y))), (6, .int (nI x)), (7, .int (nI y)), (4, .int (nI (q ^ m))), (5, .int (nI (cnT (pkT num plc k q m) i))), (0, .ref mo), (1, .int (nI k)), (2, .int (nI m)), (3, .int (zI e_))]) gx gb dX9_pikes_154 hl (by decide) rfl (fun ls hl => ?_)
                          refine lv_iload gx gb dX9_pikes_156 (lv_at hl 2 rfl) ?_
                          refine lv_istore (lv' := [(6, .int (nI y)), (8, .int (nI (x % y))), (7, .int (nI y)), (4, .int (nI (q ^ m))), (5, .int (nI (cnT (pkT num plc k q m) i))), (0, .ref mo), (1, .int (nI k)), (2, .int (nI m)), (3, .int (zI e_))]) gx gb dX9_pikes_158 hl (by decide) rfl (fun ls hl => ?_)
                          refine lv_iload gx gb dX9_pikes_160 (lv_at hl 1 rfl) ?_
                          refine lv_istore (lv' := [(7, .int (nI (x % y))), (6, .int (nI y)), (8, .int (nI (x % y))), (4, .int (nI (q ^ m))), (5, .int (nI (cnT (pkT num plc k q m) i))), (0, .ref mo), (1, .int (nI k)), (2, .int (nI m)), (3, .int (zI e_))]) gx gb dX9_pikes_162 hl (by decide) rfl (fun ls hl => ?_)
                          refine lv_goto (tgt := 144) gx gb dX9_pikes_164 (by decide) ?_
                          exact ih144 y (x % y) (by exact gcd_s hg) (by omega) (by have := Nat.mod_lt x (show 0 < y by omega); omega) (by have := Nat.mod_lt x (show 0 < y by omega); omega) _ _ hP hD hS ls (lv_sub hl [1, 0, 3, 4, 5, 6, 7, 8] rfl)
                    exact L144 _ (cnT (pkT num plc k q m) i) (q ^ m) (by rw [show i = q ^ m by omega]; rfl) (by omega) (by omega) (Nat.lt_succ_self _) _ _ hP hD hS ls (lv_sub hl [1, 0, 2, 3, 4, 5, 6, 7] rfl)
                  · skip
                    rw [nI_leI (by omega) (by omega)] at c66
                    refine lv_aload_n gx gb dX9_pikes_69 rfl (lv_at hl 3 rfl) ?_
                    have hPc := hP.sub (ws' := wM mo ma mb mc md me mf mg mh mi mj mk ml mn cI cZ n q c w zz ev num plc sig pad rw_ dig far cfr cby que has img kep) [0, 1, 2, 3, 4, 5, 6, 7, 8, 9, 10, 11, 12, 13] rfl
                    have hDc := hD.sub (ws' := wM mo ma mb mc md me mf mg mh mi mj mk ml mn cI cZ n q c w zz ev num plc sig pad rw_ dig far cfr cby que has img kep) [0, 1, 2, 3, 4, 5, 6, 7, 8, 9, 10, 11, 12, 13] (by decide) rfl
                    have hFc := va_free (wc := wM mo ma mb mc md me mf mg mh mi mj mk ml mn cI cZ n q c w zz ev num plc sig pad rw_ dig far cfr cby que has img kep) hD hS hA [0, 1, 2, 3, 4, 5, 6, 7, 8, 9, 10, 11, 12, 13] rfl
                    refine va_callv (va_runV (As := []) (rest := []) ⟨gx, gb, gml, gown, gts⟩ (kX9_asNow Gl D cI cJ cZ mo ma mb mc md me mf mg mh mi mj mk ml mn n q c w zz ev num plc sig pad rw_ dig far cfr cby que has img kep _  ) (cwV 0 gts gX9_pikes_X9_asNow rfl rfl rfl (by decide +kernel) ⟨Nat.le_of_ble_eq_true rfl, Nat.le_of_ble_eq_true rfl⟩) ⟨fun a U g mk q => by obtain ⟨q0, q1, qP, qK, qD⟩ := q; exact ⟨q0, q1, qP, va_K.moved (u := U) (U := U.calling g mk a) (Vm.Alike.refl U.vm) qK, qD⟩, va_recv hK hPc (ci := 4) (q0 := 0) rfl rfl, fun U hU hW => ⟨rfl, by rw [hU], by rw [hU]; exact hPc, va_K.moved hW.alike hK, hDc.weaken (fun _ _ _ _ => trivial)⟩⟩ rfl rfl hl.1 rfl (lv_room (Nat.le_of_ble_eq_true rfl)) dX9_pikes_70 ⟨Nat.le_of_ble_eq_true rfl, Nat.le_of_ble_eq_true rfl⟩) hS (fun q _ h => hFc q h) hFc (fun u t H1 locs ht hvm hw hB hz1 hk1 hS => ?_)
                    obtain ⟨hP1, hK1, hD1⟩ := hB
                    rw [ht] at hP1
                    try dsimp only at hw
                    try dsimp only at hP1
                    try dsimp only at hD1
                    have hK := va_K.moved hvm.symm hK1
                    obtain ⟨hP, hD⟩ := va_join (wr := []) (w1 := wM mo ma mb mc md me mf mg mh mi mj mk ml mn cI cZ n q c w q ev num plc sig pad (cpy plc rw_ 7) dig far cfr cby que has img kep) hP hD [0, 1, 2, 3, 4, 5, 6, 7, 8, 9, 10, 11, 12, 13] [] rfl rfl (by decide) (by decide) hk1 hFc hP1 hD1
                    have hP := hP.sub (ws' := wM mo ma mb mc md me mf mg mh mi mj mk ml mn cI cZ n q c w q ev num plc sig pad (cpy plc rw_ 7) dig far cfr cby que has img kep) [0, 1, 2, 3, 4, 5, 6, 7, 8, 9, 10, 11, 12, 13] rfl
                    have hD := hD.sub (ws' := wM mo ma mb mc md me mf mg mh mi mj mk ml mn cI cZ n q c w q ev num plc sig pad (cpy plc rw_ 7) dig far cfr cby que has img kep) [0, 1, 2, 3, 4, 5, 6, 7, 8, 9, 10, 11, 12, 13] (by decide) rfl
                    have hK := va_K.moved (Vm.Alike.refl Gs.vm) hK
                    generalize H1 = H at hP hS ⊢
                    refine lv_iload gx gb dX9_pikes_73 (lv_at hl 2 rfl) ?_
                    refine lv_istore (lv' := [(7, .int (nI i)), (4, .int (nI (q ^ m))), (5, .int (nI (cnT (pkT num plc k q m) i))), (6, .int (nI i)), (0, .ref mo), (1, .int (nI k)), (2, .int (nI m)), (3, .int (zI e_))]) gx gb dX9_pikes_75 hl (by decide) rfl (fun ls hl => ?_)
                    refine lv_iconst (v := nI 0) gx gb dX9_pikes_77 (by decide) ?_
                    refine lv_istore (lv' := [(8, .int (nI 0)), (7, .int (nI i)), (4, .int (nI (q ^ m))), (5, .int (nI (cnT (pkT num plc k q m) i))), (6, .int (nI i)), (0, .ref mo), (1, .int (nI k)), (2, .int (nI m)), (3, .int (zI e_))]) gx gb dX9_pikes_78 hl (by decide) rfl (fun ls hl => ?_)
                    have L80 : ∀ fu : Nat, ∀ (rw2 : Nat → Nat) (l_ j : Nat) (hj : j ≤ m) (hl_ : l_ = i / q ^ j) (hr : ∀ p, p < q → rw2 p = pkR q plc i j p), (m - j) < fu → ∀ (H : Heap) (locs : List Loc), va_P D vwCl (wM mo ma mb mc md me mf mg mh mi mj mk ml mn cI cZ n q c w q ev num plc sig pad rw2 dig far cfr cby que has img kep) H → va_D A (wM mo ma mb mc md me mf mg mh mi mj mk ml mn cI cZ n q c w q ev num plc sig pad rw2 dig far cfr cby que has img kep) → va_S A Gs.heap H locs → ∀ ls : Array Slot, lv_has ls 9 [(7, .int (nI l_)), (8, .int (nI j)), (4, .int (nI (q ^ m))), (5, .int (nI (cnT (pkT num plc k q m) i))), (6, .int (nI i)), (0, .ref mo), (1, .int (nI k)), (2, .int (nI m)), (3, .int (zI e_))] → W Gp Gl Ge (headSpec wsX9_pikes ({ frames := 3, cells := 0, slots := 0, locals := 71 } : Room)).room Gs Gm ([.ref mo, .int (zI a), .int (zI b), .int (zI e_)] : List Value).toArray Gw Gt Gc H locs 0 0 (MQ Gw (va_Ql (fun (r : Int64) (u : (Nat → Nat) × (Nat)) => r = pikJ num plc q a b e_) (fun (u : (Nat → Nat) × (Nat)) t => va_P D vwCl (wM mo ma mb mc md me mf mg mh mi mj mk ml mn cI cZ n q c w u.2 ev num plc sig pad u.1 dig far cfr cby que has img kep) t.heap ∧ va_K D vwCl [(cI, .int), (cJ, .long), (cZ, .boolean)] t ∧ va_D A (wM mo ma mb mc md me mf mg mh mi mj mk ml mn cI cZ n q c w u.2 ev num plc sig pad u.1 dig far cfr cby que has img kep)) A) ([.ref mo, .int (zI a), .int (zI b), .int (zI e_)] : List Value).toArray Gs 0 0 A) (F0 Gm 80 ls []) := by
                      intro fu
                      induction fu with
                      | zero => intro rw2 l_ j hj hl_ hr hfu; exact absurd hfu (Nat.not_lt_zero _)
                      | succ fu ih80 =>
                        intro rw2 l_ j hj hl_ hr hfu H locs hP hD hS ls hl
                        refine lv_iload gx gb dX9_pikes_80 (lv_at hl 1 rfl) ?_
                        refine lv_iload_n gx gb dX9_pikes_82 rfl (lv_at hl 7 rfl) ?_
                        refine lv_icmp_ge (tgt := 112) gx gb dX9_pikes_83 (by decide) (fun c83 => ?_) (fun c83 => ?_)
                        · skip
                          rw [nI_leI (by omega) (by omega)] at c83
                          have L127 : ∀ (x : Nat) (hxx : x = if pkT num plc k q m i then 1 else 0), ∀ (H : Heap) (locs : List Loc), va_P D vwCl (wM mo ma mb mc md me mf mg mh mi mj mk ml mn cI cZ n q c w q ev num plc sig pad rw2 dig far cfr cby que has img kep) H → va_D A (wM mo ma mb mc md me mf mg mh mi mj mk ml mn cI cZ n q c w q ev num plc sig pad rw2 dig far cfr cby que has img kep) → va_S A Gs.heap H locs → ∀ ls : Array Slot, lv_has ls 9 [(7, .int (nI l_)), (8, .int (nI j)), (4, .int (nI (q ^ m))), (5, .int (nI (cnT (pkT num plc k q m) i))), (6, .int (nI i)), (0, .ref mo), (1, .int (nI k)), (2, .int (nI m)), (3, .int (zI e_))] → W Gp Gl Ge (headSpec wsX9_pikes ({ frames := 3, cells := 0, slots := 0, locals := 71 } : Room)).room Gs Gm ([.ref mo, .int (zI a), .int (zI b), .int (zI e_)] : List Value).toArray Gw Gt Gc H locs 0 0 (MQ Gw (va_Ql (fun (r : Int64) (u : (Nat → Nat) × (Nat)) => r = pikJ num plc q a b e_) (fun (u : (Nat → Nat) × (Nat)) t => va_P D vwCl (wM mo ma mb mc md me mf mg mh mi mj mk ml mn cI cZ n q c w u.2 ev num plc sig pad u.1 dig far cfr cby que has img kep) t.heap ∧ va_K D vwCl [(cI, .int), (cJ, .long), (cZ, .boolean)] t ∧ va_D A (wM mo ma mb mc md me mf mg mh mi mj mk ml mn cI cZ n q c w u.2 ev num plc sig pad u.1 dig far cfr cby que has img kep)) A) ([.ref mo, .int (zI a), .int (zI b), .int (zI e_)] : List Value).toArray Gs 0 0 A) (F0 Gm 127 ls [.int (nI x), .int (nI (cnT (pkT num plc k q m) i))]) := by
                            intro x hxx H locs hP hD hS ls hl
                            subst hxx
                            have hl : lv_has ls 9 [(7, .int (nI l_)), (8, .int (nI j)), (4, .int (nI (q ^ m))), (5, .int (nI (cnT (pkT num plc k q m) i))), (6, .int (nI i)), (0, .ref mo), (1, .int (nI k)), (2, .int (nI m)), (3, .int (zI e_))] := hl
                            refine lv_iadd gx gb dX9_pikes_127 ?_
                            refine lv_evi (nI ((cnT (pkT num plc k q m) i) + (if pkT num plc k q m i then 1 else 0))) (nI_add (cnT (pkT num plc k q m) i) (if pkT num plc k q m i then 1 else 0)) ?_
                            refine lv_istore (lv' := [(5, .int (nI ((cnT (pkT num plc k q m) i) + (if pkT num plc k q m i then 1 else 0)))), (7, .int (nI l_)), (8, .int (nI j)), (4, .int (nI (q ^ m))), (6, .int (nI i)), (0, .ref mo), (1, .int (nI k)), (2, .int (nI m)), (3, .int (zI e_))]) gx gb dX9_pikes_128 hl (by decide) rfl (fun ls hl => ?_)
                            refine lv_iinc (v := nI (i + 1)) (lv' := [(6, .int (nI (i + 1))), (5, .int (nI ((cnT (pkT num plc k q m) i) + (if pkT num plc k q m i then 1 else 0)))), (7, .int (nI l_)), (8, .int (nI j)), (4, .int (nI (q ^ m))), (0, .ref mo), (1, .int (nI k)), (2, .int (nI m)), (3, .int (zI e_))]) gx gb dX9_pikes_130 hl (k := 4) rfl (nI_add i 1) (by decide) rfl (fun ls hl => ?_)
                            refine lv_goto (tgt := 62) gx gb dX9_pikes_133 (by decide) ?_
                            exact ih62 rw2 q (i + 1) (by omega) (by omega) _ _ hP hD hS ls (lv_sub hl [4, 1, 0, 5, 6, 7, 8] rfl)
                          have hin := pkR_in (q := q) (plc := plc) (fill := i) (P := fun x => x < n) hq1 hp m
                          have e9 : j = m := (by omega)
                          rw [e9] at hr
                          refine lv_iload gx gb dX9_pikes_112 (lv_at hl 3 rfl) ?_
                          refine lv_aload_n gx gb dX9_pikes_114 rfl (lv_at hl 5 rfl) ?_
                          refine lv_iload_n gx gb dX9_pikes_115 rfl (lv_at hl 6 rfl) ?_
                          have hPc := hP.sub (ws' := wM mo ma mb mc md me mf mg mh mi mj mk ml mn cI cZ n q c w q ev num plc sig pad rw2 dig far cfr cby que has img kep) [0, 1, 2, 3, 4, 5, 6, 7, 8, 9, 10, 11, 12, 13] rfl
                          refine vp_callSi (W.runV (As := [.int (nI k)]) (rest := [.int (nI (cnT (pkT num plc k q m) i))]) ⟨gx, gb, gml, gown, gts⟩ (kX9_isTaught Gl D cI cJ cZ mo ma mb mc md me mf mg mh mi mj mk ml mn n q c w q ev num plc sig pad rw2 dig far cfr cby que has img kep k (by omega) (by omega) (by omega) (by intro x hx; rw [hr x hx]; have := hin x hx; omega) (by intro x hx; rw [hr x hx]; exact hnum _ (hin x hx))) (cwV 1 gts gX9_pikes_X9_isTaught rfl rfl rfl (by decide +kernel) ⟨Nat.le_of_ble_eq_true rfl, Nat.le_of_ble_eq_true rfl⟩) ⟨fun a U g mk q => ⟨q.1, q.2.1, va_K.moved (u := U) (U := U.calling g mk a) (Vm.Alike.refl U.vm) q.2.2⟩, va_recv hK hPc (ci := 4) (q0 := 0) rfl rfl, fun U hU hW => ⟨rfl, by rw [hU]; exact hPc, va_K.moved hW.alike hK⟩⟩ rfl rfl hl.1 rfl (lv_room (Nat.le_of_ble_eq_true rfl)) dX9_pikes_116 ⟨Nat.le_of_ble_eq_true rfl, Nat.le_of_ble_eq_true rfl⟩) (fun r hw => ?_)
                          have hr116 := hw
                          subst hr116
                          refine lv_evi (bI (pkT num plc k q m i)) (congrArg bI (tau_cong hq1 (fun x hx => by rw [hr x hx]))) ?_
                          refine lv_if_eq (tgt := 126) gx gb dX9_pikes_119 (by decide) (fun c119 => ?_) (fun c119 => ?_)
                          · skip
                            rw [b0_eq] at c119
                            refine lv_iconst (v := nI 0) gx gb dX9_pikes_126 (by decide) ?_
                            exact L127 0 (by first | (rw [c119]; rfl) | (rw [c119])) _ _ hP hD hS ls (lv_sub hl [0, 1, 2, 3, 4, 5, 6, 7, 8] rfl)
                          · skip
                            rw [b0_eq] at c119
                            have c119 := nf_t c119
                            refine lv_iconst (v := nI 1) gx gb dX9_pikes_122 (by decide) ?_
                            refine lv_goto (tgt := 127) gx gb dX9_pikes_123 (by decide) ?_
                            exact L127 1 (by first | (rw [c119]; rfl) | (rw [c119])) _ _ hP hD hS ls (lv_sub hl [0, 1, 2, 3, 4, 5, 6, 7, 8] rfl)
                        · skip
                          rw [nI_leI (by omega) (by omega)] at c83
                          have hlb : l_ ≤ 343 := by rw [hl_]; exact Nat.le_trans (Nat.div_le_self _ _) (by omega)
                          have hlm := Nat.mod_lt l_ (show 0 < q by omega)
                          refine lv_aload_n gx gb dX9_pikes_86 rfl (lv_at hl 5 rfl) ?_
                          refine lv_iload gx gb dX9_pikes_87 (lv_at hl 0 rfl) ?_
                          refine lv_aload_n gx gb dX9_pikes_89 rfl (lv_at hl 5 rfl) ?_
                          refine va_get (D := D) (ci := 4) (v := .int (nI q)) (C := RX9) (T := TX9) (N := 19) gx gb gts i9 gown hK hP 0 rfl rfl 1 (by decide) (gts (.fieldLink RX9 13 "SwanSumsModel" "many" "I") (by decide +kernel)) (fun _ h9 => h9) rfl dX9_pikes_90 ?_
                          refine lv_irem gx gb dX9_pikes_93 (nI_ne0 (by omega) (by omega)) ?_
                          refine lv_evi (nI (l_ % q)) (e_rem (by omega) (by omega) (by omega)) ?_
                          have hPc := hP.sub (ws' := wM mo ma mb mc md me mf mg mh mi mj mk ml mn cI cZ n q c w q ev num plc sig pad rw2 dig far cfr cby que has img kep) [0, 1, 2, 3, 4, 5, 6, 7, 8, 9, 10, 11, 12, 13] rfl
                          have hDc := hD.sub (ws' := wM mo ma mb mc md me mf mg mh mi mj mk ml mn cI cZ n q c w q ev num plc sig pad rw2 dig far cfr cby que has img kep) [0, 1, 2, 3, 4, 5, 6, 7, 8, 9, 10, 11, 12, 13] (by decide) rfl
                          have hFc := va_free (wc := wM mo ma mb mc md me mf mg mh mi mj mk ml mn cI cZ n q c w q ev num plc sig pad rw2 dig far cfr cby que has img kep) hD hS hA [0, 1, 2, 3, 4, 5, 6, 7, 8, 9, 10, 11, 12, 13] rfl
                          refine va_callv (va_runV (As := [.int (nI (l_ % q))]) (rest := []) ⟨gx, gb, gml, gown, gts⟩ (kX9_pike Gl D cI cJ cZ mo ma mb mc md me mf mg mh mi mj mk ml mn n q c w q ev num plc sig pad rw2 dig far cfr cby que has img kep _ (l_ % q) (by omega) (by omega)) (cwV 1 gts gX9_pikes_X9_pike rfl rfl rfl (by decide +kernel) ⟨Nat.le_of_ble_eq_true rfl, Nat.le_of_ble_eq_true rfl⟩) ⟨fun a U g mk q => by obtain ⟨q0, q1, qP, qK, qD⟩ := q; exact ⟨q0, q1, qP, va_K.moved (u := U) (U := U.calling g mk a) (Vm.Alike.refl U.vm) qK, qD⟩, va_recv hK hPc (ci := 4) (q0 := 0) rfl rfl, fun U hU hW => ⟨rfl, by rw [hU], by rw [hU]; exact hPc, va_K.moved hW.alike hK, hDc.weaken (fun _ _ _ _ => trivial)⟩⟩ rfl rfl hl.1 rfl (lv_room (Nat.le_of_ble_eq_true rfl)) dX9_pikes_94 ⟨Nat.le_of_ble_eq_true rfl, Nat.le_of_ble_eq_true rfl⟩) hS (fun q _ h => hFc q h) hFc (fun u t H1 locs ht hvm hw hB hz1 hk1 hS => ?_)
                          obtain ⟨hP1, hK1, hD1⟩ := hB
                          rw [ht] at hP1
                          try dsimp only at hw
                          try dsimp only at hP1
                          try dsimp only at hD1
                          have hK := va_K.moved hvm.symm hK1
                          obtain ⟨hP, hD⟩ := va_join (wr := []) (w1 := wM mo ma mb mc md me mf mg mh mi mj mk ml mn cI cZ n q c w q ev num plc sig pad (pikeF (l_ % q) (q - 1) rw2) dig far cfr cby que has img kep) hP hD [0, 1, 2, 3, 4, 5, 6, 7, 8, 9, 10, 11, 12, 13] [] rfl rfl (by decide) (by decide) hk1 hFc hP1 hD1
                          have hP := hP.sub (ws' := wM mo ma mb mc md me mf mg mh mi mj mk ml mn cI cZ n q c w q ev num plc sig pad (pikeF (l_ % q) (q - 1) rw2) dig far cfr cby que has img kep) [0, 1, 2, 3, 4, 5, 6, 7, 8, 9, 10, 11, 12, 13] rfl
                          have hD := hD.sub (ws' := wM mo ma mb mc md me mf mg mh mi mj mk ml mn cI cZ n q c w q ev num plc sig pad (pikeF (l_ % q) (q - 1) rw2) dig far cfr cby que has img kep) [0, 1, 2, 3, 4, 5, 6, 7, 8, 9, 10, 11, 12, 13] (by decide) rfl
                          have hK := va_K.moved (Vm.Alike.refl Gs.vm) hK
                          generalize H1 = H at hP hS ⊢
                          refine lv_iload gx gb dX9_pikes_97 (lv_at hl 0 rfl) ?_
                          refine lv_aload_n gx gb dX9_pikes_99 rfl (lv_at hl 5 rfl) ?_
                          refine va_get (D := D) (ci := 4) (v := .int (nI q)) (C := RX9) (T := TX9) (N := 19) gx gb gts i9 gown hK hP 0 rfl rfl 1 (by decide) (gts (.fieldLink RX9 13 "SwanSumsModel" "many" "I") (by decide +kernel)) (fun _ h9 => h9) rfl dX9_pikes_100 ?_
                          refine lv_idiv gx gb dX9_pikes_103 (nI_ne0 (by omega) (by omega)) ?_
                          refine lv_evi (nI (l_ / q)) (e_div (by omega) (by omega) (by omega)) ?_
                          refine lv_istore (lv' := [(7, .int (nI (l_ / q))), (8, .int (nI j)), (4, .int (nI (q ^ m))), (5, .int (nI (cnT (pkT num plc k q m) i))), (6, .int (nI i)), (0, .ref mo), (1, .int (nI k)), (2, .int (nI m)), (3, .int (zI e_))]) gx gb dX9_pikes_104 hl (by decide) rfl (fun ls hl => ?_)
                          refine lv_iinc (v := nI (j + 1)) (lv' := [(8, .int (nI (j + 1))), (7, .int (nI (l_ / q))), (4, .int (nI (q ^ m))), (5, .int (nI (cnT (pkT num plc k q m) i))), (6, .int (nI i)), (0, .ref mo), (1, .int (nI k)), (2, .int (nI m)), (3, .int (zI e_))]) gx gb dX9_pikes_106 hl (k := 1) rfl (nI_add j 1) (by decide) rfl (fun ls hl => ?_)
                          refine lv_goto (tgt := 80) gx gb dX9_pikes_109 (by decide) ?_
                          exact ih80 (pikeF (l_ % q) (q - 1) rw2) (l_ / q) (j + 1) (by omega) (by rw [hl_]; exact dg_qs _ _ _) (by intro p hp9; rw [pkR, dg, ← hl_]; exact pikeF_cong hlm hr p hp9) (by omega) _ _ hP hD hS ls (lv_sub hl [1, 0, 2, 3, 4, 5, 6, 7, 8] rfl)
                    exact L80 _ (cpy plc rw_ 7) i 0 (by omega) (by rw [Nat.pow_zero, Nat.div_one]) (by intro p hp9; exact cpy7 _ _ (by omega)) (Nat.lt_succ_self _) _ _ hP hD hS ls (lv_sub hl [1, 0, 2, 3, 4, 5, 6, 7, 8] rfl)
              exact L62 _ row z 0 (by omega) (Nat.lt_succ_self _) _ _ hP hD hS ls (lv_sub hl [2, 1, 0, 3, 4, 5, 6] rfl)
            · skip
              rw [nI_leI (by omega) (by omega)] at c38
              refine lv_iload gx gb dX9_pikes_41 (lv_at hl 0 rfl) ?_
              refine lv_aload_n gx gb dX9_pikes_43 rfl (lv_at hl 2 rfl) ?_
              refine va_get (D := D) (ci := 4) (v := .int (nI q)) (C := RX9) (T := TX9) (N := 19) gx gb gts i9 gown hK hP 0 rfl rfl 1 (by decide) (gts (.fieldLink RX9 13 "SwanSumsModel" "many" "I") (by decide +kernel)) (fun _ h9 => h9) rfl dX9_pikes_44 ?_
              refine lv_imul gx gb dX9_pikes_47 ?_
              refine lv_evi (nI ((q ^ i) * q)) (pk_mul (q ^ i) q) ?_
              refine lv_evi (nI (q ^ (i + 1))) (congrArg nI (Nat.pow_succ q i).symm) ?_
              refine lv_istore (lv' := [(4, .int (nI (q ^ (i + 1)))), (5, .int (nI i)), (0, .ref mo), (1, .int (nI k)), (2, .int (nI m)), (3, .int (zI e_))]) gx gb dX9_pikes_48 hl (by decide) rfl (fun ls hl => ?_)
              refine lv_iinc (v := nI (i + 1)) (lv' := [(5, .int (nI (i + 1))), (4, .int (nI (q ^ (i + 1)))), (0, .ref mo), (1, .int (nI k)), (2, .int (nI m)), (3, .int (zI e_))]) gx gb dX9_pikes_50 hl (k := 1) rfl (nI_add i 1) (by decide) rfl (fun ls hl => ?_)
              refine lv_goto (tgt := 35) gx gb dX9_pikes_53 (by decide) ?_
              exact ih35 (i + 1) (by omega) (by omega) _ _ hP hD hS ls (lv_sub hl [1, 0, 2, 3, 4, 5] rfl)
        exact L35 _ 0 (by omega) (Nat.lt_succ_self _) _ _ hP hD hS ls (lv_sub hl [1, 0, 2, 3, 4, 5] rfl)
      · skip
        rw [b0_eq] at c22
        simp only [decide_eq_false_iff_not, Decidable.not_not] at c22
        refine lv_ldc2 (v := (-1000000000000000002)) gx gb gown (gts (.constantLong RX9 168 (-1000000000000000002)) (by decide +kernel)) dX9_pikes_25 ?_
        exact W.lret (v := (-1000000000000000002)) gx gb gr (fun t ht hW => ⟨⟨(-1000000000000000002), (row, z), rfl, (by first | (dsimp only; done) | ((try dsimp only); rw [pikJ, if_neg (by omega)])), by rw [ht]; exact hP, va_K.moved hW.alike hK, hD⟩, hS.F ht⟩) hS.2.2 dX9_pikes_28

set_option maxHeartbeats 4000000 in
set_option maxRecDepth 100000 in
theorem kX8_rowBehindPikes (Gl : Launch) (D : va_G) (cI cJ cZ : ClassId) (h : Nat) (fl : Nat) (e1 : Nat) (e2 : Nat) (pd : Nat) (sg : Nat) (k1 : Nat) (k2 : Nat) (rv : Value) (n : Nat) (N : Nat) (q : Nat) (S : Nat) (c : Nat) (na : Nat) (Na : Nat) (Ra : Nat) (qa : Nat) (Sa : Nat) (ca : Nat) (nb : Nat) (Nb : Nat) (Rb : Nat) (qb : Nat) (Sb : Nat) (cb : Nat) (cnt : Nat) (rb : Nat) (sb : Nat) (g : Nat → Nat) (plc : Nat → Nat) (fill m : Nat) (hn1 : 1 ≤ n) (hn7 : n ≤ 7) (hq1 : 1 ≤ q) (hqn : q ≤ n) (hp : ∀ k, k < q → plc k < n) (hf : fill < 2147483648) (hm : m ≤ 3) : Met Gl yX8_rowBehindPikes wsX8_rowBehindPikes ({ frames := 2, cells := 0, slots := 0, locals := 45 } : Room) (va_Pc [.ref h, .int (nI fill), .int (nI m)] (fun U => va_P D vwCl (wX h fl e1 e2 pd sg cI k1 k2 rv n N (pk 8 plc q) q S c na Na Ra qa Sa ca nb Nb Rb qb Sb cb cnt rb sb g) U.heap ∧ va_K D vwCl [(cI, .int), (cJ, .long), (cZ, .boolean)] U)) (vp_Si (fun r : Int32 => r = nI (pk 8 (pkR q plc fill m) q))) 0 0 (fun _ => False) := by
  refine Met.ofW (cc := cX8_rowBehindPikes) (maxL := 5) (ret := (some .int)) (by decide +kernel) rfl ?_
  intro Gp Ge Gs Gm Ga Gw Gt Gc G1 Bd gml gv
  obtain ⟨rfl, hP, hK⟩ := gv
  have gx := Bd.exec
  have gb := Bd.bytes
  have gr := Bd.returns
  have gts := atoms_spec (ws := wsX8_rowBehindPikes) Bd.pre
  have gown : Gs.vm.findClass RX8 = some Gm.cls := findClass_of_methodNamed Bd.named
  have glk := Bd.notSynchronized
  have hl := lv_entry ([.ref h, .int (nI fill), .int (nI m)]) (n := 5) (Nat.le_of_ble_eq_true rfl)
  rw [lg_entry_eq]
  generalize (lg_sl ([.ref h, .int (nI fill), .int (nI m)]) ++ List.replicate (5 - (lg_sl ([.ref h, .int (nI fill), .int (nI m)])).length) Slot.unset).toArray = ls at hl ⊢
  have hl : lv_has ls 5 [(0, .ref h), (1, .int (nI fill)), (2, .int (nI m))] := hl
  have i1 : ∀ w ∈ wsX10, w ∈ wsX8_rowBehindPikes := by decide +kernel
  have i8 : ∀ w ∈ wsX80, w ∈ wsX8_rowBehindPikes := by decide +kernel
  have hp8 : ∀ k, k < q → plc k < 8 := fun k hk => by have := hp k hk; omega
  have hR8 := pk8_lt hp8 (by omega)
  refine lv_aload_n gx gb dX8_rowBehindPikes_0 rfl (lv_at hl 0 rfl) ?_
  refine va_get (D := D) (ci := 3) (v := .ref fl) (C := RX8) (T := TX8) (N := 7) gx gb gts i8 gown hK hP 0 rfl rfl 0 (by decide) (gts (.fieldLink RX8 12 "SwanSums" "flock" "LSwanSums$Flock;") (by decide +kernel)) (fun _ h9 => h9) rfl dX8_rowBehindPikes_1 ?_
  refine va_get (D := D) (ci := 0) (v := .int (nI (pk 8 plc q))) (C := RX1) (T := TX1) (N := 6) gx gb gts i1 gown hK hP 1 rfl rfl 2 (by decide) (gts (.fieldLink RX8 79 "SwanSums$Flock" "row" "I") (by decide +kernel)) (fun _ h9 => h9) rfl dX8_rowBehindPikes_4 ?_
  refine lv_istore_n (lv' := [(3, .int (nI (pk 8 plc q))), (0, .ref h), (1, .int (nI fill)), (2, .int (nI m))]) gx gb dX8_rowBehindPikes_7 rfl hl (by decide) rfl (fun ls hl => ?_)
  refine lv_iconst (v := nI 0) gx gb dX8_rowBehindPikes_8 (by decide) ?_
  refine lv_istore (lv' := [(4, .int (nI 0)), (3, .int (nI (pk 8 plc q))), (0, .ref h), (1, .int (nI fill)), (2, .int (nI m))]) gx gb dX8_rowBehindPikes_9 hl (by decide) rfl (fun ls hl => ?_)
  have L11 : ∀ fu : Nat, ∀ (i : Nat) (hi : i ≤ m), (m - i) < fu → ∀ ls : Array Slot, lv_has ls 5 [(3, .int (nI (pk 8 (pkR q plc fill i) q))), (4, .int (nI i)), (0, .ref h), (1, .int (nI fill)), (2, .int (nI m))] → W Gp Gl Ge (headSpec wsX8_rowBehindPikes ({ frames := 2, cells := 0, slots := 0, locals := 45 } : Room)).room Gs Gm ([.ref h, .int (nI fill), .int (nI m)] : List Value).toArray Gw Gt Gc Gs.heap [] 0 0 (MQ Gw (vp_Si (fun r : Int32 => r = nI (pk 8 (pkR q plc fill m) q))) ([.ref h, .int (nI fill), .int (nI m)] : List Value).toArray Gs 0 0 (fun _ => False)) (F0 Gm 11 ls []) := by
    intro fu
    induction fu with
    | zero => intro i hi hfu; exact absurd hfu (Nat.not_lt_zero _)
    | succ fu ih11 =>
      intro i hi hfu ls hl
      refine lv_iload gx gb dX8_rowBehindPikes_11 (lv_at hl 1 rfl) ?_
      refine lv_iload_n gx gb dX8_rowBehindPikes_13 rfl (lv_at hl 4 rfl) ?_
      refine lv_icmp_ge (tgt := 48) gx gb dX8_rowBehindPikes_14 (by decide) (fun c14 => ?_) (fun c14 => ?_)
      · skip
        rw [nI_leI (by omega) (by omega)] at c14
        refine lv_iload_n gx gb dX8_rowBehindPikes_48 rfl (lv_at hl 0 rfl) ?_
        exact W.iret (v := nI (pk 8 (pkR q plc fill i) q)) gx gb gr (fun t ht hW => ⟨nI (pk 8 (pkR q plc fill i) q), rfl, (by first | (dsimp only; done) | ((try dsimp only); rw [show i = m by omega])), ht⟩) (fun q h => by cases h) dX8_rowBehindPikes_49
      · skip
        rw [nI_leI (by omega) (by omega)] at c14
        have h8 := pkR_in (q := q) (plc := plc) (fill := fill) (P := fun x => x < 8) hq1 hp8 i
        have h8l := pk8_lt h8 (by omega)
        have hdl := dg_lt (b := q) (by omega) fill i
        refine lv_iload_n gx gb dX8_rowBehindPikes_17 rfl (lv_at hl 0 rfl) ?_
        refine lv_iload_n gx gb dX8_rowBehindPikes_18 rfl (lv_at hl 3 rfl) ?_
        refine lv_aload_n gx gb dX8_rowBehindPikes_19 rfl (lv_at hl 2 rfl) ?_
        refine va_get (D := D) (ci := 3) (v := .ref fl) (C := RX8) (T := TX8) (N := 7) gx gb gts i8 gown hK hP 0 rfl rfl 0 (by decide) (gts (.fieldLink RX8 12 "SwanSums" "flock" "LSwanSums$Flock;") (by decide +kernel)) (fun _ h9 => h9) rfl dX8_rowBehindPikes_20 ?_
        refine va_get (D := D) (ci := 0) (v := .int (nI q)) (C := RX1) (T := TX1) (N := 6) gx gb gts i1 gown hK hP 1 rfl rfl 3 (by decide) (gts (.fieldLink RX8 82 "SwanSums$Flock" "size" "I") (by decide +kernel)) (fun _ h9 => h9) rfl dX8_rowBehindPikes_23 ?_
        refine lv_iload gx gb dX8_rowBehindPikes_26 (lv_at hl 1 rfl) ?_
        refine vp_callSi (W.runS (As := [.int (nI fill), .int (nI q), .int (nI i)]) (rest := [.int (nI (pk 8 (pkR q plc fill i) q))]) ⟨gx, gb, gml, gown, gts⟩ (kX0_digit Gl fill q i (by omega) (by omega) (by omega) (by omega)) (va_cwS 3 gts gX8_rowBehindPikes_X0_digit rfl rfl rfl (by decide +kernel) ⟨Nat.le_of_ble_eq_true rfl, Nat.le_of_ble_eq_true rfl⟩) ⟨fun _ _ _ _ h => h, fun U hU hW => ⟨rfl, trivial⟩⟩ rfl rfl hl.1 rfl (lv_room (Nat.le_of_ble_eq_true rfl)) dX8_rowBehindPikes_28 ⟨Nat.le_of_ble_eq_true rfl, Nat.le_of_ble_eq_true rfl⟩) (fun r hw => ?_)
        have hr28 := hw
        subst hr28
        refine lv_aload_n gx gb dX8_rowBehindPikes_31 rfl (lv_at hl 2 rfl) ?_
        refine va_get (D := D) (ci := 3) (v := .ref fl) (C := RX8) (T := TX8) (N := 7) gx gb gts i8 gown hK hP 0 rfl rfl 0 (by decide) (gts (.fieldLink RX8 12 "SwanSums" "flock" "LSwanSums$Flock;") (by decide +kernel)) (fun _ h9 => h9) rfl dX8_rowBehindPikes_32 ?_
        refine va_get (D := D) (ci := 0) (v := .int (nI q)) (C := RX1) (T := TX1) (N := 6) gx gb gts i1 gown hK hP 1 rfl rfl 3 (by decide) (gts (.fieldLink RX8 82 "SwanSums$Flock" "size" "I") (by decide +kernel)) (fun _ h9 => h9) rfl dX8_rowBehindPikes_35 ?_
        refine vp_callSi (W.runS (As := [.int (nI (pk 8 (pkR q plc fill i) q)), .int (nI (dg q fill i)), .int (nI q)]) (rest := []) ⟨gx, gb, gml, gown, gts⟩ (kX6_pike Gl (pk 8 (pkR q plc fill i) q) (dg q fill i) q (by omega) (by omega) (by omega) (by omega)) (va_cwS 3 gts gX8_rowBehindPikes_X6_pike rfl rfl rfl (by decide +kernel) ⟨Nat.le_of_ble_eq_true rfl, Nat.le_of_ble_eq_true rfl⟩) ⟨fun _ _ _ _ h => h, fun U hU hW => ⟨rfl, trivial⟩⟩ rfl rfl hl.1 rfl (lv_room (Nat.le_of_ble_eq_true rfl)) dX8_rowBehindPikes_38 ⟨Nat.le_of_ble_eq_true rfl, Nat.le_of_ble_eq_true rfl⟩) (fun r hw => ?_)
        have hr38 := hw
        subst hr38
        refine lv_evi (nI (pk 8 (pkR q plc fill (i + 1)) q)) (congrArg nI (pikeC_pk h8 hdl)) ?_
        refine lv_istore_n (lv' := [(3, .int (nI (pk 8 (pkR q plc fill (i + 1)) q))), (4, .int (nI i)), (0, .ref h), (1, .int (nI fill)), (2, .int (nI m))]) gx gb dX8_rowBehindPikes_41 rfl hl (by decide) rfl (fun ls hl => ?_)
        refine lv_iinc (v := nI (i + 1)) (lv' := [(4, .int (nI (i + 1))), (3, .int (nI (pk 8 (pkR q plc fill (i + 1)) q))), (0, .ref h), (1, .int (nI fill)), (2, .int (nI m))]) gx gb dX8_rowBehindPikes_42 hl (k := 1) rfl (nI_add i 1) (by decide) rfl (fun ls hl => ?_)
        refine lv_goto (tgt := 11) gx gb dX8_rowBehindPikes_45 (by decide) ?_
        exact ih11 (i + 1) (by omega) (by omega) ls (lv_sub hl [1, 0, 2, 3, 4] rfl)
  exact L11 _ 0 (by omega) (Nat.lt_succ_self _) ls (lv_sub hl [1, 0, 2, 3, 4] rfl)

set_option maxHeartbeats 4000000 in
set_option maxRecDepth 100000 in
theorem kX8_pikes (Gl : Launch) (D : va_G) (cI cJ cZ : ClassId) (h : Nat) (fl : Nat) (e1 : Nat) (e2 : Nat) (pd : Nat) (sg : Nat) (k1 : Nat) (k2 : Nat) (rv : Value) (n : Nat) (q : Nat) (S : Nat) (c : Nat) (na : Nat) (Na : Nat) (Ra : Nat) (qa : Nat) (Sa : Nat) (ca : Nat) (nb : Nat) (Nb : Nat) (Rb : Nat) (qb : Nat) (Sb : Nat) (cb : Nat) (cnt : Nat) (rb : Nat) (sb : Nat) (g : Nat → Nat) (num plc : Nat → Nat) (a b e_ : Int) (hl_a : -2147483648 ≤ a) (hu_a : a < 2147483648) (hl_b : -2147483648 ≤ b) (hu_b : b < 2147483648) (hl_e_ : -2147483648 ≤ e_) (hu_e_ : e_ < 2147483648) (hn1 : 1 ≤ n) (hn7 : n ≤ 7) (hq1 : 1 ≤ q) (hqn : q ≤ n) (hp : ∀ k, k < q → plc k < n) (hnum : ∀ k, k < n → num k ≤ 99) : Met Gl yX8_pikes wsX8_pikes ({ frames := 3, cells := 0, slots := 0, locals := 88 } : Room) (va_Pc [.ref h, .int (zI a), .int (zI b), .int (zI e_)] (fun U => va_P D vwCl (wX h fl e1 e2 pd sg cI k1 k2 rv n (pk 256 num n) (pk 8 plc q) q S c na Na Ra qa Sa ca nb Nb Rb qb Sb cb cnt rb sb g) U.heap ∧ va_K D vwCl [(cI, .int), (cJ, .long), (cZ, .boolean)] U)) (vp_Sl (fun r : Int64 => r = pikJ num plc q a b e_)) 0 0 (fun _ => False) := by
  refine Met.ofW (cc := cX8_pikes) (maxL := 9) (ret := (some .long)) (by decide +kernel) rfl ?_
  intro Gp Ge Gs Gm Ga Gw Gt Gc G1 Bd gml gv
  obtain ⟨rfl, hP, hK⟩ := gv
  have gx := Bd.exec
  have gb := Bd.bytes
  have gr := Bd.returns
  have gts := atoms_spec (ws := wsX8_pikes) Bd.pre
  have gown : Gs.vm.findClass RX8 = some Gm.cls := findClass_of_methodNamed Bd.named
  have glk := Bd.notSynchronized
  have hl := lv_entry ([.ref h, .int (zI a), .int (zI b), .int (zI e_)]) (n := 9) (Nat.le_of_ble_eq_true rfl)
  rw [lg_entry_eq]
  generalize (lg_sl ([.ref h, .int (zI a), .int (zI b), .int (zI e_)]) ++ List.replicate (9 - (lg_sl ([.ref h, .int (zI a), .int (zI b), .int (zI e_)])).length) Slot.unset).toArray = ls at hl ⊢
  have hl : lv_has ls 9 [(0, .ref h), (1, .int (zI a)), (2, .int (zI b)), (3, .int (zI e_))] := hl
  have i1 : ∀ w ∈ wsX10, w ∈ wsX8_pikes := by decide +kernel
  have i8 : ∀ w ∈ wsX80, w ∈ wsX8_pikes := by decide +kernel
  have hp8 : ∀ k, k < q → plc k < 8 := fun k hk => by have := hp k hk; omega
  have hR8 := pk8_lt hp8 (by omega)
  have hn256 : ∀ k, k < n → num k < 256 := fun k hk => by have := hnum k hk; omega
  have hN63 := pk256_lt hn256 (by omega)
  refine lv_iload_n gx gb dX8_pikes_0 rfl (lv_at hl 1 rfl) ?_
  refine vp_callSi (W.runS (As := [.int (zI a)]) (rest := []) ⟨gx, gb, gml, gown, gts⟩ (kX8_isLesson Gl a (by omega) (by omega)) (va_cwS 1 gts gX8_pikes_X8_isLesson rfl rfl rfl (by decide +kernel) ⟨Nat.le_of_ble_eq_true rfl, Nat.le_of_ble_eq_true rfl⟩) ⟨fun _ _ _ _ h => h, fun U hU hW => ⟨rfl, trivial⟩⟩ rfl rfl hl.1 rfl (lv_room (Nat.le_of_ble_eq_true rfl)) dX8_pikes_1 ⟨Nat.le_of_ble_eq_true rfl, Nat.le_of_ble_eq_true rfl⟩) (fun r hw => ?_)
  have hr1 := hw
  subst hr1
  refine lv_if_eq (tgt := 25) gx gb dX8_pikes_4 (by decide) (fun c4 => ?_) (fun c4 => ?_)
  · skip
    rw [b0_eq] at c4
    simp only [decide_eq_false_iff_not, Decidable.not_not] at c4
    refine lv_ldc2 (v := (-1000000000000000002)) gx gb gown (gts (.constantLong RX8 199 (-1000000000000000002)) (by decide +kernel)) dX8_pikes_25 ?_
    exact W.lret (v := (-1000000000000000002)) gx gb gr (fun t ht hW => ⟨(-1000000000000000002), rfl, (by first | (dsimp only; done) | ((try dsimp only); rw [pikJ, if_neg (by omega)])), ht⟩) (fun q h => by cases h) dX8_pikes_28
  · skip
    rw [b0_eq] at c4
    simp only [decide_eq_false_iff_not, Decidable.not_not] at c4
    refine lv_iload_n gx gb dX8_pikes_7 rfl (lv_at hl 2 rfl) ?_
    refine lv_if_lt (tgt := 25) gx gb dX8_pikes_8 (by decide) (fun c8 => ?_) (fun c8 => ?_)
    · skip
      rw [z0_lt (by omega) (by omega)] at c8
      refine lv_ldc2 (v := (-1000000000000000002)) gx gb gown (gts (.constantLong RX8 199 (-1000000000000000002)) (by decide +kernel)) dX8_pikes_25 ?_
      exact W.lret (v := (-1000000000000000002)) gx gb gr (fun t ht hW => ⟨(-1000000000000000002), rfl, (by first | (dsimp only; done) | ((try dsimp only); rw [pikJ, if_neg (by omega)])), ht⟩) (fun q h => by cases h) dX8_pikes_28
    · skip
      rw [z0_lt (by omega) (by omega)] at c8
      refine lv_iload_n gx gb dX8_pikes_11 rfl (lv_at hl 2 rfl) ?_
      refine lv_iconst (v := nI 3) gx gb dX8_pikes_12 (by decide) ?_
      refine lv_icmp_gt (tgt := 25) gx gb dX8_pikes_13 (by decide) (fun c13 => ?_) (fun c13 => ?_)
      · skip
        rw [nz_lt (by omega) (by omega) (by omega)] at c13
        refine lv_ldc2 (v := (-1000000000000000002)) gx gb gown (gts (.constantLong RX8 199 (-1000000000000000002)) (by decide +kernel)) dX8_pikes_25 ?_
        exact W.lret (v := (-1000000000000000002)) gx gb gr (fun t ht hW => ⟨(-1000000000000000002), rfl, (by first | (dsimp only; done) | ((try dsimp only); rw [pikJ, if_neg (by omega)])), ht⟩) (fun q h => by cases h) dX8_pikes_28
      · skip
        rw [nz_lt (by omega) (by omega) (by omega)] at c13
        refine lv_iload_n gx gb dX8_pikes_16 rfl (lv_at hl 3 rfl) ?_
        refine lv_if_lt (tgt := 25) gx gb dX8_pikes_17 (by decide) (fun c17 => ?_) (fun c17 => ?_)
        · skip
          rw [z0_lt (by omega) (by omega)] at c17
          refine lv_ldc2 (v := (-1000000000000000002)) gx gb gown (gts (.constantLong RX8 199 (-1000000000000000002)) (by decide +kernel)) dX8_pikes_25 ?_
          exact W.lret (v := (-1000000000000000002)) gx gb gr (fun t ht hW => ⟨(-1000000000000000002), rfl, (by first | (dsimp only; done) | ((try dsimp only); rw [pikJ, if_neg (by omega)])), ht⟩) (fun q h => by cases h) dX8_pikes_28
        · skip
          rw [z0_lt (by omega) (by omega)] at c17
          refine lv_iload_n gx gb dX8_pikes_20 rfl (lv_at hl 3 rfl) ?_
          refine lv_iconst (v := nI 1) gx gb dX8_pikes_21 (by decide) ?_
          refine lv_icmp_le (tgt := 29) gx gb dX8_pikes_22 (by decide) (fun c22 => ?_) (fun c22 => ?_)
          · skip
            rw [zn_le (by omega) (by omega) (by omega)] at c22
            obtain ⟨k, hk⟩ : ∃ k : Nat, a = (k : Int) := ⟨a.toNat, by omega⟩
            rw [show zI a = nI k from by rw [hk, zI_nat]] at hl
            obtain ⟨m, hm⟩ : ∃ m : Nat, b = (m : Int) := ⟨b.toNat, by omega⟩
            rw [show zI b = nI m from by rw [hm, zI_nat]] at hl
            have hl : lv_has ls 9 [(0, .ref h), (1, .int (nI k)), (2, .int (nI m)), (3, .int (zI e_))] := hl
            refine lv_aload_n gx gb dX8_pikes_29 rfl (lv_at hl 0 rfl) ?_
            refine va_get (D := D) (ci := 3) (v := .ref fl) (C := RX8) (T := TX8) (N := 7) gx gb gts i8 gown hK hP 0 rfl rfl 0 (by decide) (gts (.fieldLink RX8 12 "SwanSums" "flock" "LSwanSums$Flock;") (by decide +kernel)) (fun _ h9 => h9) rfl dX8_pikes_30 ?_
            refine va_get (D := D) (ci := 0) (v := .int (nI q)) (C := RX1) (T := TX1) (N := 6) gx gb gts i1 gown hK hP 1 rfl rfl 3 (by decide) (gts (.fieldLink RX8 82 "SwanSums$Flock" "size" "I") (by decide +kernel)) (fun _ h9 => h9) rfl dX8_pikes_33 ?_
            refine lv_iload_n gx gb dX8_pikes_36 rfl (lv_at hl 2 rfl) ?_
            refine vp_callSi (W.runS (As := [.int (nI q), .int (nI m)]) (rest := []) ⟨gx, gb, gml, gown, gts⟩ (kX0_power Gl q m (by omega)) (va_cwS 2 gts gX8_pikes_X0_power rfl rfl rfl (by decide +kernel) ⟨Nat.le_of_ble_eq_true rfl, Nat.le_of_ble_eq_true rfl⟩) ⟨fun _ _ _ _ h => h, fun U hU hW => ⟨rfl, trivial⟩⟩ rfl rfl hl.1 rfl (lv_room (Nat.le_of_ble_eq_true rfl)) dX8_pikes_37 ⟨Nat.le_of_ble_eq_true rfl, Nat.le_of_ble_eq_true rfl⟩) (fun r hw => ?_)
            have hr37 := hw
            subst hr37
            refine lv_istore (lv' := [(4, .int (nI (q ^ m))), (0, .ref h), (1, .int (nI k)), (2, .int (nI m)), (3, .int (zI e_))]) gx gb dX8_pikes_40 hl (by decide) rfl (fun ls hl => ?_)
            refine lv_iconst (v := nI 0) gx gb dX8_pikes_42 (by decide) ?_
            refine lv_istore (lv' := [(5, .int (nI 0)), (4, .int (nI (q ^ m))), (0, .ref h), (1, .int (nI k)), (2, .int (nI m)), (3, .int (zI e_))]) gx gb dX8_pikes_43 hl (by decide) rfl (fun ls hl => ?_)
            refine lv_iconst (v := nI 0) gx gb dX8_pikes_45 (by decide) ?_
            refine lv_istore (lv' := [(6, .int (nI 0)), (5, .int (nI 0)), (4, .int (nI (q ^ m))), (0, .ref h), (1, .int (nI k)), (2, .int (nI m)), (3, .int (zI e_))]) gx gb dX8_pikes_46 hl (by decide) rfl (fun ls hl => ?_)
            have L48 : ∀ fu : Nat, ∀ (i n_ : Nat) (hi : i ≤ q ^ m) (hn_ : n_ = cnT (pkT num plc k q m) i), (q ^ m - i) < fu → ∀ ls : Array Slot, lv_has ls 9 [(5, .int (nI n_)), (6, .int (nI i)), (4, .int (nI (q ^ m))), (0, .ref h), (1, .int (nI k)), (2, .int (nI m)), (3, .int (zI e_))] → W Gp Gl Ge (headSpec wsX8_pikes ({ frames := 3, cells := 0, slots := 0, locals := 88 } : Room)).room Gs Gm ([.ref h, .int (zI a), .int (zI b), .int (zI e_)] : List Value).toArray Gw Gt Gc Gs.heap [] 0 0 (MQ Gw (vp_Sl (fun r : Int64 => r = pikJ num plc q a b e_)) ([.ref h, .int (zI a), .int (zI b), .int (zI e_)] : List Value).toArray Gs 0 0 (fun _ => False)) (F0 Gm 48 ls []) := by
              intro fu
              induction fu with
              | zero => intro i n_ hi hn_ hfu; exact absurd hfu (Nat.not_lt_zero _)
              | succ fu ih48 =>
                intro i n_ hi hn_ hfu ls hl
                have hqm := qm_bd (m := m) hq1 (by omega) (by omega)
                have hcn := cnT_le (pkT num plc k q m) i
                refine lv_iload gx gb dX8_pikes_48 (lv_at hl 1 rfl) ?_
                refine lv_iload gx gb dX8_pikes_50 (lv_at hl 2 rfl) ?_
                refine lv_icmp_ge (tgt := 106) gx gb dX8_pikes_52 (by decide) (fun c52 => ?_) (fun c52 => ?_)
                · skip
                  rw [nI_leI (by omega) (by omega)] at c52
                  have hiq : i = q ^ m := (by omega)
                  have hgp : 0 < pkG num plc k q m := Nat.gcd_pos_of_pos_right _ (by omega)
                  have hgl : pkG num plc k q m ≤ q ^ m := Nat.gcd_le_right _ (by omega)
                  have hd1 := Nat.div_le_self (q ^ m) (pkG num plc k q m)
                  have hd2 := Nat.div_le_self n_ (pkG num plc k q m)
                  refine lv_iload gx gb dX8_pikes_106 (lv_at hl 0 rfl) ?_
                  refine lv_iload gx gb dX8_pikes_108 (lv_at hl 2 rfl) ?_
                  refine vp_callSi (W.runS (As := [.int (nI n_), .int (nI (q ^ m))]) (rest := []) ⟨gx, gb, gml, gown, gts⟩ (kX0_commonDivisor Gl n_ (q ^ m) (by omega) (by omega)) (va_cwS 2 gts gX8_pikes_X0_commonDivisor rfl rfl rfl (by decide +kernel) ⟨Nat.le_of_ble_eq_true rfl, Nat.le_of_ble_eq_true rfl⟩) ⟨fun _ _ _ _ h => h, fun U hU hW => ⟨rfl, trivial⟩⟩ rfl rfl hl.1 rfl (lv_room (Nat.le_of_ble_eq_true rfl)) dX8_pikes_110 ⟨Nat.le_of_ble_eq_true rfl, Nat.le_of_ble_eq_true rfl⟩) (fun r hw => ?_)
                  have hr110 := hw
                  subst hr110
                  refine lv_evi (nI (pkG num plc k q m)) (by rw [hn_, hiq]; rfl) ?_
                  refine lv_istore (lv' := [(6, .int (nI (pkG num plc k q m))), (5, .int (nI n_)), (4, .int (nI (q ^ m))), (0, .ref h), (1, .int (nI k)), (2, .int (nI m)), (3, .int (zI e_))]) gx gb dX8_pikes_113 hl (by decide) rfl (fun ls hl => ?_)
                  refine lv_iload_n gx gb dX8_pikes_115 rfl (lv_at hl 6 rfl) ?_
                  refine lv_if_ne (tgt := 124) gx gb dX8_pikes_116 (by decide) (fun c116 => ?_) (fun c116 => ?_)
                  · skip
                    rw [z0_eq (by omega) (by omega)] at c116
                    refine lv_iload gx gb dX8_pikes_124 (lv_at hl 2 rfl) ?_
                    refine lv_istore (lv' := [(7, .int (nI (q ^ m))), (6, .int (nI (pkG num plc k q m))), (5, .int (nI n_)), (4, .int (nI (q ^ m))), (0, .ref h), (1, .int (nI k)), (2, .int (nI m)), (3, .int (zI e_))]) gx gb dX8_pikes_126 hl (by decide) rfl (fun ls hl => ?_)
                    refine lv_iload gx gb dX8_pikes_128 (lv_at hl 1 rfl) ?_
                    refine lv_if_le (tgt := 142) gx gb dX8_pikes_130 (by decide) (fun c130 => ?_) (fun c130 => ?_)
                    · skip
                      rw [n0_le (by omega)] at c130
                      exfalso; omega
                    · skip
                      rw [n0_le (by omega)] at c130
                      refine lv_iload gx gb dX8_pikes_133 (lv_at hl 0 rfl) ?_
                      refine lv_iload gx gb dX8_pikes_135 (lv_at hl 1 rfl) ?_
                      refine lv_idiv gx gb dX8_pikes_137 (nI_ne0 (by omega) (by omega)) ?_
                      refine lv_evi (nI ((q ^ m) / (pkG num plc k q m))) (e_div (by omega) (by omega) (by omega)) ?_
                      refine lv_i2l (v := lN ((q ^ m) / (pkG num plc k q m))) gx gb dX8_pikes_138 (nI_l (by omega)) ?_
                      refine lv_goto (tgt := 145) gx gb dX8_pikes_139 (by decide) ?_
                      exact W.lret (v := lN ((q ^ m) / (pkG num plc k q m))) gx gb gr (fun t ht hW => ⟨lN ((q ^ m) / (pkG num plc k q m)), rfl, (by first | (dsimp only; done) | ((try dsimp only); first | (rw [pikJ, if_pos (by omega), if_pos (by omega), hk, hm, hn_, hiq]; rfl) | (rw [pikJ, if_pos (by omega), if_neg (by omega), hk, hm]; rfl))), ht⟩) (fun q h => by cases h) dX8_pikes_145
                  · skip
                    rw [z0_eq (by omega) (by omega)] at c116
                    refine lv_iload gx gb dX8_pikes_119 (lv_at hl 1 rfl) ?_
                    refine lv_goto (tgt := 126) gx gb dX8_pikes_121 (by decide) ?_
                    refine lv_istore (lv' := [(7, .int (nI n_)), (6, .int (nI (pkG num plc k q m))), (5, .int (nI n_)), (4, .int (nI (q ^ m))), (0, .ref h), (1, .int (nI k)), (2, .int (nI m)), (3, .int (zI e_))]) gx gb dX8_pikes_126 hl (by decide) rfl (fun ls hl => ?_)
                    refine lv_iload gx gb dX8_pikes_128 (lv_at hl 1 rfl) ?_
                    refine lv_if_le (tgt := 142) gx gb dX8_pikes_130 (by decide) (fun c130 => ?_) (fun c130 => ?_)
                    · skip
                      rw [n0_le (by omega)] at c130
                      exfalso; omega
                    · skip
                      rw [n0_le (by omega)] at c130
                      refine lv_iload gx gb dX8_pikes_133 (lv_at hl 0 rfl) ?_
                      refine lv_iload gx gb dX8_pikes_135 (lv_at hl 1 rfl) ?_
                      refine lv_idiv gx gb dX8_pikes_137 (nI_ne0 (by omega) (by omega)) ?_
                      refine lv_evi (nI (n_ / (pkG num plc k q m))) (e_div (by omega) (by omega) (by omega)) ?_
                      refine lv_i2l (v := lN (n_ / (pkG num plc k q m))) gx gb dX8_pikes_138 (nI_l (by omega)) ?_
                      refine lv_goto (tgt := 145) gx gb dX8_pikes_139 (by decide) ?_
                      exact W.lret (v := lN (n_ / (pkG num plc k q m))) gx gb gr (fun t ht hW => ⟨lN (n_ / (pkG num plc k q m)), rfl, (by first | (dsimp only; done) | ((try dsimp only); first | (rw [pikJ, if_pos (by omega), if_pos (by omega), hk, hm, hn_, hiq]; rfl) | (rw [pikJ, if_pos (by omega), if_neg (by omega), hk, hm]; rfl))), ht⟩) (fun q h => by cases h) dX8_pikes_145
                · skip
                  rw [nI_leI (by omega) (by omega)] at c52
                  have hin := pkR_in (q := q) (plc := plc) (fill := i) (P := fun x => x < n) hq1 hp m
                  have hp8i : ∀ x, x < q → pkR q plc i m x < 8 := fun x hx => by have := hin x hx; omega
                  have hR8i := pk8_lt hp8i (by omega)
                  have hkl := lin_dg (q := q) hnum hin
                  have hk63 := pk256_lt (f := fun x => num (pkR q plc i m x)) (z := q) (fun x hx => by have := hnum _ (hin x hx); omega) (by omega)
                  refine lv_aload_n gx gb dX8_pikes_55 rfl (lv_at hl 3 rfl) ?_
                  refine va_get (D := D) (ci := 3) (v := .ref fl) (C := RX8) (T := TX8) (N := 7) gx gb gts i8 gown hK hP 0 rfl rfl 0 (by decide) (gts (.fieldLink RX8 12 "SwanSums" "flock" "LSwanSums$Flock;") (by decide +kernel)) (fun _ h9 => h9) rfl dX8_pikes_56 ?_
                  refine va_get (D := D) (ci := 0) (v := .long (lN (pk 256 num n))) (C := RX1) (T := TX1) (N := 6) gx gb gts i1 gown hK hP 1 rfl rfl 1 (by decide) (gts (.fieldLink RX8 52 "SwanSums$Flock" "numbers" "J") (by decide +kernel)) (fun _ h9 => h9) rfl dX8_pikes_59 ?_
                  refine lv_aload_n gx gb dX8_pikes_62 rfl (lv_at hl 3 rfl) ?_
                  refine lv_iload gx gb dX8_pikes_63 (lv_at hl 1 rfl) ?_
                  refine lv_iload_n gx gb dX8_pikes_65 rfl (lv_at hl 5 rfl) ?_
                  have hPc := hP.sub (ws' := wX h fl e1 e2 pd sg cI k1 k2 rv n (pk 256 num n) (pk 8 plc q) q S c na Na Ra qa Sa ca nb Nb Rb qb Sb cb cnt rb sb g) [0, 1, 2, 3, 4, 5] rfl
                  refine vp_callSi (W.runV (As := [.int (nI i), .int (nI m)]) (rest := [.long (lN (pk 256 num n))]) ⟨gx, gb, gml, gown, gts⟩ (kX8_rowBehindPikes Gl D cI cJ cZ h fl e1 e2 pd sg k1 k2 rv n (pk 256 num n) q S c na Na Ra qa Sa ca nb Nb Rb qb Sb cb cnt rb sb g plc i m (by omega) (by omega) (by omega) (by omega) (by omega) (by omega) (by omega)) (cwV 2 gts gX8_pikes_X8_rowBehindPikes rfl rfl rfl (by decide +kernel) ⟨Nat.le_of_ble_eq_true rfl, Nat.le_of_ble_eq_true rfl⟩) ⟨fun a U g mk q => ⟨q.1, q.2.1, va_K.moved (u := U) (U := U.calling g mk a) (Vm.Alike.refl U.vm) q.2.2⟩, va_recv hK hPc (ci := 3) (q0 := 0) rfl rfl, fun U hU hW => ⟨rfl, by rw [hU]; exact hPc, va_K.moved hW.alike hK⟩⟩ rfl rfl hl.1 rfl (lv_room (Nat.le_of_ble_eq_true rfl)) dX8_pikes_66 ⟨Nat.le_of_ble_eq_true rfl, Nat.le_of_ble_eq_true rfl⟩) (fun r hw => ?_)
                  have hr66 := hw
                  subst hr66
                  refine lv_aload_n gx gb dX8_pikes_69 rfl (lv_at hl 3 rfl) ?_
                  refine va_get (D := D) (ci := 3) (v := .ref fl) (C := RX8) (T := TX8) (N := 7) gx gb gts i8 gown hK hP 0 rfl rfl 0 (by decide) (gts (.fieldLink RX8 12 "SwanSums" "flock" "LSwanSums$Flock;") (by decide +kernel)) (fun _ h9 => h9) rfl dX8_pikes_70 ?_
                  refine va_get (D := D) (ci := 0) (v := .int (nI q)) (C := RX1) (T := TX1) (N := 6) gx gb gts i1 gown hK hP 1 rfl rfl 3 (by decide) (gts (.fieldLink RX8 82 "SwanSums$Flock" "size" "I") (by decide +kernel)) (fun _ h9 => h9) rfl dX8_pikes_73 ?_
                  refine vp_callSl (W.runS (As := [.long (lN (pk 256 num n)), .int (nI (pk 8 (pkR q plc i m) q)), .int (nI q)]) (rest := []) ⟨gx, gb, gml, gown, gts⟩ (kX3_inOrder Gl (pk 256 num n) (pk 8 (pkR q plc i m) q) q (by omega) (by omega) (by omega)) (va_cwS 3 gts gX8_pikes_X3_inOrder rfl rfl rfl (by decide +kernel) ⟨Nat.le_of_ble_eq_true rfl, Nat.le_of_ble_eq_true rfl⟩) ⟨fun _ _ _ _ h => h, fun U hU hW => ⟨rfl, trivial⟩⟩ rfl rfl hl.1 rfl (lv_room (Nat.le_of_ble_eq_true rfl)) dX8_pikes_76 ⟨Nat.le_of_ble_eq_true rfl, Nat.le_of_ble_eq_true rfl⟩) (fun r hw => ?_)
                  have hr76 := hw
                  subst hr76
                  refine lv_evl (lN (pk 256 (fun x => num (pkR q plc i m x)) q)) (congrArg lN (lin_eq hn7 hnum hin)) ?_
                  refine lv_lstore (lv' := [(7, .long (lN (pk 256 (fun x => num (pkR q plc i m x)) q))), (5, .int (nI n_)), (6, .int (nI i)), (4, .int (nI (q ^ m))), (0, .ref h), (1, .int (nI k)), (2, .int (nI m)), (3, .int (zI e_))]) gx gb dX8_pikes_79 hl (by decide) rfl (fun ls hl => ?_)
                  refine lv_iload_n gx gb dX8_pikes_81 rfl (lv_at hl 5 rfl) ?_
                  refine lv_lload gx gb dX8_pikes_82 (lv_at hl 0 rfl) ?_
                  refine lv_aload_n gx gb dX8_pikes_84 rfl (lv_at hl 4 rfl) ?_
                  refine va_get (D := D) (ci := 3) (v := .ref fl) (C := RX8) (T := TX8) (N := 7) gx gb gts i8 gown hK hP 0 rfl rfl 0 (by decide) (gts (.fieldLink RX8 12 "SwanSums" "flock" "LSwanSums$Flock;") (by decide +kernel)) (fun _ h9 => h9) rfl dX8_pikes_85 ?_
                  refine va_get (D := D) (ci := 0) (v := .int (nI q)) (C := RX1) (T := TX1) (N := 6) gx gb gts i1 gown hK hP 1 rfl rfl 3 (by decide) (gts (.fieldLink RX8 82 "SwanSums$Flock" "size" "I") (by decide +kernel)) (fun _ h9 => h9) rfl dX8_pikes_88 ?_
                  refine vp_callSi (W.runS (As := [.int (nI k), .long (lN (pk 256 (fun x => num (pkR q plc i m x)) q)), .int (nI q)]) (rest := []) ⟨gx, gb, gml, gown, gts⟩ (kX2_teach Gl k (pk 256 (fun x => num (pkR q plc i m x)) q) q (by omega) (by omega) (by omega) (by omega) (by exact pk99 (fun x hx => hnum _ (hin x hx)))) (va_cwS 3 gts gX8_pikes_X2_teach rfl rfl rfl (by decide +kernel) ⟨Nat.le_of_ble_eq_true rfl, Nat.le_of_ble_eq_true rfl⟩) ⟨fun _ _ _ _ h => h, fun U hU hW => ⟨rfl, trivial⟩⟩ rfl rfl hl.1 rfl (lv_room (Nat.le_of_ble_eq_true rfl)) dX8_pikes_91 ⟨Nat.le_of_ble_eq_true rfl, Nat.le_of_ble_eq_true rfl⟩) (fun r hw => ?_)
                  have hr91 := hw
                  subst hr91
                  refine lv_evi (bI (pkT num plc k q m i)) (congrArg bI (tau_cong hq1 hkl)) ?_
                  refine lv_if_eq (tgt := 100) gx gb dX8_pikes_94 (by decide) (fun c94 => ?_) (fun c94 => ?_)
                  · skip
                    rw [b0_eq] at c94
                    refine lv_iinc (v := nI (i + 1)) (lv' := [(6, .int (nI (i + 1))), (7, .long (lN (pk 256 (fun x => num (pkR q plc i m x)) q))), (5, .int (nI n_)), (4, .int (nI (q ^ m))), (0, .ref h), (1, .int (nI k)), (2, .int (nI m)), (3, .int (zI e_))]) gx gb dX8_pikes_100 hl (k := 2) rfl (nI_add i 1) (by decide) rfl (fun ls hl => ?_)
                    refine lv_goto (tgt := 48) gx gb dX8_pikes_103 (by decide) ?_
                    exact ih48 (i + 1) n_ (by omega) (by first | (rw [cnT, c94, hn_]; rfl) | (rw [cnT, if_neg (by rw [c94]; decide), hn_]; rfl)) (by omega) ls (lv_sub hl [2, 0, 3, 4, 5, 6, 7] rfl)
                  · skip
                    rw [b0_eq] at c94
                    have c94 := nf_t c94
                    refine lv_iinc (v := nI (n_ + 1)) (lv' := [(5, .int (nI (n_ + 1))), (7, .long (lN (pk 256 (fun x => num (pkR q plc i m x)) q))), (6, .int (nI i)), (4, .int (nI (q ^ m))), (0, .ref h), (1, .int (nI k)), (2, .int (nI m)), (3, .int (zI e_))]) gx gb dX8_pikes_97 hl (k := 1) rfl (nI_add n_ 1) (by decide) rfl (fun ls hl => ?_)
                    refine lv_iinc (v := nI (i + 1)) (lv' := [(6, .int (nI (i + 1))), (5, .int (nI (n_ + 1))), (7, .long (lN (pk 256 (fun x => num (pkR q plc i m x)) q))), (4, .int (nI (q ^ m))), (0, .ref h), (1, .int (nI k)), (2, .int (nI m)), (3, .int (zI e_))]) gx gb dX8_pikes_100 hl (k := 2) rfl (nI_add i 1) (by decide) rfl (fun ls hl => ?_)
                    refine lv_goto (tgt := 48) gx gb dX8_pikes_103 (by decide) ?_
                    exact ih48 (i + 1) (n_ + 1) (by omega) (by first | (rw [cnT, c94, hn_]; rfl) | (rw [cnT, if_neg (by rw [c94]; decide), hn_]; rfl)) (by omega) ls (lv_sub hl [1, 0, 3, 4, 5, 6, 7] rfl)
            exact L48 _ 0 0 (by omega) (by rfl) (Nat.lt_succ_self _) ls (lv_sub hl [1, 0, 2, 3, 4, 5, 6] rfl)
          · skip
            rw [zn_le (by omega) (by omega) (by omega)] at c22
            refine lv_ldc2 (v := (-1000000000000000002)) gx gb gown (gts (.constantLong RX8 199 (-1000000000000000002)) (by decide +kernel)) dX8_pikes_25 ?_
            exact W.lret (v := (-1000000000000000002)) gx gb gr (fun t ht hW => ⟨(-1000000000000000002), rfl, (by first | (dsimp only; done) | ((try dsimp only); rw [pikJ, if_neg (by omega)])), ht⟩) (fun q h => by cases h) dX8_pikes_28

set_option maxHeartbeats 4000000 in
set_option maxRecDepth 100000 in
theorem kX9_year (Gl : Launch) (D : va_G) (cI cJ cZ : ClassId) (mo : Nat) (ma : Nat) (mb : Nat) (mc : Nat) (md : Nat) (me : Nat) (mf : Nat) (mg : Nat) (mh : Nat) (mi : Nat) (mj : Nat) (mk : Nat) (ml : Nat) (mn : Nat) (n : Nat) (q : Nat) (c : Nat) (w : Nat) (z : Nat) (ev : Nat) (num : Nat → Nat) (plc : Nat → Nat) (sig : Nat → Nat) (pad : Nat → Nat) (row : Nat → Nat) (dig : Nat → Nat) (far : Nat → Int32) (cfr : Nat → Nat) (cby : Nat → Nat) (que : Nat → Nat) (has : Nat → Nat) (img : Nat → Nat) (kep : Nat → Nat) (sz : Nat) (a b e_ : Int) (hl_a : -2147483648 ≤ a) (hu_a : a < 2147483648) (hl_b : -2147483648 ≤ b) (hu_b : b < 2147483648) (hl_e_ : -2147483648 ≤ e_) (hu_e_ : e_ < 2147483648) (hn1 : 1 ≤ n) (hn7 : n ≤ 7) (hq1 : 1 ≤ q) (hqn : q ≤ n) (hp : ∀ k, k < q → plc k < n) (hnum : ∀ k, k < n → num k ≤ 99) : Met Gl yX9_year wsX9_year ({ frames := 3, cells := 0, slots := 0, locals := 71 } : Room) (va_Pc [.ref mo, .int (zI a), .int (zI b), .int (zI e_)] (fun U => U.heap.size = sz ∧ va_P D vwCl (wM mo ma mb mc md me mf mg mh mi mj mk ml mn cI cZ n q c w z ev num plc sig pad row dig far cfr cby que has img kep) U.heap ∧ va_K D vwCl [(cI, .int), (cJ, .long), (cZ, .boolean)] U ∧ va_D (fun _ => True) (wM mo ma mb mc md me mf mg mh mi mj mk ml mn cI cZ n q c w z ev num plc sig pad row dig far cfr cby que has img kep))) (va_Qi (fun (r : Int32) (u : (Nat → Nat) × (Nat)) => r = zI (yrZ num plc n q a b e_)) (fun (u : (Nat → Nat) × (Nat)) t => va_P D vwCl (wM mo ma mb mc md me mf mg mh mi mj mk ml mn cI cZ n q c w u.2 ev num plc sig pad u.1 dig far cfr cby que has img kep) t.heap ∧ va_K D vwCl [(cI, .int), (cJ, .long), (cZ, .boolean)] t ∧ va_D (va_A (wM mo ma mb mc md me mf mg mh mi mj mk ml mn cI cZ n q c w z ev num plc sig pad row dig far cfr cby que has img kep) sz) (wM mo ma mb mc md me mf mg mh mi mj mk ml mn cI cZ n q c w u.2 ev num plc sig pad u.1 dig far cfr cby que has img kep)) (va_A (wM mo ma mb mc md me mf mg mh mi mj mk ml mn cI cZ n q c w z ev num plc sig pad row dig far cfr cby que has img kep) sz)) 0 0 (va_A (wM mo ma mb mc md me mf mg mh mi mj mk ml mn cI cZ n q c w z ev num plc sig pad row dig far cfr cby que has img kep) sz) := by
  refine Met.ofW (cc := cX9_year) (maxL := 8) (ret := (some .int)) (by decide +kernel) rfl ?_
  intro Gp Ge Gs Gm Ga Gw Gt Gc G1 Bd gml gv
  obtain ⟨rfl, hsz, hP, hK, hD0⟩ := gv
  have gx := Bd.exec
  have gb := Bd.bytes
  have gr := Bd.returns
  have gts := atoms_spec (ws := wsX9_year) Bd.pre
  have gown : Gs.vm.findClass RX9 = some Gm.cls := findClass_of_methodNamed Bd.named
  have glk := Bd.notSynchronized
  subst hsz
  have hD := hD0.self (sz := Gs.heap.size)
  generalize hAe : va_A (wM mo ma mb mc md me mf mg mh mi mj mk ml mn cI cZ n q c w z ev num plc sig pad row dig far cfr cby que has img kep) Gs.heap.size = A at hD ⊢
  have hA : ∀ q : Nat, Gs.heap.size ≤ q → A q := fun q h => by rw [← hAe]; exact Or.inr h
  have hS : va_S A Gs.heap Gs.heap [] := va_S.rf
  have hP : va_P D vwCl (wM mo ma mb mc md me mf mg mh mi mj mk ml mn cI cZ n q c w z ev num plc sig pad row dig far cfr cby que has img kep) Gs.heap := hP
  have hl := lv_entry ([.ref mo, .int (zI a), .int (zI b), .int (zI e_)]) (n := 8) (Nat.le_of_ble_eq_true rfl)
  rw [lg_entry_eq]
  generalize (lg_sl ([.ref mo, .int (zI a), .int (zI b), .int (zI e_)]) ++ List.replicate (8 - (lg_sl ([.ref mo, .int (zI a), .int (zI b), .int (zI e_)])).length) Slot.unset).toArray = ls at hl ⊢
  have hl : lv_has ls 8 [(0, .ref mo), (1, .int (zI a)), (2, .int (zI b)), (3, .int (zI e_))] := hl
  have i9 : ∀ w ∈ wsX90, w ∈ wsX9_year := by decide +kernel
  refine lv_iload_n gx gb dX9_year_0 rfl (lv_at hl 1 rfl) ?_
  refine lv_iconst (v := nI 0) gx gb dX9_year_1 (by decide) ?_
  refine lv_sipush (v := nI 9999) gx gb dX9_year_2 (by decide) ?_
  refine lv_evs [.int (zI ((9999 : Nat) : Int)), .int (zI ((0 : Nat) : Int)), .int (zI a)] (by simp only [nI_zc]) ?_
  refine vp_callSi (W.runS (As := [.int (zI a), .int (zI ((0 : Nat) : Int)), .int (zI ((9999 : Nat) : Int))]) (rest := []) ⟨gx, gb, gml, gown, gts⟩ (kX9_in Gl a ((0 : Nat) : Int) ((9999 : Nat) : Int) (by omega) (by omega) (by omega) (by omega) (by omega) (by omega)) (va_cwS 3 gts gX9_year_X9_in rfl rfl rfl (by decide +kernel) ⟨Nat.le_of_ble_eq_true rfl, Nat.le_of_ble_eq_true rfl⟩) ⟨fun _ _ _ _ h => h, fun U hU hW => ⟨rfl, trivial⟩⟩ rfl rfl hl.1 rfl (lv_room (Nat.le_of_ble_eq_true rfl)) dX9_year_5 ⟨Nat.le_of_ble_eq_true rfl, Nat.le_of_ble_eq_true rfl⟩) (fun r hw => ?_)
  have hr5 := hw
  subst hr5
  refine lv_if_eq (tgt := 44) gx gb dX9_year_8 (by decide) (fun c8 => ?_) (fun c8 => ?_)
  · skip
    rw [b0_eq] at c8
    simp only [decide_eq_false_iff_not, Decidable.not_not] at c8
    refine lv_bipush (v := zI (-2)) gx gb dX9_year_44 (by decide) ?_
    exact W.iret (v := zI (-2)) gx gb gr (fun t ht hW => ⟨⟨zI (-2), (row, z), rfl, (by first | (dsimp only; done) | ((try dsimp only); rw [yrZ, if_neg (by omega)])), by rw [ht]; exact hP, va_K.moved hW.alike hK, hD⟩, hS.F ht⟩) hS.2.2 dX9_year_46
  · skip
    rw [b0_eq] at c8
    simp only [decide_eq_false_iff_not, Decidable.not_not] at c8
    refine lv_iload_n gx gb dX9_year_11 rfl (lv_at hl 2 rfl) ?_
    refine lv_iconst (v := nI 1) gx gb dX9_year_12 (by decide) ?_
    refine lv_bipush (v := nI 99) gx gb dX9_year_13 (by decide) ?_
    refine lv_evs [.int (zI ((99 : Nat) : Int)), .int (zI ((1 : Nat) : Int)), .int (zI b)] (by simp only [nI_zc]) ?_
    refine vp_callSi (W.runS (As := [.int (zI b), .int (zI ((1 : Nat) : Int)), .int (zI ((99 : Nat) : Int))]) (rest := []) ⟨gx, gb, gml, gown, gts⟩ (kX9_in Gl b ((1 : Nat) : Int) ((99 : Nat) : Int) (by omega) (by omega) (by omega) (by omega) (by omega) (by omega)) (va_cwS 3 gts gX9_year_X9_in rfl rfl rfl (by decide +kernel) ⟨Nat.le_of_ble_eq_true rfl, Nat.le_of_ble_eq_true rfl⟩) ⟨fun _ _ _ _ h => h, fun U hU hW => ⟨rfl, trivial⟩⟩ rfl rfl hl.1 rfl (lv_room (Nat.le_of_ble_eq_true rfl)) dX9_year_15 ⟨Nat.le_of_ble_eq_true rfl, Nat.le_of_ble_eq_true rfl⟩) (fun r hw => ?_)
    have hr15 := hw
    subst hr15
    refine lv_if_eq (tgt := 44) gx gb dX9_year_18 (by decide) (fun c18 => ?_) (fun c18 => ?_)
    · skip
      rw [b0_eq] at c18
      simp only [decide_eq_false_iff_not, Decidable.not_not] at c18
      refine lv_bipush (v := zI (-2)) gx gb dX9_year_44 (by decide) ?_
      exact W.iret (v := zI (-2)) gx gb gr (fun t ht hW => ⟨⟨zI (-2), (row, z), rfl, (by first | (dsimp only; done) | ((try dsimp only); rw [yrZ, if_neg (by omega)])), by rw [ht]; exact hP, va_K.moved hW.alike hK, hD⟩, hS.F ht⟩) hS.2.2 dX9_year_46
    · skip
      rw [b0_eq] at c18
      simp only [decide_eq_false_iff_not, Decidable.not_not] at c18
      refine lv_iload_n gx gb dX9_year_21 rfl (lv_at hl 3 rfl) ?_
      refine vp_callSi (W.runS (As := [.int (zI e_)]) (rest := []) ⟨gx, gb, gml, gown, gts⟩ (kX9_isLesson Gl e_ (by omega) (by omega)) (va_cwS 1 gts gX9_year_X9_isLesson rfl rfl rfl (by decide +kernel) ⟨Nat.le_of_ble_eq_true rfl, Nat.le_of_ble_eq_true rfl⟩) ⟨fun _ _ _ _ h => h, fun U hU hW => ⟨rfl, trivial⟩⟩ rfl rfl hl.1 rfl (lv_room (Nat.le_of_ble_eq_true rfl)) dX9_year_22 ⟨Nat.le_of_ble_eq_true rfl, Nat.le_of_ble_eq_true rfl⟩) (fun r hw => ?_)
      have hr22 := hw
      subst hr22
      refine lv_if_ne (tgt := 47) gx gb dX9_year_25 (by decide) (fun c25 => ?_) (fun c25 => ?_)
      · skip
        rw [b0_eq] at c25
        simp only [decide_eq_false_iff_not, Decidable.not_not] at c25
        obtain ⟨s, hs⟩ : ∃ s : Nat, a = (s : Int) := ⟨a.toNat, by omega⟩
        rw [show zI a = nI s from by rw [hs, zI_nat]] at hl
        obtain ⟨m, hm⟩ : ∃ m : Nat, b = (m : Int) := ⟨b.toNat, by omega⟩
        rw [show zI b = nI m from by rw [hm, zI_nat]] at hl
        have hl : lv_has ls 8 [(0, .ref mo), (1, .int (nI s)), (2, .int (nI m)), (3, .int (zI e_))] := hl
        refine lv_aload_n gx gb dX9_year_47 rfl (lv_at hl 0 rfl) ?_
        have hPc := hP.sub (ws' := wM mo ma mb mc md me mf mg mh mi mj mk ml mn cI cZ n q c w z ev num plc sig pad row dig far cfr cby que has img kep) [0, 1, 2, 3, 4, 5, 6, 7, 8, 9, 10, 11, 12, 13] rfl
        have hDc := hD.sub (ws' := wM mo ma mb mc md me mf mg mh mi mj mk ml mn cI cZ n q c w z ev num plc sig pad row dig far cfr cby que has img kep) [0, 1, 2, 3, 4, 5, 6, 7, 8, 9, 10, 11, 12, 13] (by decide) rfl
        have hFc := va_free (wc := wM mo ma mb mc md me mf mg mh mi mj mk ml mn cI cZ n q c w z ev num plc sig pad row dig far cfr cby que has img kep) hD hS hA [0, 1, 2, 3, 4, 5, 6, 7, 8, 9, 10, 11, 12, 13] rfl
        refine va_callv (va_runV (As := []) (rest := []) ⟨gx, gb, gml, gown, gts⟩ (kX9_asNow Gl D cI cJ cZ mo ma mb mc md me mf mg mh mi mj mk ml mn n q c w z ev num plc sig pad row dig far cfr cby que has img kep _  ) (cwV 0 gts gX9_year_X9_asNow rfl rfl rfl (by decide +kernel) ⟨Nat.le_of_ble_eq_true rfl, Nat.le_of_ble_eq_true rfl⟩) ⟨fun a U g mk q => by obtain ⟨q0, q1, qP, qK, qD⟩ := q; exact ⟨q0, q1, qP, va_K.moved (u := U) (U := U.calling g mk a) (Vm.Alike.refl U.vm) qK, qD⟩, va_recv hK hPc (ci := 4) (q0 := 0) rfl rfl, fun U hU hW => ⟨rfl, by rw [hU], by rw [hU]; exact hPc, va_K.moved hW.alike hK, hDc.weaken (fun _ _ _ _ => trivial)⟩⟩ rfl rfl hl.1 rfl (lv_room (Nat.le_of_ble_eq_true rfl)) dX9_year_48 ⟨Nat.le_of_ble_eq_true rfl, Nat.le_of_ble_eq_true rfl⟩) hS (fun q _ h => hFc q h) hFc (fun u t H1 locs ht hvm hw hB hz1 hk1 hS => ?_)
        obtain ⟨hP1, hK1, hD1⟩ := hB
        rw [ht] at hP1
        try dsimp only at hw
        try dsimp only at hP1
        try dsimp only at hD1
        have hK := va_K.moved hvm.symm hK1
        obtain ⟨hP, hD⟩ := va_join (wr := []) (w1 := wM mo ma mb mc md me mf mg mh mi mj mk ml mn cI cZ n q c w q ev num plc sig pad (cpy plc row 7) dig far cfr cby que has img kep) hP hD [0, 1, 2, 3, 4, 5, 6, 7, 8, 9, 10, 11, 12, 13] [] rfl rfl (by decide) (by decide) hk1 hFc hP1 hD1
        have hP := hP.sub (ws' := wM mo ma mb mc md me mf mg mh mi mj mk ml mn cI cZ n q c w q ev num plc sig pad (cpy plc row 7) dig far cfr cby que has img kep) [0, 1, 2, 3, 4, 5, 6, 7, 8, 9, 10, 11, 12, 13] rfl
        have hD := hD.sub (ws' := wM mo ma mb mc md me mf mg mh mi mj mk ml mn cI cZ n q c w q ev num plc sig pad (cpy plc row 7) dig far cfr cby que has img kep) [0, 1, 2, 3, 4, 5, 6, 7, 8, 9, 10, 11, 12, 13] (by decide) rfl
        have hK := va_K.moved (Vm.Alike.refl Gs.vm) hK
        generalize H1 = H at hP hS ⊢
        refine lv_iload_n gx gb dX9_year_51 rfl (lv_at hl 1 rfl) ?_
        refine lv_istore (lv' := [(4, .int (nI s)), (0, .ref mo), (1, .int (nI s)), (2, .int (nI m)), (3, .int (zI e_))]) gx gb dX9_year_52 hl (by decide) rfl (fun ls hl => ?_)
        refine lv_iconst (v := nI 0) gx gb dX9_year_54 (by decide) ?_
        refine lv_istore (lv' := [(5, .int (nI 0)), (4, .int (nI s)), (0, .ref mo), (1, .int (nI s)), (2, .int (nI m)), (3, .int (zI e_))]) gx gb dX9_year_55 hl (by decide) rfl (fun ls hl => ?_)
        refine lv_iconst (v := nI 0) gx gb dX9_year_57 (by decide) ?_
        refine lv_istore (lv' := [(6, .int (nI 0)), (5, .int (nI 0)), (4, .int (nI s)), (0, .ref mo), (1, .int (nI s)), (2, .int (nI m)), (3, .int (zI e_))]) gx gb dX9_year_58 hl (by decide) rfl (fun ls hl => ?_)
        have L60 : ∀ fu : Nat, ∀ (rw_ : Nat → Nat) (i : Nat) (hi : i ≤ m) (hr : ∀ p, p < q → rw_ p = yrow q plc s i p), (m - i) < fu → ∀ (H : Heap) (locs : List Loc), va_P D vwCl (wM mo ma mb mc md me mf mg mh mi mj mk ml mn cI cZ n q c w q ev num plc sig pad rw_ dig far cfr cby que has img kep) H → va_D A (wM mo ma mb mc md me mf mg mh mi mj mk ml mn cI cZ n q c w q ev num plc sig pad rw_ dig far cfr cby que has img kep) → va_S A Gs.heap H locs → ∀ ls : Array Slot, lv_has ls 8 [(4, .int (nI (yx s i))), (5, .int (nI (cnT (yrP num plc q s e_) i))), (6, .int (nI i)), (0, .ref mo), (1, .int (nI s)), (2, .int (nI m)), (3, .int (zI e_))] → W Gp Gl Ge (headSpec wsX9_year ({ frames := 3, cells := 0, slots := 0, locals := 71 } : Room)).room Gs Gm ([.ref mo, .int (zI a), .int (zI b), .int (zI e_)] : List Value).toArray Gw Gt Gc H locs 0 0 (MQ Gw (va_Qi (fun (r : Int32) (u : (Nat → Nat) × (Nat)) => r = zI (yrZ num plc n q a b e_)) (fun (u : (Nat → Nat) × (Nat)) t => va_P D vwCl (wM mo ma mb mc md me mf mg mh mi mj mk ml mn cI cZ n q c w u.2 ev num plc sig pad u.1 dig far cfr cby que has img kep) t.heap ∧ va_K D vwCl [(cI, .int), (cJ, .long), (cZ, .boolean)] t ∧ va_D A (wM mo ma mb mc md me mf mg mh mi mj mk ml mn cI cZ n q c w u.2 ev num plc sig pad u.1 dig far cfr cby que has img kep)) A) ([.ref mo, .int (zI a), .int (zI b), .int (zI e_)] : List Value).toArray Gs 0 0 A) (F0 Gm 60 ls []) := by
          intro fu
          induction fu with
          | zero => intro rw_ i hi hr hfu; exact absurd hfu (Nat.not_lt_zero _)
          | succ fu ih60 =>
            intro rw_ i hi hr hfu H locs hP hD hS ls hl
            have hyl := yx_lt (seed := s) (by omega) i
            have hcn := cnT_le (yrP num plc q s e_) i
            refine lv_iload gx gb dX9_year_60 (lv_at hl 2 rfl) ?_
            refine lv_iload_n gx gb dX9_year_62 rfl (lv_at hl 5 rfl) ?_
            refine lv_icmp_ge (tgt := 170) gx gb dX9_year_63 (by decide) (fun c63 => ?_) (fun c63 => ?_)
            · skip
              rw [nI_leI (by omega) (by omega)] at c63
              refine lv_iload gx gb dX9_year_170 (lv_at hl 1 rfl) ?_
              exact W.iret (v := nI (cnT (yrP num plc q s e_) i)) gx gb gr (fun t ht hW => ⟨⟨nI (cnT (yrP num plc q s e_) i), (rw_, q), rfl, (by first | (dsimp only; done) | ((try dsimp only); rw [yrZ, if_pos (by omega), hs, hm, zI_nat, show i = m by omega]; rfl)), by rw [ht]; exact hP, va_K.moved hW.alike hK, hD⟩, hS.F ht⟩) hS.2.2 dX9_year_172
            · skip
              rw [nI_leI (by omega) (by omega)] at c63
              refine lv_bipush (v := nI 75) gx gb dX9_year_66 (by decide) ?_
              refine lv_iload gx gb dX9_year_68 (lv_at hl 0 rfl) ?_
              refine lv_imul gx gb dX9_year_70 ?_
              refine lv_evi (nI (75 * (yx s i))) (pk_mul 75 (yx s i)) ?_
              refine lv_bipush (v := nI 74) gx gb dX9_year_71 (by decide) ?_
              refine lv_iadd gx gb dX9_year_73 ?_
              refine lv_evi (nI ((75 * (yx s i)) + 74)) (nI_add (75 * (yx s i)) 74) ?_
              refine lv_ldc (v := (65537)) gx gb gown (gts (.constant RX9 170 (65537)) (by decide +kernel)) dX9_year_74 ?_
              refine lv_evi (nI 65537) (rfl) ?_
              refine lv_irem gx gb dX9_year_76 (nI_ne0 (by omega) (by omega)) ?_
              refine lv_evi (nI (((75 * (yx s i)) + 74) % 65537)) (e_rem (by omega) (by omega) (by omega)) ?_
              refine lv_evi (nI (yx s (i + 1))) (rfl) ?_
              refine lv_istore (lv' := [(4, .int (nI (yx s (i + 1)))), (5, .int (nI (cnT (yrP num plc q s e_) i))), (6, .int (nI i)), (0, .ref mo), (1, .int (nI s)), (2, .int (nI m)), (3, .int (zI e_))]) gx gb dX9_year_77 hl (by decide) rfl (fun ls hl => ?_)
              have L115 : ∀ (rw2 : Nat → Nat) (hr2 : ∀ p, p < q → rw2 p = yrow q plc s (i + 1) p), ∀ (H : Heap) (locs : List Loc), va_P D vwCl (wM mo ma mb mc md me mf mg mh mi mj mk ml mn cI cZ n q c w q ev num plc sig pad rw2 dig far cfr cby que has img kep) H → va_D A (wM mo ma mb mc md me mf mg mh mi mj mk ml mn cI cZ n q c w q ev num plc sig pad rw2 dig far cfr cby que has img kep) → va_S A Gs.heap H locs → ∀ ls : Array Slot, lv_has ls 8 [(4, .int (nI (yx s (i + 1)))), (5, .int (nI (cnT (yrP num plc q s e_) i))), (6, .int (nI i)), (0, .ref mo), (1, .int (nI s)), (2, .int (nI m)), (3, .int (zI e_))] → W Gp Gl Ge (headSpec wsX9_year ({ frames := 3, cells := 0, slots := 0, locals := 71 } : Room)).room Gs Gm ([.ref mo, .int (zI a), .int (zI b), .int (zI e_)] : List Value).toArray Gw Gt Gc H locs 0 0 (MQ Gw (va_Qi (fun (r : Int32) (u : (Nat → Nat) × (Nat)) => r = zI (yrZ num plc n q a b e_)) (fun (u : (Nat → Nat) × (Nat)) t => va_P D vwCl (wM mo ma mb mc md me mf mg mh mi mj mk ml mn cI cZ n q c w u.2 ev num plc sig pad u.1 dig far cfr cby que has img kep) t.heap ∧ va_K D vwCl [(cI, .int), (cJ, .long), (cZ, .boolean)] t ∧ va_D A (wM mo ma mb mc md me mf mg mh mi mj mk ml mn cI cZ n q c w u.2 ev num plc sig pad u.1 dig far cfr cby que has img kep)) A) ([.ref mo, .int (zI a), .int (zI b), .int (zI e_)] : List Value).toArray Gs 0 0 A) (F0 Gm 115 ls []) := by
                intro rw2 hr2 H locs hP hD hS ls hl
                have L147 : ∀ (x : Bool) (hxx : x = yrP num plc q s e_ i), ∀ (H : Heap) (locs : List Loc), va_P D vwCl (wM mo ma mb mc md me mf mg mh mi mj mk ml mn cI cZ n q c w q ev num plc sig pad rw2 dig far cfr cby que has img kep) H → va_D A (wM mo ma mb mc md me mf mg mh mi mj mk ml mn cI cZ n q c w q ev num plc sig pad rw2 dig far cfr cby que has img kep) → va_S A Gs.heap H locs → ∀ ls : Array Slot, lv_has ls 8 [(4, .int (nI (yx s (i + 1)))), (5, .int (nI (cnT (yrP num plc q s e_) i))), (6, .int (nI i)), (0, .ref mo), (1, .int (nI s)), (2, .int (nI m)), (3, .int (zI e_))] → W Gp Gl Ge (headSpec wsX9_year ({ frames := 3, cells := 0, slots := 0, locals := 71 } : Room)).room Gs Gm ([.ref mo, .int (zI a), .int (zI b), .int (zI e_)] : List Value).toArray Gw Gt Gc H locs 0 0 (MQ Gw (va_Qi (fun (r : Int32) (u : (Nat → Nat) × (Nat)) => r = zI (yrZ num plc n q a b e_)) (fun (u : (Nat → Nat) × (Nat)) t => va_P D vwCl (wM mo ma mb mc md me mf mg mh mi mj mk ml mn cI cZ n q c w u.2 ev num plc sig pad u.1 dig far cfr cby que has img kep) t.heap ∧ va_K D vwCl [(cI, .int), (cJ, .long), (cZ, .boolean)] t ∧ va_D A (wM mo ma mb mc md me mf mg mh mi mj mk ml mn cI cZ n q c w u.2 ev num plc sig pad u.1 dig far cfr cby que has img kep)) A) ([.ref mo, .int (zI a), .int (zI b), .int (zI e_)] : List Value).toArray Gs 0 0 A) (F0 Gm 147 ls [.int (bI x)]) := by
                  intro x hxx H locs hP hD hS ls hl
                  refine lv_istore (lv' := [(7, .int (bI x)), (4, .int (nI (yx s (i + 1)))), (5, .int (nI (cnT (yrP num plc q s e_) i))), (6, .int (nI i)), (0, .ref mo), (1, .int (nI s)), (2, .int (nI m)), (3, .int (zI e_))]) gx gb dX9_year_147 hl (by decide) rfl (fun ls hl => ?_)
                  have L161 : ∀ (y : Nat) (hyy : y = if yrP num plc q s e_ i then 1 else 0), ∀ (H : Heap) (locs : List Loc), va_P D vwCl (wM mo ma mb mc md me mf mg mh mi mj mk ml mn cI cZ n q c w q ev num plc sig pad rw2 dig far cfr cby que has img kep) H → va_D A (wM mo ma mb mc md me mf mg mh mi mj mk ml mn cI cZ n q c w q ev num plc sig pad rw2 dig far cfr cby que has img kep) → va_S A Gs.heap H locs → ∀ ls : Array Slot, lv_has ls 8 [(7, .int (bI x)), (4, .int (nI (yx s (i + 1)))), (5, .int (nI (cnT (yrP num plc q s e_) i))), (6, .int (nI i)), (0, .ref mo), (1, .int (nI s)), (2, .int (nI m)), (3, .int (zI e_))] → W Gp Gl Ge (headSpec wsX9_year ({ frames := 3, cells := 0, slots := 0, locals := 71 } : Room)).room Gs Gm ([.ref mo, .int (zI a), .int (zI b), .int (zI e_)] : List Value).toArray Gw Gt Gc H locs 0 0 (MQ Gw (va_Qi (fun (r : Int32) (u : (Nat → Nat) × (Nat)) => r = zI (yrZ num plc n q a b e_)) (fun (u : (Nat → Nat) × (Nat)) t => va_P D vwCl (wM mo ma mb mc md me mf mg mh mi mj mk ml mn cI cZ n q c w u.2 ev num plc sig pad u.1 dig far cfr cby que has img kep) t.heap ∧ va_K D vwCl [(cI, .int), (cJ, .long), (cZ, .boolean)] t ∧ va_D A (wM mo ma mb mc md me mf mg mh mi mj mk ml mn cI cZ n q c w u.2 ev num plc sig pad u.1 dig far cfr cby que has img kep)) A) ([.ref mo, .int (zI a), .int (zI b), .int (zI e_)] : List Value).toArray Gs 0 0 A) (F0 Gm 161 ls [.int (nI y), .int (nI (cnT (yrP num plc q s e_) i))]) := by
                    intro y hyy H locs hP hD hS ls hl
                    subst hyy
                    have hl : lv_has ls 8 [(7, .int (bI x)), (4, .int (nI (yx s (i + 1)))), (5, .int (nI (cnT (yrP num plc q s e_) i))), (6, .int (nI i)), (0, .ref mo), (1, .int (nI s)), (2, .int (nI m)), (3, .int (zI e_))] := hl
                    refine lv_iadd gx gb dX9_year_161 ?_
                    refine lv_evi (nI ((cnT (yrP num plc q s e_) i) + (if yrP num plc q s e_ i then 1 else 0))) (nI_add (cnT (yrP num plc q s e_) i) (if yrP num plc q s e_ i then 1 else 0)) ?_
                    refine lv_istore (lv' := [(5, .int (nI ((cnT (yrP num plc q s e_) i) + (if yrP num plc q s e_ i then 1 else 0)))), (7, .int (bI x)), (4, .int (nI (yx s (i + 1)))), (6, .int (nI i)), (0, .ref mo), (1, .int (nI s)), (2, .int (nI m)), (3, .int (zI e_))]) gx gb dX9_year_162 hl (by decide) rfl (fun ls hl => ?_)
                    refine lv_iinc (v := nI (i + 1)) (lv' := [(6, .int (nI (i + 1))), (5, .int (nI ((cnT (yrP num plc q s e_) i) + (if yrP num plc q s e_ i then 1 else 0)))), (7, .int (bI x)), (4, .int (nI (yx s (i + 1)))), (0, .ref mo), (1, .int (nI s)), (2, .int (nI m)), (3, .int (zI e_))]) gx gb dX9_year_164 hl (k := 3) rfl (nI_add i 1) (by decide) rfl (fun ls hl => ?_)
                    refine lv_goto (tgt := 60) gx gb dX9_year_167 (by decide) ?_
                    exact ih60 rw2 (i + 1) (by omega) (by exact hr2) (by omega) _ _ hP hD hS ls (lv_sub hl [3, 1, 0, 4, 5, 6, 7] rfl)
                  refine lv_iload gx gb dX9_year_149 (lv_at hl 2 rfl) ?_
                  refine lv_iload gx gb dX9_year_151 (lv_at hl 0 rfl) ?_
                  refine lv_if_eq (tgt := 160) gx gb dX9_year_153 (by decide) (fun c153 => ?_) (fun c153 => ?_)
                  · skip
                    rw [b0_eq] at c153
                    refine lv_iconst (v := nI 0) gx gb dX9_year_160 (by decide) ?_
                    exact L161 0 (by first | (rw [← hxx, c153]; rfl) | (rw [← hxx, c153])) _ _ hP hD hS ls (lv_sub hl [0, 1, 2, 3, 4, 5, 6, 7] rfl)
                  · skip
                    rw [b0_eq] at c153
                    have c153 := nf_t c153
                    refine lv_iconst (v := nI 1) gx gb dX9_year_156 (by decide) ?_
                    refine lv_goto (tgt := 161) gx gb dX9_year_157 (by decide) ?_
                    exact L161 1 (by first | (rw [← hxx, c153]; rfl) | (rw [← hxx, c153])) _ _ hP hD hS ls (lv_sub hl [0, 1, 2, 3, 4, 5, 6, 7] rfl)
                have hin := yrow_in (q := q) (plc := plc) (seed := s) (P := fun x => x < n) hq1 hp (i + 1)
                have hr20 := hr2 0 (by omega)
                have hin0 := hin 0 (by omega)
                refine lv_iload_n gx gb dX9_year_115 rfl (lv_at hl 6 rfl) ?_
                refine lv_bipush (v := nI 10) gx gb dX9_year_116 (by decide) ?_
                refine lv_icmp_ge (tgt := 129) gx gb dX9_year_118 (by decide) (fun c118 => ?_) (fun c118 => ?_)
                · skip
                  rw [nz_le (by omega) (by omega) (by omega)] at c118
                  refine lv_aload_n gx gb dX9_year_129 rfl (lv_at hl 3 rfl) ?_
                  refine va_get (D := D) (ci := 4) (v := .ref me) (C := RX9) (T := TX9) (N := 19) gx gb gts i9 gown hK hP 0 rfl rfl 8 (by decide) (gts (.fieldLink RX9 29 "SwanSumsModel" "row" "[I") (by decide +kernel)) (fun _ h9 => h9) rfl dX9_year_130 ?_
                  refine lv_iconst (v := nI 0) gx gb dX9_year_133 (by decide) ?_
                  refine va_iald gx gb hK hP 5 0 rfl rfl (vp_in_nI (n := 0) (by omega) (by decide)) dX9_year_134 ?_
                  refine lv_evi (nI (rw2 0)) (aN_rd rw2 (by omega)) ?_
                  refine lv_iload_n gx gb dX9_year_135 rfl (lv_at hl 6 rfl) ?_
                  refine lv_bipush (v := nI 10) gx gb dX9_year_136 (by decide) ?_
                  refine lv_isub gx gb dX9_year_138 ?_
                  refine lv_evi (zI (e_ - ((10 : Nat) : Int))) (by rw [nI_zc 10]; exact zI_sub e_ ((10 : Nat) : Int)) ?_
                  refine lv_icmp_ne (tgt := 146) gx gb dX9_year_139 (by decide) (fun c139 => ?_) (fun c139 => ?_)
                  · skip
                    rw [nz_eq (by omega) (by omega) (by omega)] at c139
                    refine lv_iconst (v := nI 0) gx gb dX9_year_146 (by decide) ?_
                    exact L147 false (by first | (rw [yrP, if_neg (by omega)]; exact tau_cong hq1 (fun x hx => by rw [hr2 x hx])) | (rw [yrP, if_pos (by omega), ← hr2 0 (by omega)]; exact (decide_eq_true c139).symm) | (rw [yrP, if_pos (by omega), ← hr2 0 (by omega)]; exact (decide_eq_false c139).symm)) _ _ hP hD hS ls (lv_sub hl [0, 1, 2, 3, 4, 5, 6] rfl)
                  · skip
                    rw [nz_eq (by omega) (by omega) (by omega)] at c139
                    refine lv_iconst (v := nI 1) gx gb dX9_year_142 (by decide) ?_
                    refine lv_goto (tgt := 147) gx gb dX9_year_143 (by decide) ?_
                    exact L147 true (by first | (rw [yrP, if_neg (by omega)]; exact tau_cong hq1 (fun x hx => by rw [hr2 x hx])) | (rw [yrP, if_pos (by omega), ← hr2 0 (by omega)]; exact (decide_eq_true c139).symm) | (rw [yrP, if_pos (by omega), ← hr2 0 (by omega)]; exact (decide_eq_false c139).symm)) _ _ hP hD hS ls (lv_sub hl [0, 1, 2, 3, 4, 5, 6] rfl)
                · skip
                  rw [nz_le (by omega) (by omega) (by omega)] at c118
                  refine lv_aload_n gx gb dX9_year_121 rfl (lv_at hl 3 rfl) ?_
                  refine lv_iload_n gx gb dX9_year_122 rfl (lv_at hl 6 rfl) ?_
                  refine lv_evi (nI e_.toNat) (by rw [← zI_nat]; congr 1; omega) ?_
                  have hPc := hP.sub (ws' := wM mo ma mb mc md me mf mg mh mi mj mk ml mn cI cZ n q c w q ev num plc sig pad rw2 dig far cfr cby que has img kep) [0, 1, 2, 3, 4, 5, 6, 7, 8, 9, 10, 11, 12, 13] rfl
                  refine vp_callSi (W.runV (As := [.int (nI e_.toNat)]) (rest := []) ⟨gx, gb, gml, gown, gts⟩ (kX9_isTaught Gl D cI cJ cZ mo ma mb mc md me mf mg mh mi mj mk ml mn n q c w q ev num plc sig pad rw2 dig far cfr cby que has img kep e_.toNat (by omega) (by omega) (by omega) (by intro x hx; rw [hr2 x hx]; have := hin x hx; omega) (by intro x hx; rw [hr2 x hx]; exact hnum _ (hin x hx))) (cwV 1 gts gX9_year_X9_isTaught rfl rfl rfl (by decide +kernel) ⟨Nat.le_of_ble_eq_true rfl, Nat.le_of_ble_eq_true rfl⟩) ⟨fun a U g mk q => ⟨q.1, q.2.1, va_K.moved (u := U) (U := U.calling g mk a) (Vm.Alike.refl U.vm) q.2.2⟩, va_recv hK hPc (ci := 4) (q0 := 0) rfl rfl, fun U hU hW => ⟨rfl, by rw [hU]; exact hPc, va_K.moved hW.alike hK⟩⟩ rfl rfl hl.1 rfl (lv_room (Nat.le_of_ble_eq_true rfl)) dX9_year_123 ⟨Nat.le_of_ble_eq_true rfl, Nat.le_of_ble_eq_true rfl⟩) (fun r hw => ?_)
                  have hr123 := hw
                  subst hr123
                  refine lv_goto (tgt := 147) gx gb dX9_year_126 (by decide) ?_
                  exact L147 (tau e_.toNat (fun x_ => num (rw2 x_)) q) (by first | (rw [yrP, if_neg (by omega)]; exact tau_cong hq1 (fun x hx => by rw [hr2 x hx])) | (rw [yrP, if_pos (by omega), ← hr2 0 (by omega)]; exact (decide_eq_true c139).symm) | (rw [yrP, if_pos (by omega), ← hr2 0 (by omega)]; exact (decide_eq_false c139).symm)) _ _ hP hD hS ls (lv_sub hl [0, 1, 2, 3, 4, 5, 6] rfl)
              have hyl2 := yx_lt (seed := s) (by omega) (i + 1)
              have hxm := Nat.mod_lt (yx s (i + 1) / 2) (show 0 < q by omega)
              refine lv_iload gx gb dX9_year_79 (lv_at hl 0 rfl) ?_
              refine lv_iconst (v := nI 2) gx gb dX9_year_81 (by decide) ?_
              refine lv_irem gx gb dX9_year_82 (nI_ne0 (by omega) (by omega)) ?_
              refine lv_evi (nI ((yx s (i + 1)) % 2)) (e_rem (by omega) (by omega) (by omega)) ?_
              refine lv_if_ne (tgt := 102) gx gb dX9_year_83 (by decide) (fun c83 => ?_) (fun c83 => ?_)
              · skip
                rw [n0_eq (by omega)] at c83
                refine lv_aload_n gx gb dX9_year_102 rfl (lv_at hl 3 rfl) ?_
                refine lv_iload gx gb dX9_year_103 (lv_at hl 0 rfl) ?_
                refine lv_iconst (v := nI 2) gx gb dX9_year_105 (by decide) ?_
                refine lv_idiv gx gb dX9_year_106 (nI_ne0 (by omega) (by omega)) ?_
                refine lv_evi (nI ((yx s (i + 1)) / 2)) (e_div (by omega) (by omega) (by omega)) ?_
                refine lv_aload_n gx gb dX9_year_107 rfl (lv_at hl 3 rfl) ?_
                refine va_get (D := D) (ci := 4) (v := .int (nI q)) (C := RX9) (T := TX9) (N := 19) gx gb gts i9 gown hK hP 0 rfl rfl 9 (by decide) (gts (.fieldLink RX9 81 "SwanSumsModel" "size" "I") (by decide +kernel)) (fun _ h9 => h9) rfl dX9_year_108 ?_
                refine lv_irem gx gb dX9_year_111 (nI_ne0 (by omega) (by omega)) ?_
                refine lv_evi (nI (((yx s (i + 1)) / 2) % q)) (e_rem (by omega) (by omega) (by omega)) ?_
                have hPc := hP.sub (ws' := wM mo ma mb mc md me mf mg mh mi mj mk ml mn cI cZ n q c w q ev num plc sig pad rw_ dig far cfr cby que has img kep) [0, 1, 2, 3, 4, 5, 6, 7, 8, 9, 10, 11, 12, 13] rfl
                have hDc := hD.sub (ws' := wM mo ma mb mc md me mf mg mh mi mj mk ml mn cI cZ n q c w q ev num plc sig pad rw_ dig far cfr cby que has img kep) [0, 1, 2, 3, 4, 5, 6, 7, 8, 9, 10, 11, 12, 13] (by decide) rfl
                have hFc := va_free (wc := wM mo ma mb mc md me mf mg mh mi mj mk ml mn cI cZ n q c w q ev num plc sig pad rw_ dig far cfr cby que has img kep) hD hS hA [0, 1, 2, 3, 4, 5, 6, 7, 8, 9, 10, 11, 12, 13] rfl
                refine va_callv (va_runV (As := [.int (nI (((yx s (i + 1)) / 2) % q))]) (rest := []) ⟨gx, gb, gml, gown, gts⟩ (kX9_pike Gl D cI cJ cZ mo ma mb mc md me mf mg mh mi mj mk ml mn n q c w q ev num plc sig pad rw_ dig far cfr cby que has img kep _ (((yx s (i + 1)) / 2) % q) (by omega) (by omega)) (cwV 1 gts gX9_year_X9_pike rfl rfl rfl (by decide +kernel) ⟨Nat.le_of_ble_eq_true rfl, Nat.le_of_ble_eq_true rfl⟩) ⟨fun a U g mk q => by obtain ⟨q0, q1, qP, qK, qD⟩ := q; exact ⟨q0, q1, qP, va_K.moved (u := U) (U := U.calling g mk a) (Vm.Alike.refl U.vm) qK, qD⟩, va_recv hK hPc (ci := 4) (q0 := 0) rfl rfl, fun U hU hW => ⟨rfl, by rw [hU], by rw [hU]; exact hPc, va_K.moved hW.alike hK, hDc.weaken (fun _ _ _ _ => trivial)⟩⟩ rfl rfl hl.1 rfl (lv_room (Nat.le_of_ble_eq_true rfl)) dX9_year_112 ⟨Nat.le_of_ble_eq_true rfl, Nat.le_of_ble_eq_true rfl⟩) hS (fun q _ h => hFc q h) hFc (fun u t H1 locs ht hvm hw hB hz1 hk1 hS => ?_)
                obtain ⟨hP1, hK1, hD1⟩ := hB
                rw [ht] at hP1
                try dsimp only at hw
                try dsimp only at hP1
                try dsimp only at hD1
                have hK := va_K.moved hvm.symm hK1
                obtain ⟨hP, hD⟩ := va_join (wr := []) (w1 := wM mo ma mb mc md me mf mg mh mi mj mk ml mn cI cZ n q c w q ev num plc sig pad (pikeF (((yx s (i + 1)) / 2) % q) (q - 1) rw_) dig far cfr cby que has img kep) hP hD [0, 1, 2, 3, 4, 5, 6, 7, 8, 9, 10, 11, 12, 13] [] rfl rfl (by decide) (by decide) hk1 hFc hP1 hD1
                have hP := hP.sub (ws' := wM mo ma mb mc md me mf mg mh mi mj mk ml mn cI cZ n q c w q ev num plc sig pad (pikeF (((yx s (i + 1)) / 2) % q) (q - 1) rw_) dig far cfr cby que has img kep) [0, 1, 2, 3, 4, 5, 6, 7, 8, 9, 10, 11, 12, 13] rfl
                have hD := hD.sub (ws' := wM mo ma mb mc md me mf mg mh mi mj mk ml mn cI cZ n q c w q ev num plc sig pad (pikeF (((yx s (i + 1)) / 2) % q) (q - 1) rw_) dig far cfr cby que has img kep) [0, 1, 2, 3, 4, 5, 6, 7, 8, 9, 10, 11, 12, 13] (by decide) rfl
                have hK := va_K.moved (Vm.Alike.refl Gs.vm) hK
                generalize H1 = H at hP hS ⊢
                exact L115 (pikeF (((yx s (i + 1)) / 2) % q) (q - 1) rw_) (by first | (intro p hp9; rw [yrow, if_pos c83]; exact breadF_cong hxm hr p hp9) | (intro p hp9; rw [yrow, if_neg c83]; exact pikeF_cong hxm hr p hp9)) _ _ hP hD hS ls (lv_sub hl [0, 1, 2, 3, 4, 5, 6] rfl)
              · skip
                rw [n0_eq (by omega)] at c83
                refine lv_aload_n gx gb dX9_year_86 rfl (lv_at hl 3 rfl) ?_
                refine lv_iload gx gb dX9_year_87 (lv_at hl 0 rfl) ?_
                refine lv_iconst (v := nI 2) gx gb dX9_year_89 (by decide) ?_
                refine lv_idiv gx gb dX9_year_90 (nI_ne0 (by omega) (by omega)) ?_
                refine lv_evi (nI ((yx s (i + 1)) / 2)) (e_div (by omega) (by omega) (by omega)) ?_
                refine lv_aload_n gx gb dX9_year_91 rfl (lv_at hl 3 rfl) ?_
                refine va_get (D := D) (ci := 4) (v := .int (nI q)) (C := RX9) (T := TX9) (N := 19) gx gb gts i9 gown hK hP 0 rfl rfl 9 (by decide) (gts (.fieldLink RX9 81 "SwanSumsModel" "size" "I") (by decide +kernel)) (fun _ h9 => h9) rfl dX9_year_92 ?_
                refine lv_irem gx gb dX9_year_95 (nI_ne0 (by omega) (by omega)) ?_
                refine lv_evi (nI (((yx s (i + 1)) / 2) % q)) (e_rem (by omega) (by omega) (by omega)) ?_
                have hPc := hP.sub (ws' := wM mo ma mb mc md me mf mg mh mi mj mk ml mn cI cZ n q c w q ev num plc sig pad rw_ dig far cfr cby que has img kep) [0, 1, 2, 3, 4, 5, 6, 7, 8, 9, 10, 11, 12, 13] rfl
                have hDc := hD.sub (ws' := wM mo ma mb mc md me mf mg mh mi mj mk ml mn cI cZ n q c w q ev num plc sig pad rw_ dig far cfr cby que has img kep) [0, 1, 2, 3, 4, 5, 6, 7, 8, 9, 10, 11, 12, 13] (by decide) rfl
                have hFc := va_free (wc := wM mo ma mb mc md me mf mg mh mi mj mk ml mn cI cZ n q c w q ev num plc sig pad rw_ dig far cfr cby que has img kep) hD hS hA [0, 1, 2, 3, 4, 5, 6, 7, 8, 9, 10, 11, 12, 13] rfl
                refine va_callv (va_runV (As := [.int (nI (((yx s (i + 1)) / 2) % q))]) (rest := []) ⟨gx, gb, gml, gown, gts⟩ (kX9_bread Gl D cI cJ cZ mo ma mb mc md me mf mg mh mi mj mk ml mn n q c w q ev num plc sig pad rw_ dig far cfr cby que has img kep _ (((yx s (i + 1)) / 2) % q) (by omega)) (cwV 1 gts gX9_year_X9_bread rfl rfl rfl (by decide +kernel) ⟨Nat.le_of_ble_eq_true rfl, Nat.le_of_ble_eq_true rfl⟩) ⟨fun a U g mk q => by obtain ⟨q0, q1, qP, qK, qD⟩ := q; exact ⟨q0, q1, qP, va_K.moved (u := U) (U := U.calling g mk a) (Vm.Alike.refl U.vm) qK, qD⟩, va_recv hK hPc (ci := 4) (q0 := 0) rfl rfl, fun U hU hW => ⟨rfl, by rw [hU], by rw [hU]; exact hPc, va_K.moved hW.alike hK, hDc.weaken (fun _ _ _ _ => trivial)⟩⟩ rfl rfl hl.1 rfl (lv_room (Nat.le_of_ble_eq_true rfl)) dX9_year_96 ⟨Nat.le_of_ble_eq_true rfl, Nat.le_of_ble_eq_true rfl⟩) hS (fun q _ h => hFc q h) hFc (fun u t H1 locs ht hvm hw hB hz1 hk1 hS => ?_)
                obtain ⟨hP1, hK1, hD1⟩ := hB
                rw [ht] at hP1
                try dsimp only at hw
                try dsimp only at hP1
                try dsimp only at hD1
                have hK := va_K.moved hvm.symm hK1
                obtain ⟨hP, hD⟩ := va_join (wr := []) (w1 := wM mo ma mb mc md me mf mg mh mi mj mk ml mn cI cZ n q c w q ev num plc sig pad (breadF (((yx s (i + 1)) / 2) % q) rw_) dig far cfr cby que has img kep) hP hD [0, 1, 2, 3, 4, 5, 6, 7, 8, 9, 10, 11, 12, 13] [] rfl rfl (by decide) (by decide) hk1 hFc hP1 hD1
                have hP := hP.sub (ws' := wM mo ma mb mc md me mf mg mh mi mj mk ml mn cI cZ n q c w q ev num plc sig pad (breadF (((yx s (i + 1)) / 2) % q) rw_) dig far cfr cby que has img kep) [0, 1, 2, 3, 4, 5, 6, 7, 8, 9, 10, 11, 12, 13] rfl
                have hD := hD.sub (ws' := wM mo ma mb mc md me mf mg mh mi mj mk ml mn cI cZ n q c w q ev num plc sig pad (breadF (((yx s (i + 1)) / 2) % q) rw_) dig far cfr cby que has img kep) [0, 1, 2, 3, 4, 5, 6, 7, 8, 9, 10, 11, 12, 13] (by decide) rfl
                have hK := va_K.moved (Vm.Alike.refl Gs.vm) hK
                generalize H1 = H at hP hS ⊢
                refine lv_goto (tgt := 115) gx gb dX9_year_99 (by decide) ?_
                exact L115 (breadF (((yx s (i + 1)) / 2) % q) rw_) (by first | (intro p hp9; rw [yrow, if_pos c83]; exact breadF_cong hxm hr p hp9) | (intro p hp9; rw [yrow, if_neg c83]; exact pikeF_cong hxm hr p hp9)) _ _ hP hD hS ls (lv_sub hl [0, 1, 2, 3, 4, 5, 6] rfl)
        exact L60 _ (cpy plc row 7) 0 (by omega) (by intro p hp9; exact cpy7 _ _ (by omega)) (Nat.lt_succ_self _) _ _ hP hD hS ls (lv_sub hl [2, 1, 0, 3, 4, 5, 6] rfl)
      · skip
        rw [b0_eq] at c25
        simp only [decide_eq_false_iff_not, Decidable.not_not] at c25
        refine lv_iload_n gx gb dX9_year_28 rfl (lv_at hl 3 rfl) ?_
        refine lv_bipush (v := nI 10) gx gb dX9_year_29 (by decide) ?_
        refine lv_bipush (v := nI 9) gx gb dX9_year_31 (by decide) ?_
        refine lv_aload_n gx gb dX9_year_33 rfl (lv_at hl 0 rfl) ?_
        refine va_get (D := D) (ci := 4) (v := .int (nI n)) (C := RX9) (T := TX9) (N := 19) gx gb gts i9 gown hK hP 0 rfl rfl 0 (by decide) (gts (.fieldLink RX9 7 "SwanSumsModel" "all" "I") (by decide +kernel)) (fun _ h9 => h9) rfl dX9_year_34 ?_
        refine lv_iadd gx gb dX9_year_37 ?_
        refine lv_evi (nI (9 + n)) (nI_add 9 n) ?_
        refine lv_evs [.int (zI ((9 + n : Nat) : Int)), .int (zI ((10 : Nat) : Int)), .int (zI e_)] (by simp only [nI_zc]) ?_
        refine vp_callSi (W.runS (As := [.int (zI e_), .int (zI ((10 : Nat) : Int)), .int (zI ((9 + n : Nat) : Int))]) (rest := []) ⟨gx, gb, gml, gown, gts⟩ (kX9_in Gl e_ ((10 : Nat) : Int) ((9 + n : Nat) : Int) (by omega) (by omega) (by omega) (by omega) (by omega) (by omega)) (va_cwS 3 gts gX9_year_X9_in rfl rfl rfl (by decide +kernel) ⟨Nat.le_of_ble_eq_true rfl, Nat.le_of_ble_eq_true rfl⟩) ⟨fun _ _ _ _ h => h, fun U hU hW => ⟨rfl, trivial⟩⟩ rfl rfl hl.1 rfl (lv_room (Nat.le_of_ble_eq_true rfl)) dX9_year_38 ⟨Nat.le_of_ble_eq_true rfl, Nat.le_of_ble_eq_true rfl⟩) (fun r hw => ?_)
        have hr38 := hw
        subst hr38
        refine lv_if_ne (tgt := 47) gx gb dX9_year_41 (by decide) (fun c41 => ?_) (fun c41 => ?_)
        · skip
          rw [b0_eq] at c41
          simp only [decide_eq_false_iff_not, Decidable.not_not] at c41
          obtain ⟨s, hs⟩ : ∃ s : Nat, a = (s : Int) := ⟨a.toNat, by omega⟩
          rw [show zI a = nI s from by rw [hs, zI_nat]] at hl
          obtain ⟨m, hm⟩ : ∃ m : Nat, b = (m : Int) := ⟨b.toNat, by omega⟩
          rw [show zI b = nI m from by rw [hm, zI_nat]] at hl
          have hl : lv_has ls 8 [(0, .ref mo), (1, .int (nI s)), (2, .int (nI m)), (3, .int (zI e_))] := hl
          refine lv_aload_n gx gb dX9_year_47 rfl (lv_at hl 0 rfl) ?_
          have hPc := hP.sub (ws' := wM mo ma mb mc md me mf mg mh mi mj mk ml mn cI cZ n q c w z ev num plc sig pad row dig far cfr cby que has img kep) [0, 1, 2, 3, 4, 5, 6, 7, 8, 9, 10, 11, 12, 13] rfl
          have hDc := hD.sub (ws' := wM mo ma mb mc md me mf mg mh mi mj mk ml mn cI cZ n q c w z ev num plc sig pad row dig far cfr cby que has img kep) [0, 1, 2, 3, 4, 5, 6, 7, 8, 9, 10, 11, 12, 13] (by decide) rfl
          have hFc := va_free (wc := wM mo ma mb mc md me mf mg mh mi mj mk ml mn cI cZ n q c w z ev num plc sig pad row dig far cfr cby que has img kep) hD hS hA [0, 1, 2, 3, 4, 5, 6, 7, 8, 9, 10, 11, 12, 13] rfl
          refine va_callv (va_runV (As := []) (rest := []) ⟨gx, gb, gml, gown, gts⟩ (kX9_asNow Gl D cI cJ cZ mo ma mb mc md me mf mg mh mi mj mk ml mn n q c w z ev num plc sig pad row dig far cfr cby que has img kep _  ) (cwV 0 gts gX9_year_X9_asNow rfl rfl rfl (by decide +kernel) ⟨Nat.le_of_ble_eq_true rfl, Nat.le_of_ble_eq_true rfl⟩) ⟨fun a U g mk q => by obtain ⟨q0, q1, qP, qK, qD⟩ := q; exact ⟨q0, q1, qP, va_K.moved (u := U) (U := U.calling g mk a) (Vm.Alike.refl U.vm) qK, qD⟩, va_recv hK hPc (ci := 4) (q0 := 0) rfl rfl, fun U hU hW => ⟨rfl, by rw [hU], by rw [hU]; exact hPc, va_K.moved hW.alike hK, hDc.weaken (fun _ _ _ _ => trivial)⟩⟩ rfl rfl hl.1 rfl (lv_room (Nat.le_of_ble_eq_true rfl)) dX9_year_48 ⟨Nat.le_of_ble_eq_true rfl, Nat.le_of_ble_eq_true rfl⟩) hS (fun q _ h => hFc q h) hFc (fun u t H1 locs ht hvm hw hB hz1 hk1 hS => ?_)
          obtain ⟨hP1, hK1, hD1⟩ := hB
          rw [ht] at hP1
          try dsimp only at hw
          try dsimp only at hP1
          try dsimp only at hD1
          have hK := va_K.moved hvm.symm hK1
          obtain ⟨hP, hD⟩ := va_join (wr := []) (w1 := wM mo ma mb mc md me mf mg mh mi mj mk ml mn cI cZ n q c w q ev num plc sig pad (cpy plc row 7) dig far cfr cby que has img kep) hP hD [0, 1, 2, 3, 4, 5, 6, 7, 8, 9, 10, 11, 12, 13] [] rfl rfl (by decide) (by decide) hk1 hFc hP1 hD1
          have hP := hP.sub (ws' := wM mo ma mb mc md me mf mg mh mi mj mk ml mn cI cZ n q c w q ev num plc sig pad (cpy plc row 7) dig far cfr cby que has img kep) [0, 1, 2, 3, 4, 5, 6, 7, 8, 9, 10, 11, 12, 13] rfl
          have hD := hD.sub (ws' := wM mo ma mb mc md me mf mg mh mi mj mk ml mn cI cZ n q c w q ev num plc sig pad (cpy plc row 7) dig far cfr cby que has img kep) [0, 1, 2, 3, 4, 5, 6, 7, 8, 9, 10, 11, 12, 13] (by decide) rfl
          have hK := va_K.moved (Vm.Alike.refl Gs.vm) hK
          generalize H1 = H at hP hS ⊢
          refine lv_iload_n gx gb dX9_year_51 rfl (lv_at hl 1 rfl) ?_
          refine lv_istore (lv' := [(4, .int (nI s)), (0, .ref mo), (1, .int (nI s)), (2, .int (nI m)), (3, .int (zI e_))]) gx gb dX9_year_52 hl (by decide) rfl (fun ls hl => ?_)
          refine lv_iconst (v := nI 0) gx gb dX9_year_54 (by decide) ?_
          refine lv_istore (lv' := [(5, .int (nI 0)), (4, .int (nI s)), (0, .ref mo), (1, .int (nI s)), (2, .int (nI m)), (3, .int (zI e_))]) gx gb dX9_year_55 hl (by decide) rfl (fun ls hl => ?_)
          refine lv_iconst (v := nI 0) gx gb dX9_year_57 (by decide) ?_
          refine lv_istore (lv' := [(6, .int (nI 0)), (5, .int (nI 0)), (4, .int (nI s)), (0, .ref mo), (1, .int (nI s)), (2, .int (nI m)), (3, .int (zI e_))]) gx gb dX9_year_58 hl (by decide) rfl (fun ls hl => ?_)
          have L60 : ∀ fu : Nat, ∀ (rw_ : Nat → Nat) (i : Nat) (hi : i ≤ m) (hr : ∀ p, p < q → rw_ p = yrow q plc s i p), (m - i) < fu → ∀ (H : Heap) (locs : List Loc), va_P D vwCl (wM mo ma mb mc md me mf mg mh mi mj mk ml mn cI cZ n q c w q ev num plc sig pad rw_ dig far cfr cby que has img kep) H → va_D A (wM mo ma mb mc md me mf mg mh mi mj mk ml mn cI cZ n q c w q ev num plc sig pad rw_ dig far cfr cby que has img kep) → va_S A Gs.heap H locs → ∀ ls : Array Slot, lv_has ls 8 [(4, .int (nI (yx s i))), (5, .int (nI (cnT (yrP num plc q s e_) i))), (6, .int (nI i)), (0, .ref mo), (1, .int (nI s)), (2, .int (nI m)), (3, .int (zI e_))] → W Gp Gl Ge (headSpec wsX9_year ({ frames := 3, cells := 0, slots := 0, locals := 71 } : Room)).room Gs Gm ([.ref mo, .int (zI a), .int (zI b), .int (zI e_)] : List Value).toArray Gw Gt Gc H locs 0 0 (MQ Gw (va_Qi (fun (r : Int32) (u : (Nat → Nat) × (Nat)) => r = zI (yrZ num plc n q a b e_)) (fun (u : (Nat → Nat) × (Nat)) t => va_P D vwCl (wM mo ma mb mc md me mf mg mh mi mj mk ml mn cI cZ n q c w u.2 ev num plc sig pad u.1 dig far cfr cby que has img kep) t.heap ∧ va_K D vwCl [(cI, .int), (cJ, .long), (cZ, .boolean)] t ∧ va_D A (wM mo ma mb mc md me mf mg mh mi mj mk ml mn cI cZ n q c w u.2 ev num plc sig pad u.1 dig far cfr cby que has img kep)) A) ([.ref mo, .int (zI a), .int (zI b), .int (zI e_)] : List Value).toArray Gs 0 0 A) (F0 Gm 60 ls []) := by
            intro fu
            induction fu with
            | zero => intro rw_ i hi hr hfu; exact absurd hfu (Nat.not_lt_zero _)
            | succ fu ih60 =>
              intro rw_ i hi hr hfu H locs hP hD hS ls hl
              have hyl := yx_lt (seed := s) (by omega) i
              have hcn := cnT_le (yrP num plc q s e_) i
              refine lv_iload gx gb dX9_year_60 (lv_at hl 2 rfl) ?_
              refine lv_iload_n gx gb dX9_year_62 rfl (lv_at hl 5 rfl) ?_
              refine lv_icmp_ge (tgt := 170) gx gb dX9_year_63 (by decide) (fun c63 => ?_) (fun c63 => ?_)
              · skip
                rw [nI_leI (by omega) (by omega)] at c63
                refine lv_iload gx gb dX9_year_170 (lv_at hl 1 rfl) ?_
                exact W.iret (v := nI (cnT (yrP num plc q s e_) i)) gx gb gr (fun t ht hW => ⟨⟨nI (cnT (yrP num plc q s e_) i), (rw_, q), rfl, (by first | (dsimp only; done) | ((try dsimp only); rw [yrZ, if_pos (by omega), hs, hm, zI_nat, show i = m by omega]; rfl)), by rw [ht]; exact hP, va_K.moved hW.alike hK, hD⟩, hS.F ht⟩) hS.2.2 dX9_year_172
              · skip
                rw [nI_leI (by omega) (by omega)] at c63
                refine lv_bipush (v := nI 75) gx gb dX9_year_66 (by decide) ?_
                refine lv_iload gx gb dX9_year_68 (lv_at hl 0 rfl) ?_
                refine lv_imul gx gb dX9_year_70 ?_
                refine lv_evi (nI (75 * (yx s i))) (pk_mul 75 (yx s i)) ?_
                refine lv_bipush (v := nI 74) gx gb dX9_year_71 (by decide) ?_
                refine lv_iadd gx gb dX9_year_73 ?_
                refine lv_evi (nI ((75 * (yx s i)) + 74)) (nI_add (75 * (yx s i)) 74) ?_
                refine lv_ldc (v := (65537)) gx gb gown (gts (.constant RX9 170 (65537)) (by decide +kernel)) dX9_year_74 ?_
                refine lv_evi (nI 65537) (rfl) ?_
                refine lv_irem gx gb dX9_year_76 (nI_ne0 (by omega) (by omega)) ?_
                refine lv_evi (nI (((75 * (yx s i)) + 74) % 65537)) (e_rem (by omega) (by omega) (by omega)) ?_
                refine lv_evi (nI (yx s (i + 1))) (rfl) ?_
                refine lv_istore (lv' := [(4, .int (nI (yx s (i + 1)))), (5, .int (nI (cnT (yrP num plc q s e_) i))), (6, .int (nI i)), (0, .ref mo), (1, .int (nI s)), (2, .int (nI m)), (3, .int (zI e_))]) gx gb dX9_year_77 hl (by decide) rfl (fun ls hl => ?_)
                have L115 : ∀ (rw2 : Nat → Nat) (hr2 : ∀ p, p < q → rw2 p = yrow q plc s (i + 1) p), ∀ (H : Heap) (locs : List Loc), va_P D vwCl (wM mo ma mb mc md me mf mg mh mi mj mk ml mn cI cZ n q c w q ev num plc sig pad rw2 dig far cfr cby que has img kep) H → va_D A (wM mo ma mb mc md me mf mg mh mi mj mk ml mn cI cZ n q c w q ev num plc sig pad rw2 dig far cfr cby que has img kep) → va_S A Gs.heap H locs → ∀ ls : Array Slot, lv_has ls 8 [(4, .int (nI (yx s (i + 1)))), (5, .int (nI (cnT (yrP num plc q s e_) i))), (6, .int (nI i)), (0, .ref mo), (1, .int (nI s)), (2, .int (nI m)), (3, .int (zI e_))] → W Gp Gl Ge (headSpec wsX9_year ({ frames := 3, cells := 0, slots := 0, locals := 71 } : Room)).room Gs Gm ([.ref mo, .int (zI a), .int (zI b), .int (zI e_)] : List Value).toArray Gw Gt Gc H locs 0 0 (MQ Gw (va_Qi (fun (r : Int32) (u : (Nat → Nat) × (Nat)) => r = zI (yrZ num plc n q a b e_)) (fun (u : (Nat → Nat) × (Nat)) t => va_P D vwCl (wM mo ma mb mc md me mf mg mh mi mj mk ml mn cI cZ n q c w u.2 ev num plc sig pad u.1 dig far cfr cby que has img kep) t.heap ∧ va_K D vwCl [(cI, .int), (cJ, .long), (cZ, .boolean)] t ∧ va_D A (wM mo ma mb mc md me mf mg mh mi mj mk ml mn cI cZ n q c w u.2 ev num plc sig pad u.1 dig far cfr cby que has img kep)) A) ([.ref mo, .int (zI a), .int (zI b), .int (zI e_)] : List Value).toArray Gs 0 0 A) (F0 Gm 115 ls []) := by
                  intro rw2 hr2 H locs hP hD hS ls hl
                  have L147 : ∀ (x : Bool) (hxx : x = yrP num plc q s e_ i), ∀ (H : Heap) (locs : List Loc), va_P D vwCl (wM mo ma mb mc md me mf mg mh mi mj mk ml mn cI cZ n q c w q ev num plc sig pad rw2 dig far cfr cby que has img kep) H → va_D A (wM mo ma mb mc md me mf mg mh mi mj mk ml mn cI cZ n q c w q ev num plc sig pad rw2 dig far cfr cby que has img kep) → va_S A Gs.heap H locs → ∀ ls : Array Slot, lv_has ls 8 [(4, .int (nI (yx s (i + 1)))), (5, .int (nI (cnT (yrP num plc q s e_) i))), (6, .int (nI i)), (0, .ref mo), (1, .int (nI s)), (2, .int (nI m)), (3, .int (zI e_))] → W Gp Gl Ge (headSpec wsX9_year ({ frames := 3, cells := 0, slots := 0, locals := 71 } : Room)).room Gs Gm ([.ref mo, .int (zI a), .int (zI b), .int (zI e_)] : List Value).toArray Gw Gt Gc H locs 0 0 (MQ Gw (va_Qi (fun (r : Int32) (u : (Nat → Nat) × (Nat)) => r = zI (yrZ num plc n q a b e_)) (fun (u : (Nat → Nat) × (Nat)) t => va_P D vwCl (wM mo ma mb mc md me mf mg mh mi mj mk ml mn cI cZ n q c w u.2 ev num plc sig pad u.1 dig far cfr cby que has img kep) t.heap ∧ va_K D vwCl [(cI, .int), (cJ, .long), (cZ, .boolean)] t ∧ va_D A (wM mo ma mb mc md me mf mg mh mi mj mk ml mn cI cZ n q c w u.2 ev num plc sig pad u.1 dig far cfr cby que has img kep)) A) ([.ref mo, .int (zI a), .int (zI b), .int (zI e_)] : List Value).toArray Gs 0 0 A) (F0 Gm 147 ls [.int (bI x)]) := by
                    intro x hxx H locs hP hD hS ls hl
                    refine lv_istore (lv' := [(7, .int (bI x)), (4, .int (nI (yx s (i + 1)))), (5, .int (nI (cnT (yrP num plc q s e_) i))), (6, .int (nI i)), (0, .ref mo), (1, .int (nI s)), (2, .int (nI m)), (3, .int (zI e_))]) gx gb dX9_year_147 hl (by decide) rfl (fun ls hl => ?_)
                    have L161 : ∀ (y : Nat) (hyy : y = if yrP num plc q s e_ i then 1 else 0), ∀ (H : Heap) (locs : List Loc), va_P D vwCl (wM mo ma mb mc md me mf mg mh mi mj mk ml mn cI cZ n q c w q ev num plc sig pad rw2 dig far cfr cby que has img kep) H → va_D A (wM mo ma mb mc md me mf mg mh mi mj mk ml mn cI cZ n q c w q ev num plc sig pad rw2 dig far cfr cby que has img kep) → va_S A Gs.heap H locs → ∀ ls : Array Slot, lv_has ls 8 [(7, .int (bI x)), (4, .int (nI (yx s (i + 1)))), (5, .int (nI (cnT (yrP num plc q s e_) i))), (6, .int (nI i)), (0, .ref mo), (1, .int (nI s)), (2, .int (nI m)), (3, .int (zI e_))] → W Gp Gl Ge (headSpec wsX9_year ({ frames := 3, cells := 0, slots := 0, locals := 71 } : Room)).room Gs Gm ([.ref mo, .int (zI a), .int (zI b), .int (zI e_)] : List Value).toArray Gw Gt Gc H locs 0 0 (MQ Gw (va_Qi (fun (r : Int32) (u : (Nat → Nat) × (Nat)) => r = zI (yrZ num plc n q a b e_)) (fun (u : (Nat → Nat) × (Nat)) t => va_P D vwCl (wM mo ma mb mc md me mf mg mh mi mj mk ml mn cI cZ n q c w u.2 ev num plc sig pad u.1 dig far cfr cby que has img kep) t.heap ∧ va_K D vwCl [(cI, .int), (cJ, .long), (cZ, .boolean)] t ∧ va_D A (wM mo ma mb mc md me mf mg mh mi mj mk ml mn cI cZ n q c w u.2 ev num plc sig pad u.1 dig far cfr cby que has img kep)) A) ([.ref mo, .int (zI a), .int (zI b), .int (zI e_)] : List Value).toArray Gs 0 0 A) (F0 Gm 161 ls [.int (nI y), .int (nI (cnT (yrP num plc q s e_) i))]) := by
                      intro y hyy H locs hP hD hS ls hl
                      subst hyy
                      have hl : lv_has ls 8 [(7, .int (bI x)), (4, .int (nI (yx s (i + 1)))), (5, .int (nI (cnT (yrP num plc q s e_) i))), (6, .int (nI i)), (0, .ref mo), (1, .int (nI s)), (2, .int (nI m)), (3, .int (zI e_))] := hl
                      refine lv_iadd gx gb dX9_year_161 ?_
                      refine lv_evi (nI ((cnT (yrP num plc q s e_) i) + (if yrP num plc q s e_ i then 1 else 0))) (nI_add (cnT (yrP num plc q s e_) i) (if yrP num plc q s e_ i then 1 else 0)) ?_
                      refine lv_istore (lv' := [(5, .int (nI ((cnT (yrP num plc q s e_) i) + (if yrP num plc q s e_ i then 1 else 0)))), (7, .int (bI x)), (4, .int (nI (yx s (i + 1)))), (6, .int (nI i)), (0, .ref mo), (1, .int (nI s)), (2, .int (nI m)), (3, .int (zI e_))]) gx gb dX9_year_162 hl (by decide) rfl (fun ls hl => ?_)
                      refine lv_iinc (v := nI (i + 1)) (lv' := [(6, .int (nI (i + 1))), (5, .int (nI ((cnT (yrP num plc q s e_) i) + (if yrP num plc q s e_ i then 1 else 0)))), (7, .int (bI x)), (4, .int (nI (yx s (i + 1)))), (0, .ref mo), (1, .int (nI s)), (2, .int (nI m)), (3, .int (zI e_))]) gx gb dX9_year_164 hl (k := 3) rfl (nI_add i 1) (by decide) rfl (fun ls hl => ?_)
                      refine lv_goto (tgt := 60) gx gb dX9_year_167 (by decide) ?_
                      exact ih60 rw2 (i + 1) (by omega) (by exact hr2) (by omega) _ _ hP hD hS ls (lv_sub hl [3, 1, 0, 4, 5, 6, 7] rfl)
                    refine lv_iload gx gb dX9_year_149 (lv_at hl 2 rfl) ?_
                    refine lv_iload gx gb dX9_year_151 (lv_at hl 0 rfl) ?_
                    refine lv_if_eq (tgt := 160) gx gb dX9_year_153 (by decide) (fun c153 => ?_) (fun c153 => ?_)
                    · skip
                      rw [b0_eq] at c153
                      refine lv_iconst (v := nI 0) gx gb dX9_year_160 (by decide) ?_
                      exact L161 0 (by first | (rw [← hxx, c153]; rfl) | (rw [← hxx, c153])) _ _ hP hD hS ls (lv_sub hl [0, 1, 2, 3, 4, 5, 6, 7] rfl)
                    · skip
                      rw [b0_eq] at c153
                      have c153 := nf_t c153
                      refine lv_iconst (v := nI 1) gx gb dX9_year_156 (by decide) ?_
                      refine lv_goto (tgt := 161) gx gb dX9_year_157 (by decide) ?_
                      exact L161 1 (by first | (rw [← hxx, c153]; rfl) | (rw [← hxx, c153])) _ _ hP hD hS ls (lv_sub hl [0, 1, 2, 3, 4, 5, 6, 7] rfl)
                  have hin := yrow_in (q := q) (plc := plc) (seed := s) (P := fun x => x < n) hq1 hp (i + 1)
                  have hr20 := hr2 0 (by omega)
                  have hin0 := hin 0 (by omega)
                  refine lv_iload_n gx gb dX9_year_115 rfl (lv_at hl 6 rfl) ?_
                  refine lv_bipush (v := nI 10) gx gb dX9_year_116 (by decide) ?_
                  refine lv_icmp_ge (tgt := 129) gx gb dX9_year_118 (by decide) (fun c118 => ?_) (fun c118 => ?_)
                  · skip
                    rw [nz_le (by omega) (by omega) (by omega)] at c118
                    refine lv_aload_n gx gb dX9_year_129 rfl (lv_at hl 3 rfl) ?_
                    refine va_get (D := D) (ci := 4) (v := .ref me) (C := RX9) (T := TX9) (N := 19) gx gb gts i9 gown hK hP 0 rfl rfl 8 (by decide) (gts (.fieldLink RX9 29 "SwanSumsModel" "row" "[I") (by decide +kernel)) (fun _ h9 => h9) rfl dX9_year_130 ?_
                    refine lv_iconst (v := nI 0) gx gb dX9_year_133 (by decide) ?_
                    refine va_iald gx gb hK hP 5 0 rfl rfl (vp_in_nI (n := 0) (by omega) (by decide)) dX9_year_134 ?_
                    refine lv_evi (nI (rw2 0)) (aN_rd rw2 (by omega)) ?_
                    refine lv_iload_n gx gb dX9_year_135 rfl (lv_at hl 6 rfl) ?_
                    refine lv_bipush (v := nI 10) gx gb dX9_year_136 (by decide) ?_
                    refine lv_isub gx gb dX9_year_138 ?_
                    refine lv_evi (zI (e_ - ((10 : Nat) : Int))) (by rw [nI_zc 10]; exact zI_sub e_ ((10 : Nat) : Int)) ?_
                    refine lv_icmp_ne (tgt := 146) gx gb dX9_year_139 (by decide) (fun c139 => ?_) (fun c139 => ?_)
                    · skip
                      rw [nz_eq (by omega) (by omega) (by omega)] at c139
                      refine lv_iconst (v := nI 0) gx gb dX9_year_146 (by decide) ?_
                      exact L147 false (by first | (rw [yrP, if_neg (by omega)]; exact tau_cong hq1 (fun x hx => by rw [hr2 x hx])) | (rw [yrP, if_pos (by omega), ← hr2 0 (by omega)]; exact (decide_eq_true c139).symm) | (rw [yrP, if_pos (by omega), ← hr2 0 (by omega)]; exact (decide_eq_false c139).symm)) _ _ hP hD hS ls (lv_sub hl [0, 1, 2, 3, 4, 5, 6] rfl)
                    · skip
                      rw [nz_eq (by omega) (by omega) (by omega)] at c139
                      refine lv_iconst (v := nI 1) gx gb dX9_year_142 (by decide) ?_
                      refine lv_goto (tgt := 147) gx gb dX9_year_143 (by decide) ?_
                      exact L147 true (by first | (rw [yrP, if_neg (by omega)]; exact tau_cong hq1 (fun x hx => by rw [hr2 x hx])) | (rw [yrP, if_pos (by omega), ← hr2 0 (by omega)]; exact (decide_eq_true c139).symm) | (rw [yrP, if_pos (by omega), ← hr2 0 (by omega)]; exact (decide_eq_false c139).symm)) _ _ hP hD hS ls (lv_sub hl [0, 1, 2, 3, 4, 5, 6] rfl)
                  · skip
                    rw [nz_le (by omega) (by omega) (by omega)] at c118
                    refine lv_aload_n gx gb dX9_year_121 rfl (lv_at hl 3 rfl) ?_
                    refine lv_iload_n gx gb dX9_year_122 rfl (lv_at hl 6 rfl) ?_
                    refine lv_evi (nI e_.toNat) (by rw [← zI_nat]; congr 1; omega) ?_
                    have hPc := hP.sub (ws' := wM mo ma mb mc md me mf mg mh mi mj mk ml mn cI cZ n q c w q ev num plc sig pad rw2 dig far cfr cby que has img kep) [0, 1, 2, 3, 4, 5, 6, 7, 8, 9, 10, 11, 12, 13] rfl
                    refine vp_callSi (W.runV (As := [.int (nI e_.toNat)]) (rest := []) ⟨gx, gb, gml, gown, gts⟩ (kX9_isTaught Gl D cI cJ cZ mo ma mb mc md me mf mg mh mi mj mk ml mn n q c w q ev num plc sig pad rw2 dig far cfr cby que has img kep e_.toNat (by omega) (by omega) (by omega) (by intro x hx; rw [hr2 x hx]; have := hin x hx; omega) (by intro x hx; rw [hr2 x hx]; exact hnum _ (hin x hx))) (cwV 1 gts gX9_year_X9_isTaught rfl rfl rfl (by decide +kernel) ⟨Nat.le_of_ble_eq_true rfl, Nat.le_of_ble_eq_true rfl⟩) ⟨fun a U g mk q => ⟨q.1, q.2.1, va_K.moved (u := U) (U := U.calling g mk a) (Vm.Alike.refl U.vm) q.2.2⟩, va_recv hK hPc (ci := 4) (q0 := 0) rfl rfl, fun U hU hW => ⟨rfl, by rw [hU]; exact hPc, va_K.moved hW.alike hK⟩⟩ rfl rfl hl.1 rfl (lv_room (Nat.le_of_ble_eq_true rfl)) dX9_year_123 ⟨Nat.le_of_ble_eq_true rfl, Nat.le_of_ble_eq_true rfl⟩) (fun r hw => ?_)
                    have hr123 := hw
                    subst hr123
                    refine lv_goto (tgt := 147) gx gb dX9_year_126 (by decide) ?_
                    exact L147 (tau e_.toNat (fun x_ => num (rw2 x_)) q) (by first | (rw [yrP, if_neg (by omega)]; exact tau_cong hq1 (fun x hx => by rw [hr2 x hx])) | (rw [yrP, if_pos (by omega), ← hr2 0 (by omega)]; exact (decide_eq_true c139).symm) | (rw [yrP, if_pos (by omega), ← hr2 0 (by omega)]; exact (decide_eq_false c139).symm)) _ _ hP hD hS ls (lv_sub hl [0, 1, 2, 3, 4, 5, 6] rfl)
                have hyl2 := yx_lt (seed := s) (by omega) (i + 1)
                have hxm := Nat.mod_lt (yx s (i + 1) / 2) (show 0 < q by omega)
                refine lv_iload gx gb dX9_year_79 (lv_at hl 0 rfl) ?_
                refine lv_iconst (v := nI 2) gx gb dX9_year_81 (by decide) ?_
                refine lv_irem gx gb dX9_year_82 (nI_ne0 (by omega) (by omega)) ?_
                refine lv_evi (nI ((yx s (i + 1)) % 2)) (e_rem (by omega) (by omega) (by omega)) ?_
                refine lv_if_ne (tgt := 102) gx gb dX9_year_83 (by decide) (fun c83 => ?_) (fun c83 => ?_)
                · skip
                  rw [n0_eq (by omega)] at c83
                  refine lv_aload_n gx gb dX9_year_102 rfl (lv_at hl 3 rfl) ?_
                  refine lv_iload gx gb dX9_year_103 (lv_at hl 0 rfl) ?_
                  refine lv_iconst (v := nI 2) gx gb dX9_year_105 (by decide) ?_
                  refine lv_idiv gx gb dX9_year_106 (nI_ne0 (by omega) (by omega)) ?_
                  refine lv_evi (nI ((yx s (i + 1)) / 2)) (e_div (by omega) (by omega) (by omega)) ?_
                  refine lv_aload_n gx gb dX9_year_107 rfl (lv_at hl 3 rfl) ?_
                  refine va_get (D := D) (ci := 4) (v := .int (nI q)) (C := RX9) (T := TX9) (N := 19) gx gb gts i9 gown hK hP 0 rfl rfl 9 (by decide) (gts (.fieldLink RX9 81 "SwanSumsModel" "size" "I") (by decide +kernel)) (fun _ h9 => h9) rfl dX9_year_108 ?_
                  refine lv_irem gx gb dX9_year_111 (nI_ne0 (by omega) (by omega)) ?_
                  refine lv_evi (nI (((yx s (i + 1)) / 2) % q)) (e_rem (by omega) (by omega) (by omega)) ?_
                  have hPc := hP.sub (ws' := wM mo ma mb mc md me mf mg mh mi mj mk ml mn cI cZ n q c w q ev num plc sig pad rw_ dig far cfr cby que has img kep) [0, 1, 2, 3, 4, 5, 6, 7, 8, 9, 10, 11, 12, 13] rfl
                  have hDc := hD.sub (ws' := wM mo ma mb mc md me mf mg mh mi mj mk ml mn cI cZ n q c w q ev num plc sig pad rw_ dig far cfr cby que has img kep) [0, 1, 2, 3, 4, 5, 6, 7, 8, 9, 10, 11, 12, 13] (by decide) rfl
                  have hFc := va_free (wc := wM mo ma mb mc md me mf mg mh mi mj mk ml mn cI cZ n q c w q ev num plc sig pad rw_ dig far cfr cby que has img kep) hD hS hA [0, 1, 2, 3, 4, 5, 6, 7, 8, 9, 10, 11, 12, 13] rfl
                  refine va_callv (va_runV (As := [.int (nI (((yx s (i + 1)) / 2) % q))]) (rest := []) ⟨gx, gb, gml, gown, gts⟩ (kX9_pike Gl D cI cJ cZ mo ma mb mc md me mf mg mh mi mj mk ml mn n q c w q ev num plc sig pad rw_ dig far cfr cby que has img kep _ (((yx s (i + 1)) / 2) % q) (by omega) (by omega)) (cwV 1 gts gX9_year_X9_pike rfl rfl rfl (by decide +kernel) ⟨Nat.le_of_ble_eq_true rfl, Nat.le_of_ble_eq_true rfl⟩) ⟨fun a U g mk q => by obtain ⟨q0, q1, qP, qK, qD⟩ := q; exact ⟨q0, q1, qP, va_K.moved (u := U) (U := U.calling g mk a) (Vm.Alike.refl U.vm) qK, qD⟩, va_recv hK hPc (ci := 4) (q0 := 0) rfl rfl, fun U hU hW => ⟨rfl, by rw [hU], by rw [hU]; exact hPc, va_K.moved hW.alike hK, hDc.weaken (fun _ _ _ _ => trivial)⟩⟩ rfl rfl hl.1 rfl (lv_room (Nat.le_of_ble_eq_true rfl)) dX9_year_112 ⟨Nat.le_of_ble_eq_true rfl, Nat.le_of_ble_eq_true rfl⟩) hS (fun q _ h => hFc q h) hFc (fun u t H1 locs ht hvm hw hB hz1 hk1 hS => ?_)
                  obtain ⟨hP1, hK1, hD1⟩ := hB
                  rw [ht] at hP1
                  try dsimp only at hw
                  try dsimp only at hP1
                  try dsimp only at hD1
                  have hK := va_K.moved hvm.symm hK1
                  obtain ⟨hP, hD⟩ := va_join (wr := []) (w1 := wM mo ma mb mc md me mf mg mh mi mj mk ml mn cI cZ n q c w q ev num plc sig pad (pikeF (((yx s (i + 1)) / 2) % q) (q - 1) rw_) dig far cfr cby que has img kep) hP hD [0, 1, 2, 3, 4, 5, 6, 7, 8, 9, 10, 11, 12, 13] [] rfl rfl (by decide) (by decide) hk1 hFc hP1 hD1
                  have hP := hP.sub (ws' := wM mo ma mb mc md me mf mg mh mi mj mk ml mn cI cZ n q c w q ev num plc sig pad (pikeF (((yx s (i + 1)) / 2) % q) (q - 1) rw_) dig far cfr cby que has img kep) [0, 1, 2, 3, 4, 5, 6, 7, 8, 9, 10, 11, 12, 13] rfl
                  have hD := hD.sub (ws' := wM mo ma mb mc md me mf mg mh mi mj mk ml mn cI cZ n q c w q ev num plc sig pad (pikeF (((yx s (i + 1)) / 2) % q) (q - 1) rw_) dig far cfr cby que has img kep) [0, 1, 2, 3, 4, 5, 6, 7, 8, 9, 10, 11, 12, 13] (by decide) rfl
                  have hK := va_K.moved (Vm.Alike.refl Gs.vm) hK
                  generalize H1 = H at hP hS ⊢
                  exact L115 (pikeF (((yx s (i + 1)) / 2) % q) (q - 1) rw_) (by first | (intro p hp9; rw [yrow, if_pos c83]; exact breadF_cong hxm hr p hp9) | (intro p hp9; rw [yrow, if_neg c83]; exact pikeF_cong hxm hr p hp9)) _ _ hP hD hS ls (lv_sub hl [0, 1, 2, 3, 4, 5, 6] rfl)
                · skip
                  rw [n0_eq (by omega)] at c83
                  refine lv_aload_n gx gb dX9_year_86 rfl (lv_at hl 3 rfl) ?_
                  refine lv_iload gx gb dX9_year_87 (lv_at hl 0 rfl) ?_
                  refine lv_iconst (v := nI 2) gx gb dX9_year_89 (by decide) ?_
                  refine lv_idiv gx gb dX9_year_90 (nI_ne0 (by omega) (by omega)) ?_
                  refine lv_evi (nI ((yx s (i + 1)) / 2)) (e_div (by omega) (by omega) (by omega)) ?_
                  refine lv_aload_n gx gb dX9_year_91 rfl (lv_at hl 3 rfl) ?_
                  refine va_get (D := D) (ci := 4) (v := .int (nI q)) (C := RX9) (T := TX9) (N := 19) gx gb gts i9 gown hK hP 0 rfl rfl 9 (by decide) (gts (.fieldLink RX9 81 "SwanSumsModel" "size" "I") (by decide +kernel)) (fun _ h9 => h9) rfl dX9_year_92 ?_
                  refine lv_irem gx gb dX9_year_95 (nI_ne0 (by omega) (by omega)) ?_
                  refine lv_evi (nI (((yx s (i + 1)) / 2) % q)) (e_rem (by omega) (by omega) (by omega)) ?_
                  have hPc := hP.sub (ws' := wM mo ma mb mc md me mf mg mh mi mj mk ml mn cI cZ n q c w q ev num plc sig pad rw_ dig far cfr cby que has img kep) [0, 1, 2, 3, 4, 5, 6, 7, 8, 9, 10, 11, 12, 13] rfl
                  have hDc := hD.sub (ws' := wM mo ma mb mc md me mf mg mh mi mj mk ml mn cI cZ n q c w q ev num plc sig pad rw_ dig far cfr cby que has img kep) [0, 1, 2, 3, 4, 5, 6, 7, 8, 9, 10, 11, 12, 13] (by decide) rfl
                  have hFc := va_free (wc := wM mo ma mb mc md me mf mg mh mi mj mk ml mn cI cZ n q c w q ev num plc sig pad rw_ dig far cfr cby que has img kep) hD hS hA [0, 1, 2, 3, 4, 5, 6, 7, 8, 9, 10, 11, 12, 13] rfl
                  refine va_callv (va_runV (As := [.int (nI (((yx s (i + 1)) / 2) % q))]) (rest := []) ⟨gx, gb, gml, gown, gts⟩ (kX9_bread Gl D cI cJ cZ mo ma mb mc md me mf mg mh mi mj mk ml mn n q c w q ev num plc sig pad rw_ dig far cfr cby que has img kep _ (((yx s (i + 1)) / 2) % q) (by omega)) (cwV 1 gts gX9_year_X9_bread rfl rfl rfl (by decide +kernel) ⟨Nat.le_of_ble_eq_true rfl, Nat.le_of_ble_eq_true rfl⟩) ⟨fun a U g mk q => by obtain ⟨q0, q1, qP, qK, qD⟩ := q; exact ⟨q0, q1, qP, va_K.moved (u := U) (U := U.calling g mk a) (Vm.Alike.refl U.vm) qK, qD⟩, va_recv hK hPc (ci := 4) (q0 := 0) rfl rfl, fun U hU hW => ⟨rfl, by rw [hU], by rw [hU]; exact hPc, va_K.moved hW.alike hK, hDc.weaken (fun _ _ _ _ => trivial)⟩⟩ rfl rfl hl.1 rfl (lv_room (Nat.le_of_ble_eq_true rfl)) dX9_year_96 ⟨Nat.le_of_ble_eq_true rfl, Nat.le_of_ble_eq_true rfl⟩) hS (fun q _ h => hFc q h) hFc (fun u t H1 locs ht hvm hw hB hz1 hk1 hS => ?_)
                  obtain ⟨hP1, hK1, hD1⟩ := hB
                  rw [ht] at hP1
                  try dsimp only at hw
                  try dsimp only at hP1
                  try dsimp only at hD1
                  have hK := va_K.moved hvm.symm hK1
                  obtain ⟨hP, hD⟩ := va_join (wr := []) (w1 := wM mo ma mb mc md me mf mg mh mi mj mk ml mn cI cZ n q c w q ev num plc sig pad (breadF (((yx s (i + 1)) / 2) % q) rw_) dig far cfr cby que has img kep) hP hD [0, 1, 2, 3, 4, 5, 6, 7, 8, 9, 10, 11, 12, 13] [] rfl rfl (by decide) (by decide) hk1 hFc hP1 hD1
                  have hP := hP.sub (ws' := wM mo ma mb mc md me mf mg mh mi mj mk ml mn cI cZ n q c w q ev num plc sig pad (breadF (((yx s (i + 1)) / 2) % q) rw_) dig far cfr cby que has img kep) [0, 1, 2, 3, 4, 5, 6, 7, 8, 9, 10, 11, 12, 13] rfl
                  have hD := hD.sub (ws' := wM mo ma mb mc md me mf mg mh mi mj mk ml mn cI cZ n q c w q ev num plc sig pad (breadF (((yx s (i + 1)) / 2) % q) rw_) dig far cfr cby que has img kep) [0, 1, 2, 3, 4, 5, 6, 7, 8, 9, 10, 11, 12, 13] (by decide) rfl
                  have hK := va_K.moved (Vm.Alike.refl Gs.vm) hK
                  generalize H1 = H at hP hS ⊢
                  refine lv_goto (tgt := 115) gx gb dX9_year_99 (by decide) ?_
                  exact L115 (breadF (((yx s (i + 1)) / 2) % q) rw_) (by first | (intro p hp9; rw [yrow, if_pos c83]; exact breadF_cong hxm hr p hp9) | (intro p hp9; rw [yrow, if_neg c83]; exact pikeF_cong hxm hr p hp9)) _ _ hP hD hS ls (lv_sub hl [0, 1, 2, 3, 4, 5, 6] rfl)
          exact L60 _ (cpy plc row 7) 0 (by omega) (by intro p hp9; exact cpy7 _ _ (by omega)) (Nat.lt_succ_self _) _ _ hP hD hS ls (lv_sub hl [2, 1, 0, 3, 4, 5, 6] rfl)
        · skip
          rw [b0_eq] at c41
          simp only [decide_eq_false_iff_not, Decidable.not_not] at c41
          refine lv_bipush (v := zI (-2)) gx gb dX9_year_44 (by decide) ?_
          exact W.iret (v := zI (-2)) gx gb gr (fun t ht hW => ⟨⟨zI (-2), (row, z), rfl, (by first | (dsimp only; done) | ((try dsimp only); rw [yrZ, if_neg (by omega)])), by rw [ht]; exact hP, va_K.moved hW.alike hK, hD⟩, hS.F ht⟩) hS.2.2 dX9_year_46

set_option maxHeartbeats 4000000 in
set_option maxRecDepth 100000 in
theorem kX8_year (Gl : Launch) (D : va_G) (cI cJ cZ : ClassId) (h : Nat) (fl : Nat) (e1 : Nat) (e2 : Nat) (pd : Nat) (sg : Nat) (k1 : Nat) (k2 : Nat) (rv : Value) (n : Nat) (q : Nat) (S : Nat) (c : Nat) (na : Nat) (Na : Nat) (Ra : Nat) (qa : Nat) (Sa : Nat) (ca : Nat) (nb : Nat) (Nb : Nat) (Rb : Nat) (qb : Nat) (Sb : Nat) (cb : Nat) (cnt : Nat) (rb : Nat) (sb : Nat) (g : Nat → Nat) (num plc : Nat → Nat) (a b e_ : Int) (hl_a : -2147483648 ≤ a) (hu_a : a < 2147483648) (hl_b : -2147483648 ≤ b) (hu_b : b < 2147483648) (hl_e_ : -2147483648 ≤ e_) (hu_e_ : e_ < 2147483648) (hn1 : 1 ≤ n) (hn7 : n ≤ 7) (hq1 : 1 ≤ q) (hqn : q ≤ n) (hp : ∀ k, k < q → plc k < n) (hnum : ∀ k, k < n → num k ≤ 99) : Met Gl yX8_year wsX8_year ({ frames := 3, cells := 0, slots := 0, locals := 88 } : Room) (va_Pc [.ref h, .int (zI a), .int (zI b), .int (zI e_)] (fun U => va_P D vwCl (wX h fl e1 e2 pd sg cI k1 k2 rv n (pk 256 num n) (pk 8 plc q) q S c na Na Ra qa Sa ca nb Nb Rb qb Sb cb cnt rb sb g) U.heap ∧ va_K D vwCl [(cI, .int), (cJ, .long), (cZ, .boolean)] U)) (vp_Si (fun r : Int32 => r = zI (yrZ num plc n q a b e_))) 0 0 (fun _ => False) := by
  refine Met.ofW (cc := cX8_year) (maxL := 10) (ret := (some .int)) (by decide +kernel) rfl ?_
  intro Gp Ge Gs Gm Ga Gw Gt Gc G1 Bd gml gv
  obtain ⟨rfl, hP, hK⟩ := gv
  have gx := Bd.exec
  have gb := Bd.bytes
  have gr := Bd.returns
  have gts := atoms_spec (ws := wsX8_year) Bd.pre
  have gown : Gs.vm.findClass RX8 = some Gm.cls := findClass_of_methodNamed Bd.named
  have glk := Bd.notSynchronized
  have hl := lv_entry ([.ref h, .int (zI a), .int (zI b), .int (zI e_)]) (n := 10) (Nat.le_of_ble_eq_true rfl)
  rw [lg_entry_eq]
  generalize (lg_sl ([.ref h, .int (zI a), .int (zI b), .int (zI e_)]) ++ List.replicate (10 - (lg_sl ([.ref h, .int (zI a), .int (zI b), .int (zI e_)])).length) Slot.unset).toArray = ls at hl ⊢
  have hl : lv_has ls 10 [(0, .ref h), (1, .int (zI a)), (2, .int (zI b)), (3, .int (zI e_))] := hl
  have i1 : ∀ w ∈ wsX10, w ∈ wsX8_year := by decide +kernel
  have i8 : ∀ w ∈ wsX80, w ∈ wsX8_year := by decide +kernel
  have hp8 : ∀ k, k < q → plc k < 8 := fun k hk => by have := hp k hk; omega
  have hR8 := pk8_lt hp8 (by omega)
  have hn256 : ∀ k, k < n → num k < 256 := fun k hk => by have := hnum k hk; omega
  have hN63 := pk256_lt hn256 (by omega)
  have L25 : ∀ (f : Bool) (hff : f = decide (10 ≤ e_ ∧ e_ < 10 + n)), ∀ ls : Array Slot, lv_has ls 10 [(0, .ref h), (1, .int (zI a)), (2, .int (zI b)), (3, .int (zI e_))] → W Gp Gl Ge (headSpec wsX8_year ({ frames := 3, cells := 0, slots := 0, locals := 88 } : Room)).room Gs Gm ([.ref h, .int (zI a), .int (zI b), .int (zI e_)] : List Value).toArray Gw Gt Gc Gs.heap [] 0 0 (MQ Gw (vp_Si (fun r : Int32 => r = zI (yrZ num plc n q a b e_))) ([.ref h, .int (zI a), .int (zI b), .int (zI e_)] : List Value).toArray Gs 0 0 (fun _ => False)) (F0 Gm 25 ls [.int (bI f)]) := by
    intro f hff ls hl
    refine lv_istore (lv' := [(4, .int (bI f)), (0, .ref h), (1, .int (zI a)), (2, .int (zI b)), (3, .int (zI e_))]) gx gb dX8_year_25 hl (by decide) rfl (fun ls hl => ?_)
    refine lv_iload_n gx gb dX8_year_27 rfl (lv_at hl 2 rfl) ?_
    refine lv_if_lt (tgt := 61) gx gb dX8_year_28 (by decide) (fun c28 => ?_) (fun c28 => ?_)
    · skip
      rw [z0_lt (by omega) (by omega)] at c28
      refine lv_bipush (v := zI (-2)) gx gb dX8_year_61 (by decide) ?_
      exact W.iret (v := zI (-2)) gx gb gr (fun t ht hW => ⟨zI (-2), rfl, (by first | (dsimp only; done) | ((try dsimp only); first | (rw [yrZ, if_neg (by omega)]; done) | (rw [c58] at hff; have hf9 := of_decide_eq_false hff.symm; rw [yrZ, if_neg (by omega)]))), ht⟩) (fun q h => by cases h) dX8_year_63
    · skip
      rw [z0_lt (by omega) (by omega)] at c28
      refine lv_iload_n gx gb dX8_year_31 rfl (lv_at hl 2 rfl) ?_
      refine lv_sipush (v := nI 9999) gx gb dX8_year_32 (by decide) ?_
      refine lv_icmp_gt (tgt := 61) gx gb dX8_year_35 (by decide) (fun c35 => ?_) (fun c35 => ?_)
      · skip
        rw [nz_lt (by omega) (by omega) (by omega)] at c35
        refine lv_bipush (v := zI (-2)) gx gb dX8_year_61 (by decide) ?_
        exact W.iret (v := zI (-2)) gx gb gr (fun t ht hW => ⟨zI (-2), rfl, (by first | (dsimp only; done) | ((try dsimp only); first | (rw [yrZ, if_neg (by omega)]; done) | (rw [c58] at hff; have hf9 := of_decide_eq_false hff.symm; rw [yrZ, if_neg (by omega)]))), ht⟩) (fun q h => by cases h) dX8_year_63
      · skip
        rw [nz_lt (by omega) (by omega) (by omega)] at c35
        refine lv_iload_n gx gb dX8_year_38 rfl (lv_at hl 3 rfl) ?_
        refine lv_iconst (v := nI 1) gx gb dX8_year_39 (by decide) ?_
        refine lv_icmp_lt (tgt := 61) gx gb dX8_year_40 (by decide) (fun c40 => ?_) (fun c40 => ?_)
        · skip
          rw [zn_lt (by omega) (by omega) (by omega)] at c40
          refine lv_bipush (v := zI (-2)) gx gb dX8_year_61 (by decide) ?_
          exact W.iret (v := zI (-2)) gx gb gr (fun t ht hW => ⟨zI (-2), rfl, (by first | (dsimp only; done) | ((try dsimp only); first | (rw [yrZ, if_neg (by omega)]; done) | (rw [c58] at hff; have hf9 := of_decide_eq_false hff.symm; rw [yrZ, if_neg (by omega)]))), ht⟩) (fun q h => by cases h) dX8_year_63
        · skip
          rw [zn_lt (by omega) (by omega) (by omega)] at c40
          refine lv_iload_n gx gb dX8_year_43 rfl (lv_at hl 3 rfl) ?_
          refine lv_bipush (v := nI 99) gx gb dX8_year_44 (by decide) ?_
          refine lv_icmp_gt (tgt := 61) gx gb dX8_year_46 (by decide) (fun c46 => ?_) (fun c46 => ?_)
          · skip
            rw [nz_lt (by omega) (by omega) (by omega)] at c46
            refine lv_bipush (v := zI (-2)) gx gb dX8_year_61 (by decide) ?_
            exact W.iret (v := zI (-2)) gx gb gr (fun t ht hW => ⟨zI (-2), rfl, (by first | (dsimp only; done) | ((try dsimp only); first | (rw [yrZ, if_neg (by omega)]; done) | (rw [c58] at hff; have hf9 := of_decide_eq_false hff.symm; rw [yrZ, if_neg (by omega)]))), ht⟩) (fun q h => by cases h) dX8_year_63
          · skip
            rw [nz_lt (by omega) (by omega) (by omega)] at c46
            refine lv_iload_n gx gb dX8_year_49 rfl (lv_at hl 4 rfl) ?_
            refine vp_callSi (W.runS (As := [.int (zI e_)]) (rest := []) ⟨gx, gb, gml, gown, gts⟩ (kX8_isLesson Gl e_ (by omega) (by omega)) (va_cwS 1 gts gX8_year_X8_isLesson rfl rfl rfl (by decide +kernel) ⟨Nat.le_of_ble_eq_true rfl, Nat.le_of_ble_eq_true rfl⟩) ⟨fun _ _ _ _ h => h, fun U hU hW => ⟨rfl, trivial⟩⟩ rfl rfl hl.1 rfl (lv_room (Nat.le_of_ble_eq_true rfl)) dX8_year_50 ⟨Nat.le_of_ble_eq_true rfl, Nat.le_of_ble_eq_true rfl⟩) (fun r hw => ?_)
            have hr50 := hw
            subst hr50
            refine lv_if_ne (tgt := 64) gx gb dX8_year_53 (by decide) (fun c53 => ?_) (fun c53 => ?_)
            · skip
              rw [b0_eq] at c53
              simp only [decide_eq_false_iff_not, Decidable.not_not] at c53
              have hok : yrOk n a b e_ := by (first | (refine ⟨⟨?_, ?_⟩, ⟨?_, ?_⟩, ?_⟩ <;> omega) | (rw [c58] at hff; have hf9 := of_decide_eq_true hff.symm; refine ⟨⟨?_, ?_⟩, ⟨?_, ?_⟩, ?_⟩ <;> omega))
              obtain ⟨s, hs⟩ : ∃ s : Nat, a = (s : Int) := ⟨a.toNat, by omega⟩
              rw [show zI a = nI s from by rw [hs, zI_nat]] at hl
              obtain ⟨m, hm⟩ : ∃ m : Nat, b = (m : Int) := ⟨b.toNat, by omega⟩
              rw [show zI b = nI m from by rw [hm, zI_nat]] at hl
              have hl : lv_has ls 10 [(4, .int (bI f)), (0, .ref h), (1, .int (nI s)), (2, .int (nI m)), (3, .int (zI e_))] := hl
              refine lv_iload_n gx gb dX8_year_64 rfl (lv_at hl 2 rfl) ?_
              refine lv_istore (lv' := [(5, .int (nI s)), (4, .int (bI f)), (0, .ref h), (1, .int (nI s)), (2, .int (nI m)), (3, .int (zI e_))]) gx gb dX8_year_65 hl (by decide) rfl (fun ls hl => ?_)
              refine lv_aload_n gx gb dX8_year_67 rfl (lv_at hl 2 rfl) ?_
              refine va_get (D := D) (ci := 3) (v := .ref fl) (C := RX8) (T := TX8) (N := 7) gx gb gts i8 gown hK hP 0 rfl rfl 0 (by decide) (gts (.fieldLink RX8 12 "SwanSums" "flock" "LSwanSums$Flock;") (by decide +kernel)) (fun _ h9 => h9) rfl dX8_year_68 ?_
              refine va_get (D := D) (ci := 0) (v := .int (nI (pk 8 plc q))) (C := RX1) (T := TX1) (N := 6) gx gb gts i1 gown hK hP 1 rfl rfl 2 (by decide) (gts (.fieldLink RX8 79 "SwanSums$Flock" "row" "I") (by decide +kernel)) (fun _ h9 => h9) rfl dX8_year_71 ?_
              refine lv_istore (lv' := [(6, .int (nI (pk 8 plc q))), (5, .int (nI s)), (4, .int (bI f)), (0, .ref h), (1, .int (nI s)), (2, .int (nI m)), (3, .int (zI e_))]) gx gb dX8_year_74 hl (by decide) rfl (fun ls hl => ?_)
              refine lv_iconst (v := nI 0) gx gb dX8_year_76 (by decide) ?_
              refine lv_istore (lv' := [(7, .int (nI 0)), (6, .int (nI (pk 8 plc q))), (5, .int (nI s)), (4, .int (bI f)), (0, .ref h), (1, .int (nI s)), (2, .int (nI m)), (3, .int (zI e_))]) gx gb dX8_year_77 hl (by decide) rfl (fun ls hl => ?_)
              refine lv_iconst (v := nI 0) gx gb dX8_year_79 (by decide) ?_
              refine lv_istore (lv' := [(8, .int (nI 0)), (7, .int (nI 0)), (6, .int (nI (pk 8 plc q))), (5, .int (nI s)), (4, .int (bI f)), (0, .ref h), (1, .int (nI s)), (2, .int (nI m)), (3, .int (zI e_))]) gx gb dX8_year_80 hl (by decide) rfl (fun ls hl => ?_)
              have L82 : ∀ fu : Nat, ∀ (i : Nat) (hi : i ≤ m), (m - i) < fu → ∀ ls : Array Slot, lv_has ls 10 [(5, .int (nI (yx s i))), (6, .int (nI (pk 8 (yrow q plc s i) q))), (7, .int (nI (cnT (yrP num plc q s e_) i))), (8, .int (nI i)), (4, .int (bI f)), (0, .ref h), (1, .int (nI s)), (2, .int (nI m)), (3, .int (zI e_))] → W Gp Gl Ge (headSpec wsX8_year ({ frames := 3, cells := 0, slots := 0, locals := 88 } : Room)).room Gs Gm ([.ref h, .int (zI a), .int (zI b), .int (zI e_)] : List Value).toArray Gw Gt Gc Gs.heap [] 0 0 (MQ Gw (vp_Si (fun r : Int32 => r = zI (yrZ num plc n q a b e_))) ([.ref h, .int (zI a), .int (zI b), .int (zI e_)] : List Value).toArray Gs 0 0 (fun _ => False)) (F0 Gm 82 ls []) := by
                intro fu
                induction fu with
                | zero => intro i hi hfu; exact absurd hfu (Nat.not_lt_zero _)
                | succ fu ih82 =>
                  intro i hi hfu ls hl
                  have hyl := yx_lt (seed := s) (by omega) i
                  have hcn := cnT_le (yrP num plc q s e_) i
                  have hin8 := yrow_in (q := q) (plc := plc) (seed := s) (P := fun x => x < 8) hq1 hp8 i
                  have hl8 := pk8_lt hin8 (by omega)
                  refine lv_iload gx gb dX8_year_82 (lv_at hl 3 rfl) ?_
                  refine lv_iload_n gx gb dX8_year_84 rfl (lv_at hl 7 rfl) ?_
                  refine lv_icmp_ge (tgt := 196) gx gb dX8_year_85 (by decide) (fun c85 => ?_) (fun c85 => ?_)
                  · skip
                    rw [nI_leI (by omega) (by omega)] at c85
                    refine lv_iload gx gb dX8_year_196 (lv_at hl 2 rfl) ?_
                    exact W.iret (v := nI (cnT (yrP num plc q s e_) i)) gx gb gr (fun t ht hW => ⟨nI (cnT (yrP num plc q s e_) i), rfl, (by first | (dsimp only; done) | ((try dsimp only); rw [yrZ, if_pos hok, hs, hm, zI_nat, show i = m by omega]; rfl)), ht⟩) (fun q h => by cases h) dX8_year_198
                  · skip
                    rw [nI_leI (by omega) (by omega)] at c85
                    refine lv_bipush (v := nI 75) gx gb dX8_year_88 (by decide) ?_
                    refine lv_iload gx gb dX8_year_90 (lv_at hl 0 rfl) ?_
                    refine lv_imul gx gb dX8_year_92 ?_
                    refine lv_evi (nI (75 * (yx s i))) (pk_mul 75 (yx s i)) ?_
                    refine lv_bipush (v := nI 74) gx gb dX8_year_93 (by decide) ?_
                    refine lv_iadd gx gb dX8_year_95 ?_
                    refine lv_evi (nI ((75 * (yx s i)) + 74)) (nI_add (75 * (yx s i)) 74) ?_
                    refine lv_ldc (v := (65537)) gx gb gown (gts (.constant RX8 207 (65537)) (by decide +kernel)) dX8_year_96 ?_
                    refine lv_evi (nI 65537) (rfl) ?_
                    refine lv_irem gx gb dX8_year_98 (nI_ne0 (by omega) (by omega)) ?_
                    refine lv_evi (nI (((75 * (yx s i)) + 74) % 65537)) (e_rem (by omega) (by omega) (by omega)) ?_
                    refine lv_evi (nI (yx s (i + 1))) (rfl) ?_
                    refine lv_istore (lv' := [(5, .int (nI (yx s (i + 1)))), (6, .int (nI (pk 8 (yrow q plc s i) q))), (7, .int (nI (cnT (yrP num plc q s e_) i))), (8, .int (nI i)), (4, .int (bI f)), (0, .ref h), (1, .int (nI s)), (2, .int (nI m)), (3, .int (zI e_))]) gx gb dX8_year_99 hl (by decide) rfl (fun ls hl => ?_)
                    have hyl2 := yx_lt (seed := s) (by omega) (i + 1)
                    have hxm := Nat.mod_lt (yx s (i + 1) / 2) (show 0 < q by omega)
                    refine lv_iload gx gb dX8_year_101 (lv_at hl 1 rfl) ?_
                    refine lv_aload_n gx gb dX8_year_103 rfl (lv_at hl 5 rfl) ?_
                    refine va_get (D := D) (ci := 3) (v := .ref fl) (C := RX8) (T := TX8) (N := 7) gx gb gts i8 gown hK hP 0 rfl rfl 0 (by decide) (gts (.fieldLink RX8 12 "SwanSums" "flock" "LSwanSums$Flock;") (by decide +kernel)) (fun _ h9 => h9) rfl dX8_year_104 ?_
                    refine va_get (D := D) (ci := 0) (v := .int (nI q)) (C := RX1) (T := TX1) (N := 6) gx gb gts i1 gown hK hP 1 rfl rfl 3 (by decide) (gts (.fieldLink RX8 82 "SwanSums$Flock" "size" "I") (by decide +kernel)) (fun _ h9 => h9) rfl dX8_year_107 ?_
                    refine lv_iload gx gb dX8_year_110 (lv_at hl 0 rfl) ?_
                    refine vp_callSi (W.runS (As := [.int (nI (pk 8 (yrow q plc s i) q)), .int (nI q), .int (nI (yx s (i + 1)))]) (rest := []) ⟨gx, gb, gml, gown, gts⟩ (kX8_rowBehindDraw Gl (pk 8 (yrow q plc s i) q) q (yx s (i + 1)) (by omega) (by omega) (by omega) (by omega)) (va_cwS 3 gts gX8_year_X8_rowBehindDraw rfl rfl rfl (by decide +kernel) ⟨Nat.le_of_ble_eq_true rfl, Nat.le_of_ble_eq_true rfl⟩) ⟨fun _ _ _ _ h => h, fun U hU hW => ⟨rfl, trivial⟩⟩ rfl rfl hl.1 rfl (lv_room (Nat.le_of_ble_eq_true rfl)) dX8_year_112 ⟨Nat.le_of_ble_eq_true rfl, Nat.le_of_ble_eq_true rfl⟩) (fun r hw => ?_)
                    have hr112 := hw
                    subst hr112
                    refine lv_evi (nI (pk 8 (yrow q plc s (i + 1)) q)) (by simp only [yrow]; split; (rw [breadC_pk hin8 hxm]); (rw [pikeC_pk hin8 hxm])) ?_
                    refine lv_istore (lv' := [(6, .int (nI (pk 8 (yrow q plc s (i + 1)) q))), (5, .int (nI (yx s (i + 1)))), (7, .int (nI (cnT (yrP num plc q s e_) i))), (8, .int (nI i)), (4, .int (bI f)), (0, .ref h), (1, .int (nI s)), (2, .int (nI m)), (3, .int (zI e_))]) gx gb dX8_year_115 hl (by decide) rfl (fun ls hl => ?_)
                    have L173 : ∀ (x : Bool) (hxx : x = yrP num plc q s e_ i), ∀ ls : Array Slot, lv_has ls 10 [(6, .int (nI (pk 8 (yrow q plc s (i + 1)) q))), (5, .int (nI (yx s (i + 1)))), (7, .int (nI (cnT (yrP num plc q s e_) i))), (8, .int (nI i)), (4, .int (bI f)), (0, .ref h), (1, .int (nI s)), (2, .int (nI m)), (3, .int (zI e_))] → W Gp Gl Ge (headSpec wsX8_year ({ frames := 3, cells := 0, slots := 0, locals := 88 } : Room)).room Gs Gm ([.ref h, .int (zI a), .int (zI b), .int (zI e_)] : List Value).toArray Gw Gt Gc Gs.heap [] 0 0 (MQ Gw (vp_Si (fun r : Int32 => r = zI (yrZ num plc n q a b e_))) ([.ref h, .int (zI a), .int (zI b), .int (zI e_)] : List Value).toArray Gs 0 0 (fun _ => False)) (F0 Gm 173 ls [.int (bI x)]) := by
                      intro x hxx ls hl
                      refine lv_istore (lv' := [(9, .int (bI x)), (6, .int (nI (pk 8 (yrow q plc s (i + 1)) q))), (5, .int (nI (yx s (i + 1)))), (7, .int (nI (cnT (yrP num plc q s e_) i))), (8, .int (nI i)), (4, .int (bI f)), (0, .ref h), (1, .int (nI s)), (2, .int (nI m)), (3, .int (zI e_))]) gx gb dX8_year_173 hl (by decide) rfl (fun ls hl => ?_)
                      have L187 : ∀ (y : Nat) (hyy : y = if yrP num plc q s e_ i then 1 else 0), ∀ ls : Array Slot, lv_has ls 10 [(9, .int (bI x)), (6, .int (nI (pk 8 (yrow q plc s (i + 1)) q))), (5, .int (nI (yx s (i + 1)))), (7, .int (nI (cnT (yrP num plc q s e_) i))), (8, .int (nI i)), (4, .int (bI f)), (0, .ref h), (1, .int (nI s)), (2, .int (nI m)), (3, .int (zI e_))] → W Gp Gl Ge (headSpec wsX8_year ({ frames := 3, cells := 0, slots := 0, locals := 88 } : Room)).room Gs Gm ([.ref h, .int (zI a), .int (zI b), .int (zI e_)] : List Value).toArray Gw Gt Gc Gs.heap [] 0 0 (MQ Gw (vp_Si (fun r : Int32 => r = zI (yrZ num plc n q a b e_))) ([.ref h, .int (zI a), .int (zI b), .int (zI e_)] : List Value).toArray Gs 0 0 (fun _ => False)) (F0 Gm 187 ls [.int (nI y), .int (nI (cnT (yrP num plc q s e_) i))]) := by
                        intro y hyy ls hl
                        subst hyy
                        have hl : lv_has ls 10 [(9, .int (bI x)), (6, .int (nI (pk 8 (yrow q plc s (i + 1)) q))), (5, .int (nI (yx s (i + 1)))), (7, .int (nI (cnT (yrP num plc q s e_) i))), (8, .int (nI i)), (4, .int (bI f)), (0, .ref h), (1, .int (nI s)), (2, .int (nI m)), (3, .int (zI e_))] := hl
                        refine lv_iadd gx gb dX8_year_187 ?_
                        refine lv_evi (nI ((cnT (yrP num plc q s e_) i) + (if yrP num plc q s e_ i then 1 else 0))) (nI_add (cnT (yrP num plc q s e_) i) (if yrP num plc q s e_ i then 1 else 0)) ?_
                        refine lv_istore (lv' := [(7, .int (nI ((cnT (yrP num plc q s e_) i) + (if yrP num plc q s e_ i then 1 else 0)))), (9, .int (bI x)), (6, .int (nI (pk 8 (yrow q plc s (i + 1)) q))), (5, .int (nI (yx s (i + 1)))), (8, .int (nI i)), (4, .int (bI f)), (0, .ref h), (1, .int (nI s)), (2, .int (nI m)), (3, .int (zI e_))]) gx gb dX8_year_188 hl (by decide) rfl (fun ls hl => ?_)
                        refine lv_iinc (v := nI (i + 1)) (lv' := [(8, .int (nI (i + 1))), (7, .int (nI ((cnT (yrP num plc q s e_) i) + (if yrP num plc q s e_ i then 1 else 0)))), (9, .int (bI x)), (6, .int (nI (pk 8 (yrow q plc s (i + 1)) q))), (5, .int (nI (yx s (i + 1)))), (4, .int (bI f)), (0, .ref h), (1, .int (nI s)), (2, .int (nI m)), (3, .int (zI e_))]) gx gb dX8_year_190 hl (k := 4) rfl (nI_add i 1) (by decide) rfl (fun ls hl => ?_)
                        refine lv_goto (tgt := 82) gx gb dX8_year_193 (by decide) ?_
                        exact ih82 (i + 1) (by omega) (by omega) ls (lv_sub hl [4, 3, 1, 0, 5, 6, 7, 8, 9] rfl)
                      refine lv_iload gx gb dX8_year_175 (lv_at hl 3 rfl) ?_
                      refine lv_iload gx gb dX8_year_177 (lv_at hl 0 rfl) ?_
                      refine lv_if_eq (tgt := 186) gx gb dX8_year_179 (by decide) (fun c179 => ?_) (fun c179 => ?_)
                      · skip
                        rw [b0_eq] at c179
                        refine lv_iconst (v := nI 0) gx gb dX8_year_186 (by decide) ?_
                        exact L187 0 (by first | (rw [← hxx, c179]; rfl) | (rw [← hxx, c179])) ls (lv_sub hl [0, 1, 2, 3, 4, 5, 6, 7, 8, 9] rfl)
                      · skip
                        rw [b0_eq] at c179
                        have c179 := nf_t c179
                        refine lv_iconst (v := nI 1) gx gb dX8_year_182 (by decide) ?_
                        refine lv_goto (tgt := 187) gx gb dX8_year_183 (by decide) ?_
                        exact L187 1 (by first | (rw [← hxx, c179]; rfl) | (rw [← hxx, c179])) ls (lv_sub hl [0, 1, 2, 3, 4, 5, 6, 7, 8, 9] rfl)
                    have hin := yrow_in (q := q) (plc := plc) (seed := s) (P := fun x => x < n) hq1 hp (i + 1)
                    have hin82 := yrow_in (q := q) (plc := plc) (seed := s) (P := fun x => x < 8) hq1 hp8 (i + 1)
                    have hl82 := pk8_lt hin82 (by omega)
                    have hin0 := hin 0 (by omega)
                    have hkl := lin_dg (q := q) hnum hin
                    have hk63 := pk256_lt (f := fun x => num (yrow q plc s (i + 1) x)) (z := q) (fun x hx => by have := hnum _ (hin x hx); omega) (by omega)
                    refine lv_iload gx gb dX8_year_117 (lv_at hl 4 rfl) ?_
                    refine lv_if_eq (tgt := 143) gx gb dX8_year_119 (by decide) (fun c119 => ?_) (fun c119 => ?_)
                    · skip
                      rw [b0_eq] at c119
                      rw [c119] at hff
                      have hf9 := of_decide_eq_false hff.symm
                      refine lv_iload_n gx gb dX8_year_143 rfl (lv_at hl 8 rfl) ?_
                      refine lv_evi (nI e_.toNat) (by rw [← zI_nat]; congr 1; omega) ?_
                      refine lv_aload_n gx gb dX8_year_144 rfl (lv_at hl 5 rfl) ?_
                      refine va_get (D := D) (ci := 3) (v := .ref fl) (C := RX8) (T := TX8) (N := 7) gx gb gts i8 gown hK hP 0 rfl rfl 0 (by decide) (gts (.fieldLink RX8 12 "SwanSums" "flock" "LSwanSums$Flock;") (by decide +kernel)) (fun _ h9 => h9) rfl dX8_year_145 ?_
                      refine va_get (D := D) (ci := 0) (v := .long (lN (pk 256 num n))) (C := RX1) (T := TX1) (N := 6) gx gb gts i1 gown hK hP 1 rfl rfl 1 (by decide) (gts (.fieldLink RX8 52 "SwanSums$Flock" "numbers" "J") (by decide +kernel)) (fun _ h9 => h9) rfl dX8_year_148 ?_
                      refine lv_iload gx gb dX8_year_151 (lv_at hl 0 rfl) ?_
                      refine lv_aload_n gx gb dX8_year_153 rfl (lv_at hl 5 rfl) ?_
                      refine va_get (D := D) (ci := 3) (v := .ref fl) (C := RX8) (T := TX8) (N := 7) gx gb gts i8 gown hK hP 0 rfl rfl 0 (by decide) (gts (.fieldLink RX8 12 "SwanSums" "flock" "LSwanSums$Flock;") (by decide +kernel)) (fun _ h9 => h9) rfl dX8_year_154 ?_
                      refine va_get (D := D) (ci := 0) (v := .int (nI q)) (C := RX1) (T := TX1) (N := 6) gx gb gts i1 gown hK hP 1 rfl rfl 3 (by decide) (gts (.fieldLink RX8 82 "SwanSums$Flock" "size" "I") (by decide +kernel)) (fun _ h9 => h9) rfl dX8_year_157 ?_
                      refine vp_callSl (W.runS (As := [.long (lN (pk 256 num n)), .int (nI (pk 8 (yrow q plc s (i + 1)) q)), .int (nI q)]) (rest := [.int (nI e_.toNat)]) ⟨gx, gb, gml, gown, gts⟩ (kX3_inOrder Gl (pk 256 num n) (pk 8 (yrow q plc s (i + 1)) q) q (by omega) (by omega) (by omega)) (va_cwS 3 gts gX8_year_X3_inOrder rfl rfl rfl (by decide +kernel) ⟨Nat.le_of_ble_eq_true rfl, Nat.le_of_ble_eq_true rfl⟩) ⟨fun _ _ _ _ h => h, fun U hU hW => ⟨rfl, trivial⟩⟩ rfl rfl hl.1 rfl (lv_room (Nat.le_of_ble_eq_true rfl)) dX8_year_160 ⟨Nat.le_of_ble_eq_true rfl, Nat.le_of_ble_eq_true rfl⟩) (fun r hw => ?_)
                      have hr160 := hw
                      subst hr160
                      refine lv_evl (lN (pk 256 (fun x => num (yrow q plc s (i + 1) x)) q)) (congrArg lN (lin_eq hn7 hnum hin)) ?_
                      refine lv_aload_n gx gb dX8_year_163 rfl (lv_at hl 5 rfl) ?_
                      refine va_get (D := D) (ci := 3) (v := .ref fl) (C := RX8) (T := TX8) (N := 7) gx gb gts i8 gown hK hP 0 rfl rfl 0 (by decide) (gts (.fieldLink RX8 12 "SwanSums" "flock" "LSwanSums$Flock;") (by decide +kernel)) (fun _ h9 => h9) rfl dX8_year_164 ?_
                      refine va_get (D := D) (ci := 0) (v := .int (nI q)) (C := RX1) (T := TX1) (N := 6) gx gb gts i1 gown hK hP 1 rfl rfl 3 (by decide) (gts (.fieldLink RX8 82 "SwanSums$Flock" "size" "I") (by decide +kernel)) (fun _ h9 => h9) rfl dX8_year_167 ?_
                      refine vp_callSi (W.runS (As := [.int (nI e_.toNat), .long (lN (pk 256 (fun x => num (yrow q plc s (i + 1) x)) q)), .int (nI q)]) (rest := []) ⟨gx, gb, gml, gown, gts⟩ (kX2_teach Gl e_.toNat (pk 256 (fun x => num (yrow q plc s (i + 1) x)) q) q (by omega) (by omega) (by omega) (by omega) (by exact pk99 (fun x hx => hnum _ (hin x hx)))) (va_cwS 3 gts gX8_year_X2_teach rfl rfl rfl (by decide +kernel) ⟨Nat.le_of_ble_eq_true rfl, Nat.le_of_ble_eq_true rfl⟩) ⟨fun _ _ _ _ h => h, fun U hU hW => ⟨rfl, trivial⟩⟩ rfl rfl hl.1 rfl (lv_room (Nat.le_of_ble_eq_true rfl)) dX8_year_170 ⟨Nat.le_of_ble_eq_true rfl, Nat.le_of_ble_eq_true rfl⟩) (fun r hw => ?_)
                      have hr170 := hw
                      subst hr170
                      refine lv_evi (bI (tau e_.toNat (fun x => num (yrow q plc s (i + 1) x)) q)) (congrArg bI (tau_cong hq1 hkl)) ?_
                      exact L173 (tau e_.toNat (fun x => num (yrow q plc s (i + 1) x)) q) (by first | (exfalso; omega) | (rw [yrP, if_neg (by omega)]; done) | (rw [yrP, if_pos (by omega)]; exact (decide_eq_true c132).symm) | (rw [yrP, if_pos (by omega)]; exact (decide_eq_false c132).symm)) ls (lv_sub hl [0, 1, 2, 3, 4, 5, 6, 7, 8] rfl)
                    · skip
                      rw [b0_eq] at c119
                      have c119 := nf_t c119
                      rw [c119] at hff
                      have hf9 := of_decide_eq_true hff.symm
                      refine lv_iload gx gb dX8_year_122 (lv_at hl 0 rfl) ?_
                      refine lv_iconst (v := nI 0) gx gb dX8_year_124 (by decide) ?_
                      refine vp_callSi (W.runS (As := [.int (nI (pk 8 (yrow q plc s (i + 1)) q)), .int (nI 0)]) (rest := []) ⟨gx, gb, gml, gown, gts⟩ (kX6_who Gl (pk 8 (yrow q plc s (i + 1)) q) 0 (by omega) (by omega)) (va_cwS 2 gts gX8_year_X6_who rfl rfl rfl (by decide +kernel) ⟨Nat.le_of_ble_eq_true rfl, Nat.le_of_ble_eq_true rfl⟩) ⟨fun _ _ _ _ h => h, fun U hU hW => ⟨rfl, trivial⟩⟩ rfl rfl hl.1 rfl (lv_room (Nat.le_of_ble_eq_true rfl)) dX8_year_125 ⟨Nat.le_of_ble_eq_true rfl, Nat.le_of_ble_eq_true rfl⟩) (fun r hw => ?_)
                      have hr125 := hw
                      subst hr125
                      refine lv_evi (nI (yrow q plc s (i + 1) 0)) (congrArg nI (dg_pk hin82 (by omega))) ?_
                      refine lv_iload_n gx gb dX8_year_128 rfl (lv_at hl 8 rfl) ?_
                      refine lv_bipush (v := nI 10) gx gb dX8_year_129 (by decide) ?_
                      refine lv_isub gx gb dX8_year_131 ?_
                      refine lv_evi (zI (e_ - ((10 : Nat) : Int))) (by rw [nI_zc 10]; exact zI_sub e_ ((10 : Nat) : Int)) ?_
                      refine lv_icmp_ne (tgt := 139) gx gb dX8_year_132 (by decide) (fun c132 => ?_) (fun c132 => ?_)
                      · skip
                        rw [nz_eq (by omega) (by omega) (by omega)] at c132
                        refine lv_iconst (v := nI 0) gx gb dX8_year_139 (by decide) ?_
                        refine lv_goto (tgt := 173) gx gb dX8_year_140 (by decide) ?_
                        exact L173 false (by first | (exfalso; omega) | (rw [yrP, if_neg (by omega)]; done) | (rw [yrP, if_pos (by omega)]; exact (decide_eq_true c132).symm) | (rw [yrP, if_pos (by omega)]; exact (decide_eq_false c132).symm)) ls (lv_sub hl [0, 1, 2, 3, 4, 5, 6, 7, 8] rfl)
                      · skip
                        rw [nz_eq (by omega) (by omega) (by omega)] at c132
                        refine lv_iconst (v := nI 1) gx gb dX8_year_135 (by decide) ?_
                        refine lv_goto (tgt := 173) gx gb dX8_year_136 (by decide) ?_
                        exact L173 true (by first | (exfalso; omega) | (rw [yrP, if_neg (by omega)]; done) | (rw [yrP, if_pos (by omega)]; exact (decide_eq_true c132).symm) | (rw [yrP, if_pos (by omega)]; exact (decide_eq_false c132).symm)) ls (lv_sub hl [0, 1, 2, 3, 4, 5, 6, 7, 8] rfl)
              exact L82 _ 0 (by omega) (Nat.lt_succ_self _) ls (lv_sub hl [3, 2, 1, 0, 4, 5, 6, 7, 8] rfl)
            · skip
              rw [b0_eq] at c53
              simp only [decide_eq_false_iff_not, Decidable.not_not] at c53
              refine lv_iload gx gb dX8_year_56 (lv_at hl 0 rfl) ?_
              refine lv_if_ne (tgt := 64) gx gb dX8_year_58 (by decide) (fun c58 => ?_) (fun c58 => ?_)
              · skip
                rw [b0_eq] at c58
                have c58 := nf_t c58
                have hok : yrOk n a b e_ := by (first | (refine ⟨⟨?_, ?_⟩, ⟨?_, ?_⟩, ?_⟩ <;> omega) | (rw [c58] at hff; have hf9 := of_decide_eq_true hff.symm; refine ⟨⟨?_, ?_⟩, ⟨?_, ?_⟩, ?_⟩ <;> omega))
                obtain ⟨s, hs⟩ : ∃ s : Nat, a = (s : Int) := ⟨a.toNat, by omega⟩
                rw [show zI a = nI s from by rw [hs, zI_nat]] at hl
                obtain ⟨m, hm⟩ : ∃ m : Nat, b = (m : Int) := ⟨b.toNat, by omega⟩
                rw [show zI b = nI m from by rw [hm, zI_nat]] at hl
                have hl : lv_has ls 10 [(4, .int (bI f)), (0, .ref h), (1, .int (nI s)), (2, .int (nI m)), (3, .int (zI e_))] := hl
                refine lv_iload_n gx gb dX8_year_64 rfl (lv_at hl 2 rfl) ?_
                refine lv_istore (lv' := [(5, .int (nI s)), (4, .int (bI f)), (0, .ref h), (1, .int (nI s)), (2, .int (nI m)), (3, .int (zI e_))]) gx gb dX8_year_65 hl (by decide) rfl (fun ls hl => ?_)
                refine lv_aload_n gx gb dX8_year_67 rfl (lv_at hl 2 rfl) ?_
                refine va_get (D := D) (ci := 3) (v := .ref fl) (C := RX8) (T := TX8) (N := 7) gx gb gts i8 gown hK hP 0 rfl rfl 0 (by decide) (gts (.fieldLink RX8 12 "SwanSums" "flock" "LSwanSums$Flock;") (by decide +kernel)) (fun _ h9 => h9) rfl dX8_year_68 ?_
                refine va_get (D := D) (ci := 0) (v := .int (nI (pk 8 plc q))) (C := RX1) (T := TX1) (N := 6) gx gb gts i1 gown hK hP 1 rfl rfl 2 (by decide) (gts (.fieldLink RX8 79 "SwanSums$Flock" "row" "I") (by decide +kernel)) (fun _ h9 => h9) rfl dX8_year_71 ?_
                refine lv_istore (lv' := [(6, .int (nI (pk 8 plc q))), (5, .int (nI s)), (4, .int (bI f)), (0, .ref h), (1, .int (nI s)), (2, .int (nI m)), (3, .int (zI e_))]) gx gb dX8_year_74 hl (by decide) rfl (fun ls hl => ?_)
                refine lv_iconst (v := nI 0) gx gb dX8_year_76 (by decide) ?_
                refine lv_istore (lv' := [(7, .int (nI 0)), (6, .int (nI (pk 8 plc q))), (5, .int (nI s)), (4, .int (bI f)), (0, .ref h), (1, .int (nI s)), (2, .int (nI m)), (3, .int (zI e_))]) gx gb dX8_year_77 hl (by decide) rfl (fun ls hl => ?_)
                refine lv_iconst (v := nI 0) gx gb dX8_year_79 (by decide) ?_
                refine lv_istore (lv' := [(8, .int (nI 0)), (7, .int (nI 0)), (6, .int (nI (pk 8 plc q))), (5, .int (nI s)), (4, .int (bI f)), (0, .ref h), (1, .int (nI s)), (2, .int (nI m)), (3, .int (zI e_))]) gx gb dX8_year_80 hl (by decide) rfl (fun ls hl => ?_)
                have L82 : ∀ fu : Nat, ∀ (i : Nat) (hi : i ≤ m), (m - i) < fu → ∀ ls : Array Slot, lv_has ls 10 [(5, .int (nI (yx s i))), (6, .int (nI (pk 8 (yrow q plc s i) q))), (7, .int (nI (cnT (yrP num plc q s e_) i))), (8, .int (nI i)), (4, .int (bI f)), (0, .ref h), (1, .int (nI s)), (2, .int (nI m)), (3, .int (zI e_))] → W Gp Gl Ge (headSpec wsX8_year ({ frames := 3, cells := 0, slots := 0, locals := 88 } : Room)).room Gs Gm ([.ref h, .int (zI a), .int (zI b), .int (zI e_)] : List Value).toArray Gw Gt Gc Gs.heap [] 0 0 (MQ Gw (vp_Si (fun r : Int32 => r = zI (yrZ num plc n q a b e_))) ([.ref h, .int (zI a), .int (zI b), .int (zI e_)] : List Value).toArray Gs 0 0 (fun _ => False)) (F0 Gm 82 ls []) := by
                  intro fu
                  induction fu with
                  | zero => intro i hi hfu; exact absurd hfu (Nat.not_lt_zero _)
                  | succ fu ih82 =>
                    intro i hi hfu ls hl
                    have hyl := yx_lt (seed := s) (by omega) i
                    have hcn := cnT_le (yrP num plc q s e_) i
                    have hin8 := yrow_in (q := q) (plc := plc) (seed := s) (P := fun x => x < 8) hq1 hp8 i
                    have hl8 := pk8_lt hin8 (by omega)
                    refine lv_iload gx gb dX8_year_82 (lv_at hl 3 rfl) ?_
                    refine lv_iload_n gx gb dX8_year_84 rfl (lv_at hl 7 rfl) ?_
                    refine lv_icmp_ge (tgt := 196) gx gb dX8_year_85 (by decide) (fun c85 => ?_) (fun c85 => ?_)
                    · skip
                      rw [nI_leI (by omega) (by omega)] at c85
                      refine lv_iload gx gb dX8_year_196 (lv_at hl 2 rfl) ?_
                      exact W.iret (v := nI (cnT (yrP num plc q s e_) i)) gx gb gr (fun t ht hW => ⟨nI (cnT (yrP num plc q s e_) i), rfl, (by first | (dsimp only; done) | ((try dsimp only); rw [yrZ, if_pos hok, hs, hm, zI_nat, show i = m by omega]; rfl)), ht⟩) (fun q h => by cases h) dX8_year_198
                    · skip
                      rw [nI_leI (by omega) (by omega)] at c85
                      refine lv_bipush (v := nI 75) gx gb dX8_year_88 (by decide) ?_
                      refine lv_iload gx gb dX8_year_90 (lv_at hl 0 rfl) ?_
                      refine lv_imul gx gb dX8_year_92 ?_
                      refine lv_evi (nI (75 * (yx s i))) (pk_mul 75 (yx s i)) ?_
                      refine lv_bipush (v := nI 74) gx gb dX8_year_93 (by decide) ?_
                      refine lv_iadd gx gb dX8_year_95 ?_
                      refine lv_evi (nI ((75 * (yx s i)) + 74)) (nI_add (75 * (yx s i)) 74) ?_
                      refine lv_ldc (v := (65537)) gx gb gown (gts (.constant RX8 207 (65537)) (by decide +kernel)) dX8_year_96 ?_
                      refine lv_evi (nI 65537) (rfl) ?_
                      refine lv_irem gx gb dX8_year_98 (nI_ne0 (by omega) (by omega)) ?_
                      refine lv_evi (nI (((75 * (yx s i)) + 74) % 65537)) (e_rem (by omega) (by omega) (by omega)) ?_
                      refine lv_evi (nI (yx s (i + 1))) (rfl) ?_
                      refine lv_istore (lv' := [(5, .int (nI (yx s (i + 1)))), (6, .int (nI (pk 8 (yrow q plc s i) q))), (7, .int (nI (cnT (yrP num plc q s e_) i))), (8, .int (nI i)), (4, .int (bI f)), (0, .ref h), (1, .int (nI s)), (2, .int (nI m)), (3, .int (zI e_))]) gx gb dX8_year_99 hl (by decide) rfl (fun ls hl => ?_)
                      have hyl2 := yx_lt (seed := s) (by omega) (i + 1)
                      have hxm := Nat.mod_lt (yx s (i + 1) / 2) (show 0 < q by omega)
                      refine lv_iload gx gb dX8_year_101 (lv_at hl 1 rfl) ?_
                      refine lv_aload_n gx gb dX8_year_103 rfl (lv_at hl 5 rfl) ?_
                      refine va_get (D := D) (ci := 3) (v := .ref fl) (C := RX8) (T := TX8) (N := 7) gx gb gts i8 gown hK hP 0 rfl rfl 0 (by decide) (gts (.fieldLink RX8 12 "SwanSums" "flock" "LSwanSums$Flock;") (by decide +kernel)) (fun _ h9 => h9) rfl dX8_year_104 ?_
                      refine va_get (D := D) (ci := 0) (v := .int (nI q)) (C := RX1) (T := TX1) (N := 6) gx gb gts i1 gown hK hP 1 rfl rfl 3 (by decide) (gts (.fieldLink RX8 82 "SwanSums$Flock" "size" "I") (by decide +kernel)) (fun _ h9 => h9) rfl dX8_year_107 ?_
                      refine lv_iload gx gb dX8_year_110 (lv_at hl 0 rfl) ?_
                      refine vp_callSi (W.runS (As := [.int (nI (pk 8 (yrow q plc s i) q)), .int (nI q), .int (nI (yx s (i + 1)))]) (rest := []) ⟨gx, gb, gml, gown, gts⟩ (kX8_rowBehindDraw Gl (pk 8 (yrow q plc s i) q) q (yx s (i + 1)) (by omega) (by omega) (by omega) (by omega)) (va_cwS 3 gts gX8_year_X8_rowBehindDraw rfl rfl rfl (by decide +kernel) ⟨Nat.le_of_ble_eq_true rfl, Nat.le_of_ble_eq_true rfl⟩) ⟨fun _ _ _ _ h => h, fun U hU hW => ⟨rfl, trivial⟩⟩ rfl rfl hl.1 rfl (lv_room (Nat.le_of_ble_eq_true rfl)) dX8_year_112 ⟨Nat.le_of_ble_eq_true rfl, Nat.le_of_ble_eq_true rfl⟩) (fun r hw => ?_)
                      have hr112 := hw
                      subst hr112
                      refine lv_evi (nI (pk 8 (yrow q plc s (i + 1)) q)) (by simp only [yrow]; split; (rw [breadC_pk hin8 hxm]); (rw [pikeC_pk hin8 hxm])) ?_
                      refine lv_istore (lv' := [(6, .int (nI (pk 8 (yrow q plc s (i + 1)) q))), (5, .int (nI (yx s (i + 1)))), (7, .int (nI (cnT (yrP num plc q s e_) i))), (8, .int (nI i)), (4, .int (bI f)), (0, .ref h), (1, .int (nI s)), (2, .int (nI m)), (3, .int (zI e_))]) gx gb dX8_year_115 hl (by decide) rfl (fun ls hl => ?_)
                      have L173 : ∀ (x : Bool) (hxx : x = yrP num plc q s e_ i), ∀ ls : Array Slot, lv_has ls 10 [(6, .int (nI (pk 8 (yrow q plc s (i + 1)) q))), (5, .int (nI (yx s (i + 1)))), (7, .int (nI (cnT (yrP num plc q s e_) i))), (8, .int (nI i)), (4, .int (bI f)), (0, .ref h), (1, .int (nI s)), (2, .int (nI m)), (3, .int (zI e_))] → W Gp Gl Ge (headSpec wsX8_year ({ frames := 3, cells := 0, slots := 0, locals := 88 } : Room)).room Gs Gm ([.ref h, .int (zI a), .int (zI b), .int (zI e_)] : List Value).toArray Gw Gt Gc Gs.heap [] 0 0 (MQ Gw (vp_Si (fun r : Int32 => r = zI (yrZ num plc n q a b e_))) ([.ref h, .int (zI a), .int (zI b), .int (zI e_)] : List Value).toArray Gs 0 0 (fun _ => False)) (F0 Gm 173 ls [.int (bI x)]) := by
                        intro x hxx ls hl
                        refine lv_istore (lv' := [(9, .int (bI x)), (6, .int (nI (pk 8 (yrow q plc s (i + 1)) q))), (5, .int (nI (yx s (i + 1)))), (7, .int (nI (cnT (yrP num plc q s e_) i))), (8, .int (nI i)), (4, .int (bI f)), (0, .ref h), (1, .int (nI s)), (2, .int (nI m)), (3, .int (zI e_))]) gx gb dX8_year_173 hl (by decide) rfl (fun ls hl => ?_)
                        have L187 : ∀ (y : Nat) (hyy : y = if yrP num plc q s e_ i then 1 else 0), ∀ ls : Array Slot, lv_has ls 10 [(9, .int (bI x)), (6, .int (nI (pk 8 (yrow q plc s (i + 1)) q))), (5, .int (nI (yx s (i + 1)))), (7, .int (nI (cnT (yrP num plc q s e_) i))), (8, .int (nI i)), (4, .int (bI f)), (0, .ref h), (1, .int (nI s)), (2, .int (nI m)), (3, .int (zI e_))] → W Gp Gl Ge (headSpec wsX8_year ({ frames := 3, cells := 0, slots := 0, locals := 88 } : Room)).room Gs Gm ([.ref h, .int (zI a), .int (zI b), .int (zI e_)] : List Value).toArray Gw Gt Gc Gs.heap [] 0 0 (MQ Gw (vp_Si (fun r : Int32 => r = zI (yrZ num plc n q a b e_))) ([.ref h, .int (zI a), .int (zI b), .int (zI e_)] : List Value).toArray Gs 0 0 (fun _ => False)) (F0 Gm 187 ls [.int (nI y), .int (nI (cnT (yrP num plc q s e_) i))]) := by
                          intro y hyy ls hl
                          subst hyy
                          have hl : lv_has ls 10 [(9, .int (bI x)), (6, .int (nI (pk 8 (yrow q plc s (i + 1)) q))), (5, .int (nI (yx s (i + 1)))), (7, .int (nI (cnT (yrP num plc q s e_) i))), (8, .int (nI i)), (4, .int (bI f)), (0, .ref h), (1, .int (nI s)), (2, .int (nI m)), (3, .int (zI e_))] := hl
                          refine lv_iadd gx gb dX8_year_187 ?_
                          refine lv_evi (nI ((cnT (yrP num plc q s e_) i) + (if yrP num plc q s e_ i then 1 else 0))) (nI_add (cnT (yrP num plc q s e_) i) (if yrP num plc q s e_ i then 1 else 0)) ?_
                          refine lv_istore (lv' := [(7, .int (nI ((cnT (yrP num plc q s e_) i) + (if yrP num plc q s e_ i then 1 else 0)))), (9, .int (bI x)), (6, .int (nI (pk 8 (yrow q plc s (i + 1)) q))), (5, .int (nI (yx s (i + 1)))), (8, .int (nI i)), (4, .int (bI f)), (0, .ref h), (1, .int (nI s)), (2, .int (nI m)), (3, .int (zI e_))]) gx gb dX8_year_188 hl (by decide) rfl (fun ls hl => ?_)
                          refine lv_iinc (v := nI (i + 1)) (lv' := [(8, .int (nI (i + 1))), (7, .int (nI ((cnT (yrP num plc q s e_) i) + (if yrP num plc q s e_ i then 1 else 0)))), (9, .int (bI x)), (6, .int (nI (pk 8 (yrow q plc s (i + 1)) q))), (5, .int (nI (yx s (i + 1)))), (4, .int (bI f)), (0, .ref h), (1, .int (nI s)), (2, .int (nI m)), (3, .int (zI e_))]) gx gb dX8_year_190 hl (k := 4) rfl (nI_add i 1) (by decide) rfl (fun ls hl => ?_)
                          refine lv_goto (tgt := 82) gx gb dX8_year_193 (by decide) ?_
                          exact ih82 (i + 1) (by omega) (by omega) ls (lv_sub hl [4, 3, 1, 0, 5, 6, 7, 8, 9] rfl)
                        refine lv_iload gx gb dX8_year_175 (lv_at hl 3 rfl) ?_
                        refine lv_iload gx gb dX8_year_177 (lv_at hl 0 rfl) ?_
                        refine lv_if_eq (tgt := 186) gx gb dX8_year_179 (by decide) (fun c179 => ?_) (fun c179 => ?_)
                        · skip
                          rw [b0_eq] at c179
                          refine lv_iconst (v := nI 0) gx gb dX8_year_186 (by decide) ?_
                          exact L187 0 (by first | (rw [← hxx, c179]; rfl) | (rw [← hxx, c179])) ls (lv_sub hl [0, 1, 2, 3, 4, 5, 6, 7, 8, 9] rfl)
                        · skip
                          rw [b0_eq] at c179
                          have c179 := nf_t c179
                          refine lv_iconst (v := nI 1) gx gb dX8_year_182 (by decide) ?_
                          refine lv_goto (tgt := 187) gx gb dX8_year_183 (by decide) ?_
                          exact L187 1 (by first | (rw [← hxx, c179]; rfl) | (rw [← hxx, c179])) ls (lv_sub hl [0, 1, 2, 3, 4, 5, 6, 7, 8, 9] rfl)
                      have hin := yrow_in (q := q) (plc := plc) (seed := s) (P := fun x => x < n) hq1 hp (i + 1)
                      have hin82 := yrow_in (q := q) (plc := plc) (seed := s) (P := fun x => x < 8) hq1 hp8 (i + 1)
                      have hl82 := pk8_lt hin82 (by omega)
                      have hin0 := hin 0 (by omega)
                      have hkl := lin_dg (q := q) hnum hin
                      have hk63 := pk256_lt (f := fun x => num (yrow q plc s (i + 1) x)) (z := q) (fun x hx => by have := hnum _ (hin x hx); omega) (by omega)
                      refine lv_iload gx gb dX8_year_117 (lv_at hl 4 rfl) ?_
                      refine lv_if_eq (tgt := 143) gx gb dX8_year_119 (by decide) (fun c119 => ?_) (fun c119 => ?_)
                      · skip
                        rw [b0_eq] at c119
                        rw [c119] at hff
                        have hf9 := of_decide_eq_false hff.symm
                        refine lv_iload_n gx gb dX8_year_143 rfl (lv_at hl 8 rfl) ?_
                        refine lv_evi (nI e_.toNat) (by rw [← zI_nat]; congr 1; omega) ?_
                        refine lv_aload_n gx gb dX8_year_144 rfl (lv_at hl 5 rfl) ?_
                        refine va_get (D := D) (ci := 3) (v := .ref fl) (C := RX8) (T := TX8) (N := 7) gx gb gts i8 gown hK hP 0 rfl rfl 0 (by decide) (gts (.fieldLink RX8 12 "SwanSums" "flock" "LSwanSums$Flock;") (by decide +kernel)) (fun _ h9 => h9) rfl dX8_year_145 ?_
                        refine va_get (D := D) (ci := 0) (v := .long (lN (pk 256 num n))) (C := RX1) (T := TX1) (N := 6) gx gb gts i1 gown hK hP 1 rfl rfl 1 (by decide) (gts (.fieldLink RX8 52 "SwanSums$Flock" "numbers" "J") (by decide +kernel)) (fun _ h9 => h9) rfl dX8_year_148 ?_
                        refine lv_iload gx gb dX8_year_151 (lv_at hl 0 rfl) ?_
                        refine lv_aload_n gx gb dX8_year_153 rfl (lv_at hl 5 rfl) ?_
                        refine va_get (D := D) (ci := 3) (v := .ref fl) (C := RX8) (T := TX8) (N := 7) gx gb gts i8 gown hK hP 0 rfl rfl 0 (by decide) (gts (.fieldLink RX8 12 "SwanSums" "flock" "LSwanSums$Flock;") (by decide +kernel)) (fun _ h9 => h9) rfl dX8_year_154 ?_
                        refine va_get (D := D) (ci := 0) (v := .int (nI q)) (C := RX1) (T := TX1) (N := 6) gx gb gts i1 gown hK hP 1 rfl rfl 3 (by decide) (gts (.fieldLink RX8 82 "SwanSums$Flock" "size" "I") (by decide +kernel)) (fun _ h9 => h9) rfl dX8_year_157 ?_
                        refine vp_callSl (W.runS (As := [.long (lN (pk 256 num n)), .int (nI (pk 8 (yrow q plc s (i + 1)) q)), .int (nI q)]) (rest := [.int (nI e_.toNat)]) ⟨gx, gb, gml, gown, gts⟩ (kX3_inOrder Gl (pk 256 num n) (pk 8 (yrow q plc s (i + 1)) q) q (by omega) (by omega) (by omega)) (va_cwS 3 gts gX8_year_X3_inOrder rfl rfl rfl (by decide +kernel) ⟨Nat.le_of_ble_eq_true rfl, Nat.le_of_ble_eq_true rfl⟩) ⟨fun _ _ _ _ h => h, fun U hU hW => ⟨rfl, trivial⟩⟩ rfl rfl hl.1 rfl (lv_room (Nat.le_of_ble_eq_true rfl)) dX8_year_160 ⟨Nat.le_of_ble_eq_true rfl, Nat.le_of_ble_eq_true rfl⟩) (fun r hw => ?_)
                        have hr160 := hw
                        subst hr160
                        refine lv_evl (lN (pk 256 (fun x => num (yrow q plc s (i + 1) x)) q)) (congrArg lN (lin_eq hn7 hnum hin)) ?_
                        refine lv_aload_n gx gb dX8_year_163 rfl (lv_at hl 5 rfl) ?_
                        refine va_get (D := D) (ci := 3) (v := .ref fl) (C := RX8) (T := TX8) (N := 7) gx gb gts i8 gown hK hP 0 rfl rfl 0 (by decide) (gts (.fieldLink RX8 12 "SwanSums" "flock" "LSwanSums$Flock;") (by decide +kernel)) (fun _ h9 => h9) rfl dX8_year_164 ?_
                        refine va_get (D := D) (ci := 0) (v := .int (nI q)) (C := RX1) (T := TX1) (N := 6) gx gb gts i1 gown hK hP 1 rfl rfl 3 (by decide) (gts (.fieldLink RX8 82 "SwanSums$Flock" "size" "I") (by decide +kernel)) (fun _ h9 => h9) rfl dX8_year_167 ?_
                        refine vp_callSi (W.runS (As := [.int (nI e_.toNat), .long (lN (pk 256 (fun x => num (yrow q plc s (i + 1) x)) q)), .int (nI q)]) (rest := []) ⟨gx, gb, gml, gown, gts⟩ (kX2_teach Gl e_.toNat (pk 256 (fun x => num (yrow q plc s (i + 1) x)) q) q (by omega) (by omega) (by omega) (by omega) (by exact pk99 (fun x hx => hnum _ (hin x hx)))) (va_cwS 3 gts gX8_year_X2_teach rfl rfl rfl (by decide +kernel) ⟨Nat.le_of_ble_eq_true rfl, Nat.le_of_ble_eq_true rfl⟩) ⟨fun _ _ _ _ h => h, fun U hU hW => ⟨rfl, trivial⟩⟩ rfl rfl hl.1 rfl (lv_room (Nat.le_of_ble_eq_true rfl)) dX8_year_170 ⟨Nat.le_of_ble_eq_true rfl, Nat.le_of_ble_eq_true rfl⟩) (fun r hw => ?_)
                        have hr170 := hw
                        subst hr170
                        refine lv_evi (bI (tau e_.toNat (fun x => num (yrow q plc s (i + 1) x)) q)) (congrArg bI (tau_cong hq1 hkl)) ?_
                        exact L173 (tau e_.toNat (fun x => num (yrow q plc s (i + 1) x)) q) (by first | (exfalso; omega) | (rw [yrP, if_neg (by omega)]; done) | (rw [yrP, if_pos (by omega)]; exact (decide_eq_true c132).symm) | (rw [yrP, if_pos (by omega)]; exact (decide_eq_false c132).symm)) ls (lv_sub hl [0, 1, 2, 3, 4, 5, 6, 7, 8] rfl)
                      · skip
                        rw [b0_eq] at c119
                        have c119 := nf_t c119
                        rw [c119] at hff
                        have hf9 := of_decide_eq_true hff.symm
                        refine lv_iload gx gb dX8_year_122 (lv_at hl 0 rfl) ?_
                        refine lv_iconst (v := nI 0) gx gb dX8_year_124 (by decide) ?_
                        refine vp_callSi (W.runS (As := [.int (nI (pk 8 (yrow q plc s (i + 1)) q)), .int (nI 0)]) (rest := []) ⟨gx, gb, gml, gown, gts⟩ (kX6_who Gl (pk 8 (yrow q plc s (i + 1)) q) 0 (by omega) (by omega)) (va_cwS 2 gts gX8_year_X6_who rfl rfl rfl (by decide +kernel) ⟨Nat.le_of_ble_eq_true rfl, Nat.le_of_ble_eq_true rfl⟩) ⟨fun _ _ _ _ h => h, fun U hU hW => ⟨rfl, trivial⟩⟩ rfl rfl hl.1 rfl (lv_room (Nat.le_of_ble_eq_true rfl)) dX8_year_125 ⟨Nat.le_of_ble_eq_true rfl, Nat.le_of_ble_eq_true rfl⟩) (fun r hw => ?_)
                        have hr125 := hw
                        subst hr125
                        refine lv_evi (nI (yrow q plc s (i + 1) 0)) (congrArg nI (dg_pk hin82 (by omega))) ?_
                        refine lv_iload_n gx gb dX8_year_128 rfl (lv_at hl 8 rfl) ?_
                        refine lv_bipush (v := nI 10) gx gb dX8_year_129 (by decide) ?_
                        refine lv_isub gx gb dX8_year_131 ?_
                        refine lv_evi (zI (e_ - ((10 : Nat) : Int))) (by rw [nI_zc 10]; exact zI_sub e_ ((10 : Nat) : Int)) ?_
                        refine lv_icmp_ne (tgt := 139) gx gb dX8_year_132 (by decide) (fun c132 => ?_) (fun c132 => ?_)
                        · skip
                          rw [nz_eq (by omega) (by omega) (by omega)] at c132
                          refine lv_iconst (v := nI 0) gx gb dX8_year_139 (by decide) ?_
                          refine lv_goto (tgt := 173) gx gb dX8_year_140 (by decide) ?_
                          exact L173 false (by first | (exfalso; omega) | (rw [yrP, if_neg (by omega)]; done) | (rw [yrP, if_pos (by omega)]; exact (decide_eq_true c132).symm) | (rw [yrP, if_pos (by omega)]; exact (decide_eq_false c132).symm)) ls (lv_sub hl [0, 1, 2, 3, 4, 5, 6, 7, 8] rfl)
                        · skip
                          rw [nz_eq (by omega) (by omega) (by omega)] at c132
                          refine lv_iconst (v := nI 1) gx gb dX8_year_135 (by decide) ?_
                          refine lv_goto (tgt := 173) gx gb dX8_year_136 (by decide) ?_
                          exact L173 true (by first | (exfalso; omega) | (rw [yrP, if_neg (by omega)]; done) | (rw [yrP, if_pos (by omega)]; exact (decide_eq_true c132).symm) | (rw [yrP, if_pos (by omega)]; exact (decide_eq_false c132).symm)) ls (lv_sub hl [0, 1, 2, 3, 4, 5, 6, 7, 8] rfl)
                exact L82 _ 0 (by omega) (Nat.lt_succ_self _) ls (lv_sub hl [3, 2, 1, 0, 4, 5, 6, 7, 8] rfl)
              · skip
                rw [b0_eq] at c58
                refine lv_bipush (v := zI (-2)) gx gb dX8_year_61 (by decide) ?_
                exact W.iret (v := zI (-2)) gx gb gr (fun t ht hW => ⟨zI (-2), rfl, (by first | (dsimp only; done) | ((try dsimp only); first | (rw [yrZ, if_neg (by omega)]; done) | (rw [c58] at hff; have hf9 := of_decide_eq_false hff.symm; rw [yrZ, if_neg (by omega)]))), ht⟩) (fun q h => by cases h) dX8_year_63
  refine lv_iload_n gx gb dX8_year_0 rfl (lv_at hl 3 rfl) ?_
  refine lv_bipush (v := nI 10) gx gb dX8_year_1 (by decide) ?_
  refine lv_icmp_lt (tgt := 24) gx gb dX8_year_3 (by decide) (fun c3 => ?_) (fun c3 => ?_)
  · skip
    rw [zn_lt (by omega) (by omega) (by omega)] at c3
    refine lv_iconst (v := nI 0) gx gb dX8_year_24 (by decide) ?_
    exact L25 false (by first | exact (decide_eq_true (by omega)).symm | exact (decide_eq_false (by omega)).symm) ls (lv_sub hl [0, 1, 2, 3] rfl)
  · skip
    rw [zn_lt (by omega) (by omega) (by omega)] at c3
    refine lv_aload_n gx gb dX8_year_6 rfl (lv_at hl 0 rfl) ?_
    refine va_get (D := D) (ci := 3) (v := .ref fl) (C := RX8) (T := TX8) (N := 7) gx gb gts i8 gown hK hP 0 rfl rfl 0 (by decide) (gts (.fieldLink RX8 12 "SwanSums" "flock" "LSwanSums$Flock;") (by decide +kernel)) (fun _ h9 => h9) rfl dX8_year_7 ?_
    refine lv_iload_n gx gb dX8_year_10 rfl (lv_at hl 3 rfl) ?_
    refine lv_bipush (v := nI 10) gx gb dX8_year_11 (by decide) ?_
    refine lv_isub gx gb dX8_year_13 ?_
    refine lv_evi (zI (e_ - ((10 : Nat) : Int))) (by rw [nI_zc 10]; exact zI_sub e_ ((10 : Nat) : Int)) ?_
    have hPc := hP.sub (ws' := wF fl n (pk 256 num n) (pk 8 plc q) q S c) [1] rfl
    refine vp_callSi (W.runV (As := [.int (zI (e_ - ((10 : Nat) : Int)))]) (rest := []) ⟨gx, gb, gml, gown, gts⟩ (kX1_has Gl D cI cJ cZ fl n (pk 256 num n) (pk 8 plc q) q S c (e_ - ((10 : Nat) : Int)) (by omega) (by omega) (by omega)) (cwV 1 gts gX8_year_X1_has rfl rfl rfl (by decide +kernel) ⟨Nat.le_of_ble_eq_true rfl, Nat.le_of_ble_eq_true rfl⟩) ⟨fun a U g mk q => ⟨q.1, q.2.1, va_K.moved (u := U) (U := U.calling g mk a) (Vm.Alike.refl U.vm) q.2.2⟩, va_recv hK hPc (ci := 0) (q0 := 0) rfl rfl, fun U hU hW => ⟨rfl, by rw [hU]; exact hPc, va_K.moved hW.alike hK⟩⟩ rfl rfl hl.1 rfl (lv_room (Nat.le_of_ble_eq_true rfl)) dX8_year_14 ⟨Nat.le_of_ble_eq_true rfl, Nat.le_of_ble_eq_true rfl⟩) (fun r hw => ?_)
    have hr14 := hw
    subst hr14
    refine lv_if_eq (tgt := 24) gx gb dX8_year_17 (by decide) (fun c17 => ?_) (fun c17 => ?_)
    · skip
      rw [b0_eq] at c17
      simp only [decide_eq_false_iff_not, Decidable.not_not] at c17
      refine lv_iconst (v := nI 0) gx gb dX8_year_24 (by decide) ?_
      exact L25 false (by first | exact (decide_eq_true (by omega)).symm | exact (decide_eq_false (by omega)).symm) ls (lv_sub hl [0, 1, 2, 3] rfl)
    · skip
      rw [b0_eq] at c17
      simp only [decide_eq_false_iff_not, Decidable.not_not] at c17
      refine lv_iconst (v := nI 1) gx gb dX8_year_20 (by decide) ?_
      refine lv_goto (tgt := 25) gx gb dX8_year_21 (by decide) ?_
      exact L25 true (by first | exact (decide_eq_true (by omega)).symm | exact (decide_eq_false (by omega)).symm) ls (lv_sub hl [0, 1, 2, 3] rfl)

set_option maxHeartbeats 4000000 in
set_option maxRecDepth 100000 in
theorem kX9_filled (Gl : Launch) (D : va_G) (cI cJ cZ : ClassId) (mo : Nat) (ma : Nat) (mb : Nat) (mc : Nat) (md : Nat) (me : Nat) (mf : Nat) (mg : Nat) (mh : Nat) (mi : Nat) (mj : Nat) (mk : Nat) (ml : Nat) (mn : Nat) (n : Nat) (q : Nat) (c : Nat) (w : Nat) (z : Nat) (ev : Nat) (num : Nat → Nat) (plc : Nat → Nat) (sig : Nat → Nat) (pad : Nat → Nat) (row : Nat → Nat) (dig : Nat → Nat) (far : Nat → Int32) (cfr : Nat → Nat) (cby : Nat → Nat) (que : Nat → Nat) (has : Nat → Nat) (img : Nat → Nat) (kep : Nat → Nat) (sz : Nat) (a : Int) (hl_a : -2147483648 ≤ a) (hu_a : a < 2147483648) (hw : w ≤ 60) (hg : ∀ k, k < w → pad k < 127) (hn1 : 1 ≤ n) (hn7 : n ≤ 7) (hq1 : 1 ≤ q) (hqn : q ≤ n) (hp : ∀ k, k < q → plc k < n) (hc : c ≤ 6) (hsg : ∀ k, k < 2 * c → sig k ≤ 6) : Met Gl yX9_filled wsX9_filled ({ frames := 4, cells := 0, slots := 0, locals := 93 } : Room) (va_Pc [.ref mo, .int (zI a)] (fun U => U.heap.size = sz ∧ va_P D vwCl (wM mo ma mb mc md me mf mg mh mi mj mk ml mn cI cZ n q c w z ev num plc sig pad row dig far cfr cby que has img kep) U.heap ∧ va_K D vwCl [(cI, .int), (cJ, .long), (cZ, .boolean)] U ∧ va_D (fun _ => True) (wM mo ma mb mc md me mf mg mh mi mj mk ml mn cI cZ n q c w z ev num plc sig pad row dig far cfr cby que has img kep))) (va_Qi (fun (r : Int32) (u : (Nat → Nat) × (Nat) × (Nat)) => r = zI (filB pad w plc q sig c 10 a)) (fun (u : (Nat → Nat) × (Nat) × (Nat)) t => va_P D vwCl (wM mo ma mb mc md me mf mg mh mi mj mk ml mn cI cZ n q c w u.2.1 u.2.2 num plc sig pad u.1 dig far cfr cby que has img kep) t.heap ∧ va_K D vwCl [(cI, .int), (cJ, .long), (cZ, .boolean)] t ∧ va_D (va_A (wM mo ma mb mc md me mf mg mh mi mj mk ml mn cI cZ n q c w z ev num plc sig pad row dig far cfr cby que has img kep) sz) (wM mo ma mb mc md me mf mg mh mi mj mk ml mn cI cZ n q c w u.2.1 u.2.2 num plc sig pad u.1 dig far cfr cby que has img kep)) (va_A (wM mo ma mb mc md me mf mg mh mi mj mk ml mn cI cZ n q c w z ev num plc sig pad row dig far cfr cby que has img kep) sz)) 0 0 (va_A (wM mo ma mb mc md me mf mg mh mi mj mk ml mn cI cZ n q c w z ev num plc sig pad row dig far cfr cby que has img kep) sz) := by
  refine Met.ofW (cc := cX9_filled) (maxL := 8) (ret := (some .int)) (by decide +kernel) rfl ?_
  intro Gp Ge Gs Gm Ga Gw Gt Gc G1 Bd gml gv
  obtain ⟨rfl, hsz, hP, hK, hD0⟩ := gv
  have gx := Bd.exec
  have gb := Bd.bytes
  have gr := Bd.returns
  have gts := atoms_spec (ws := wsX9_filled) Bd.pre
  have gown : Gs.vm.findClass RX9 = some Gm.cls := findClass_of_methodNamed Bd.named
  have glk := Bd.notSynchronized
  subst hsz
  have hD := hD0.self (sz := Gs.heap.size)
  generalize hAe : va_A (wM mo ma mb mc md me mf mg mh mi mj mk ml mn cI cZ n q c w z ev num plc sig pad row dig far cfr cby que has img kep) Gs.heap.size = A at hD ⊢
  have hA : ∀ q : Nat, Gs.heap.size ≤ q → A q := fun q h => by rw [← hAe]; exact Or.inr h
  have hS : va_S A Gs.heap Gs.heap [] := va_S.rf
  have hP : va_P D vwCl (wM mo ma mb mc md me mf mg mh mi mj mk ml mn cI cZ n q c w z ev num plc sig pad row dig far cfr cby que has img kep) Gs.heap := hP
  have hl := lv_entry ([.ref mo, .int (zI a)]) (n := 8) (Nat.le_of_ble_eq_true rfl)
  rw [lg_entry_eq]
  generalize (lg_sl ([.ref mo, .int (zI a)]) ++ List.replicate (8 - (lg_sl ([.ref mo, .int (zI a)])).length) Slot.unset).toArray = ls at hl ⊢
  have hl : lv_has ls 8 [(0, .ref mo), (1, .int (zI a))] := hl
  have i9 : ∀ w ∈ wsX90, w ∈ wsX9_filled := by decide +kernel
  refine lv_aload_n gx gb dX9_filled_0 rfl (lv_at hl 0 rfl) ?_
  have hfb := fltZ_bd pad w
  have hPc := hP.sub (ws' := wM mo ma mb mc md me mf mg mh mi mj mk ml mn cI cZ n q c w z ev num plc sig pad row dig far cfr cby que has img kep) [0, 1, 2, 3, 4, 5, 6, 7, 8, 9, 10, 11, 12, 13] rfl
  refine vp_callSi (W.runV (As := []) (rest := []) ⟨gx, gb, gml, gown, gts⟩ (kX9_faultOf Gl D cI cJ cZ mo ma mb mc md me mf mg mh mi mj mk ml mn n q c w z ev num plc sig pad row dig far cfr cby que has img kep  (by omega) (by omega)) (cwV 0 gts gX9_filled_X9_faultOf rfl rfl rfl (by decide +kernel) ⟨Nat.le_of_ble_eq_true rfl, Nat.le_of_ble_eq_true rfl⟩) ⟨fun a U g mk q => ⟨q.1, q.2.1, va_K.moved (u := U) (U := U.calling g mk a) (Vm.Alike.refl U.vm) q.2.2⟩, va_recv hK hPc (ci := 4) (q0 := 0) rfl rfl, fun U hU hW => ⟨rfl, by rw [hU]; exact hPc, va_K.moved hW.alike hK⟩⟩ rfl rfl hl.1 rfl (lv_room (Nat.le_of_ble_eq_true rfl)) dX9_filled_1 ⟨Nat.le_of_ble_eq_true rfl, Nat.le_of_ble_eq_true rfl⟩) (fun r hw => ?_)
  have hr1 := hw
  subst hr1
  refine lv_if_lt (tgt := 10) gx gb dX9_filled_4 (by decide) (fun c4 => ?_) (fun c4 => ?_)
  · skip
    rw [z0_lt (by omega) (by omega)] at c4
    have hf6 : fltZ pad w = -6 := by omega
    have hc3 := cq_3 (fltZ_m6 hf6).1
    have ht := t10_bd hc3
    have hwf := wf_evn hf6
    refine lv_iconst (v := nI 1) gx gb dX9_filled_10 (by decide) ?_
    refine lv_istore_n (lv' := [(2, .int (nI 1)), (0, .ref mo), (1, .int (zI a))]) gx gb dX9_filled_11 rfl hl (by decide) rfl (fun ls hl => ?_)
    refine lv_iconst (v := nI 0) gx gb dX9_filled_12 (by decide) ?_
    refine lv_istore_n (lv' := [(3, .int (nI 0)), (2, .int (nI 1)), (0, .ref mo), (1, .int (zI a))]) gx gb dX9_filled_13 rfl hl (by decide) rfl (fun ls hl => ?_)
    have L14 : ∀ fu : Nat, ∀ (i : Nat) (hi : i ≤ cq pad w), (cq pad w - i) < fu → ∀ (H : Heap) (locs : List Loc), va_P D vwCl (wM mo ma mb mc md me mf mg mh mi mj mk ml mn cI cZ n q c w z ev num plc sig pad row dig far cfr cby que has img kep) H → va_D A (wM mo ma mb mc md me mf mg mh mi mj mk ml mn cI cZ n q c w z ev num plc sig pad row dig far cfr cby que has img kep) → va_S A Gs.heap H locs → ∀ ls : Array Slot, lv_has ls 8 [(2, .int (nI (10 ^ i))), (3, .int (nI i)), (0, .ref mo), (1, .int (zI a))] → W Gp Gl Ge (headSpec wsX9_filled ({ frames := 4, cells := 0, slots := 0, locals := 93 } : Room)).room Gs Gm ([.ref mo, .int (zI a)] : List Value).toArray Gw Gt Gc H locs 0 0 (MQ Gw (va_Qi (fun (r : Int32) (u : (Nat → Nat) × (Nat) × (Nat)) => r = zI (filB pad w plc q sig c 10 a)) (fun (u : (Nat → Nat) × (Nat) × (Nat)) t => va_P D vwCl (wM mo ma mb mc md me mf mg mh mi mj mk ml mn cI cZ n q c w u.2.1 u.2.2 num plc sig pad u.1 dig far cfr cby que has img kep) t.heap ∧ va_K D vwCl [(cI, .int), (cJ, .long), (cZ, .boolean)] t ∧ va_D A (wM mo ma mb mc md me mf mg mh mi mj mk ml mn cI cZ n q c w u.2.1 u.2.2 num plc sig pad u.1 dig far cfr cby que has img kep)) A) ([.ref mo, .int (zI a)] : List Value).toArray Gs 0 0 A) (F0 Gm 14 ls []) := by
      intro fu
      induction fu with
      | zero => intro i hi hfu; exact absurd hfu (Nat.not_lt_zero _)
      | succ fu ih14 =>
        intro i hi hfu H locs hP hD hS ls hl
        have h10 : 10 ^ i ≤ 10 ^ cq pad w := Nat.pow_le_pow_right (by omega) hi
        refine lv_iload_n gx gb dX9_filled_14 rfl (lv_at hl 1 rfl) ?_
        refine lv_aload_n gx gb dX9_filled_15 rfl (lv_at hl 2 rfl) ?_
        have hPc := hP.sub (ws' := wM mo ma mb mc md me mf mg mh mi mj mk ml mn cI cZ n q c w z ev num plc sig pad row dig far cfr cby que has img kep) [0, 1, 2, 3, 4, 5, 6, 7, 8, 9, 10, 11, 12, 13] rfl
        refine vp_callSi (W.runV (As := []) (rest := [.int (nI i)]) ⟨gx, gb, gml, gown, gts⟩ (kX9_opens Gl D cI cJ cZ mo ma mb mc md me mf mg mh mi mj mk ml mn n q c w z ev num plc sig pad row dig far cfr cby que has img kep  (by omega) (by omega)) (cwV 0 gts gX9_filled_X9_opens rfl rfl rfl (by decide +kernel) ⟨Nat.le_of_ble_eq_true rfl, Nat.le_of_ble_eq_true rfl⟩) ⟨fun a U g mk q => ⟨q.1, q.2.1, va_K.moved (u := U) (U := U.calling g mk a) (Vm.Alike.refl U.vm) q.2.2⟩, va_recv hK hPc (ci := 4) (q0 := 0) rfl rfl, fun U hU hW => ⟨rfl, by rw [hU]; exact hPc, va_K.moved hW.alike hK⟩⟩ rfl rfl hl.1 rfl (lv_room (Nat.le_of_ble_eq_true rfl)) dX9_filled_16 ⟨Nat.le_of_ble_eq_true rfl, Nat.le_of_ble_eq_true rfl⟩) (fun r hw => ?_)
        have hr16 := hw
        subst hr16
        refine lv_icmp_ge (tgt := 33) gx gb dX9_filled_19 (by decide) (fun c19 => ?_) (fun c19 => ?_)
        · skip
          rw [nI_leI (by omega) (by omega)] at c19
          have e9 : i = cq pad w := (by omega)
          subst e9
          have hl : lv_has ls 8 [(2, .int (nI (10 ^ cq pad w))), (3, .int (nI (cq pad w))), (0, .ref mo), (1, .int (zI a))] := hl
          refine lv_iconst (v := nI 0) gx gb dX9_filled_33 (by decide) ?_
          refine lv_istore_n (lv' := [(3, .int (nI 0)), (2, .int (nI (10 ^ cq pad w))), (0, .ref mo), (1, .int (zI a))]) gx gb dX9_filled_34 rfl hl (by decide) rfl (fun ls hl => ?_)
          refine lv_bipush (v := zI (-6)) gx gb dX9_filled_35 (by decide) ?_
          refine lv_istore (lv' := [(4, .int (zI (-6))), (3, .int (nI 0)), (2, .int (nI (10 ^ cq pad w))), (0, .ref mo), (1, .int (zI a))]) gx gb dX9_filled_37 hl (by decide) rfl (fun ls hl => ?_)
          refine lv_iconst (v := nI 0) gx gb dX9_filled_39 (by decide) ?_
          refine lv_istore (lv' := [(5, .int (nI 0)), (4, .int (zI (-6))), (3, .int (nI 0)), (2, .int (nI (10 ^ cq pad w))), (0, .ref mo), (1, .int (zI a))]) gx gb dX9_filled_40 hl (by decide) rfl (fun ls hl => ?_)
          have L42 : ∀ fu : Nat, ∀ (rw_ : Nat → Nat) (zz ee i n_ : Nat) (F_ : Int) (hi2 : i ≤ 10 ^ cq pad w) (hn_ : n_ = cnT (filX pad w plc q sig c 10) i) (hF : F_ = fsZ (filX pad w plc q sig c 10) i), (10 ^ cq pad w - i) < fu → ∀ (H : Heap) (locs : List Loc), va_P D vwCl (wM mo ma mb mc md me mf mg mh mi mj mk ml mn cI cZ n q c w zz ee num plc sig pad rw_ dig far cfr cby que has img kep) H → va_D A (wM mo ma mb mc md me mf mg mh mi mj mk ml mn cI cZ n q c w zz ee num plc sig pad rw_ dig far cfr cby que has img kep) → va_S A Gs.heap H locs → ∀ ls : Array Slot, lv_has ls 8 [(2, .int (nI (10 ^ cq pad w))), (3, .int (nI n_)), (4, .int (zI F_)), (5, .int (nI i)), (0, .ref mo), (1, .int (zI a))] → W Gp Gl Ge (headSpec wsX9_filled ({ frames := 4, cells := 0, slots := 0, locals := 93 } : Room)).room Gs Gm ([.ref mo, .int (zI a)] : List Value).toArray Gw Gt Gc H locs 0 0 (MQ Gw (va_Qi (fun (r : Int32) (u : (Nat → Nat) × (Nat) × (Nat)) => r = zI (filB pad w plc q sig c 10 a)) (fun (u : (Nat → Nat) × (Nat) × (Nat)) t => va_P D vwCl (wM mo ma mb mc md me mf mg mh mi mj mk ml mn cI cZ n q c w u.2.1 u.2.2 num plc sig pad u.1 dig far cfr cby que has img kep) t.heap ∧ va_K D vwCl [(cI, .int), (cJ, .long), (cZ, .boolean)] t ∧ va_D A (wM mo ma mb mc md me mf mg mh mi mj mk ml mn cI cZ n q c w u.2.1 u.2.2 num plc sig pad u.1 dig far cfr cby que has img kep)) A) ([.ref mo, .int (zI a)] : List Value).toArray Gs 0 0 A) (F0 Gm 42 ls []) := by
            intro fu
            induction fu with
            | zero => intro rw_ zz ee i n_ F_ hi2 hn_ hF hfu; exact absurd hfu (Nat.not_lt_zero _)
            | succ fu ih42 =>
              intro rw_ zz ee i n_ F_ hi2 hn_ hF hfu H locs hP hD hS ls hl
              have hcn := cnT_le (filX pad w plc q sig c 10) i
              have hfz := fsZ_bd (filX pad w plc q sig c 10) i
              refine lv_iload gx gb dX9_filled_42 (lv_at hl 3 rfl) ?_
              refine lv_iload_n gx gb dX9_filled_44 rfl (lv_at hl 0 rfl) ?_
              refine lv_icmp_ge (tgt := 168) gx gb dX9_filled_45 (by decide) (fun c45 => ?_) (fun c45 => ?_)
              · skip
                rw [nI_leI (by omega) (by omega)] at c45
                refine lv_iload_n gx gb dX9_filled_168 rfl (lv_at hl 5 rfl) ?_
                refine lv_iconst (v := zI (-1)) gx gb dX9_filled_169 (by decide) ?_
                refine lv_icmp_ne (tgt := 175) gx gb dX9_filled_170 (by decide) (fun c170 => ?_) (fun c170 => ?_)
                · skip
                  rw [zI_eq (by omega) (by omega) (by omega) (by omega)] at c170
                  refine lv_iload gx gb dX9_filled_175 (lv_at hl 2 rfl) ?_
                  refine lv_if_lt (tgt := 194) gx gb dX9_filled_177 (by decide) (fun c177 => ?_) (fun c177 => ?_)
                  · skip
                    rw [z0_lt (by omega) (by omega)] at c177
                    refine lv_bipush (v := zI (-6)) gx gb dX9_filled_194 (by decide) ?_
                    exact W.iret (v := zI (-6)) gx gb gr (fun t ht hW => ⟨⟨zI (-6), (rw_, zz, ee), rfl, (by first | (dsimp only; done) | ((try dsimp only); have hfc := fs_c (filX pad w plc q sig c 10) i; rw [← hF, ← hn_] at hfc; rw [filB, if_pos hf6, if_neg (by omega), if_neg (fun h9 => by rw [← (show i = 10 ^ cq pad w by omega), ← hn_] at h9; have := hfc.1; omega)])), by rw [ht]; exact hP, va_K.moved hW.alike hK, hD⟩, hS.F ht⟩) hS.2.2 dX9_filled_196
                  · skip
                    rw [z0_lt (by omega) (by omega)] at c177
                    refine lv_iload_n gx gb dX9_filled_180 rfl (lv_at hl 5 rfl) ?_
                    refine lv_iconst (v := nI 0) gx gb dX9_filled_181 (by decide) ?_
                    refine lv_aload_n gx gb dX9_filled_182 rfl (lv_at hl 4 rfl) ?_
                    have hPc := hP.sub (ws' := wM mo ma mb mc md me mf mg mh mi mj mk ml mn cI cZ n q c w zz ee num plc sig pad rw_ dig far cfr cby que has img kep) [0, 1, 2, 3, 4, 5, 6, 7, 8, 9, 10, 11, 12, 13] rfl
                    refine vp_callSi (W.runV (As := []) (rest := [.int (nI 0), .int (zI a)]) ⟨gx, gb, gml, gown, gts⟩ (kX9_opens Gl D cI cJ cZ mo ma mb mc md me mf mg mh mi mj mk ml mn n q c w zz ee num plc sig pad rw_ dig far cfr cby que has img kep  (by omega) (by omega)) (cwV 0 gts gX9_filled_X9_opens rfl rfl rfl (by decide +kernel) ⟨Nat.le_of_ble_eq_true rfl, Nat.le_of_ble_eq_true rfl⟩) ⟨fun a U g mk q => ⟨q.1, q.2.1, va_K.moved (u := U) (U := U.calling g mk a) (Vm.Alike.refl U.vm) q.2.2⟩, va_recv hK hPc (ci := 4) (q0 := 0) rfl rfl, fun U hU hW => ⟨rfl, by rw [hU]; exact hPc, va_K.moved hW.alike hK⟩⟩ rfl rfl hl.1 rfl (lv_room (Nat.le_of_ble_eq_true rfl)) dX9_filled_183 ⟨Nat.le_of_ble_eq_true rfl, Nat.le_of_ble_eq_true rfl⟩) (fun r hw => ?_)
                    have hr183 := hw
                    subst hr183
                    refine lv_iconst (v := nI 1) gx gb dX9_filled_186 (by decide) ?_
                    refine lv_isub gx gb dX9_filled_187 ?_
                    refine lv_evi (zI (((cq pad w : Nat) : Int) - ((1 : Nat) : Int))) (by rw [nI_zc (cq pad w), nI_zc 1]; exact zI_sub ((cq pad w : Nat) : Int) ((1 : Nat) : Int)) ?_
                    refine lv_evs [.int (zI (((cq pad w : Nat) : Int) - ((1 : Nat) : Int))), .int (zI ((0 : Nat) : Int)), .int (zI a)] (by simp only [nI_zc]) ?_
                    refine vp_callSi (W.runS (As := [.int (zI a), .int (zI ((0 : Nat) : Int)), .int (zI (((cq pad w : Nat) : Int) - ((1 : Nat) : Int)))]) (rest := []) ⟨gx, gb, gml, gown, gts⟩ (kX9_in Gl a ((0 : Nat) : Int) (((cq pad w : Nat) : Int) - ((1 : Nat) : Int)) (by omega) (by omega) (by omega) (by omega) (by omega) (by omega)) (va_cwS 3 gts gX9_filled_X9_in rfl rfl rfl (by decide +kernel) ⟨Nat.le_of_ble_eq_true rfl, Nat.le_of_ble_eq_true rfl⟩) ⟨fun _ _ _ _ h => h, fun U hU hW => ⟨rfl, trivial⟩⟩ rfl rfl hl.1 rfl (lv_room (Nat.le_of_ble_eq_true rfl)) dX9_filled_188 ⟨Nat.le_of_ble_eq_true rfl, Nat.le_of_ble_eq_true rfl⟩) (fun r hw => ?_)
                    have hr188 := hw
                    subst hr188
                    refine lv_if_ne (tgt := 197) gx gb dX9_filled_191 (by decide) (fun c191 => ?_) (fun c191 => ?_)
                    · skip
                      rw [b0_eq] at c191
                      simp only [decide_eq_false_iff_not, Decidable.not_not] at c191
                      have hi9 : i = 10 ^ cq pad w := (by omega)
                      have hfc := fs_c (filX pad w plc q sig c 10) i
                      rw [← hF, ← hn_] at hfc
                      have hn0 : n_ ≠ 0 := fun h9 => by have := hfc.1.mpr h9; omega
                      have hFN := hfc.2 hn0
                      obtain ⟨j, hj⟩ : ∃ j : Nat, a = (j : Int) := ⟨a.toNat, by omega⟩
                      rw [show zI a = nI j from by rw [hj, zI_nat]] at hl
                      have hl : lv_has ls 8 [(2, .int (nI (10 ^ cq pad w))), (3, .int (nI n_)), (4, .int (zI F_)), (5, .int (nI i)), (0, .ref mo), (1, .int (nI j))] := hl
                      refine lv_iload gx gb dX9_filled_197 (lv_at hl 2 rfl) ?_
                      refine lv_evi (nI F_.toNat) (by rw [← zI_nat]; congr 1; omega) ?_
                      refine lv_istore (lv' := [(5, .int (nI F_.toNat)), (2, .int (nI (10 ^ cq pad w))), (3, .int (nI n_)), (4, .int (zI F_)), (0, .ref mo), (1, .int (nI j))]) gx gb dX9_filled_199 hl (by decide) rfl (fun ls hl => ?_)
                      refine lv_aload_n gx gb dX9_filled_201 rfl (lv_at hl 4 rfl) ?_
                      have hPc := hP.sub (ws' := wM mo ma mb mc md me mf mg mh mi mj mk ml mn cI cZ n q c w zz ee num plc sig pad rw_ dig far cfr cby que has img kep) [0, 1, 2, 3, 4, 5, 6, 7, 8, 9, 10, 11, 12, 13] rfl
                      refine vp_callSi (W.runV (As := []) (rest := []) ⟨gx, gb, gml, gown, gts⟩ (kX9_opens Gl D cI cJ cZ mo ma mb mc md me mf mg mh mi mj mk ml mn n q c w zz ee num plc sig pad rw_ dig far cfr cby que has img kep  (by omega) (by omega)) (cwV 0 gts gX9_filled_X9_opens rfl rfl rfl (by decide +kernel) ⟨Nat.le_of_ble_eq_true rfl, Nat.le_of_ble_eq_true rfl⟩) ⟨fun a U g mk q => ⟨q.1, q.2.1, va_K.moved (u := U) (U := U.calling g mk a) (Vm.Alike.refl U.vm) q.2.2⟩, va_recv hK hPc (ci := 4) (q0 := 0) rfl rfl, fun U hU hW => ⟨rfl, by rw [hU]; exact hPc, va_K.moved hW.alike hK⟩⟩ rfl rfl hl.1 rfl (lv_room (Nat.le_of_ble_eq_true rfl)) dX9_filled_202 ⟨Nat.le_of_ble_eq_true rfl, Nat.le_of_ble_eq_true rfl⟩) (fun r hw => ?_)
                      have hr202 := hw
                      subst hr202
                      refine lv_iconst (v := nI 1) gx gb dX9_filled_205 (by decide) ?_
                      refine lv_isub gx gb dX9_filled_206 ?_
                      refine lv_evi (nI ((cq pad w) - 1)) (e_sub (by omega)) ?_
                      refine lv_istore (lv' := [(6, .int (nI ((cq pad w) - 1))), (5, .int (nI F_.toNat)), (2, .int (nI (10 ^ cq pad w))), (3, .int (nI n_)), (4, .int (zI F_)), (0, .ref mo), (1, .int (nI j))]) gx gb dX9_filled_207 hl (by decide) rfl (fun ls hl => ?_)
                      have L209 : ∀ fu : Nat, ∀ (l_ kk : Nat) (hl_ : l_ = F_.toNat / 10 ^ (cq pad w - 1 - kk)) (hk1 : j ≤ kk) (hk3 : kk + 1 ≤ cq pad w), kk < fu → ∀ (H : Heap) (locs : List Loc), va_P D vwCl (wM mo ma mb mc md me mf mg mh mi mj mk ml mn cI cZ n q c w zz ee num plc sig pad rw_ dig far cfr cby que has img kep) H → va_D A (wM mo ma mb mc md me mf mg mh mi mj mk ml mn cI cZ n q c w zz ee num plc sig pad rw_ dig far cfr cby que has img kep) → va_S A Gs.heap H locs → ∀ ls : Array Slot, lv_has ls 8 [(5, .int (nI l_)), (6, .int (nI kk)), (2, .int (nI (10 ^ cq pad w))), (3, .int (nI n_)), (4, .int (zI F_)), (0, .ref mo), (1, .int (nI j))] → W Gp Gl Ge (headSpec wsX9_filled ({ frames := 4, cells := 0, slots := 0, locals := 93 } : Room)).room Gs Gm ([.ref mo, .int (zI a)] : List Value).toArray Gw Gt Gc H locs 0 0 (MQ Gw (va_Qi (fun (r : Int32) (u : (Nat → Nat) × (Nat) × (Nat)) => r = zI (filB pad w plc q sig c 10 a)) (fun (u : (Nat → Nat) × (Nat) × (Nat)) t => va_P D vwCl (wM mo ma mb mc md me mf mg mh mi mj mk ml mn cI cZ n q c w u.2.1 u.2.2 num plc sig pad u.1 dig far cfr cby que has img kep) t.heap ∧ va_K D vwCl [(cI, .int), (cJ, .long), (cZ, .boolean)] t ∧ va_D A (wM mo ma mb mc md me mf mg mh mi mj mk ml mn cI cZ n q c w u.2.1 u.2.2 num plc sig pad u.1 dig far cfr cby que has img kep)) A) ([.ref mo, .int (zI a)] : List Value).toArray Gs 0 0 A) (F0 Gm 209 ls []) := by
                        intro fu
                        induction fu with
                        | zero => intro l_ kk hl_ hk1 hk3 hfu; exact absurd hfu (Nat.not_lt_zero _)
                        | succ fu ih209 =>
                          intro l_ kk hl_ hk1 hk3 hfu H locs hP hD hS ls hl
                          have hlb : l_ ≤ 1000 := by rw [hl_]; exact Nat.le_trans (Nat.div_le_self _ _) (by omega)
                          refine lv_iload gx gb dX9_filled_209 (lv_at hl 1 rfl) ?_
                          refine lv_iload_n gx gb dX9_filled_211 rfl (lv_at hl 6 rfl) ?_
                          refine lv_icmp_le (tgt := 228) gx gb dX9_filled_212 (by decide) (fun c212 => ?_) (fun c212 => ?_)
                          · skip
                            rw [nI_leI (by omega) (by omega)] at c212
                            refine lv_iload gx gb dX9_filled_228 (lv_at hl 0 rfl) ?_
                            refine lv_bipush (v := nI 10) gx gb dX9_filled_230 (by decide) ?_
                            refine lv_irem gx gb dX9_filled_232 (nI_ne0 (by omega) (by omega)) ?_
                            refine lv_evi (nI (l_ % 10)) (e_rem (by omega) (by omega) (by omega)) ?_
                            exact W.iret (v := nI (l_ % 10)) gx gb gr (fun t ht hW => ⟨⟨nI (l_ % 10), (rw_, zz, ee), rfl, (by first | (dsimp only; done) | ((try dsimp only); rw [filB, if_pos hf6, if_neg (by omega), ← hi9, ← hn_, if_pos ⟨by omega, by omega, hn0⟩, zI_nat, hj, show (j : Int).toNat = j from rfl, dg]; rw [hl_, hFN, show kk = j by omega]; rfl)), by rw [ht]; exact hP, va_K.moved hW.alike hK, hD⟩, hS.F ht⟩) hS.2.2 dX9_filled_233
                          · skip
                            rw [nI_leI (by omega) (by omega)] at c212
                            refine lv_iload gx gb dX9_filled_215 (lv_at hl 0 rfl) ?_
                            refine lv_bipush (v := nI 10) gx gb dX9_filled_217 (by decide) ?_
                            refine lv_idiv gx gb dX9_filled_219 (nI_ne0 (by omega) (by omega)) ?_
                            refine lv_evi (nI (l_ / 10)) (e_div (by omega) (by omega) (by omega)) ?_
                            refine lv_istore (lv' := [(5, .int (nI (l_ / 10))), (6, .int (nI kk)), (2, .int (nI (10 ^ cq pad w))), (3, .int (nI n_)), (4, .int (zI F_)), (0, .ref mo), (1, .int (nI j))]) gx gb dX9_filled_220 hl (by decide) rfl (fun ls hl => ?_)
                            refine lv_iinc (v := nI (kk - 1)) (lv' := [(6, .int (nI (kk - 1))), (5, .int (nI (l_ / 10))), (2, .int (nI (10 ^ cq pad w))), (3, .int (nI n_)), (4, .int (zI F_)), (0, .ref mo), (1, .int (nI j))]) gx gb dX9_filled_222 hl (k := 1) rfl (e_dec1 (by omega)) (by decide) rfl (fun ls hl => ?_)
                            refine lv_goto (tgt := 209) gx gb dX9_filled_225 (by decide) ?_
                            exact ih209 (l_ / 10) (kk - 1) (by rw [hl_, dg_qs, show cq pad w - 1 - kk + 1 = cq pad w - 1 - (kk - 1) by omega]) (by omega) (by omega) (by omega) _ _ hP hD hS ls (lv_sub hl [1, 0, 2, 3, 4, 5, 6] rfl)
                      exact L209 _ F_.toNat ((cq pad w) - 1) (by rw [Nat.sub_self, Nat.pow_zero, Nat.div_one]) (by omega) (by omega) (Nat.lt_succ_self _) _ _ hP hD hS ls (lv_sub hl [1, 0, 2, 3, 4, 5, 6] rfl)
                    · skip
                      rw [b0_eq] at c191
                      simp only [decide_eq_false_iff_not, Decidable.not_not] at c191
                      refine lv_bipush (v := zI (-6)) gx gb dX9_filled_194 (by decide) ?_
                      exact W.iret (v := zI (-6)) gx gb gr (fun t ht hW => ⟨⟨zI (-6), (rw_, zz, ee), rfl, (by first | (dsimp only; done) | ((try dsimp only); have hfc := fs_c (filX pad w plc q sig c 10) i; rw [← hF, ← hn_] at hfc; rw [filB, if_pos hf6, if_neg (by omega), if_neg (fun h9 => by rw [← (show i = 10 ^ cq pad w by omega), ← hn_] at h9; have := hfc.1; omega)])), by rw [ht]; exact hP, va_K.moved hW.alike hK, hD⟩, hS.F ht⟩) hS.2.2 dX9_filled_196
                · skip
                  rw [zI_eq (by omega) (by omega) (by omega) (by omega)] at c170
                  refine lv_iload_n gx gb dX9_filled_173 rfl (lv_at hl 1 rfl) ?_
                  exact W.iret (v := nI n_) gx gb gr (fun t ht hW => ⟨⟨nI n_, (rw_, zz, ee), rfl, (by first | (dsimp only; done) | ((try dsimp only); rw [filB, if_pos hf6, if_pos (by omega), ← (show i = 10 ^ cq pad w by omega), ← hn_, zI_nat])), by rw [ht]; exact hP, va_K.moved hW.alike hK, hD⟩, hS.F ht⟩) hS.2.2 dX9_filled_174
              · skip
                rw [nI_leI (by omega) (by omega)] at c45
                refine lv_aload_n gx gb dX9_filled_48 rfl (lv_at hl 4 rfl) ?_
                refine lv_iload gx gb dX9_filled_49 (lv_at hl 3 rfl) ?_
                have hPc := hP.sub (ws' := wM mo ma mb mc md me mf mg mh mi mj mk ml mn cI cZ n q c w zz ee num plc sig pad rw_ dig far cfr cby que has img kep) [0, 1, 2, 3, 4, 5, 6, 7, 8, 9, 10, 11, 12, 13] rfl
                have hDc := hD.sub (ws' := wM mo ma mb mc md me mf mg mh mi mj mk ml mn cI cZ n q c w zz ee num plc sig pad rw_ dig far cfr cby que has img kep) [0, 1, 2, 3, 4, 5, 6, 7, 8, 9, 10, 11, 12, 13] (by decide) rfl
                have hFc := va_free (wc := wM mo ma mb mc md me mf mg mh mi mj mk ml mn cI cZ n q c w zz ee num plc sig pad rw_ dig far cfr cby que has img kep) hD hS hA [0, 1, 2, 3, 4, 5, 6, 7, 8, 9, 10, 11, 12, 13] rfl
                refine va_calli (va_runV (As := [.int (nI i)]) (rest := []) ⟨gx, gb, gml, gown, gts⟩ (kX9_goDay Gl D cI cJ cZ mo ma mb mc md me mf mg mh mi mj mk ml mn n q c w zz ee num plc sig pad rw_ dig far cfr cby que has img kep _ i (evn pad w) (by omega) (by omega) (by exact hwf) (by omega) (by omega) (by omega) (by omega)) (cwV 1 gts gX9_filled_X9_goDay rfl rfl rfl (by decide +kernel) ⟨Nat.le_of_ble_eq_true rfl, Nat.le_of_ble_eq_true rfl⟩) ⟨fun a U g mk q => by obtain ⟨q0, q1, qP, qK, qD⟩ := q; exact ⟨q0, q1, qP, va_K.moved (u := U) (U := U.calling g mk a) (Vm.Alike.refl U.vm) qK, qD⟩, va_recv hK hPc (ci := 4) (q0 := 0) rfl rfl, fun U hU hW => ⟨rfl, by rw [hU], by rw [hU]; exact hPc, va_K.moved hW.alike hK, hDc.weaken (fun _ _ _ _ => trivial)⟩⟩ rfl rfl hl.1 rfl (lv_room (Nat.le_of_ble_eq_true rfl)) dX9_filled_51 ⟨Nat.le_of_ble_eq_true rfl, Nat.le_of_ble_eq_true rfl⟩) hS (fun q _ h => hFc q h) hFc (fun r u t H1 locs ht hvm hw hB hz1 hk1 hS => ?_)
                obtain ⟨hP1, hK1, hD1⟩ := hB
                rw [ht] at hP1
                try dsimp only at hw
                try dsimp only at hP1
                try dsimp only at hD1
                have hK := va_K.moved hvm.symm hK1
                obtain ⟨hP, hD⟩ := va_join (wr := []) (w1 := wM mo ma mb mc md me mf mg mh mi mj mk ml mn cI cZ n q c w ((dst (fun j => i / 10 ^ (cq pad w - 1 - j) % 10) pad (cpy plc rw_ 7) q (dayN (fun j => i / 10 ^ (cq pad w - 1 - j) % 10) pad (cpy plc rw_ 7) q (evn pad w))).2) (dayN (fun j => i / 10 ^ (cq pad w - 1 - j) % 10) pad (cpy plc rw_ 7) q (evn pad w)) num plc sig pad ((dst (fun j => i / 10 ^ (cq pad w - 1 - j) % 10) pad (cpy plc rw_ 7) q (dayN (fun j => i / 10 ^ (cq pad w - 1 - j) % 10) pad (cpy plc rw_ 7) q (evn pad w))).1) dig far cfr cby que has img kep) hP hD [0, 1, 2, 3, 4, 5, 6, 7, 8, 9, 10, 11, 12, 13] [] rfl rfl (by decide) (by decide) hk1 hFc hP1 hD1
                have hP := hP.sub (ws' := wM mo ma mb mc md me mf mg mh mi mj mk ml mn cI cZ n q c w ((dst (fun j => i / 10 ^ (cq pad w - 1 - j) % 10) pad (cpy plc rw_ 7) q (dayN (fun j => i / 10 ^ (cq pad w - 1 - j) % 10) pad (cpy plc rw_ 7) q (evn pad w))).2) (dayN (fun j => i / 10 ^ (cq pad w - 1 - j) % 10) pad (cpy plc rw_ 7) q (evn pad w)) num plc sig pad ((dst (fun j => i / 10 ^ (cq pad w - 1 - j) % 10) pad (cpy plc rw_ 7) q (dayN (fun j => i / 10 ^ (cq pad w - 1 - j) % 10) pad (cpy plc rw_ 7) q (evn pad w))).1) dig far cfr cby que has img kep) [0, 1, 2, 3, 4, 5, 6, 7, 8, 9, 10, 11, 12, 13] rfl
                have hD := hD.sub (ws' := wM mo ma mb mc md me mf mg mh mi mj mk ml mn cI cZ n q c w ((dst (fun j => i / 10 ^ (cq pad w - 1 - j) % 10) pad (cpy plc rw_ 7) q (dayN (fun j => i / 10 ^ (cq pad w - 1 - j) % 10) pad (cpy plc rw_ 7) q (evn pad w))).2) (dayN (fun j => i / 10 ^ (cq pad w - 1 - j) % 10) pad (cpy plc rw_ 7) q (evn pad w)) num plc sig pad ((dst (fun j => i / 10 ^ (cq pad w - 1 - j) % 10) pad (cpy plc rw_ 7) q (dayN (fun j => i / 10 ^ (cq pad w - 1 - j) % 10) pad (cpy plc rw_ 7) q (evn pad w))).1) dig far cfr cby que has img kep) [0, 1, 2, 3, 4, 5, 6, 7, 8, 9, 10, 11, 12, 13] (by decide) rfl
                have hK := va_K.moved (Vm.Alike.refl Gs.vm) hK
                generalize H1 = H at hP hS ⊢
                have hr51 := hw
                subst hr51
                refine lv_evi (zI (dayZ (fun j => i / 10 ^ (cq pad w - 1 - j) % 10) pad plc q (evn pad w))) (congrArg zI (dayZ_f (fun j => i / 10 ^ (cq pad w - 1 - j) % 10) pad _ plc q _)) ?_
                have L62 : ∀ (f : Bool) (hf1 : f = decide (dayZ (fun j => i / 10 ^ (cq pad w - 1 - j) % 10) pad plc q (evn pad w) = -6)), ∀ (H : Heap) (locs : List Loc), va_P D vwCl (wM mo ma mb mc md me mf mg mh mi mj mk ml mn cI cZ n q c w ((dst (fun j => i / 10 ^ (cq pad w - 1 - j) % 10) pad (cpy plc rw_ 7) q (dayN (fun j => i / 10 ^ (cq pad w - 1 - j) % 10) pad (cpy plc rw_ 7) q (evn pad w))).2) (dayN (fun j => i / 10 ^ (cq pad w - 1 - j) % 10) pad (cpy plc rw_ 7) q (evn pad w)) num plc sig pad ((dst (fun j => i / 10 ^ (cq pad w - 1 - j) % 10) pad (cpy plc rw_ 7) q (dayN (fun j => i / 10 ^ (cq pad w - 1 - j) % 10) pad (cpy plc rw_ 7) q (evn pad w))).1) dig far cfr cby que has img kep) H → va_D A (wM mo ma mb mc md me mf mg mh mi mj mk ml mn cI cZ n q c w ((dst (fun j => i / 10 ^ (cq pad w - 1 - j) % 10) pad (cpy plc rw_ 7) q (dayN (fun j => i / 10 ^ (cq pad w - 1 - j) % 10) pad (cpy plc rw_ 7) q (evn pad w))).2) (dayN (fun j => i / 10 ^ (cq pad w - 1 - j) % 10) pad (cpy plc rw_ 7) q (evn pad w)) num plc sig pad ((dst (fun j => i / 10 ^ (cq pad w - 1 - j) % 10) pad (cpy plc rw_ 7) q (dayN (fun j => i / 10 ^ (cq pad w - 1 - j) % 10) pad (cpy plc rw_ 7) q (evn pad w))).1) dig far cfr cby que has img kep) → va_S A Gs.heap H locs → ∀ ls : Array Slot, lv_has ls 8 [(2, .int (nI (10 ^ cq pad w))), (3, .int (nI n_)), (4, .int (zI F_)), (5, .int (nI i)), (0, .ref mo), (1, .int (zI a))] → W Gp Gl Ge (headSpec wsX9_filled ({ frames := 4, cells := 0, slots := 0, locals := 93 } : Room)).room Gs Gm ([.ref mo, .int (zI a)] : List Value).toArray Gw Gt Gc H locs 0 0 (MQ Gw (va_Qi (fun (r : Int32) (u : (Nat → Nat) × (Nat) × (Nat)) => r = zI (filB pad w plc q sig c 10 a)) (fun (u : (Nat → Nat) × (Nat) × (Nat)) t => va_P D vwCl (wM mo ma mb mc md me mf mg mh mi mj mk ml mn cI cZ n q c w u.2.1 u.2.2 num plc sig pad u.1 dig far cfr cby que has img kep) t.heap ∧ va_K D vwCl [(cI, .int), (cJ, .long), (cZ, .boolean)] t ∧ va_D A (wM mo ma mb mc md me mf mg mh mi mj mk ml mn cI cZ n q c w u.2.1 u.2.2 num plc sig pad u.1 dig far cfr cby que has img kep)) A) ([.ref mo, .int (zI a)] : List Value).toArray Gs 0 0 A) (F0 Gm 62 ls [.int (bI f)]) := by
                  intro f hf1 H locs hP hD hS ls hl
                  refine lv_istore (lv' := [(6, .int (bI f)), (2, .int (nI (10 ^ cq pad w))), (3, .int (nI n_)), (4, .int (zI F_)), (5, .int (nI i)), (0, .ref mo), (1, .int (zI a))]) gx gb dX9_filled_62 hl (by decide) rfl (fun ls hl => ?_)
                  have L140 : ∀ (f3 : Bool) (hf3 : f3 = filX pad w plc q sig c 10 i), ∀ (H : Heap) (locs : List Loc), va_P D vwCl (wM mo ma mb mc md me mf mg mh mi mj mk ml mn cI cZ n q c w ((dst (fun j => i / 10 ^ (cq pad w - 1 - j) % 10) pad (cpy plc rw_ 7) q (dayN (fun j => i / 10 ^ (cq pad w - 1 - j) % 10) pad (cpy plc rw_ 7) q (evn pad w))).2) (dayN (fun j => i / 10 ^ (cq pad w - 1 - j) % 10) pad (cpy plc rw_ 7) q (evn pad w)) num plc sig pad ((dst (fun j => i / 10 ^ (cq pad w - 1 - j) % 10) pad (cpy plc rw_ 7) q (dayN (fun j => i / 10 ^ (cq pad w - 1 - j) % 10) pad (cpy plc rw_ 7) q (evn pad w))).1) dig far cfr cby que has img kep) H → va_D A (wM mo ma mb mc md me mf mg mh mi mj mk ml mn cI cZ n q c w ((dst (fun j => i / 10 ^ (cq pad w - 1 - j) % 10) pad (cpy plc rw_ 7) q (dayN (fun j => i / 10 ^ (cq pad w - 1 - j) % 10) pad (cpy plc rw_ 7) q (evn pad w))).2) (dayN (fun j => i / 10 ^ (cq pad w - 1 - j) % 10) pad (cpy plc rw_ 7) q (evn pad w)) num plc sig pad ((dst (fun j => i / 10 ^ (cq pad w - 1 - j) % 10) pad (cpy plc rw_ 7) q (dayN (fun j => i / 10 ^ (cq pad w - 1 - j) % 10) pad (cpy plc rw_ 7) q (evn pad w))).1) dig far cfr cby que has img kep) → va_S A Gs.heap H locs → ∀ ls : Array Slot, lv_has ls 8 [(6, .int (bI f3)), (2, .int (nI (10 ^ cq pad w))), (3, .int (nI n_)), (4, .int (zI F_)), (5, .int (nI i)), (0, .ref mo), (1, .int (zI a))] → W Gp Gl Ge (headSpec wsX9_filled ({ frames := 4, cells := 0, slots := 0, locals := 93 } : Room)).room Gs Gm ([.ref mo, .int (zI a)] : List Value).toArray Gw Gt Gc H locs 0 0 (MQ Gw (va_Qi (fun (r : Int32) (u : (Nat → Nat) × (Nat) × (Nat)) => r = zI (filB pad w plc q sig c 10 a)) (fun (u : (Nat → Nat) × (Nat) × (Nat)) t => va_P D vwCl (wM mo ma mb mc md me mf mg mh mi mj mk ml mn cI cZ n q c w u.2.1 u.2.2 num plc sig pad u.1 dig far cfr cby que has img kep) t.heap ∧ va_K D vwCl [(cI, .int), (cJ, .long), (cZ, .boolean)] t ∧ va_D A (wM mo ma mb mc md me mf mg mh mi mj mk ml mn cI cZ n q c w u.2.1 u.2.2 num plc sig pad u.1 dig far cfr cby que has img kep)) A) ([.ref mo, .int (zI a)] : List Value).toArray Gs 0 0 A) (F0 Gm 140 ls []) := by
                    intro f3 hf3 H locs hP hD hS ls hl
                    refine lv_iload gx gb dX9_filled_140 (lv_at hl 0 rfl) ?_
                    refine lv_if_eq (tgt := 162) gx gb dX9_filled_142 (by decide) (fun c142 => ?_) (fun c142 => ?_)
                    · skip
                      rw [b0_eq] at c142
                      refine lv_iinc (v := nI (i + 1)) (lv' := [(5, .int (nI (i + 1))), (6, .int (bI f3)), (2, .int (nI (10 ^ cq pad w))), (3, .int (nI n_)), (4, .int (zI F_)), (0, .ref mo), (1, .int (zI a))]) gx gb dX9_filled_162 hl (k := 4) rfl (nI_add i 1) (by decide) rfl (fun ls hl => ?_)
                      refine lv_goto (tgt := 42) gx gb dX9_filled_165 (by decide) ?_
                      exact ih42 ((dst (fun j => i / 10 ^ (cq pad w - 1 - j) % 10) pad (cpy plc rw_ 7) q (dayN (fun j => i / 10 ^ (cq pad w - 1 - j) % 10) pad (cpy plc rw_ 7) q (evn pad w))).1) ((dst (fun j => i / 10 ^ (cq pad w - 1 - j) % 10) pad (cpy plc rw_ 7) q (dayN (fun j => i / 10 ^ (cq pad w - 1 - j) % 10) pad (cpy plc rw_ 7) q (evn pad w))).2) (dayN (fun j => i / 10 ^ (cq pad w - 1 - j) % 10) pad (cpy plc rw_ 7) q (evn pad w)) (i + 1) n_ F_ (by omega) (by first | (rw [cnT, ← hf3, c142, hn_]; rfl) | (rw [cnT, ← hf3, if_neg (by rw [c142]; decide), hn_]; rfl)) (by first | (rw [fsZ, ← hf3, hxx, hF]; by_cases h9 : fsZ (filX pad w plc q sig c 10) i < 0; (rw [if_pos h9, if_pos ⟨h9, c142⟩]); (rw [if_neg h9, if_neg (fun hh => h9 hh.1)])) | (rw [fsZ, ← hf3, if_neg (fun hh => by rw [c142] at hh; cases hh.2), hF])) (by omega) _ _ hP hD hS ls (lv_sub hl [2, 3, 4, 0, 5, 6] rfl)
                    · skip
                      rw [b0_eq] at c142
                      have c142 := nf_t c142
                      have L157 : ∀ (x : Int) (hxx : x = if F_ < 0 then ((i : Nat) : Int) else F_), ∀ (H : Heap) (locs : List Loc), va_P D vwCl (wM mo ma mb mc md me mf mg mh mi mj mk ml mn cI cZ n q c w ((dst (fun j => i / 10 ^ (cq pad w - 1 - j) % 10) pad (cpy plc rw_ 7) q (dayN (fun j => i / 10 ^ (cq pad w - 1 - j) % 10) pad (cpy plc rw_ 7) q (evn pad w))).2) (dayN (fun j => i / 10 ^ (cq pad w - 1 - j) % 10) pad (cpy plc rw_ 7) q (evn pad w)) num plc sig pad ((dst (fun j => i / 10 ^ (cq pad w - 1 - j) % 10) pad (cpy plc rw_ 7) q (dayN (fun j => i / 10 ^ (cq pad w - 1 - j) % 10) pad (cpy plc rw_ 7) q (evn pad w))).1) dig far cfr cby que has img kep) H → va_D A (wM mo ma mb mc md me mf mg mh mi mj mk ml mn cI cZ n q c w ((dst (fun j => i / 10 ^ (cq pad w - 1 - j) % 10) pad (cpy plc rw_ 7) q (dayN (fun j => i / 10 ^ (cq pad w - 1 - j) % 10) pad (cpy plc rw_ 7) q (evn pad w))).2) (dayN (fun j => i / 10 ^ (cq pad w - 1 - j) % 10) pad (cpy plc rw_ 7) q (evn pad w)) num plc sig pad ((dst (fun j => i / 10 ^ (cq pad w - 1 - j) % 10) pad (cpy plc rw_ 7) q (dayN (fun j => i / 10 ^ (cq pad w - 1 - j) % 10) pad (cpy plc rw_ 7) q (evn pad w))).1) dig far cfr cby que has img kep) → va_S A Gs.heap H locs → ∀ ls : Array Slot, lv_has ls 8 [(6, .int (bI f3)), (2, .int (nI (10 ^ cq pad w))), (3, .int (nI n_)), (4, .int (zI F_)), (5, .int (nI i)), (0, .ref mo), (1, .int (zI a))] → W Gp Gl Ge (headSpec wsX9_filled ({ frames := 4, cells := 0, slots := 0, locals := 93 } : Room)).room Gs Gm ([.ref mo, .int (zI a)] : List Value).toArray Gw Gt Gc H locs 0 0 (MQ Gw (va_Qi (fun (r : Int32) (u : (Nat → Nat) × (Nat) × (Nat)) => r = zI (filB pad w plc q sig c 10 a)) (fun (u : (Nat → Nat) × (Nat) × (Nat)) t => va_P D vwCl (wM mo ma mb mc md me mf mg mh mi mj mk ml mn cI cZ n q c w u.2.1 u.2.2 num plc sig pad u.1 dig far cfr cby que has img kep) t.heap ∧ va_K D vwCl [(cI, .int), (cJ, .long), (cZ, .boolean)] t ∧ va_D A (wM mo ma mb mc md me mf mg mh mi mj mk ml mn cI cZ n q c w u.2.1 u.2.2 num plc sig pad u.1 dig far cfr cby que has img kep)) A) ([.ref mo, .int (zI a)] : List Value).toArray Gs 0 0 A) (F0 Gm 157 ls [.int (zI x)]) := by
                        intro x hxx H locs hP hD hS ls hl
                        refine lv_istore (lv' := [(4, .int (zI x)), (6, .int (bI f3)), (2, .int (nI (10 ^ cq pad w))), (3, .int (nI n_)), (5, .int (nI i)), (0, .ref mo), (1, .int (zI a))]) gx gb dX9_filled_157 hl (by decide) rfl (fun ls hl => ?_)
                        refine lv_iinc (v := nI (n_ + 1)) (lv' := [(3, .int (nI (n_ + 1))), (4, .int (zI x)), (6, .int (bI f3)), (2, .int (nI (10 ^ cq pad w))), (5, .int (nI i)), (0, .ref mo), (1, .int (zI a))]) gx gb dX9_filled_159 hl (k := 3) rfl (nI_add n_ 1) (by decide) rfl (fun ls hl => ?_)
                        refine lv_iinc (v := nI (i + 1)) (lv' := [(5, .int (nI (i + 1))), (3, .int (nI (n_ + 1))), (4, .int (zI x)), (6, .int (bI f3)), (2, .int (nI (10 ^ cq pad w))), (0, .ref mo), (1, .int (zI a))]) gx gb dX9_filled_162 hl (k := 4) rfl (nI_add i 1) (by decide) rfl (fun ls hl => ?_)
                        refine lv_goto (tgt := 42) gx gb dX9_filled_165 (by decide) ?_
                        exact ih42 ((dst (fun j => i / 10 ^ (cq pad w - 1 - j) % 10) pad (cpy plc rw_ 7) q (dayN (fun j => i / 10 ^ (cq pad w - 1 - j) % 10) pad (cpy plc rw_ 7) q (evn pad w))).1) ((dst (fun j => i / 10 ^ (cq pad w - 1 - j) % 10) pad (cpy plc rw_ 7) q (dayN (fun j => i / 10 ^ (cq pad w - 1 - j) % 10) pad (cpy plc rw_ 7) q (evn pad w))).2) (dayN (fun j => i / 10 ^ (cq pad w - 1 - j) % 10) pad (cpy plc rw_ 7) q (evn pad w)) (i + 1) (n_ + 1) x (by omega) (by first | (rw [cnT, ← hf3, c142, hn_]; rfl) | (rw [cnT, ← hf3, if_neg (by rw [c142]; decide), hn_]; rfl)) (by first | (rw [fsZ, ← hf3, hxx, hF]; by_cases h9 : fsZ (filX pad w plc q sig c 10) i < 0; (rw [if_pos h9, if_pos ⟨h9, c142⟩]); (rw [if_neg h9, if_neg (fun hh => h9 hh.1)])) | (rw [fsZ, ← hf3, if_neg (fun hh => by rw [c142] at hh; cases hh.2), hF])) (by omega) _ _ hP hD hS ls (lv_sub hl [4, 1, 2, 0, 5, 6] rfl)
                      refine lv_iload gx gb dX9_filled_145 (lv_at hl 3 rfl) ?_
                      refine lv_if_ge (tgt := 155) gx gb dX9_filled_147 (by decide) (fun c147 => ?_) (fun c147 => ?_)
                      · skip
                        rw [z0_ge (by omega) (by omega)] at c147
                        refine lv_iload gx gb dX9_filled_155 (lv_at hl 3 rfl) ?_
                        exact L157 F_ (by first | rw [if_pos (by omega)] | rw [if_neg (by omega)]) _ _ hP hD hS ls (lv_sub hl [0, 1, 2, 3, 4, 5, 6] rfl)
                      · skip
                        rw [z0_ge (by omega) (by omega)] at c147
                        refine lv_iload gx gb dX9_filled_150 (lv_at hl 4 rfl) ?_
                        refine lv_goto (tgt := 157) gx gb dX9_filled_152 (by decide) ?_
                        refine lv_evs [.int (zI ((i : Nat) : Int))] (by simp only [nI_zc]) ?_
                        exact L157 ((i : Nat) : Int) (by first | rw [if_pos (by omega)] | rw [if_neg (by omega)]) _ _ hP hD hS ls (lv_sub hl [0, 1, 2, 3, 4, 5, 6] rfl)
                  refine lv_iconst (v := nI 0) gx gb dX9_filled_64 (by decide) ?_
                  refine lv_istore (lv' := [(7, .int (nI 0)), (6, .int (bI f)), (2, .int (nI (10 ^ cq pad w))), (3, .int (nI n_)), (4, .int (zI F_)), (5, .int (nI i)), (0, .ref mo), (1, .int (zI a))]) gx gb dX9_filled_65 hl (by decide) rfl (fun ls hl => ?_)
                  have L67 : ∀ fu : Nat, ∀ (fb : Bool) (k : Nat) (hk : k ≤ c) (hk2 : fb = true ↔ (dayZ (fun j => i / 10 ^ (cq pad w - 1 - j) % 10) pad plc q (evn pad w) = -6 ∧ ∀ x, x < k → sig (2 * x + 1) < (dst (fun j => i / 10 ^ (cq pad w - 1 - j) % 10) pad plc q (evn pad w)).2 ∧ (dst (fun j => i / 10 ^ (cq pad w - 1 - j) % 10) pad plc q (evn pad w)).1 (sig (2 * x + 1)) = sig (2 * x))), (c - k) < fu → ∀ (H : Heap) (locs : List Loc), va_P D vwCl (wM mo ma mb mc md me mf mg mh mi mj mk ml mn cI cZ n q c w ((dst (fun j => i / 10 ^ (cq pad w - 1 - j) % 10) pad (cpy plc rw_ 7) q (dayN (fun j => i / 10 ^ (cq pad w - 1 - j) % 10) pad (cpy plc rw_ 7) q (evn pad w))).2) (dayN (fun j => i / 10 ^ (cq pad w - 1 - j) % 10) pad (cpy plc rw_ 7) q (evn pad w)) num plc sig pad ((dst (fun j => i / 10 ^ (cq pad w - 1 - j) % 10) pad (cpy plc rw_ 7) q (dayN (fun j => i / 10 ^ (cq pad w - 1 - j) % 10) pad (cpy plc rw_ 7) q (evn pad w))).1) dig far cfr cby que has img kep) H → va_D A (wM mo ma mb mc md me mf mg mh mi mj mk ml mn cI cZ n q c w ((dst (fun j => i / 10 ^ (cq pad w - 1 - j) % 10) pad (cpy plc rw_ 7) q (dayN (fun j => i / 10 ^ (cq pad w - 1 - j) % 10) pad (cpy plc rw_ 7) q (evn pad w))).2) (dayN (fun j => i / 10 ^ (cq pad w - 1 - j) % 10) pad (cpy plc rw_ 7) q (evn pad w)) num plc sig pad ((dst (fun j => i / 10 ^ (cq pad w - 1 - j) % 10) pad (cpy plc rw_ 7) q (dayN (fun j => i / 10 ^ (cq pad w - 1 - j) % 10) pad (cpy plc rw_ 7) q (evn pad w))).1) dig far cfr cby que has img kep) → va_S A Gs.heap H locs → ∀ ls : Array Slot, lv_has ls 8 [(6, .int (bI fb)), (7, .int (nI k)), (2, .int (nI (10 ^ cq pad w))), (3, .int (nI n_)), (4, .int (zI F_)), (5, .int (nI i)), (0, .ref mo), (1, .int (zI a))] → W Gp Gl Ge (headSpec wsX9_filled ({ frames := 4, cells := 0, slots := 0, locals := 93 } : Room)).room Gs Gm ([.ref mo, .int (zI a)] : List Value).toArray Gw Gt Gc H locs 0 0 (MQ Gw (va_Qi (fun (r : Int32) (u : (Nat → Nat) × (Nat) × (Nat)) => r = zI (filB pad w plc q sig c 10 a)) (fun (u : (Nat → Nat) × (Nat) × (Nat)) t => va_P D vwCl (wM mo ma mb mc md me mf mg mh mi mj mk ml mn cI cZ n q c w u.2.1 u.2.2 num plc sig pad u.1 dig far cfr cby que has img kep) t.heap ∧ va_K D vwCl [(cI, .int), (cJ, .long), (cZ, .boolean)] t ∧ va_D A (wM mo ma mb mc md me mf mg mh mi mj mk ml mn cI cZ n q c w u.2.1 u.2.2 num plc sig pad u.1 dig far cfr cby que has img kep)) A) ([.ref mo, .int (zI a)] : List Value).toArray Gs 0 0 A) (F0 Gm 67 ls []) := by
                    intro fu
                    induction fu with
                    | zero => intro fb k hk hk2 hfu; exact absurd hfu (Nat.not_lt_zero _)
                    | succ fu ih67 =>
                      intro fb k hk hk2 hfu H locs hP hD hS ls hl
                      refine lv_iload gx gb dX9_filled_67 (lv_at hl 1 rfl) ?_
                      refine lv_aload_n gx gb dX9_filled_69 rfl (lv_at hl 6 rfl) ?_
                      refine va_get (D := D) (ci := 4) (v := .int (nI c)) (C := RX9) (T := TX9) (N := 19) gx gb gts i9 gown hK hP 0 rfl rfl 4 (by decide) (gts (.fieldLink RX9 60 "SwanSumsModel" "sights" "I") (by decide +kernel)) (fun _ h9 => h9) rfl dX9_filled_70 ?_
                      refine lv_icmp_ge (tgt := 140) gx gb dX9_filled_73 (by decide) (fun c73 => ?_) (fun c73 => ?_)
                      · skip
                        rw [nI_leI (by omega) (by omega)] at c73
                        exact L140 fb (by first | exact Bool.eq_iff_iff.mpr (hk2.trans ⟨fun h9 => filX_t h9.1 (fun x hx => h9.2 x (by omega)), fun h9 => ⟨(filX_e h9).1, fun x hx => (filX_e h9).2 x (by omega)⟩⟩) | (rw [c78]; cases hX : filX pad w plc q sig c 10 i; rfl; have h9 := filX_e hX; rw [hk2.mpr ⟨h9.1, fun x hx => h9.2 x (by omega)⟩] at c78; cases c78)) _ _ hP hD hS ls (lv_sub hl [0, 2, 3, 4, 5, 6, 7] rfl)
                      · skip
                        rw [nI_leI (by omega) (by omega)] at c73
                        refine lv_iload gx gb dX9_filled_76 (lv_at hl 0 rfl) ?_
                        refine lv_if_eq (tgt := 140) gx gb dX9_filled_78 (by decide) (fun c78 => ?_) (fun c78 => ?_)
                        · skip
                          rw [b0_eq] at c78
                          exact L140 fb (by first | exact Bool.eq_iff_iff.mpr (hk2.trans ⟨fun h9 => filX_t h9.1 (fun x hx => h9.2 x (by omega)), fun h9 => ⟨(filX_e h9).1, fun x hx => (filX_e h9).2 x (by omega)⟩⟩) | (rw [c78]; cases hX : filX pad w plc q sig c 10 i; rfl; have h9 := filX_e hX; rw [hk2.mpr ⟨h9.1, fun x hx => h9.2 x (by omega)⟩] at c78; cases c78)) _ _ hP hD hS ls (lv_sub hl [0, 2, 3, 4, 5, 6, 7] rfl)
                        · skip
                          rw [b0_eq] at c78
                          have c78 := nf_t c78
                          have hd6 := (hk2.mp c78).1
                          have L132 : ∀ (f2 : Bool) (hf2 : f2 = decide (sig (2 * k + 1) < (dst (fun j => i / 10 ^ (cq pad w - 1 - j) % 10) pad plc q (evn pad w)).2 ∧ (dst (fun j => i / 10 ^ (cq pad w - 1 - j) % 10) pad plc q (evn pad w)).1 (sig (2 * k + 1)) = sig (2 * k))), ∀ (H : Heap) (locs : List Loc), va_P D vwCl (wM mo ma mb mc md me mf mg mh mi mj mk ml mn cI cZ n q c w ((dst (fun j => i / 10 ^ (cq pad w - 1 - j) % 10) pad (cpy plc rw_ 7) q (dayN (fun j => i / 10 ^ (cq pad w - 1 - j) % 10) pad (cpy plc rw_ 7) q (evn pad w))).2) (dayN (fun j => i / 10 ^ (cq pad w - 1 - j) % 10) pad (cpy plc rw_ 7) q (evn pad w)) num plc sig pad ((dst (fun j => i / 10 ^ (cq pad w - 1 - j) % 10) pad (cpy plc rw_ 7) q (dayN (fun j => i / 10 ^ (cq pad w - 1 - j) % 10) pad (cpy plc rw_ 7) q (evn pad w))).1) dig far cfr cby que has img kep) H → va_D A (wM mo ma mb mc md me mf mg mh mi mj mk ml mn cI cZ n q c w ((dst (fun j => i / 10 ^ (cq pad w - 1 - j) % 10) pad (cpy plc rw_ 7) q (dayN (fun j => i / 10 ^ (cq pad w - 1 - j) % 10) pad (cpy plc rw_ 7) q (evn pad w))).2) (dayN (fun j => i / 10 ^ (cq pad w - 1 - j) % 10) pad (cpy plc rw_ 7) q (evn pad w)) num plc sig pad ((dst (fun j => i / 10 ^ (cq pad w - 1 - j) % 10) pad (cpy plc rw_ 7) q (dayN (fun j => i / 10 ^ (cq pad w - 1 - j) % 10) pad (cpy plc rw_ 7) q (evn pad w))).1) dig far cfr cby que has img kep) → va_S A Gs.heap H locs → ∀ ls : Array Slot, lv_has ls 8 [(6, .int (bI fb)), (7, .int (nI k)), (2, .int (nI (10 ^ cq pad w))), (3, .int (nI n_)), (4, .int (zI F_)), (5, .int (nI i)), (0, .ref mo), (1, .int (zI a))] → W Gp Gl Ge (headSpec wsX9_filled ({ frames := 4, cells := 0, slots := 0, locals := 93 } : Room)).room Gs Gm ([.ref mo, .int (zI a)] : List Value).toArray Gw Gt Gc H locs 0 0 (MQ Gw (va_Qi (fun (r : Int32) (u : (Nat → Nat) × (Nat) × (Nat)) => r = zI (filB pad w plc q sig c 10 a)) (fun (u : (Nat → Nat) × (Nat) × (Nat)) t => va_P D vwCl (wM mo ma mb mc md me mf mg mh mi mj mk ml mn cI cZ n q c w u.2.1 u.2.2 num plc sig pad u.1 dig far cfr cby que has img kep) t.heap ∧ va_K D vwCl [(cI, .int), (cJ, .long), (cZ, .boolean)] t ∧ va_D A (wM mo ma mb mc md me mf mg mh mi mj mk ml mn cI cZ n q c w u.2.1 u.2.2 num plc sig pad u.1 dig far cfr cby que has img kep)) A) ([.ref mo, .int (zI a)] : List Value).toArray Gs 0 0 A) (F0 Gm 132 ls [.int (bI f2)]) := by
                            intro f2 hf2 H locs hP hD hS ls hl
                            refine lv_istore (lv' := [(6, .int (bI f2)), (7, .int (nI k)), (2, .int (nI (10 ^ cq pad w))), (3, .int (nI n_)), (4, .int (zI F_)), (5, .int (nI i)), (0, .ref mo), (1, .int (zI a))]) gx gb dX9_filled_132 hl (by decide) rfl (fun ls hl => ?_)
                            refine lv_iinc (v := nI (k + 1)) (lv' := [(7, .int (nI (k + 1))), (6, .int (bI f2)), (2, .int (nI (10 ^ cq pad w))), (3, .int (nI n_)), (4, .int (zI F_)), (5, .int (nI i)), (0, .ref mo), (1, .int (zI a))]) gx gb dX9_filled_134 hl (k := 1) rfl (nI_add k 1) (by decide) rfl (fun ls hl => ?_)
                            refine lv_goto (tgt := 67) gx gb dX9_filled_137 (by decide) ?_
                            exact ih67 f2 (k + 1) (by omega) (by rw [hf2]; exact ⟨fun h9 => ⟨hd6, fun x hx => (Nat.lt_or_ge x k).elim (fun h8 => (hk2.mp c78).2 x h8) (fun h8 => by obtain rfl : x = k := (by omega); exact of_decide_eq_true h9)⟩, fun h9 => decide_eq_true (h9.2 k (by omega))⟩) (by omega) _ _ hP hD hS ls (lv_sub hl [1, 0, 2, 3, 4, 5, 6, 7] rfl)
                          have hdN : dayN (fun j => i / 10 ^ (cq pad w - 1 - j) % 10) pad (cpy plc rw_ 7) q (evn pad w) = evn pad w := dayN_n (dayZ_m6 (by rw [dayZ_f (fun j => i / 10 ^ (cq pad w - 1 - j) % 10) pad _ plc]; exact hd6))
                          have hZ : (dst (fun j => i / 10 ^ (cq pad w - 1 - j) % 10) pad (cpy plc rw_ 7) q (dayN (fun j => i / 10 ^ (cq pad w - 1 - j) % 10) pad (cpy plc rw_ 7) q (evn pad w))).2 = (dst (fun j => i / 10 ^ (cq pad w - 1 - j) % 10) pad plc q (evn pad w)).2 := by rw [hdN]; exact dst2_f _ _ _ _ _ _
                          have hR : ∀ x, x < (dst (fun j => i / 10 ^ (cq pad w - 1 - j) % 10) pad plc q (evn pad w)).2 → (dst (fun j => i / 10 ^ (cq pad w - 1 - j) % 10) pad (cpy plc rw_ 7) q (dayN (fun j => i / 10 ^ (cq pad w - 1 - j) % 10) pad (cpy plc rw_ 7) q (evn pad w))).1 x = (dst (fun j => i / 10 ^ (cq pad w - 1 - j) % 10) pad plc q (evn pad w)).1 x := by rw [hdN, ← dst2_f (fun j => i / 10 ^ (cq pad w - 1 - j) % 10) pad (cpy plc rw_ 7) plc q]; exact dst_cong (fun x hx => cpy7 _ _ (by omega)) _
                          have hzb := dst_z (D := (fun j => i / 10 ^ (cq pad w - 1 - j) % 10)) (g := pad) (f := plc) hq1 (evn pad w)
                          have hib := dst_in (D := (fun j => i / 10 ^ (cq pad w - 1 - j) % 10)) (g := pad) (q := q) (P := fun x => x < n) hp (evn pad w)
                          have hs1 := hsg (2 * k + 1) (by omega)
                          have hs0 := hsg (2 * k) (by omega)
                          refine lv_aload_n gx gb dX9_filled_81 rfl (lv_at hl 6 rfl) ?_
                          refine va_get (D := D) (ci := 4) (v := .ref mc) (C := RX9) (T := TX9) (N := 19) gx gb gts i9 gown hK hP 0 rfl rfl 5 (by decide) (gts (.fieldLink RX9 23 "SwanSumsModel" "sight" "[I") (by decide +kernel)) (fun _ h9 => h9) rfl dX9_filled_82 ?_
                          refine lv_iconst (v := nI 2) gx gb dX9_filled_85 (by decide) ?_
                          refine lv_iload gx gb dX9_filled_86 (lv_at hl 1 rfl) ?_
                          refine lv_imul gx gb dX9_filled_88 ?_
                          refine lv_evi (nI (2 * k)) (pk_mul 2 k) ?_
                          refine lv_iconst (v := nI 1) gx gb dX9_filled_89 (by decide) ?_
                          refine lv_iadd gx gb dX9_filled_90 ?_
                          refine lv_evi (nI ((2 * k) + 1)) (nI_add (2 * k) 1) ?_
                          refine va_iald gx gb hK hP 3 0 rfl rfl (vp_in_nI (n := (2 * k) + 1) (by omega) (by decide)) dX9_filled_91 ?_
                          refine lv_evi (nI (sig ((2 * k) + 1))) (aN_rd sig (by omega)) ?_
                          refine lv_aload_n gx gb dX9_filled_92 rfl (lv_at hl 6 rfl) ?_
                          refine va_get (D := D) (ci := 4) (v := .int (nI ((dst (fun j => i / 10 ^ (cq pad w - 1 - j) % 10) pad (cpy plc rw_ 7) q (dayN (fun j => i / 10 ^ (cq pad w - 1 - j) % 10) pad (cpy plc rw_ 7) q (evn pad w))).2))) (C := RX9) (T := TX9) (N := 19) gx gb gts i9 gown hK hP 0 rfl rfl 9 (by decide) (gts (.fieldLink RX9 81 "SwanSumsModel" "size" "I") (by decide +kernel)) (fun _ h9 => h9) rfl dX9_filled_93 ?_
                          refine lv_icmp_ge (tgt := 131) gx gb dX9_filled_96 (by decide) (fun c96 => ?_) (fun c96 => ?_)
                          · skip
                            rw [nI_leI (by omega) (by omega)] at c96
                            refine lv_iconst (v := nI 0) gx gb dX9_filled_131 (by decide) ?_
                            exact L132 false (by first | exact (decide_eq_true (by omega)).symm | exact (decide_eq_false (by omega)).symm) _ _ hP hD hS ls (lv_sub hl [0, 1, 2, 3, 4, 5, 6, 7] rfl)
                          · skip
                            rw [nI_leI (by omega) (by omega)] at c96
                            have hRx := hR (sig (2 * k + 1)) (by omega)
                            have hRb := hib (sig (2 * k + 1)) (by omega)
                            refine lv_aload_n gx gb dX9_filled_99 rfl (lv_at hl 6 rfl) ?_
                            refine va_get (D := D) (ci := 4) (v := .ref me) (C := RX9) (T := TX9) (N := 19) gx gb gts i9 gown hK hP 0 rfl rfl 8 (by decide) (gts (.fieldLink RX9 29 "SwanSumsModel" "row" "[I") (by decide +kernel)) (fun _ h9 => h9) rfl dX9_filled_100 ?_
                            refine lv_aload_n gx gb dX9_filled_103 rfl (lv_at hl 6 rfl) ?_
                            refine va_get (D := D) (ci := 4) (v := .ref mc) (C := RX9) (T := TX9) (N := 19) gx gb gts i9 gown hK hP 0 rfl rfl 5 (by decide) (gts (.fieldLink RX9 23 "SwanSumsModel" "sight" "[I") (by decide +kernel)) (fun _ h9 => h9) rfl dX9_filled_104 ?_
                            refine lv_iconst (v := nI 2) gx gb dX9_filled_107 (by decide) ?_
                            refine lv_iload gx gb dX9_filled_108 (lv_at hl 1 rfl) ?_
                            refine lv_imul gx gb dX9_filled_110 ?_
                            refine lv_evi (nI (2 * k)) (pk_mul 2 k) ?_
                            refine lv_iconst (v := nI 1) gx gb dX9_filled_111 (by decide) ?_
                            refine lv_iadd gx gb dX9_filled_112 ?_
                            refine lv_evi (nI ((2 * k) + 1)) (nI_add (2 * k) 1) ?_
                            refine va_iald gx gb hK hP 3 0 rfl rfl (vp_in_nI (n := (2 * k) + 1) (by omega) (by decide)) dX9_filled_113 ?_
                            refine lv_evi (nI (sig ((2 * k) + 1))) (aN_rd sig (by omega)) ?_
                            refine va_iald gx gb hK hP 5 0 rfl rfl (vp_in_nI (n := sig ((2 * k) + 1)) (by omega) (by decide)) dX9_filled_114 ?_
                            refine lv_evi (nI (((dst (fun j => i / 10 ^ (cq pad w - 1 - j) % 10) pad (cpy plc rw_ 7) q (dayN (fun j => i / 10 ^ (cq pad w - 1 - j) % 10) pad (cpy plc rw_ 7) q (evn pad w))).1) (sig ((2 * k) + 1)))) (aN_rd ((dst (fun j => i / 10 ^ (cq pad w - 1 - j) % 10) pad (cpy plc rw_ 7) q (dayN (fun j => i / 10 ^ (cq pad w - 1 - j) % 10) pad (cpy plc rw_ 7) q (evn pad w))).1) (by omega)) ?_
                            refine lv_aload_n gx gb dX9_filled_115 rfl (lv_at hl 6 rfl) ?_
                            refine va_get (D := D) (ci := 4) (v := .ref mc) (C := RX9) (T := TX9) (N := 19) gx gb gts i9 gown hK hP 0 rfl rfl 5 (by decide) (gts (.fieldLink RX9 23 "SwanSumsModel" "sight" "[I") (by decide +kernel)) (fun _ h9 => h9) rfl dX9_filled_116 ?_
                            refine lv_iconst (v := nI 2) gx gb dX9_filled_119 (by decide) ?_
                            refine lv_iload gx gb dX9_filled_120 (lv_at hl 1 rfl) ?_
                            refine lv_imul gx gb dX9_filled_122 ?_
                            refine lv_evi (nI (2 * k)) (pk_mul 2 k) ?_
                            refine va_iald gx gb hK hP 3 0 rfl rfl (vp_in_nI (n := 2 * k) (by omega) (by decide)) dX9_filled_123 ?_
                            refine lv_evi (nI (sig (2 * k))) (aN_rd sig (by omega)) ?_
                            refine lv_icmp_ne (tgt := 131) gx gb dX9_filled_124 (by decide) (fun c124 => ?_) (fun c124 => ?_)
                            · skip
                              rw [nI_eq (by omega) (by omega)] at c124
                              refine lv_iconst (v := nI 0) gx gb dX9_filled_131 (by decide) ?_
                              exact L132 false (by first | exact (decide_eq_true (by omega)).symm | exact (decide_eq_false (by omega)).symm) _ _ hP hD hS ls (lv_sub hl [0, 1, 2, 3, 4, 5, 6, 7] rfl)
                            · skip
                              rw [nI_eq (by omega) (by omega)] at c124
                              refine lv_iconst (v := nI 1) gx gb dX9_filled_127 (by decide) ?_
                              refine lv_goto (tgt := 132) gx gb dX9_filled_128 (by decide) ?_
                              exact L132 true (by first | exact (decide_eq_true (by omega)).symm | exact (decide_eq_false (by omega)).symm) _ _ hP hD hS ls (lv_sub hl [0, 1, 2, 3, 4, 5, 6, 7] rfl)
                  exact L67 _ f 0 (by omega) (by rw [hf1]; exact ⟨fun h9 => ⟨of_decide_eq_true h9, fun x hx => absurd hx (Nat.not_lt_zero _)⟩, fun h9 => decide_eq_true h9.1⟩) (Nat.lt_succ_self _) _ _ hP hD hS ls (lv_sub hl [1, 0, 2, 3, 4, 5, 6, 7] rfl)
                have hdb := dayZ_bd (fun j => i / 10 ^ (cq pad w - 1 - j) % 10) pad plc q (evn pad w)
                have hew := evn_le pad w
                refine lv_if_ge (tgt := 61) gx gb dX9_filled_54 (by decide) (fun c54 => ?_) (fun c54 => ?_)
                · skip
                  rw [z0_ge (by omega) (by omega)] at c54
                  refine lv_iconst (v := nI 0) gx gb dX9_filled_61 (by decide) ?_
                  exact L62 false (by first | exact (decide_eq_true (by omega)).symm | exact (decide_eq_false (by omega)).symm) _ _ hP hD hS ls (lv_sub hl [0, 1, 2, 3, 4, 5] rfl)
                · skip
                  rw [z0_ge (by omega) (by omega)] at c54
                  refine lv_iconst (v := nI 1) gx gb dX9_filled_57 (by decide) ?_
                  refine lv_goto (tgt := 62) gx gb dX9_filled_58 (by decide) ?_
                  exact L62 true (by first | exact (decide_eq_true (by omega)).symm | exact (decide_eq_false (by omega)).symm) _ _ hP hD hS ls (lv_sub hl [0, 1, 2, 3, 4, 5] rfl)
          exact L42 _ row z ev 0 0 (-6) (by omega) (by rfl) (by rfl) (Nat.lt_succ_self _) _ _ hP hD hS ls (lv_sub hl [3, 2, 1, 0, 4, 5] rfl)
        · skip
          rw [nI_leI (by omega) (by omega)] at c19
          refine lv_iload_n gx gb dX9_filled_22 rfl (lv_at hl 0 rfl) ?_
          refine lv_bipush (v := nI 10) gx gb dX9_filled_23 (by decide) ?_
          refine lv_imul gx gb dX9_filled_25 ?_
          refine lv_evi (nI ((10 ^ i) * 10)) (pk_mul (10 ^ i) 10) ?_
          refine lv_evi (nI (10 ^ (i + 1))) (congrArg nI (Nat.pow_succ 10 i).symm) ?_
          refine lv_istore_n (lv' := [(2, .int (nI (10 ^ (i + 1)))), (3, .int (nI i)), (0, .ref mo), (1, .int (zI a))]) gx gb dX9_filled_26 rfl hl (by decide) rfl (fun ls hl => ?_)
          refine lv_iinc (v := nI (i + 1)) (lv' := [(3, .int (nI (i + 1))), (2, .int (nI (10 ^ (i + 1)))), (0, .ref mo), (1, .int (zI a))]) gx gb dX9_filled_27 hl (k := 1) rfl (nI_add i 1) (by decide) rfl (fun ls hl => ?_)
          refine lv_goto (tgt := 14) gx gb dX9_filled_30 (by decide) ?_
          exact ih14 (i + 1) (by omega) (by omega) _ _ hP hD hS ls (lv_sub hl [1, 0, 2, 3] rfl)
    exact L14 _ 0 (by omega) (Nat.lt_succ_self _) _ _ hP hD hS ls (lv_sub hl [1, 0, 2, 3] rfl)
  · skip
    rw [z0_lt (by omega) (by omega)] at c4
    have hn6 : ¬ fltZ pad w = -6 := by omega
    refine lv_bipush (v := zI (-5)) gx gb dX9_filled_7 (by decide) ?_
    exact W.iret (v := zI (-5)) gx gb gr (fun t ht hW => ⟨⟨zI (-5), (row, z, ev), rfl, (by first | (dsimp only; done) | ((try dsimp only); rw [filB, if_neg hn6])), by rw [ht]; exact hP, va_K.moved hW.alike hK, hD⟩, hS.F ht⟩) hS.2.2 dX9_filled_9

set_option maxHeartbeats 4000000 in
set_option maxRecDepth 100000 in
theorem kX8_filled (Gl : Launch) (D : va_G) (cI cJ cZ : ClassId) (h : Nat) (fl : Nat) (e1 : Nat) (e2 : Nat) (pd : Nat) (sg : Nat) (k1 : Nat) (k2 : Nat) (rv : Value) (n : Nat) (N : Nat) (q : Nat) (c : Nat) (na : Nat) (Na : Nat) (Ra : Nat) (qa : Nat) (Sa : Nat) (ca : Nat) (nb : Nat) (Nb : Nat) (Rb : Nat) (qb : Nat) (Sb : Nat) (cb : Nat) (cnt : Nat) (rb : Nat) (sb : Nat) (g : Nat → Nat) (sz : Nat) (plc sig : Nat → Nat) (a : Int) (hl_a : -2147483648 ≤ a) (hu_a : a < 2147483648) (hcn : cnt ≤ 60) (hg : ∀ k, k < cnt → g k < 127) (hn1 : 1 ≤ n) (hn7 : n ≤ 7) (hq1 : 1 ≤ q) (hqn : q ≤ n) (hp : ∀ k, k < q → plc k < n) (hc : c ≤ 6) (hsg : ∀ k, k < 2 * c → sig k ≤ 6) : Met Gl yX8_filled wsX8_filled ({ frames := 5, cells := 0, slots := 0, locals := 118 } : Room) (va_Pc [.ref h, .int (zI a)] (fun U => U.heap.size = sz ∧ va_P D vwCl (wX h fl e1 e2 pd sg cI k1 k2 rv n N (pk 8 plc q) q (pk 64 (fun k => 8 * sig (2 * k) + sig (2 * k + 1)) c) c na Na Ra qa Sa ca nb Nb Rb qb Sb cb cnt rb sb g) U.heap ∧ va_K D vwCl [(cI, .int), (cJ, .long), (cZ, .boolean)] U ∧ va_D (fun _ => True) (wX h fl e1 e2 pd sg cI k1 k2 rv n N (pk 8 plc q) q (pk 64 (fun k => 8 * sig (2 * k) + sig (2 * k + 1)) c) c na Na Ra qa Sa ca nb Nb Rb qb Sb cb cnt rb sb g))) (va_Qi (fun (r : Int32) (u : (Nat) × (Nat)) => r = zI (filB g cnt plc q sig c q a)) (fun (u : (Nat) × (Nat)) t => va_P D vwCl (wX h fl e1 e2 pd sg cI k1 k2 rv n N (pk 8 plc q) q (pk 64 (fun k => 8 * sig (2 * k) + sig (2 * k + 1)) c) c na Na Ra qa Sa ca nb Nb Rb qb Sb cb cnt u.1 u.2 g) t.heap ∧ va_K D vwCl [(cI, .int), (cJ, .long), (cZ, .boolean)] t ∧ va_D (va_A (wX h fl e1 e2 pd sg cI k1 k2 rv n N (pk 8 plc q) q (pk 64 (fun k => 8 * sig (2 * k) + sig (2 * k + 1)) c) c na Na Ra qa Sa ca nb Nb Rb qb Sb cb cnt rb sb g) sz) (wX h fl e1 e2 pd sg cI k1 k2 rv n N (pk 8 plc q) q (pk 64 (fun k => 8 * sig (2 * k) + sig (2 * k + 1)) c) c na Na Ra qa Sa ca nb Nb Rb qb Sb cb cnt u.1 u.2 g)) (va_A (wX h fl e1 e2 pd sg cI k1 k2 rv n N (pk 8 plc q) q (pk 64 (fun k => 8 * sig (2 * k) + sig (2 * k + 1)) c) c na Na Ra qa Sa ca nb Nb Rb qb Sb cb cnt rb sb g) sz)) 0 0 (va_A (wX h fl e1 e2 pd sg cI k1 k2 rv n N (pk 8 plc q) q (pk 64 (fun k => 8 * sig (2 * k) + sig (2 * k + 1)) c) c na Na Ra qa Sa ca nb Nb Rb qb Sb cb cnt rb sb g) sz) := by
  refine Met.ofW (cc := cX8_filled) (maxL := 8) (ret := (some .int)) (by decide +kernel) rfl ?_
  intro Gp Ge Gs Gm Ga Gw Gt Gc G1 Bd gml gv
  obtain ⟨rfl, hsz, hP, hK, hD0⟩ := gv
  have gx := Bd.exec
  have gb := Bd.bytes
  have gr := Bd.returns
  have gts := atoms_spec (ws := wsX8_filled) Bd.pre
  have gown : Gs.vm.findClass RX8 = some Gm.cls := findClass_of_methodNamed Bd.named
  have glk := Bd.notSynchronized
  subst hsz
  have hD := hD0.self (sz := Gs.heap.size)
  generalize hAe : va_A (wX h fl e1 e2 pd sg cI k1 k2 rv n N (pk 8 plc q) q (pk 64 (fun k => 8 * sig (2 * k) + sig (2 * k + 1)) c) c na Na Ra qa Sa ca nb Nb Rb qb Sb cb cnt rb sb g) Gs.heap.size = A at hD ⊢
  have hA : ∀ q : Nat, Gs.heap.size ≤ q → A q := fun q h => by rw [← hAe]; exact Or.inr h
  have hS : va_S A Gs.heap Gs.heap [] := va_S.rf
  have hP : va_P D vwCl (wX h fl e1 e2 pd sg cI k1 k2 rv n N (pk 8 plc q) q (pk 64 (fun k => 8 * sig (2 * k) + sig (2 * k + 1)) c) c na Na Ra qa Sa ca nb Nb Rb qb Sb cb cnt rb sb g) Gs.heap := hP
  have hl := lv_entry ([.ref h, .int (zI a)]) (n := 8) (Nat.le_of_ble_eq_true rfl)
  rw [lg_entry_eq]
  generalize (lg_sl ([.ref h, .int (zI a)]) ++ List.replicate (8 - (lg_sl ([.ref h, .int (zI a)])).length) Slot.unset).toArray = ls at hl ⊢
  have hl : lv_has ls 8 [(0, .ref h), (1, .int (zI a))] := hl
  have i1 : ∀ w ∈ wsX10, w ∈ wsX8_filled := by decide +kernel
  have i4 : ∀ w ∈ wsX40, w ∈ wsX8_filled := by decide +kernel
  have i8 : ∀ w ∈ wsX80, w ∈ wsX8_filled := by decide +kernel
  have hp8 : ∀ k, k < q → plc k < 8 := fun k hk => by have := hp k hk; omega
  have hR8 := pk8_lt hp8 (by omega)
  have h64 : ∀ k, k < c → 8 * sig (2 * k) + sig (2 * k + 1) < 64 := fun k hk => by have h1 := hsg (2 * k) (by omega); have h2 := hsg (2 * k + 1) (by omega); omega
  have hS63 := pk64_lt h64 hc
  refine lv_aload_n gx gb dX8_filled_0 rfl (lv_at hl 0 rfl) ?_
  refine va_get (D := D) (ci := 3) (v := .ref pd) (C := RX8) (T := TX8) (N := 7) gx gb gts i8 gown hK hP 0 rfl rfl 5 (by decide) (gts (.fieldLink RX8 32 "SwanSums" "pad" "LSwanSums$Pad;") (by decide +kernel)) (fun _ h9 => h9) rfl dX8_filled_1 ?_
  have hPc := hP.sub (ws' := wP pd sg cI cnt rb sb g) [4, 5] rfl
  refine vp_callSi (W.runV (As := []) (rest := []) ⟨gx, gb, gml, gown, gts⟩ (kX4_firstFault Gl D cI cJ cZ pd sg cnt rb sb g  (by omega) (by omega)) (cwV 0 gts gX8_filled_X4_firstFault rfl rfl rfl (by decide +kernel) ⟨Nat.le_of_ble_eq_true rfl, Nat.le_of_ble_eq_true rfl⟩) ⟨fun a U g mk q => ⟨q.1, q.2.1, va_K.moved (u := U) (U := U.calling g mk a) (Vm.Alike.refl U.vm) q.2.2⟩, va_recv hK hPc (ci := 1) (q0 := 0) rfl rfl, fun U hU hW => ⟨rfl, by rw [hU]; exact hPc, va_K.moved hW.alike hK⟩⟩ rfl rfl hl.1 rfl (lv_room (Nat.le_of_ble_eq_true rfl)) dX8_filled_4 ⟨Nat.le_of_ble_eq_true rfl, Nat.le_of_ble_eq_true rfl⟩) (fun r hw => ?_)
  have hr4 := hw
  subst hr4
  have hfb := fltZ_bd g cnt
  refine lv_bipush (v := zI (-6)) gx gb dX8_filled_7 (by decide) ?_
  refine lv_icmp_eq (tgt := 15) gx gb dX8_filled_9 (by decide) (fun c9 => ?_) (fun c9 => ?_)
  · skip
    rw [zI_eq (by omega) (by omega) (by omega) (by omega)] at c9
    have hf6 : fltZ g cnt = -6 := by omega
    have hc3 := cq_3 (fltZ_m6 hf6).1
    have hqm := qm_bd (m := cq g cnt) hq1 (by omega) hc3
    have hwf := wf_evn hf6
    refine lv_aload_n gx gb dX8_filled_15 rfl (lv_at hl 0 rfl) ?_
    refine va_get (D := D) (ci := 3) (v := .ref pd) (C := RX8) (T := TX8) (N := 7) gx gb gts i8 gown hK hP 0 rfl rfl 5 (by decide) (gts (.fieldLink RX8 32 "SwanSums" "pad" "LSwanSums$Pad;") (by decide +kernel)) (fun _ h9 => h9) rfl dX8_filled_16 ?_
    have hPc := hP.sub (ws' := wP pd sg cI cnt rb sb g) [4, 5] rfl
    refine vp_callSi (W.runV (As := []) (rest := []) ⟨gx, gb, gml, gown, gts⟩ (kX4_gaps Gl D cI cJ cZ pd sg cnt rb sb g  (by omega) (by omega)) (cwV 0 gts gX8_filled_X4_gaps rfl rfl rfl (by decide +kernel) ⟨Nat.le_of_ble_eq_true rfl, Nat.le_of_ble_eq_true rfl⟩) ⟨fun a U g mk q => ⟨q.1, q.2.1, va_K.moved (u := U) (U := U.calling g mk a) (Vm.Alike.refl U.vm) q.2.2⟩, va_recv hK hPc (ci := 1) (q0 := 0) rfl rfl, fun U hU hW => ⟨rfl, by rw [hU]; exact hPc, va_K.moved hW.alike hK⟩⟩ rfl rfl hl.1 rfl (lv_room (Nat.le_of_ble_eq_true rfl)) dX8_filled_19 ⟨Nat.le_of_ble_eq_true rfl, Nat.le_of_ble_eq_true rfl⟩) (fun r hw => ?_)
    have hr19 := hw
    subst hr19
    refine lv_istore_n (lv' := [(2, .int (nI (cq g cnt))), (0, .ref h), (1, .int (zI a))]) gx gb dX8_filled_22 rfl hl (by decide) rfl (fun ls hl => ?_)
    refine lv_aload_n gx gb dX8_filled_23 rfl (lv_at hl 1 rfl) ?_
    refine va_get (D := D) (ci := 3) (v := .ref fl) (C := RX8) (T := TX8) (N := 7) gx gb gts i8 gown hK hP 0 rfl rfl 0 (by decide) (gts (.fieldLink RX8 12 "SwanSums" "flock" "LSwanSums$Flock;") (by decide +kernel)) (fun _ h9 => h9) rfl dX8_filled_24 ?_
    refine va_get (D := D) (ci := 0) (v := .int (nI q)) (C := RX1) (T := TX1) (N := 6) gx gb gts i1 gown hK hP 1 rfl rfl 3 (by decide) (gts (.fieldLink RX8 82 "SwanSums$Flock" "size" "I") (by decide +kernel)) (fun _ h9 => h9) rfl dX8_filled_27 ?_
    refine lv_iload_n gx gb dX8_filled_30 rfl (lv_at hl 0 rfl) ?_
    refine vp_callSi (W.runS (As := [.int (nI q), .int (nI (cq g cnt))]) (rest := []) ⟨gx, gb, gml, gown, gts⟩ (kX0_power Gl q (cq g cnt) (by omega)) (va_cwS 2 gts gX8_filled_X0_power rfl rfl rfl (by decide +kernel) ⟨Nat.le_of_ble_eq_true rfl, Nat.le_of_ble_eq_true rfl⟩) ⟨fun _ _ _ _ h => h, fun U hU hW => ⟨rfl, trivial⟩⟩ rfl rfl hl.1 rfl (lv_room (Nat.le_of_ble_eq_true rfl)) dX8_filled_31 ⟨Nat.le_of_ble_eq_true rfl, Nat.le_of_ble_eq_true rfl⟩) (fun r hw => ?_)
    have hr31 := hw
    subst hr31
    refine lv_istore_n (lv' := [(3, .int (nI (q ^ (cq g cnt)))), (2, .int (nI (cq g cnt))), (0, .ref h), (1, .int (zI a))]) gx gb dX8_filled_34 rfl hl (by decide) rfl (fun ls hl => ?_)
    refine lv_iconst (v := nI 0) gx gb dX8_filled_35 (by decide) ?_
    refine lv_istore (lv' := [(4, .int (nI 0)), (3, .int (nI (q ^ (cq g cnt)))), (2, .int (nI (cq g cnt))), (0, .ref h), (1, .int (zI a))]) gx gb dX8_filled_36 hl (by decide) rfl (fun ls hl => ?_)
    refine lv_iconst (v := nI 0) gx gb dX8_filled_38 (by decide) ?_
    refine lv_istore (lv' := [(5, .int (nI 0)), (4, .int (nI 0)), (3, .int (nI (q ^ (cq g cnt)))), (2, .int (nI (cq g cnt))), (0, .ref h), (1, .int (zI a))]) gx gb dX8_filled_39 hl (by decide) rfl (fun ls hl => ?_)
    refine lv_iconst (v := nI 0) gx gb dX8_filled_41 (by decide) ?_
    refine lv_istore (lv' := [(6, .int (nI 0)), (5, .int (nI 0)), (4, .int (nI 0)), (3, .int (nI (q ^ (cq g cnt)))), (2, .int (nI (cq g cnt))), (0, .ref h), (1, .int (zI a))]) gx gb dX8_filled_42 hl (by decide) rfl (fun ls hl => ?_)
    have L44 : ∀ fu : Nat, ∀ (r_ s_ i n_ F_ : Nat) (hi2 : i ≤ q ^ cq g cnt) (hn_ : n_ = cnT (filX g cnt plc q sig c q) i) (hF : F_ = fsN (filX g cnt plc q sig c q) i), (q ^ cq g cnt - i) < fu → ∀ (H : Heap) (locs : List Loc), va_P D vwCl (wX h fl e1 e2 pd sg cI k1 k2 rv n N (pk 8 plc q) q (pk 64 (fun k => 8 * sig (2 * k) + sig (2 * k + 1)) c) c na Na Ra qa Sa ca nb Nb Rb qb Sb cb cnt r_ s_ g) H → va_D A (wX h fl e1 e2 pd sg cI k1 k2 rv n N (pk 8 plc q) q (pk 64 (fun k => 8 * sig (2 * k) + sig (2 * k + 1)) c) c na Na Ra qa Sa ca nb Nb Rb qb Sb cb cnt r_ s_ g) → va_S A Gs.heap H locs → ∀ ls : Array Slot, lv_has ls 8 [(4, .int (nI n_)), (5, .int (nI F_)), (6, .int (nI i)), (3, .int (nI (q ^ (cq g cnt)))), (2, .int (nI (cq g cnt))), (0, .ref h), (1, .int (zI a))] → W Gp Gl Ge (headSpec wsX8_filled ({ frames := 5, cells := 0, slots := 0, locals := 118 } : Room)).room Gs Gm ([.ref h, .int (zI a)] : List Value).toArray Gw Gt Gc H locs 0 0 (MQ Gw (va_Qi (fun (r : Int32) (u : (Nat) × (Nat)) => r = zI (filB g cnt plc q sig c q a)) (fun (u : (Nat) × (Nat)) t => va_P D vwCl (wX h fl e1 e2 pd sg cI k1 k2 rv n N (pk 8 plc q) q (pk 64 (fun k => 8 * sig (2 * k) + sig (2 * k + 1)) c) c na Na Ra qa Sa ca nb Nb Rb qb Sb cb cnt u.1 u.2 g) t.heap ∧ va_K D vwCl [(cI, .int), (cJ, .long), (cZ, .boolean)] t ∧ va_D A (wX h fl e1 e2 pd sg cI k1 k2 rv n N (pk 8 plc q) q (pk 64 (fun k => 8 * sig (2 * k) + sig (2 * k + 1)) c) c na Na Ra qa Sa ca nb Nb Rb qb Sb cb cnt u.1 u.2 g)) A) ([.ref h, .int (zI a)] : List Value).toArray Gs 0 0 A) (F0 Gm 44 ls []) := by
      intro fu
      induction fu with
      | zero => intro r_ s_ i n_ F_ hi2 hn_ hF hfu; exact absurd hfu (Nat.not_lt_zero _)
      | succ fu ih44 =>
        intro r_ s_ i n_ F_ hi2 hn_ hF hfu H locs hP hD hS ls hl
        have hcn := cnT_le (filX g cnt plc q sig c q) i
        have hfz := fsN_bd (filX g cnt plc q sig c q) i
        refine lv_iload gx gb dX8_filled_44 (lv_at hl 2 rfl) ?_
        refine lv_iload_n gx gb dX8_filled_46 rfl (lv_at hl 3 rfl) ?_
        refine lv_icmp_ge (tgt := 129) gx gb dX8_filled_47 (by decide) (fun c47 => ?_) (fun c47 => ?_)
        · skip
          rw [nI_leI (by omega) (by omega)] at c47
          have hi9 : i = q ^ cq g cnt := (by omega)
          refine lv_iload_n gx gb dX8_filled_129 rfl (lv_at hl 6 rfl) ?_
          refine lv_iconst (v := zI (-1)) gx gb dX8_filled_130 (by decide) ?_
          refine lv_icmp_ne (tgt := 137) gx gb dX8_filled_131 (by decide) (fun c131 => ?_) (fun c131 => ?_)
          · skip
            rw [zI_eq (by omega) (by omega) (by omega) (by omega)] at c131
            refine lv_iload gx gb dX8_filled_137 (lv_at hl 0 rfl) ?_
            refine lv_if_eq (tgt := 151) gx gb dX8_filled_139 (by decide) (fun c139 => ?_) (fun c139 => ?_)
            · skip
              rw [n0_eq (by omega)] at c139
              refine lv_bipush (v := zI (-6)) gx gb dX8_filled_151 (by decide) ?_
              exact W.iret (v := zI (-6)) gx gb gr (fun t ht hW => ⟨⟨zI (-6), (r_, s_), rfl, (by first | (dsimp only; done) | ((try dsimp only); rw [filB, if_pos hf6, if_neg (by omega), ← hi9, ← hn_, if_neg (by omega)])), by rw [ht]; exact hP, va_K.moved hW.alike hK, hD⟩, hS.F ht⟩) hS.2.2 dX8_filled_153
            · skip
              rw [n0_eq (by omega)] at c139
              refine lv_iload_n gx gb dX8_filled_142 rfl (lv_at hl 6 rfl) ?_
              refine lv_if_lt (tgt := 151) gx gb dX8_filled_143 (by decide) (fun c143 => ?_) (fun c143 => ?_)
              · skip
                rw [z0_lt (by omega) (by omega)] at c143
                refine lv_bipush (v := zI (-6)) gx gb dX8_filled_151 (by decide) ?_
                exact W.iret (v := zI (-6)) gx gb gr (fun t ht hW => ⟨⟨zI (-6), (r_, s_), rfl, (by first | (dsimp only; done) | ((try dsimp only); rw [filB, if_pos hf6, if_neg (by omega), ← hi9, ← hn_, if_neg (by omega)])), by rw [ht]; exact hP, va_K.moved hW.alike hK, hD⟩, hS.F ht⟩) hS.2.2 dX8_filled_153
              · skip
                rw [z0_lt (by omega) (by omega)] at c143
                refine lv_iload_n gx gb dX8_filled_146 rfl (lv_at hl 6 rfl) ?_
                refine lv_iload_n gx gb dX8_filled_147 rfl (lv_at hl 4 rfl) ?_
                refine lv_icmp_lt (tgt := 154) gx gb dX8_filled_148 (by decide) (fun c148 => ?_) (fun c148 => ?_)
                · skip
                  rw [zn_lt (by omega) (by omega) (by omega)] at c148
                  obtain ⟨j, hj⟩ : ∃ j : Nat, a = (j : Int) := ⟨a.toNat, by omega⟩
                  rw [show zI a = nI j from by rw [hj, zI_nat]] at hl
                  have hl : lv_has ls 8 [(4, .int (nI n_)), (5, .int (nI F_)), (6, .int (nI i)), (3, .int (nI (q ^ (cq g cnt)))), (2, .int (nI (cq g cnt))), (0, .ref h), (1, .int (nI j))] := hl
                  refine lv_iload gx gb dX8_filled_154 (lv_at hl 1 rfl) ?_
                  refine lv_aload_n gx gb dX8_filled_156 rfl (lv_at hl 5 rfl) ?_
                  refine va_get (D := D) (ci := 3) (v := .ref fl) (C := RX8) (T := TX8) (N := 7) gx gb gts i8 gown hK hP 0 rfl rfl 0 (by decide) (gts (.fieldLink RX8 12 "SwanSums" "flock" "LSwanSums$Flock;") (by decide +kernel)) (fun _ h9 => h9) rfl dX8_filled_157 ?_
                  refine va_get (D := D) (ci := 0) (v := .int (nI q)) (C := RX1) (T := TX1) (N := 6) gx gb gts i1 gown hK hP 1 rfl rfl 3 (by decide) (gts (.fieldLink RX8 82 "SwanSums$Flock" "size" "I") (by decide +kernel)) (fun _ h9 => h9) rfl dX8_filled_160 ?_
                  refine lv_iload_n gx gb dX8_filled_163 rfl (lv_at hl 4 rfl) ?_
                  refine lv_iconst (v := nI 1) gx gb dX8_filled_164 (by decide) ?_
                  refine lv_isub gx gb dX8_filled_165 ?_
                  refine lv_evi (nI ((cq g cnt) - 1)) (e_sub (by omega)) ?_
                  refine lv_iload_n gx gb dX8_filled_166 rfl (lv_at hl 6 rfl) ?_
                  refine lv_isub gx gb dX8_filled_167 ?_
                  refine lv_evi (nI (((cq g cnt) - 1) - j)) (e_sub (by omega)) ?_
                  refine vp_callSi (W.runS (As := [.int (nI F_), .int (nI q), .int (nI (((cq g cnt) - 1) - j))]) (rest := []) ⟨gx, gb, gml, gown, gts⟩ (kX0_digit Gl F_ q (((cq g cnt) - 1) - j) (by omega) (by omega) (by omega) (by omega)) (va_cwS 3 gts gX8_filled_X0_digit rfl rfl rfl (by decide +kernel) ⟨Nat.le_of_ble_eq_true rfl, Nat.le_of_ble_eq_true rfl⟩) ⟨fun _ _ _ _ h => h, fun U hU hW => ⟨rfl, trivial⟩⟩ rfl rfl hl.1 rfl (lv_room (Nat.le_of_ble_eq_true rfl)) dX8_filled_168 ⟨Nat.le_of_ble_eq_true rfl, Nat.le_of_ble_eq_true rfl⟩) (fun r hw => ?_)
                  have hr168 := hw
                  subst hr168
                  exact W.iret (v := nI (dg q F_ (((cq g cnt) - 1) - j))) gx gb gr (fun t ht hW => ⟨⟨nI (dg q F_ (((cq g cnt) - 1) - j)), (r_, s_), rfl, (by first | (dsimp only; done) | ((try dsimp only); rw [filB, if_pos hf6, if_neg (by omega), ← hi9, ← hn_, if_pos ⟨by omega, by omega, by omega⟩, zI_nat, hj, show (j : Int).toNat = j from rfl, hF])), by rw [ht]; exact hP, va_K.moved hW.alike hK, hD⟩, hS.F ht⟩) hS.2.2 dX8_filled_171
                · skip
                  rw [zn_lt (by omega) (by omega) (by omega)] at c148
                  refine lv_bipush (v := zI (-6)) gx gb dX8_filled_151 (by decide) ?_
                  exact W.iret (v := zI (-6)) gx gb gr (fun t ht hW => ⟨⟨zI (-6), (r_, s_), rfl, (by first | (dsimp only; done) | ((try dsimp only); rw [filB, if_pos hf6, if_neg (by omega), ← hi9, ← hn_, if_neg (by omega)])), by rw [ht]; exact hP, va_K.moved hW.alike hK, hD⟩, hS.F ht⟩) hS.2.2 dX8_filled_153
          · skip
            rw [zI_eq (by omega) (by omega) (by omega) (by omega)] at c131
            refine lv_iload gx gb dX8_filled_134 (lv_at hl 0 rfl) ?_
            exact W.iret (v := nI n_) gx gb gr (fun t ht hW => ⟨⟨nI n_, (r_, s_), rfl, (by first | (dsimp only; done) | ((try dsimp only); rw [filB, if_pos hf6, if_pos (by omega), ← hi9, ← hn_, zI_nat])), by rw [ht]; exact hP, va_K.moved hW.alike hK, hD⟩, hS.F ht⟩) hS.2.2 dX8_filled_136
        · skip
          rw [nI_leI (by omega) (by omega)] at c47
          refine lv_aload_n gx gb dX8_filled_50 rfl (lv_at hl 5 rfl) ?_
          refine va_get (D := D) (ci := 3) (v := .ref pd) (C := RX8) (T := TX8) (N := 7) gx gb gts i8 gown hK hP 0 rfl rfl 5 (by decide) (gts (.fieldLink RX8 32 "SwanSums" "pad" "LSwanSums$Pad;") (by decide +kernel)) (fun _ h9 => h9) rfl dX8_filled_51 ?_
          refine lv_aload_n gx gb dX8_filled_54 rfl (lv_at hl 5 rfl) ?_
          refine va_get (D := D) (ci := 3) (v := .ref fl) (C := RX8) (T := TX8) (N := 7) gx gb gts i8 gown hK hP 0 rfl rfl 0 (by decide) (gts (.fieldLink RX8 12 "SwanSums" "flock" "LSwanSums$Flock;") (by decide +kernel)) (fun _ h9 => h9) rfl dX8_filled_55 ?_
          refine va_get (D := D) (ci := 0) (v := .int (nI (pk 8 plc q))) (C := RX1) (T := TX1) (N := 6) gx gb gts i1 gown hK hP 1 rfl rfl 2 (by decide) (gts (.fieldLink RX8 79 "SwanSums$Flock" "row" "I") (by decide +kernel)) (fun _ h9 => h9) rfl dX8_filled_58 ?_
          refine lv_aload_n gx gb dX8_filled_61 rfl (lv_at hl 5 rfl) ?_
          refine va_get (D := D) (ci := 3) (v := .ref fl) (C := RX8) (T := TX8) (N := 7) gx gb gts i8 gown hK hP 0 rfl rfl 0 (by decide) (gts (.fieldLink RX8 12 "SwanSums" "flock" "LSwanSums$Flock;") (by decide +kernel)) (fun _ h9 => h9) rfl dX8_filled_62 ?_
          refine va_get (D := D) (ci := 0) (v := .int (nI q)) (C := RX1) (T := TX1) (N := 6) gx gb gts i1 gown hK hP 1 rfl rfl 3 (by decide) (gts (.fieldLink RX8 82 "SwanSums$Flock" "size" "I") (by decide +kernel)) (fun _ h9 => h9) rfl dX8_filled_65 ?_
          refine lv_iload gx gb dX8_filled_68 (lv_at hl 2 rfl) ?_
          have hPc := hP.sub (ws' := wP pd sg cI cnt r_ s_ g) [4, 5] rfl
          have hDc := hD.sub (ws' := wP pd sg cI cnt r_ s_ g) [4, 5] (by decide) rfl
          have hFc := va_free (wc := wP pd sg cI cnt r_ s_ g) hD hS hA [4, 5] rfl
          refine va_calli (va_runV (As := [.int (nI (pk 8 plc q)), .int (nI q), .int (nI i)]) (rest := []) ⟨gx, gb, gml, gown, gts⟩ (kX4_pass Gl D cI cJ cZ pd sg cnt r_ s_ g _ plc q i (evn g cnt) (by omega) (by omega) (by exact hwf) (by omega) (by omega) (by exact hp8) (by omega)) (cwV 3 gts gX8_filled_X4_pass rfl rfl rfl (by decide +kernel) ⟨Nat.le_of_ble_eq_true rfl, Nat.le_of_ble_eq_true rfl⟩) ⟨fun a U g mk q => by obtain ⟨q0, q1, qP, qK, qD⟩ := q; exact ⟨q0, q1, qP, va_K.moved (u := U) (U := U.calling g mk a) (Vm.Alike.refl U.vm) qK, qD⟩, va_recv hK hPc (ci := 1) (q0 := 0) rfl rfl, fun U hU hW => ⟨rfl, by rw [hU], by rw [hU]; exact hPc, va_K.moved hW.alike hK, hDc.weaken (fun _ _ _ _ => trivial)⟩⟩ rfl rfl hl.1 rfl (lv_room (Nat.le_of_ble_eq_true rfl)) dX8_filled_70 ⟨Nat.le_of_ble_eq_true rfl, Nat.le_of_ble_eq_true rfl⟩) hS (fun q _ h => hFc q h) hFc (fun r u t H1 locs ht hvm hw hB hz1 hk1 hS => ?_)
          obtain ⟨hP1, hK1, hD1⟩ := hB
          rw [ht] at hP1
          try dsimp only at hw
          try dsimp only at hP1
          try dsimp only at hD1
          have hK := va_K.moved hvm.symm hK1
          obtain ⟨hP, hD⟩ := va_join (wr := [(h, .inr (3, [.ref fl, .ref e1, .ref e2, .int (nI k1), .int (nI k2), .ref pd, rv])), (fl, .inr (0, [.int (nI n), .long (lN N), .int (nI (pk 8 plc q)), .int (nI q), .long (lN (pk 64 (fun k => 8 * sig (2 * k) + sig (2 * k + 1)) c)), .int (nI c)])), (e1, .inr (0, [.int (nI na), .long (lN Na), .int (nI Ra), .int (nI qa), .long (lN Sa), .int (nI ca)])), (e2, .inr (0, [.int (nI nb), .long (lN Nb), .int (nI Rb), .int (nI qb), .long (lN Sb), .int (nI cb)]))]) (w1 := wP pd sg cI cnt (pk 8 (dst (fun j => dg q i (cq g cnt - 1 - j)) g plc q (dayN (fun j => dg q i (cq g cnt - 1 - j)) g plc q (evn g cnt))).1 (dst (fun j => dg q i (cq g cnt - 1 - j)) g plc q (dayN (fun j => dg q i (cq g cnt - 1 - j)) g plc q (evn g cnt))).2) ((dst (fun j => dg q i (cq g cnt - 1 - j)) g plc q (dayN (fun j => dg q i (cq g cnt - 1 - j)) g plc q (evn g cnt))).2) g) hP hD [4, 5] [0, 1, 2, 3] rfl rfl (by decide) (by decide) hk1 hFc hP1 hD1
          have hP := hP.sub (ws' := wX h fl e1 e2 pd sg cI k1 k2 rv n N (pk 8 plc q) q (pk 64 (fun k => 8 * sig (2 * k) + sig (2 * k + 1)) c) c na Na Ra qa Sa ca nb Nb Rb qb Sb cb cnt (pk 8 (dst (fun j => dg q i (cq g cnt - 1 - j)) g plc q (dayN (fun j => dg q i (cq g cnt - 1 - j)) g plc q (evn g cnt))).1 (dst (fun j => dg q i (cq g cnt - 1 - j)) g plc q (dayN (fun j => dg q i (cq g cnt - 1 - j)) g plc q (evn g cnt))).2) ((dst (fun j => dg q i (cq g cnt - 1 - j)) g plc q (dayN (fun j => dg q i (cq g cnt - 1 - j)) g plc q (evn g cnt))).2) g) [0, 1, 2, 3, 4, 5] rfl
          have hD := hD.sub (ws' := wX h fl e1 e2 pd sg cI k1 k2 rv n N (pk 8 plc q) q (pk 64 (fun k => 8 * sig (2 * k) + sig (2 * k + 1)) c) c na Na Ra qa Sa ca nb Nb Rb qb Sb cb cnt (pk 8 (dst (fun j => dg q i (cq g cnt - 1 - j)) g plc q (dayN (fun j => dg q i (cq g cnt - 1 - j)) g plc q (evn g cnt))).1 (dst (fun j => dg q i (cq g cnt - 1 - j)) g plc q (dayN (fun j => dg q i (cq g cnt - 1 - j)) g plc q (evn g cnt))).2) ((dst (fun j => dg q i (cq g cnt - 1 - j)) g plc q (dayN (fun j => dg q i (cq g cnt - 1 - j)) g plc q (evn g cnt))).2) g) [0, 1, 2, 3, 4, 5] (by decide) rfl
          have hK := va_K.moved (Vm.Alike.refl Gs.vm) hK
          generalize H1 = H at hP hS ⊢
          have hr70 := hw
          subst hr70
          have hdb := dayZ_bd (fun j => dg q i (cq g cnt - 1 - j)) g plc q (evn g cnt)
          have hew := evn_le g cnt
          refine lv_istore (lv' := [(7, .int (zI (dayZ (fun j => dg q i (cq g cnt - 1 - j)) g plc q (evn g cnt)))), (4, .int (nI n_)), (5, .int (nI F_)), (6, .int (nI i)), (3, .int (nI (q ^ (cq g cnt)))), (2, .int (nI (cq g cnt))), (0, .ref h), (1, .int (zI a))]) gx gb dX8_filled_73 hl (by decide) rfl (fun ls hl => ?_)
          refine lv_iload gx gb dX8_filled_75 (lv_at hl 0 rfl) ?_
          refine lv_bipush (v := zI (-6)) gx gb dX8_filled_77 (by decide) ?_
          refine lv_icmp_ne (tgt := 123) gx gb dX8_filled_79 (by decide) (fun c79 => ?_) (fun c79 => ?_)
          · skip
            rw [zI_eq (by omega) (by omega) (by omega) (by omega)] at c79
            have hPi : filX g cnt plc q sig c q i = false := Bool.eq_false_iff.mpr (fun h9 => c79 (filX_e h9).1)
            refine lv_iinc (v := nI (i + 1)) (lv' := [(6, .int (nI (i + 1))), (7, .int (zI (dayZ (fun j => dg q i (cq g cnt - 1 - j)) g plc q (evn g cnt)))), (4, .int (nI n_)), (5, .int (nI F_)), (3, .int (nI (q ^ (cq g cnt)))), (2, .int (nI (cq g cnt))), (0, .ref h), (1, .int (zI a))]) gx gb dX8_filled_123 hl (k := 3) rfl (nI_add i 1) (by decide) rfl (fun ls hl => ?_)
            refine lv_goto (tgt := 44) gx gb dX8_filled_126 (by decide) ?_
            exact ih44 (pk 8 (dst (fun j => dg q i (cq g cnt - 1 - j)) g plc q (dayN (fun j => dg q i (cq g cnt - 1 - j)) g plc q (evn g cnt))).1 (dst (fun j => dg q i (cq g cnt - 1 - j)) g plc q (dayN (fun j => dg q i (cq g cnt - 1 - j)) g plc q (evn g cnt))).2) ((dst (fun j => dg q i (cq g cnt - 1 - j)) g plc q (dayN (fun j => dg q i (cq g cnt - 1 - j)) g plc q (evn g cnt))).2) (i + 1) n_ F_ (by omega) (by first | (rw [cnT, c103, hn_]; rfl) | (rw [cnT, if_neg (by rw [c103]; decide), hn_]; rfl) | (rw [cnT, if_neg (by rw [hPi]; decide), hn_]; rfl)) (by first | (rw [fsN, hxx, hF, ← hn_]; by_cases h9 : n_ = 0; (rw [if_pos h9, if_pos ⟨h9, c103⟩]); (rw [if_neg h9, if_neg (fun hh => h9 hh.1)])) | (rw [fsN, if_neg (fun hh => by rw [c103] at hh; cases hh.2), hF]) | (rw [fsN, if_neg (fun hh => by rw [hPi] at hh; cases hh.2), hF])) (by omega) _ _ hP hD hS ls (lv_sub hl [2, 3, 0, 4, 5, 6, 7] rfl)
          · skip
            rw [zI_eq (by omega) (by omega) (by omega) (by omega)] at c79
            have hdN : dayN (fun j => dg q i (cq g cnt - 1 - j)) g plc q (evn g cnt) = evn g cnt := dayN_n (dayZ_m6 c79)
            have hzb := dst_z (D := (fun j => dg q i (cq g cnt - 1 - j))) (g := g) (f := plc) hq1 (evn g cnt)
            have hib := dst_in (D := (fun j => dg q i (cq g cnt - 1 - j))) (g := g) (q := q) (P := fun x => x < 8) hp8 (evn g cnt)
            have hrb8 := pk8_lt hib (by omega)
            rw [← hdN] at hib hrb8 hzb
            refine lv_aload_n gx gb dX8_filled_82 rfl (lv_at hl 6 rfl) ?_
            refine va_get (D := D) (ci := 3) (v := .ref fl) (C := RX8) (T := TX8) (N := 7) gx gb gts i8 gown hK hP 0 rfl rfl 0 (by decide) (gts (.fieldLink RX8 12 "SwanSums" "flock" "LSwanSums$Flock;") (by decide +kernel)) (fun _ h9 => h9) rfl dX8_filled_83 ?_
            refine lv_aload_n gx gb dX8_filled_86 rfl (lv_at hl 6 rfl) ?_
            refine va_get (D := D) (ci := 3) (v := .ref pd) (C := RX8) (T := TX8) (N := 7) gx gb gts i8 gown hK hP 0 rfl rfl 5 (by decide) (gts (.fieldLink RX8 32 "SwanSums" "pad" "LSwanSums$Pad;") (by decide +kernel)) (fun _ h9 => h9) rfl dX8_filled_87 ?_
            refine va_get (D := D) (ci := 1) (v := .int (nI (pk 8 (dst (fun j => dg q i (cq g cnt - 1 - j)) g plc q (dayN (fun j => dg q i (cq g cnt - 1 - j)) g plc q (evn g cnt))).1 (dst (fun j => dg q i (cq g cnt - 1 - j)) g plc q (dayN (fun j => dg q i (cq g cnt - 1 - j)) g plc q (evn g cnt))).2))) (C := RX4) (T := TX4) (N := 4) gx gb gts i4 gown hK hP 4 rfl rfl 2 (by decide) (gts (.fieldLink RX8 95 "SwanSums$Pad" "rowBehind" "I") (by decide +kernel)) (fun _ h9 => h9) rfl dX8_filled_90 ?_
            refine lv_aload_n gx gb dX8_filled_93 rfl (lv_at hl 6 rfl) ?_
            refine va_get (D := D) (ci := 3) (v := .ref pd) (C := RX8) (T := TX8) (N := 7) gx gb gts i8 gown hK hP 0 rfl rfl 5 (by decide) (gts (.fieldLink RX8 32 "SwanSums" "pad" "LSwanSums$Pad;") (by decide +kernel)) (fun _ h9 => h9) rfl dX8_filled_94 ?_
            refine va_get (D := D) (ci := 1) (v := .int (nI ((dst (fun j => dg q i (cq g cnt - 1 - j)) g plc q (dayN (fun j => dg q i (cq g cnt - 1 - j)) g plc q (evn g cnt))).2))) (C := RX4) (T := TX4) (N := 4) gx gb gts i4 gown hK hP 4 rfl rfl 3 (by decide) (gts (.fieldLink RX8 98 "SwanSums$Pad" "sizeBehind" "I") (by decide +kernel)) (fun _ h9 => h9) rfl dX8_filled_97 ?_
            have hPc := hP.sub (ws' := wF fl n N (pk 8 plc q) q (pk 64 (fun k => 8 * sig (2 * k) + sig (2 * k + 1)) c) c) [1] rfl
            refine vp_callSi (W.runV (As := [.int (nI (pk 8 (dst (fun j => dg q i (cq g cnt - 1 - j)) g plc q (dayN (fun j => dg q i (cq g cnt - 1 - j)) g plc q (evn g cnt))).1 (dst (fun j => dg q i (cq g cnt - 1 - j)) g plc q (dayN (fun j => dg q i (cq g cnt - 1 - j)) g plc q (evn g cnt))).2)), .int (nI ((dst (fun j => dg q i (cq g cnt - 1 - j)) g plc q (dayN (fun j => dg q i (cq g cnt - 1 - j)) g plc q (evn g cnt))).2))]) (rest := []) ⟨gx, gb, gml, gown, gts⟩ (kX1_sightsHold Gl D cI cJ cZ fl n N (pk 8 plc q) q (pk 64 (fun k => 8 * sig (2 * k) + sig (2 * k + 1)) c) c (pk 8 (dst (fun j => dg q i (cq g cnt - 1 - j)) g plc q (dayN (fun j => dg q i (cq g cnt - 1 - j)) g plc q (evn g cnt))).1 (dst (fun j => dg q i (cq g cnt - 1 - j)) g plc q (dayN (fun j => dg q i (cq g cnt - 1 - j)) g plc q (evn g cnt))).2) ((dst (fun j => dg q i (cq g cnt - 1 - j)) g plc q (dayN (fun j => dg q i (cq g cnt - 1 - j)) g plc q (evn g cnt))).2) (by omega) (by omega) (by omega) (by omega)) (cwV 2 gts gX8_filled_X1_sightsHold rfl rfl rfl (by decide +kernel) ⟨Nat.le_of_ble_eq_true rfl, Nat.le_of_ble_eq_true rfl⟩) ⟨fun a U g mk q => ⟨q.1, q.2.1, va_K.moved (u := U) (U := U.calling g mk a) (Vm.Alike.refl U.vm) q.2.2⟩, va_recv hK hPc (ci := 0) (q0 := 0) rfl rfl, fun U hU hW => ⟨rfl, by rw [hU]; exact hPc, va_K.moved hW.alike hK⟩⟩ rfl rfl hl.1 rfl (lv_room (Nat.le_of_ble_eq_true rfl)) dX8_filled_100 ⟨Nat.le_of_ble_eq_true rfl, Nat.le_of_ble_eq_true rfl⟩) (fun r hw => ?_)
            have hr100 := hw
            subst hr100
            refine lv_evi (bI (filX g cnt plc q sig c q i)) (congrArg bI (by
              rw [hdN]
              refine decide_eq_decide.mpr ⟨fun h9 => ⟨c79, fun x hx => ?_⟩, fun h9 x hx => ?_⟩
              · have h8 := h9 x hx
                have s1 := hsg (2 * x) (by omega)
                have s2 := hsg (2 * x + 1) (by omega)
                rw [dg_pk h64 hx, show (8 * sig (2 * x) + sig (2 * x + 1)) % 8 = sig (2 * x + 1) by omega, show (8 * sig (2 * x) + sig (2 * x + 1)) / 8 = sig (2 * x) by omega] at h8
                rw [hdN] at hib
                rw [dg_pk hib h8.1] at h8
                exact h8
              · have h8 := h9.2 x hx
                have s1 := hsg (2 * x) (by omega)
                have s2 := hsg (2 * x + 1) (by omega)
                rw [dg_pk h64 hx, show (8 * sig (2 * x) + sig (2 * x + 1)) % 8 = sig (2 * x + 1) by omega, show (8 * sig (2 * x) + sig (2 * x + 1)) / 8 = sig (2 * x) by omega]
                rw [hdN] at hib
                rw [dg_pk hib h8.1]
                exact h8)) ?_
            refine lv_if_eq (tgt := 123) gx gb dX8_filled_103 (by decide) (fun c103 => ?_) (fun c103 => ?_)
            · skip
              rw [b0_eq] at c103
              refine lv_iinc (v := nI (i + 1)) (lv' := [(6, .int (nI (i + 1))), (7, .int (zI (dayZ (fun j => dg q i (cq g cnt - 1 - j)) g plc q (evn g cnt)))), (4, .int (nI n_)), (5, .int (nI F_)), (3, .int (nI (q ^ (cq g cnt)))), (2, .int (nI (cq g cnt))), (0, .ref h), (1, .int (zI a))]) gx gb dX8_filled_123 hl (k := 3) rfl (nI_add i 1) (by decide) rfl (fun ls hl => ?_)
              refine lv_goto (tgt := 44) gx gb dX8_filled_126 (by decide) ?_
              exact ih44 (pk 8 (dst (fun j => dg q i (cq g cnt - 1 - j)) g plc q (dayN (fun j => dg q i (cq g cnt - 1 - j)) g plc q (evn g cnt))).1 (dst (fun j => dg q i (cq g cnt - 1 - j)) g plc q (dayN (fun j => dg q i (cq g cnt - 1 - j)) g plc q (evn g cnt))).2) ((dst (fun j => dg q i (cq g cnt - 1 - j)) g plc q (dayN (fun j => dg q i (cq g cnt - 1 - j)) g plc q (evn g cnt))).2) (i + 1) n_ F_ (by omega) (by first | (rw [cnT, c103, hn_]; rfl) | (rw [cnT, if_neg (by rw [c103]; decide), hn_]; rfl) | (rw [cnT, if_neg (by rw [hPi]; decide), hn_]; rfl)) (by first | (rw [fsN, hxx, hF, ← hn_]; by_cases h9 : n_ = 0; (rw [if_pos h9, if_pos ⟨h9, c103⟩]); (rw [if_neg h9, if_neg (fun hh => h9 hh.1)])) | (rw [fsN, if_neg (fun hh => by rw [c103] at hh; cases hh.2), hF]) | (rw [fsN, if_neg (fun hh => by rw [hPi] at hh; cases hh.2), hF])) (by omega) _ _ hP hD hS ls (lv_sub hl [2, 3, 0, 4, 5, 6, 7] rfl)
            · skip
              rw [b0_eq] at c103
              have c103 := nf_t c103
              have L118 : ∀ (x : Nat) (hxx : x = if n_ = 0 then i else F_), ∀ (H : Heap) (locs : List Loc), va_P D vwCl (wX h fl e1 e2 pd sg cI k1 k2 rv n N (pk 8 plc q) q (pk 64 (fun k => 8 * sig (2 * k) + sig (2 * k + 1)) c) c na Na Ra qa Sa ca nb Nb Rb qb Sb cb cnt (pk 8 (dst (fun j => dg q i (cq g cnt - 1 - j)) g plc q (dayN (fun j => dg q i (cq g cnt - 1 - j)) g plc q (evn g cnt))).1 (dst (fun j => dg q i (cq g cnt - 1 - j)) g plc q (dayN (fun j => dg q i (cq g cnt - 1 - j)) g plc q (evn g cnt))).2) ((dst (fun j => dg q i (cq g cnt - 1 - j)) g plc q (dayN (fun j => dg q i (cq g cnt - 1 - j)) g plc q (evn g cnt))).2) g) H → va_D A (wX h fl e1 e2 pd sg cI k1 k2 rv n N (pk 8 plc q) q (pk 64 (fun k => 8 * sig (2 * k) + sig (2 * k + 1)) c) c na Na Ra qa Sa ca nb Nb Rb qb Sb cb cnt (pk 8 (dst (fun j => dg q i (cq g cnt - 1 - j)) g plc q (dayN (fun j => dg q i (cq g cnt - 1 - j)) g plc q (evn g cnt))).1 (dst (fun j => dg q i (cq g cnt - 1 - j)) g plc q (dayN (fun j => dg q i (cq g cnt - 1 - j)) g plc q (evn g cnt))).2) ((dst (fun j => dg q i (cq g cnt - 1 - j)) g plc q (dayN (fun j => dg q i (cq g cnt - 1 - j)) g plc q (evn g cnt))).2) g) → va_S A Gs.heap H locs → ∀ ls : Array Slot, lv_has ls 8 [(7, .int (zI (dayZ (fun j => dg q i (cq g cnt - 1 - j)) g plc q (evn g cnt)))), (4, .int (nI n_)), (5, .int (nI F_)), (6, .int (nI i)), (3, .int (nI (q ^ (cq g cnt)))), (2, .int (nI (cq g cnt))), (0, .ref h), (1, .int (zI a))] → W Gp Gl Ge (headSpec wsX8_filled ({ frames := 5, cells := 0, slots := 0, locals := 118 } : Room)).room Gs Gm ([.ref h, .int (zI a)] : List Value).toArray Gw Gt Gc H locs 0 0 (MQ Gw (va_Qi (fun (r : Int32) (u : (Nat) × (Nat)) => r = zI (filB g cnt plc q sig c q a)) (fun (u : (Nat) × (Nat)) t => va_P D vwCl (wX h fl e1 e2 pd sg cI k1 k2 rv n N (pk 8 plc q) q (pk 64 (fun k => 8 * sig (2 * k) + sig (2 * k + 1)) c) c na Na Ra qa Sa ca nb Nb Rb qb Sb cb cnt u.1 u.2 g) t.heap ∧ va_K D vwCl [(cI, .int), (cJ, .long), (cZ, .boolean)] t ∧ va_D A (wX h fl e1 e2 pd sg cI k1 k2 rv n N (pk 8 plc q) q (pk 64 (fun k => 8 * sig (2 * k) + sig (2 * k + 1)) c) c na Na Ra qa Sa ca nb Nb Rb qb Sb cb cnt u.1 u.2 g)) A) ([.ref h, .int (zI a)] : List Value).toArray Gs 0 0 A) (F0 Gm 118 ls [.int (nI x)]) := by
                intro x hxx H locs hP hD hS ls hl
                refine lv_istore (lv' := [(5, .int (nI x)), (7, .int (zI (dayZ (fun j => dg q i (cq g cnt - 1 - j)) g plc q (evn g cnt)))), (4, .int (nI n_)), (6, .int (nI i)), (3, .int (nI (q ^ (cq g cnt)))), (2, .int (nI (cq g cnt))), (0, .ref h), (1, .int (zI a))]) gx gb dX8_filled_118 hl (by decide) rfl (fun ls hl => ?_)
                refine lv_iinc (v := nI (n_ + 1)) (lv' := [(4, .int (nI (n_ + 1))), (5, .int (nI x)), (7, .int (zI (dayZ (fun j => dg q i (cq g cnt - 1 - j)) g plc q (evn g cnt)))), (6, .int (nI i)), (3, .int (nI (q ^ (cq g cnt)))), (2, .int (nI (cq g cnt))), (0, .ref h), (1, .int (zI a))]) gx gb dX8_filled_120 hl (k := 2) rfl (nI_add n_ 1) (by decide) rfl (fun ls hl => ?_)
                refine lv_iinc (v := nI (i + 1)) (lv' := [(6, .int (nI (i + 1))), (4, .int (nI (n_ + 1))), (5, .int (nI x)), (7, .int (zI (dayZ (fun j => dg q i (cq g cnt - 1 - j)) g plc q (evn g cnt)))), (3, .int (nI (q ^ (cq g cnt)))), (2, .int (nI (cq g cnt))), (0, .ref h), (1, .int (zI a))]) gx gb dX8_filled_123 hl (k := 3) rfl (nI_add i 1) (by decide) rfl (fun ls hl => ?_)
                refine lv_goto (tgt := 44) gx gb dX8_filled_126 (by decide) ?_
                exact ih44 (pk 8 (dst (fun j => dg q i (cq g cnt - 1 - j)) g plc q (dayN (fun j => dg q i (cq g cnt - 1 - j)) g plc q (evn g cnt))).1 (dst (fun j => dg q i (cq g cnt - 1 - j)) g plc q (dayN (fun j => dg q i (cq g cnt - 1 - j)) g plc q (evn g cnt))).2) ((dst (fun j => dg q i (cq g cnt - 1 - j)) g plc q (dayN (fun j => dg q i (cq g cnt - 1 - j)) g plc q (evn g cnt))).2) (i + 1) (n_ + 1) x (by omega) (by first | (rw [cnT, c103, hn_]; rfl) | (rw [cnT, if_neg (by rw [c103]; decide), hn_]; rfl) | (rw [cnT, if_neg (by rw [hPi]; decide), hn_]; rfl)) (by first | (rw [fsN, hxx, hF, ← hn_]; by_cases h9 : n_ = 0; (rw [if_pos h9, if_pos ⟨h9, c103⟩]); (rw [if_neg h9, if_neg (fun hh => h9 hh.1)])) | (rw [fsN, if_neg (fun hh => by rw [c103] at hh; cases hh.2), hF]) | (rw [fsN, if_neg (fun hh => by rw [hPi] at hh; cases hh.2), hF])) (by omega) _ _ hP hD hS ls (lv_sub hl [1, 2, 0, 4, 5, 6, 7] rfl)
              refine lv_iload gx gb dX8_filled_106 (lv_at hl 1 rfl) ?_
              refine lv_if_ne (tgt := 116) gx gb dX8_filled_108 (by decide) (fun c108 => ?_) (fun c108 => ?_)
              · skip
                rw [n0_eq (by omega)] at c108
                refine lv_iload gx gb dX8_filled_116 (lv_at hl 2 rfl) ?_
                exact L118 F_ (by first | rw [if_pos (by omega)] | rw [if_neg (by omega)]) _ _ hP hD hS ls (lv_sub hl [0, 1, 2, 3, 4, 5, 6, 7] rfl)
              · skip
                rw [n0_eq (by omega)] at c108
                refine lv_iload gx gb dX8_filled_111 (lv_at hl 3 rfl) ?_
                refine lv_goto (tgt := 118) gx gb dX8_filled_113 (by decide) ?_
                exact L118 i (by first | rw [if_pos (by omega)] | rw [if_neg (by omega)]) _ _ hP hD hS ls (lv_sub hl [0, 1, 2, 3, 4, 5, 6, 7] rfl)
    exact L44 _ rb sb 0 0 0 (by omega) (by rfl) (by rfl) (Nat.lt_succ_self _) _ _ hP hD hS ls (lv_sub hl [2, 1, 0, 3, 4, 5, 6] rfl)
  · skip
    rw [zI_eq (by omega) (by omega) (by omega) (by omega)] at c9
    refine lv_bipush (v := zI (-5)) gx gb dX8_filled_12 (by decide) ?_
    exact W.iret (v := zI (-5)) gx gb gr (fun t ht hW => ⟨⟨zI (-5), (rb, sb), rfl, (by first | (dsimp only; done) | ((try dsimp only); rw [filB, if_neg (by omega)])), by rw [ht]; exact hP, va_K.moved hW.alike hK, hD⟩, hS.F ht⟩) hS.2.2 dX8_filled_14

