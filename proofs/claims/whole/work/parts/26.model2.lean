
set_option maxHeartbeats 4000000 in
set_option maxRecDepth 100000 in
theorem kX9_faultOf (Gl : Launch) (D : va_G) (cI cJ cZ : ClassId) (mo : Nat) (ma : Nat) (mb : Nat) (mc : Nat) (md : Nat) (me : Nat) (mf : Nat) (mg : Nat) (mh : Nat) (mi : Nat) (mj : Nat) (mk : Nat) (ml : Nat) (mn : Nat) (n : Nat) (q : Nat) (c : Nat) (w : Nat) (z : Nat) (ev : Nat) (num : Nat → Nat) (plc : Nat → Nat) (sig : Nat → Nat) (pad : Nat → Nat) (row : Nat → Nat) (dig : Nat → Nat) (far : Nat → Int32) (cfr : Nat → Nat) (cby : Nat → Nat) (que : Nat → Nat) (has : Nat → Nat) (img : Nat → Nat) (kep : Nat → Nat) (hw : w ≤ 60) (hg : ∀ k, k < w → pad k < 127) : Met Gl yX9_faultOf wsX9_faultOf ({ frames := 1, cells := 0, slots := 0, locals := 22 } : Room) (va_Pc [.ref mo] (fun U => va_P D vwCl (wM mo ma mb mc md me mf mg mh mi mj mk ml mn cI cZ n q c w z ev num plc sig pad row dig far cfr cby que has img kep) U.heap ∧ va_K D vwCl [(cI, .int), (cJ, .long), (cZ, .boolean)] U)) (vp_Si (fun r : Int32 => r = zI (fltZ pad w))) 0 0 (fun _ => False) := by
  refine Met.ofW (cc := cX9_faultOf) (maxL := 6) (ret := (some .int)) (by decide +kernel) rfl ?_
  intro Gp Ge Gs Gm Ga Gw Gt Gc G1 Bd gml gv
  obtain ⟨rfl, hP, hK⟩ := gv
  have gx := Bd.exec
  have gb := Bd.bytes
  have gr := Bd.returns
  have gts := atoms_spec (ws := wsX9_faultOf) Bd.pre
  have gown : Gs.vm.findClass RX9 = some Gm.cls := findClass_of_methodNamed Bd.named
  have glk := Bd.notSynchronized
  have hl := lv_entry ([.ref mo]) (n := 6) (Nat.le_of_ble_eq_true rfl)
  rw [lg_entry_eq]
  generalize (lg_sl ([.ref mo]) ++ List.replicate (6 - (lg_sl ([.ref mo])).length) Slot.unset).toArray = ls at hl ⊢
  have hl : lv_has ls 6 [(0, .ref mo)] := hl
  have i9 : ∀ w ∈ wsX90, w ∈ wsX9_faultOf := by decide +kernel
  refine lv_iconst (v := nI 0) gx gb dX9_faultOf_0 (by decide) ?_
  refine lv_istore_n (lv' := [(1, .int (nI 0)), (0, .ref mo)]) gx gb dX9_faultOf_1 rfl hl (by decide) rfl (fun ls hl => ?_)
  refine lv_iconst (v := nI 0) gx gb dX9_faultOf_2 (by decide) ?_
  refine lv_istore_n (lv' := [(2, .int (nI 0)), (1, .int (nI 0)), (0, .ref mo)]) gx gb dX9_faultOf_3 rfl hl (by decide) rfl (fun ls hl => ?_)
  refine lv_iconst (v := nI 0) gx gb dX9_faultOf_4 (by decide) ?_
  refine lv_istore_n (lv' := [(3, .int (nI 0)), (2, .int (nI 0)), (1, .int (nI 0)), (0, .ref mo)]) gx gb dX9_faultOf_5 rfl hl (by decide) rfl (fun ls hl => ?_)
  have L6 : ∀ fu : Nat, ∀ (i : Nat) (hi : i ≤ w) (hf : fltG pad i = none), (w - i) < fu → ∀ ls : Array Slot, lv_has ls 6 [(1, .int (nI (wnt pad i))), (2, .int (nI (cq pad i))), (3, .int (nI i)), (0, .ref mo)] → W Gp Gl Ge (headSpec wsX9_faultOf ({ frames := 1, cells := 0, slots := 0, locals := 22 } : Room)).room Gs Gm ([.ref mo] : List Value).toArray Gw Gt Gc Gs.heap [] 0 0 (MQ Gw (vp_Si (fun r : Int32 => r = zI (fltZ pad w))) ([.ref mo] : List Value).toArray Gs 0 0 (fun _ => False)) (F0 Gm 6 ls []) := by
    intro fu
    induction fu with
    | zero => intro i hi hf hfu; exact absurd hfu (Nat.not_lt_zero _)
    | succ fu ih6 =>
      intro i hi hf hfu ls hl
      have hcq := cq_le pad i
      have hwt := wnt_lt hg (by omega : 0 < 127) i (by omega)
      refine lv_iload_n gx gb dX9_faultOf_6 rfl (lv_at hl 2 rfl) ?_
      refine lv_aload_n gx gb dX9_faultOf_7 rfl (lv_at hl 3 rfl) ?_
      refine va_get (D := D) (ci := 4) (v := .int (nI w)) (C := RX9) (T := TX9) (N := 19) gx gb gts i9 gown hK hP 0 rfl rfl 6 (by decide) (gts (.fieldLink RX9 71 "SwanSumsModel" "signs" "I") (by decide +kernel)) (fun _ h9 => h9) rfl dX9_faultOf_8 ?_
      refine lv_icmp_ge (tgt := 132) gx gb dX9_faultOf_11 (by decide) (fun c11 => ?_) (fun c11 => ?_)
      · skip
        rw [nI_leI (by omega) (by omega)] at c11
        refine lv_iload_n gx gb dX9_faultOf_132 rfl (lv_at hl 0 rfl) ?_
        refine lv_if_ne (tgt := 141) gx gb dX9_faultOf_133 (by decide) (fun c133 => ?_) (fun c133 => ?_)
        · skip
          rw [n0_eq (by omega)] at c133
          refine lv_aload_n gx gb dX9_faultOf_141 rfl (lv_at hl 3 rfl) ?_
          refine va_get (D := D) (ci := 4) (v := .int (nI w)) (C := RX9) (T := TX9) (N := 19) gx gb gts i9 gown hK hP 0 rfl rfl 6 (by decide) (gts (.fieldLink RX9 71 "SwanSumsModel" "signs" "I") (by decide +kernel)) (fun _ h9 => h9) rfl dX9_faultOf_142 ?_
          exact W.iret (v := nI w) gx gb gr (fun t ht hW => ⟨nI w, rfl, (by first | (dsimp only; done) | ((try dsimp only); obtain rfl : i = w := (by omega); first | (rw [fltZ_0 hf (by omega)]) | (rw [fltZ_w hf (by omega), zI_nat]))), ht⟩) (fun q h => by cases h) dX9_faultOf_145
        · skip
          rw [n0_eq (by omega)] at c133
          refine lv_bipush (v := zI (-6)) gx gb dX9_faultOf_136 (by decide) ?_
          refine lv_goto (tgt := 145) gx gb dX9_faultOf_138 (by decide) ?_
          exact W.iret (v := zI (-6)) gx gb gr (fun t ht hW => ⟨zI (-6), rfl, (by first | (dsimp only; done) | ((try dsimp only); obtain rfl : i = w := (by omega); first | (rw [fltZ_0 hf (by omega)]) | (rw [fltZ_w hf (by omega), zI_nat]))), ht⟩) (fun q h => by cases h) dX9_faultOf_145
      · skip
        rw [nI_leI (by omega) (by omega)] at c11
        have hgi := hg i (by omega)
        have hcq1 := cq_le pad (i + 1)
        refine lv_aload_n gx gb dX9_faultOf_14 rfl (lv_at hl 3 rfl) ?_
        refine va_get (D := D) (ci := 4) (v := .ref md) (C := RX9) (T := TX9) (N := 19) gx gb gts i9 gown hK hP 0 rfl rfl 7 (by decide) (gts (.fieldLink RX9 26 "SwanSumsModel" "pad" "[I") (by decide +kernel)) (fun _ h9 => h9) rfl dX9_faultOf_15 ?_
        refine lv_iload_n gx gb dX9_faultOf_18 rfl (lv_at hl 2 rfl) ?_
        refine va_iald gx gb hK hP 4 0 rfl rfl (vp_in_nI (n := i) (by omega) (by decide)) dX9_faultOf_19 ?_
        refine lv_evi (nI (pad i)) (aN_rd pad (by omega)) ?_
        refine lv_istore (lv' := [(4, .int (nI (pad i))), (1, .int (nI (wnt pad i))), (2, .int (nI (cq pad i))), (3, .int (nI i)), (0, .ref mo)]) gx gb dX9_faultOf_20 hl (by decide) rfl (fun ls hl => ?_)
        have L35 : ∀ (x : Nat) (hxx : x = if pad i = 63 then 1 else 0), ∀ ls : Array Slot, lv_has ls 6 [(4, .int (nI (pad i))), (1, .int (nI (wnt pad i))), (2, .int (nI (cq pad i))), (3, .int (nI i)), (0, .ref mo)] → W Gp Gl Ge (headSpec wsX9_faultOf ({ frames := 1, cells := 0, slots := 0, locals := 22 } : Room)).room Gs Gm ([.ref mo] : List Value).toArray Gw Gt Gc Gs.heap [] 0 0 (MQ Gw (vp_Si (fun r : Int32 => r = zI (fltZ pad w))) ([.ref mo] : List Value).toArray Gs 0 0 (fun _ => False)) (F0 Gm 35 ls [.int (nI x), .int (nI (cq pad i))]) := by
          intro x hxx ls hl
          subst hxx
          have hl : lv_has ls 6 [(4, .int (nI (pad i))), (1, .int (nI (wnt pad i))), (2, .int (nI (cq pad i))), (3, .int (nI i)), (0, .ref mo)] := hl
          refine lv_iadd gx gb dX9_faultOf_35 ?_
          refine lv_evi (nI ((cq pad i) + (if pad i = 63 then 1 else 0))) (nI_add (cq pad i) (if pad i = 63 then 1 else 0)) ?_
          refine lv_evi (nI (cq pad (i + 1))) (rfl) ?_
          refine lv_istore_n (lv' := [(2, .int (nI (cq pad (i + 1)))), (4, .int (nI (pad i))), (1, .int (nI (wnt pad i))), (3, .int (nI i)), (0, .ref mo)]) gx gb dX9_faultOf_36 rfl hl (by decide) rfl (fun ls hl => ?_)
          have L99 : ∀ (f : Bool) (hff : f = fitS pad i), ∀ ls : Array Slot, lv_has ls 6 [(2, .int (nI (cq pad (i + 1)))), (4, .int (nI (pad i))), (1, .int (nI (wnt pad i))), (3, .int (nI i)), (0, .ref mo)] → W Gp Gl Ge (headSpec wsX9_faultOf ({ frames := 1, cells := 0, slots := 0, locals := 22 } : Room)).room Gs Gm ([.ref mo] : List Value).toArray Gw Gt Gc Gs.heap [] 0 0 (MQ Gw (vp_Si (fun r : Int32 => r = zI (fltZ pad w))) ([.ref mo] : List Value).toArray Gs 0 0 (fun _ => False)) (F0 Gm 99 ls [.int (bI f)]) := by
            intro f hff ls hl
            refine lv_istore (lv' := [(5, .int (bI f)), (2, .int (nI (cq pad (i + 1)))), (4, .int (nI (pad i))), (1, .int (nI (wnt pad i))), (3, .int (nI i)), (0, .ref mo)]) gx gb dX9_faultOf_99 hl (by decide) rfl (fun ls hl => ?_)
            refine lv_iload gx gb dX9_faultOf_101 (lv_at hl 0 rfl) ?_
            refine lv_if_ne (tgt := 108) gx gb dX9_faultOf_103 (by decide) (fun c103 => ?_) (fun c103 => ?_)
            · skip
              rw [b0_eq] at c103
              have c103 := nf_t c103
              have L125 : ∀ (x : Nat) (hx2 : x = wnt pad (i + 1)), ∀ ls : Array Slot, lv_has ls 6 [(5, .int (bI f)), (2, .int (nI (cq pad (i + 1)))), (4, .int (nI (pad i))), (1, .int (nI (wnt pad i))), (3, .int (nI i)), (0, .ref mo)] → W Gp Gl Ge (headSpec wsX9_faultOf ({ frames := 1, cells := 0, slots := 0, locals := 22 } : Room)).room Gs Gm ([.ref mo] : List Value).toArray Gw Gt Gc Gs.heap [] 0 0 (MQ Gw (vp_Si (fun r : Int32 => r = zI (fltZ pad w))) ([.ref mo] : List Value).toArray Gs 0 0 (fun _ => False)) (F0 Gm 125 ls [.int (nI x)]) := by
                intro x hx2 ls hl
                subst hx2
                have hl : lv_has ls 6 [(5, .int (bI f)), (2, .int (nI (cq pad (i + 1)))), (4, .int (nI (pad i))), (1, .int (nI (wnt pad i))), (3, .int (nI i)), (0, .ref mo)] := hl
                refine lv_istore_n (lv' := [(1, .int (nI (wnt pad (i + 1)))), (5, .int (bI f)), (2, .int (nI (cq pad (i + 1)))), (4, .int (nI (pad i))), (3, .int (nI i)), (0, .ref mo)]) gx gb dX9_faultOf_125 rfl hl (by decide) rfl (fun ls hl => ?_)
                refine lv_iinc (v := nI (i + 1)) (lv' := [(3, .int (nI (i + 1))), (1, .int (nI (wnt pad (i + 1)))), (5, .int (bI f)), (2, .int (nI (cq pad (i + 1)))), (4, .int (nI (pad i))), (0, .ref mo)]) gx gb dX9_faultOf_126 hl (k := 4) rfl (nI_add i 1) (by decide) rfl (fun ls hl => ?_)
                refine lv_goto (tgt := 6) gx gb dX9_faultOf_129 (by decide) ?_
                exact ih6 (i + 1) (by omega) (by exact flt_go hf (hff ▸ c103)) (by omega) ls (lv_sub hl [1, 3, 0, 5] rfl)
              refine lv_iload_n gx gb dX9_faultOf_108 rfl (lv_at hl 3 rfl) ?_
              refine lv_if_ne (tgt := 124) gx gb dX9_faultOf_109 (by decide) (fun c109 => ?_) (fun c109 => ?_)
              · skip
                rw [n0_eq (by omega)] at c109
                refine lv_iconst (v := nI 0) gx gb dX9_faultOf_124 (by decide) ?_
                exact L125 0 (by first | (simp only [wnt]; rw [if_pos ⟨by omega, by omega⟩]) | (simp only [wnt]; rw [if_neg (by omega)])) ls (lv_sub hl [0, 1, 2, 3, 4, 5] rfl)
              · skip
                rw [n0_eq (by omega)] at c109
                refine lv_iload gx gb dX9_faultOf_112 (lv_at hl 2 rfl) ?_
                refine lv_bipush (v := nI 114) gx gb dX9_faultOf_114 (by decide) ?_
                refine lv_icmp_eq (tgt := 124) gx gb dX9_faultOf_116 (by decide) (fun c116 => ?_) (fun c116 => ?_)
                · skip
                  rw [nI_eq (by omega) (by omega)] at c116
                  refine lv_iconst (v := nI 0) gx gb dX9_faultOf_124 (by decide) ?_
                  exact L125 0 (by first | (simp only [wnt]; rw [if_pos ⟨by omega, by omega⟩]) | (simp only [wnt]; rw [if_neg (by omega)])) ls (lv_sub hl [0, 1, 2, 3, 4, 5] rfl)
                · skip
                  rw [nI_eq (by omega) (by omega)] at c116
                  refine lv_iload gx gb dX9_faultOf_119 (lv_at hl 2 rfl) ?_
                  refine lv_goto (tgt := 125) gx gb dX9_faultOf_121 (by decide) ?_
                  exact L125 (pad i) (by first | (simp only [wnt]; rw [if_pos ⟨by omega, by omega⟩]) | (simp only [wnt]; rw [if_neg (by omega)])) ls (lv_sub hl [0, 1, 2, 3, 4, 5] rfl)
            · skip
              rw [b0_eq] at c103
              refine lv_iload_n gx gb dX9_faultOf_106 rfl (lv_at hl 4 rfl) ?_
              exact W.iret (v := nI i) gx gb gr (fun t ht hW => ⟨nI i, rfl, (by first | (dsimp only; done) | ((try dsimp only); rw [fltZ_at hf (hff ▸ c103) (by omega), zI_nat])), ht⟩) (fun q h => by cases h) dX9_faultOf_107
          refine lv_iload_n gx gb dX9_faultOf_37 rfl (lv_at hl 2 rfl) ?_
          refine lv_if_ne (tgt := 64) gx gb dX9_faultOf_38 (by decide) (fun c38 => ?_) (fun c38 => ?_)
          · skip
            rw [n0_eq (by omega)] at c38
            refine lv_iload gx gb dX9_faultOf_64 (lv_at hl 1 rfl) ?_
            refine lv_bipush (v := nI 48) gx gb dX9_faultOf_66 (by decide) ?_
            refine lv_bipush (v := nI 57) gx gb dX9_faultOf_68 (by decide) ?_
            refine lv_evs [.int (zI ((57 : Nat) : Int)), .int (zI ((48 : Nat) : Int)), .int (zI ((pad i : Nat) : Int))] (by simp only [nI_zc]) ?_
            refine vp_callSi (W.runS (As := [.int (zI ((pad i : Nat) : Int)), .int (zI ((48 : Nat) : Int)), .int (zI ((57 : Nat) : Int))]) (rest := []) ⟨gx, gb, gml, gown, gts⟩ (kX9_in Gl ((pad i : Nat) : Int) ((48 : Nat) : Int) ((57 : Nat) : Int) (by omega) (by omega) (by omega) (by omega) (by omega) (by omega)) (va_cwS 3 gts gX9_faultOf_X9_in rfl rfl rfl (by decide +kernel) ⟨Nat.le_of_ble_eq_true rfl, Nat.le_of_ble_eq_true rfl⟩) ⟨fun _ _ _ _ h => h, fun U hU hW => ⟨rfl, trivial⟩⟩ rfl rfl hl.1 rfl (lv_room (Nat.le_of_ble_eq_true rfl)) dX9_faultOf_70 ⟨Nat.le_of_ble_eq_true rfl, Nat.le_of_ble_eq_true rfl⟩) (fun r hw => ?_)
            have hr70 := hw
            subst hr70
            refine lv_if_ne (tgt := 94) gx gb dX9_faultOf_73 (by decide) (fun c73 => ?_) (fun c73 => ?_)
            · skip
              rw [b0_eq] at c73
              simp only [decide_eq_false_iff_not, Decidable.not_not] at c73
              refine lv_iconst (v := nI 1) gx gb dX9_faultOf_94 (by decide) ?_
              refine lv_goto (tgt := 99) gx gb dX9_faultOf_95 (by decide) ?_
              exact L99 true (by first | (unfold fitS; rw [if_pos (by omega)]; simp [c45]; done) | (unfold fitS; rw [if_pos (by omega)]; simp [c53]; done) | (unfold fitS; rw [if_pos (by omega)]; simp [c45, c53]; done) | (unfold fitS; rw [if_neg (by omega)]; exact (decide_eq_true (by omega)).symm) | (unfold fitS; rw [if_neg (by omega)]; exact (decide_eq_false (by omega)).symm)) ls (lv_sub hl [0, 1, 2, 3, 4] rfl)
            · skip
              rw [b0_eq] at c73
              simp only [decide_eq_false_iff_not, Decidable.not_not] at c73
              refine lv_iload gx gb dX9_faultOf_76 (lv_at hl 1 rfl) ?_
              refine lv_bipush (v := nI 63) gx gb dX9_faultOf_78 (by decide) ?_
              refine lv_icmp_ne (tgt := 98) gx gb dX9_faultOf_80 (by decide) (fun c80 => ?_) (fun c80 => ?_)
              · skip
                rw [nI_eq (by omega) (by omega)] at c80
                refine lv_iconst (v := nI 0) gx gb dX9_faultOf_98 (by decide) ?_
                exact L99 false (by first | (unfold fitS; rw [if_pos (by omega)]; simp [c45]; done) | (unfold fitS; rw [if_pos (by omega)]; simp [c53]; done) | (unfold fitS; rw [if_pos (by omega)]; simp [c45, c53]; done) | (unfold fitS; rw [if_neg (by omega)]; exact (decide_eq_true (by omega)).symm) | (unfold fitS; rw [if_neg (by omega)]; exact (decide_eq_false (by omega)).symm)) ls (lv_sub hl [0, 1, 2, 3, 4] rfl)
              · skip
                rw [nI_eq (by omega) (by omega)] at c80
                refine lv_iload_n gx gb dX9_faultOf_83 rfl (lv_at hl 2 rfl) ?_
                refine lv_bipush (v := nI 120) gx gb dX9_faultOf_84 (by decide) ?_
                refine lv_icmp_eq (tgt := 98) gx gb dX9_faultOf_86 (by decide) (fun c86 => ?_) (fun c86 => ?_)
                · skip
                  rw [nI_eq (by omega) (by omega)] at c86
                  refine lv_iconst (v := nI 0) gx gb dX9_faultOf_98 (by decide) ?_
                  exact L99 false (by first | (unfold fitS; rw [if_pos (by omega)]; simp [c45]; done) | (unfold fitS; rw [if_pos (by omega)]; simp [c53]; done) | (unfold fitS; rw [if_pos (by omega)]; simp [c45, c53]; done) | (unfold fitS; rw [if_neg (by omega)]; exact (decide_eq_true (by omega)).symm) | (unfold fitS; rw [if_neg (by omega)]; exact (decide_eq_false (by omega)).symm)) ls (lv_sub hl [0, 1, 2, 3, 4] rfl)
                · skip
                  rw [nI_eq (by omega) (by omega)] at c86
                  refine lv_iload_n gx gb dX9_faultOf_89 rfl (lv_at hl 0 rfl) ?_
                  refine lv_iconst (v := nI 4) gx gb dX9_faultOf_90 (by decide) ?_
                  refine lv_icmp_ge (tgt := 98) gx gb dX9_faultOf_91 (by decide) (fun c91 => ?_) (fun c91 => ?_)
                  · skip
                    rw [nI_leI (by omega) (by omega)] at c91
                    refine lv_iconst (v := nI 0) gx gb dX9_faultOf_98 (by decide) ?_
                    exact L99 false (by first | (unfold fitS; rw [if_pos (by omega)]; simp [c45]; done) | (unfold fitS; rw [if_pos (by omega)]; simp [c53]; done) | (unfold fitS; rw [if_pos (by omega)]; simp [c45, c53]; done) | (unfold fitS; rw [if_neg (by omega)]; exact (decide_eq_true (by omega)).symm) | (unfold fitS; rw [if_neg (by omega)]; exact (decide_eq_false (by omega)).symm)) ls (lv_sub hl [0, 1, 2, 3, 4] rfl)
                  · skip
                    rw [nI_leI (by omega) (by omega)] at c91
                    refine lv_iconst (v := nI 1) gx gb dX9_faultOf_94 (by decide) ?_
                    refine lv_goto (tgt := 99) gx gb dX9_faultOf_95 (by decide) ?_
                    exact L99 true (by first | (unfold fitS; rw [if_pos (by omega)]; simp [c45]; done) | (unfold fitS; rw [if_pos (by omega)]; simp [c53]; done) | (unfold fitS; rw [if_pos (by omega)]; simp [c45, c53]; done) | (unfold fitS; rw [if_neg (by omega)]; exact (decide_eq_true (by omega)).symm) | (unfold fitS; rw [if_neg (by omega)]; exact (decide_eq_false (by omega)).symm)) ls (lv_sub hl [0, 1, 2, 3, 4] rfl)
          · skip
            rw [n0_eq (by omega)] at c38
            refine lv_iload gx gb dX9_faultOf_41 (lv_at hl 1 rfl) ?_
            refine lv_bipush (v := nI 114) gx gb dX9_faultOf_43 (by decide) ?_
            refine lv_icmp_eq (tgt := 56) gx gb dX9_faultOf_45 (by decide) (fun c45 => ?_) (fun c45 => ?_)
            · skip
              rw [nI_eq (by omega) (by omega)] at c45
              refine lv_iconst (v := nI 1) gx gb dX9_faultOf_56 (by decide) ?_
              refine lv_goto (tgt := 99) gx gb dX9_faultOf_57 (by decide) ?_
              exact L99 true (by first | (unfold fitS; rw [if_pos (by omega)]; simp [c45]; done) | (unfold fitS; rw [if_pos (by omega)]; simp [c53]; done) | (unfold fitS; rw [if_pos (by omega)]; simp [c45, c53]; done) | (unfold fitS; rw [if_neg (by omega)]; exact (decide_eq_true (by omega)).symm) | (unfold fitS; rw [if_neg (by omega)]; exact (decide_eq_false (by omega)).symm)) ls (lv_sub hl [0, 1, 2, 3, 4] rfl)
            · skip
              rw [nI_eq (by omega) (by omega)] at c45
              refine lv_iload gx gb dX9_faultOf_48 (lv_at hl 1 rfl) ?_
              refine vp_callSi (W.runS (As := [.int (nI (pad i))]) (rest := []) ⟨gx, gb, gml, gown, gts⟩ (kX9_isLetter Gl (pad i) (by omega)) (va_cwS 1 gts gX9_faultOf_X9_isLetter rfl rfl rfl (by decide +kernel) ⟨Nat.le_of_ble_eq_true rfl, Nat.le_of_ble_eq_true rfl⟩) ⟨fun _ _ _ _ h => h, fun U hU hW => ⟨rfl, trivial⟩⟩ rfl rfl hl.1 rfl (lv_room (Nat.le_of_ble_eq_true rfl)) dX9_faultOf_50 ⟨Nat.le_of_ble_eq_true rfl, Nat.le_of_ble_eq_true rfl⟩) (fun r hw => ?_)
              have hr50 := hw
              subst hr50
              refine lv_if_eq (tgt := 60) gx gb dX9_faultOf_53 (by decide) (fun c53 => ?_) (fun c53 => ?_)
              · skip
                rw [b0_eq] at c53
                refine lv_iconst (v := nI 0) gx gb dX9_faultOf_60 (by decide) ?_
                refine lv_goto (tgt := 99) gx gb dX9_faultOf_61 (by decide) ?_
                exact L99 false (by first | (unfold fitS; rw [if_pos (by omega)]; simp [c45]; done) | (unfold fitS; rw [if_pos (by omega)]; simp [c53]; done) | (unfold fitS; rw [if_pos (by omega)]; simp [c45, c53]; done) | (unfold fitS; rw [if_neg (by omega)]; exact (decide_eq_true (by omega)).symm) | (unfold fitS; rw [if_neg (by omega)]; exact (decide_eq_false (by omega)).symm)) ls (lv_sub hl [0, 1, 2, 3, 4] rfl)
              · skip
                rw [b0_eq] at c53
                have c53 := nf_t c53
                refine lv_iconst (v := nI 1) gx gb dX9_faultOf_56 (by decide) ?_
                refine lv_goto (tgt := 99) gx gb dX9_faultOf_57 (by decide) ?_
                exact L99 true (by first | (unfold fitS; rw [if_pos (by omega)]; simp [c45]; done) | (unfold fitS; rw [if_pos (by omega)]; simp [c53]; done) | (unfold fitS; rw [if_pos (by omega)]; simp [c45, c53]; done) | (unfold fitS; rw [if_neg (by omega)]; exact (decide_eq_true (by omega)).symm) | (unfold fitS; rw [if_neg (by omega)]; exact (decide_eq_false (by omega)).symm)) ls (lv_sub hl [0, 1, 2, 3, 4] rfl)
        refine lv_iload_n gx gb dX9_faultOf_22 rfl (lv_at hl 2 rfl) ?_
        refine lv_iload gx gb dX9_faultOf_23 (lv_at hl 0 rfl) ?_
        refine lv_bipush (v := nI 63) gx gb dX9_faultOf_25 (by decide) ?_
        refine lv_icmp_ne (tgt := 34) gx gb dX9_faultOf_27 (by decide) (fun c27 => ?_) (fun c27 => ?_)
        · skip
          rw [nI_eq (by omega) (by omega)] at c27
          refine lv_iconst (v := nI 0) gx gb dX9_faultOf_34 (by decide) ?_
          exact L35 0 (by first | (rw [if_pos (by omega)]) | (rw [if_neg (by omega)])) ls (lv_sub hl [0, 1, 2, 3, 4] rfl)
        · skip
          rw [nI_eq (by omega) (by omega)] at c27
          refine lv_iconst (v := nI 1) gx gb dX9_faultOf_30 (by decide) ?_
          refine lv_goto (tgt := 35) gx gb dX9_faultOf_31 (by decide) ?_
          exact L35 1 (by first | (rw [if_pos (by omega)]) | (rw [if_neg (by omega)])) ls (lv_sub hl [0, 1, 2, 3, 4] rfl)
  exact L6 _ 0 (by omega) (by rfl) (Nat.lt_succ_self _) ls (lv_sub hl [2, 1, 0, 3] rfl)

set_option maxHeartbeats 4000000 in
set_option maxRecDepth 100000 in
theorem kX9_fault (Gl : Launch) (D : va_G) (cI cJ cZ : ClassId) (mo : Nat) (ma : Nat) (mb : Nat) (mc : Nat) (md : Nat) (me : Nat) (mf : Nat) (mg : Nat) (mh : Nat) (mi : Nat) (mj : Nat) (mk : Nat) (ml : Nat) (mn : Nat) (n : Nat) (q : Nat) (c : Nat) (w : Nat) (z : Nat) (ev : Nat) (num : Nat → Nat) (plc : Nat → Nat) (sig : Nat → Nat) (pad : Nat → Nat) (row : Nat → Nat) (dig : Nat → Nat) (far : Nat → Int32) (cfr : Nat → Nat) (cby : Nat → Nat) (que : Nat → Nat) (has : Nat → Nat) (img : Nat → Nat) (kep : Nat → Nat) (hw : w ≤ 60) (hg : ∀ k, k < w → pad k < 127) : Met Gl yX9_fault wsX9_fault ({ frames := 2, cells := 0, slots := 0, locals := 47 } : Room) (va_Pc [.ref mo] (fun U => va_P D vwCl (wM mo ma mb mc md me mf mg mh mi mj mk ml mn cI cZ n q c w z ev num plc sig pad row dig far cfr cby que has img kep) U.heap ∧ va_K D vwCl [(cI, .int), (cJ, .long), (cZ, .boolean)] U)) (vp_Si (fun r : Int32 => r = zI (fltZ pad w))) 0 0 (fun _ => False) := by
  refine Met.ofW (cc := cX9_fault) (maxL := 1) (ret := (some .int)) (by decide +kernel) rfl ?_
  intro Gp Ge Gs Gm Ga Gw Gt Gc G1 Bd gml gv
  obtain ⟨rfl, hP, hK⟩ := gv
  have gx := Bd.exec
  have gb := Bd.bytes
  have gr := Bd.returns
  have gts := atoms_spec (ws := wsX9_fault) Bd.pre
  have gown : Gs.vm.findClass RX9 = some Gm.cls := findClass_of_methodNamed Bd.named
  have glk := Bd.notSynchronized
  have hl := lv_entry ([.ref mo]) (n := 1) (Nat.le_of_ble_eq_true rfl)
  rw [lg_entry_eq]
  generalize (lg_sl ([.ref mo]) ++ List.replicate (1 - (lg_sl ([.ref mo])).length) Slot.unset).toArray = ls at hl ⊢
  have hl : lv_has ls 1 [(0, .ref mo)] := hl
  refine lv_aload_n gx gb dX9_fault_0 rfl (lv_at hl 0 rfl) ?_
  have hPc := hP.sub (ws' := wM mo ma mb mc md me mf mg mh mi mj mk ml mn cI cZ n q c w z ev num plc sig pad row dig far cfr cby que has img kep) [0, 1, 2, 3, 4, 5, 6, 7, 8, 9, 10, 11, 12, 13] rfl
  refine vp_callSi (W.runV (As := []) (rest := []) ⟨gx, gb, gml, gown, gts⟩ (kX9_faultOf Gl D cI cJ cZ mo ma mb mc md me mf mg mh mi mj mk ml mn n q c w z ev num plc sig pad row dig far cfr cby que has img kep  (by omega) (by omega)) (cwV 0 gts gX9_fault_X9_faultOf rfl rfl rfl (by decide +kernel) ⟨Nat.le_of_ble_eq_true rfl, Nat.le_of_ble_eq_true rfl⟩) ⟨fun a U g mk q => ⟨q.1, q.2.1, va_K.moved (u := U) (U := U.calling g mk a) (Vm.Alike.refl U.vm) q.2.2⟩, va_recv hK hPc (ci := 4) (q0 := 0) rfl rfl, fun U hU hW => ⟨rfl, by rw [hU]; exact hPc, va_K.moved hW.alike hK⟩⟩ rfl rfl hl.1 rfl (lv_room (Nat.le_of_ble_eq_true rfl)) dX9_fault_1 ⟨Nat.le_of_ble_eq_true rfl, Nat.le_of_ble_eq_true rfl⟩) (fun r hw => ?_)
  have hr1 := hw
  subst hr1
  exact W.iret (v := zI (fltZ pad w)) gx gb gr (fun t ht hW => ⟨zI (fltZ pad w), rfl, (by first | (dsimp only; done) | ((try dsimp only); rfl)), ht⟩) (fun q h => by cases h) dX9_fault_4

set_option maxHeartbeats 4000000 in
set_option maxRecDepth 100000 in
theorem kX9_happen (Gl : Launch) (D : va_G) (cI cJ cZ : ClassId) (mo : Nat) (ma : Nat) (mb : Nat) (mc : Nat) (md : Nat) (me : Nat) (mf : Nat) (mg : Nat) (mh : Nat) (mi : Nat) (mj : Nat) (mk : Nat) (ml : Nat) (mn : Nat) (n : Nat) (q : Nat) (c : Nat) (w : Nat) (z : Nat) (ev : Nat) (num : Nat → Nat) (plc : Nat → Nat) (sig : Nat → Nat) (pad : Nat → Nat) (row : Nat → Nat) (dig : Nat → Nat) (far : Nat → Int32) (cfr : Nat → Nat) (cby : Nat → Nat) (que : Nat → Nat) (has : Nat → Nat) (img : Nat → Nat) (kep : Nat → Nat) (sz : Nat) (a p : Nat) (ha : a = 98 ∨ a = 112 ∨ a = 103 ∨ a = 120 ∨ a = 114) (hp : p < 1000) (hz1 : 1 ≤ z) (hz : z ≤ 7) : Met Gl yX9_happen wsX9_happen ({ frames := 2, cells := 0, slots := 0, locals := 45 } : Room) (va_Pc [.ref mo, .int (nI a), .int (nI p)] (fun U => U.heap.size = sz ∧ va_P D vwCl (wM mo ma mb mc md me mf mg mh mi mj mk ml mn cI cZ n q c w z ev num plc sig pad row dig far cfr cby que has img kep) U.heap ∧ va_K D vwCl [(cI, .int), (cJ, .long), (cZ, .boolean)] U ∧ va_D (fun _ => True) (wM mo ma mb mc md me mf mg mh mi mj mk ml mn cI cZ n q c w z ev num plc sig pad row dig far cfr cby que has img kep))) (va_Qi (fun (r : Int32) (u : Unit) => r = bI (hapC a p z)) (fun (u : Unit) t => va_P D vwCl (wM mo ma mb mc md me mf mg mh mi mj mk ml mn cI cZ n q c w (hapZ a p z) ev num plc sig pad (hapR a p z row) dig far cfr cby que has img kep) t.heap ∧ va_K D vwCl [(cI, .int), (cJ, .long), (cZ, .boolean)] t ∧ va_D (va_A (wM mo ma mb mc md me mf mg mh mi mj mk ml mn cI cZ n q c w z ev num plc sig pad row dig far cfr cby que has img kep) sz) (wM mo ma mb mc md me mf mg mh mi mj mk ml mn cI cZ n q c w (hapZ a p z) ev num plc sig pad (hapR a p z row) dig far cfr cby que has img kep)) (va_A (wM mo ma mb mc md me mf mg mh mi mj mk ml mn cI cZ n q c w z ev num plc sig pad row dig far cfr cby que has img kep) sz)) 0 0 (va_A (wM mo ma mb mc md me mf mg mh mi mj mk ml mn cI cZ n q c w z ev num plc sig pad row dig far cfr cby que has img kep) sz) := by
  refine Met.ofW (cc := cX9_happen) (maxL := 4) (ret := (some .boolean)) (by decide +kernel) rfl ?_
  intro Gp Ge Gs Gm Ga Gw Gt Gc G1 Bd gml gv
  obtain ⟨rfl, hsz, hP, hK, hD0⟩ := gv
  have gx := Bd.exec
  have gb := Bd.bytes
  have gr := Bd.returns
  have gts := atoms_spec (ws := wsX9_happen) Bd.pre
  have gown : Gs.vm.findClass RX9 = some Gm.cls := findClass_of_methodNamed Bd.named
  have glk := Bd.notSynchronized
  subst hsz
  have hD := hD0.self (sz := Gs.heap.size)
  generalize hAe : va_A (wM mo ma mb mc md me mf mg mh mi mj mk ml mn cI cZ n q c w z ev num plc sig pad row dig far cfr cby que has img kep) Gs.heap.size = A at hD ⊢
  have hA : ∀ q : Nat, Gs.heap.size ≤ q → A q := fun q h => by rw [← hAe]; exact Or.inr h
  have hS : va_S A Gs.heap Gs.heap [] := va_S.rf
  have hP : va_P D vwCl (wM mo ma mb mc md me mf mg mh mi mj mk ml mn cI cZ n q c w z ev num plc sig pad row dig far cfr cby que has img kep) Gs.heap := hP
  have hl := lv_entry ([.ref mo, .int (nI a), .int (nI p)]) (n := 4) (Nat.le_of_ble_eq_true rfl)
  rw [lg_entry_eq]
  generalize (lg_sl ([.ref mo, .int (nI a), .int (nI p)]) ++ List.replicate (4 - (lg_sl ([.ref mo, .int (nI a), .int (nI p)])).length) Slot.unset).toArray = ls at hl ⊢
  have hl : lv_has ls 4 [(0, .ref mo), (1, .int (nI a)), (2, .int (nI p))] := hl
  have i9 : ∀ w ∈ wsX90, w ∈ wsX9_happen := by decide +kernel
  have L69 : ∀ (f : Bool) (hff : f = hapC a p z), ∀ (H : Heap) (locs : List Loc), va_P D vwCl (wM mo ma mb mc md me mf mg mh mi mj mk ml mn cI cZ n q c w z ev num plc sig pad row dig far cfr cby que has img kep) H → va_D A (wM mo ma mb mc md me mf mg mh mi mj mk ml mn cI cZ n q c w z ev num plc sig pad row dig far cfr cby que has img kep) → va_S A Gs.heap H locs → ∀ ls : Array Slot, lv_has ls 4 [(0, .ref mo), (1, .int (nI a)), (2, .int (nI p))] → W Gp Gl Ge (headSpec wsX9_happen ({ frames := 2, cells := 0, slots := 0, locals := 45 } : Room)).room Gs Gm ([.ref mo, .int (nI a), .int (nI p)] : List Value).toArray Gw Gt Gc H locs 0 0 (MQ Gw (va_Qi (fun (r : Int32) (u : Unit) => r = bI (hapC a p z)) (fun (u : Unit) t => va_P D vwCl (wM mo ma mb mc md me mf mg mh mi mj mk ml mn cI cZ n q c w (hapZ a p z) ev num plc sig pad (hapR a p z row) dig far cfr cby que has img kep) t.heap ∧ va_K D vwCl [(cI, .int), (cJ, .long), (cZ, .boolean)] t ∧ va_D A (wM mo ma mb mc md me mf mg mh mi mj mk ml mn cI cZ n q c w (hapZ a p z) ev num plc sig pad (hapR a p z row) dig far cfr cby que has img kep)) A) ([.ref mo, .int (nI a), .int (nI p)] : List Value).toArray Gs 0 0 A) (F0 Gm 69 ls [.int (bI f)]) := by
    intro f hff H locs hP hD hS ls hl
    refine lv_istore_n (lv' := [(3, .int (bI f)), (0, .ref mo), (1, .int (nI a)), (2, .int (nI p))]) gx gb dX9_happen_69 rfl hl (by decide) rfl (fun ls hl => ?_)
    refine lv_iload_n gx gb dX9_happen_70 rfl (lv_at hl 0 rfl) ?_
    refine lv_if_ne (tgt := 76) gx gb dX9_happen_71 (by decide) (fun c71 => ?_) (fun c71 => ?_)
    · skip
      rw [b0_eq] at c71
      have c71 := nf_t c71
      have hC : hapC a p z = true := hff ▸ c71
      have hC2 := of_decide_eq_true hC
      refine lv_iload_n gx gb dX9_happen_76 rfl (lv_at hl 2 rfl) ?_
      refine lv_bipush (v := nI 114) gx gb dX9_happen_77 (by decide) ?_
      refine lv_icmp_ne (tgt := 89) gx gb dX9_happen_79 (by decide) (fun c79 => ?_) (fun c79 => ?_)
      · skip
        rw [nI_eq (by omega) (by omega)] at c79
        refine lv_iload_n gx gb dX9_happen_89 rfl (lv_at hl 2 rfl) ?_
        refine lv_bipush (v := nI 98) gx gb dX9_happen_90 (by decide) ?_
        refine lv_icmp_ne (tgt := 103) gx gb dX9_happen_92 (by decide) (fun c92 => ?_) (fun c92 => ?_)
        · skip
          rw [nI_eq (by omega) (by omega)] at c92
          refine lv_iload_n gx gb dX9_happen_103 rfl (lv_at hl 2 rfl) ?_
          refine lv_bipush (v := nI 112) gx gb dX9_happen_104 (by decide) ?_
          refine lv_icmp_ne (tgt := 117) gx gb dX9_happen_106 (by decide) (fun c106 => ?_) (fun c106 => ?_)
          · skip
            rw [nI_eq (by omega) (by omega)] at c106
            refine lv_iload_n gx gb dX9_happen_117 rfl (lv_at hl 2 rfl) ?_
            refine lv_bipush (v := nI 103) gx gb dX9_happen_118 (by decide) ?_
            refine lv_icmp_ne (tgt := 134) gx gb dX9_happen_120 (by decide) (fun c120 => ?_) (fun c120 => ?_)
            · skip
              rw [nI_eq (by omega) (by omega)] at c120
              refine lv_aload_n gx gb dX9_happen_134 rfl (lv_at hl 1 rfl) ?_
              refine lv_iload_n gx gb dX9_happen_135 rfl (lv_at hl 3 rfl) ?_
              have hPc := hP.sub (ws' := wM mo ma mb mc md me mf mg mh mi mj mk ml mn cI cZ n q c w z ev num plc sig pad row dig far cfr cby que has img kep) [0, 1, 2, 3, 4, 5, 6, 7, 8, 9, 10, 11, 12, 13] rfl
              have hDc := hD.sub (ws' := wM mo ma mb mc md me mf mg mh mi mj mk ml mn cI cZ n q c w z ev num plc sig pad row dig far cfr cby que has img kep) [0, 1, 2, 3, 4, 5, 6, 7, 8, 9, 10, 11, 12, 13] (by decide) rfl
              have hFc := va_free (wc := wM mo ma mb mc md me mf mg mh mi mj mk ml mn cI cZ n q c w z ev num plc sig pad row dig far cfr cby que has img kep) hD hS hA [0, 1, 2, 3, 4, 5, 6, 7, 8, 9, 10, 11, 12, 13] rfl
              refine va_callv (va_runV (As := [.int (nI p)]) (rest := []) ⟨gx, gb, gml, gown, gts⟩ (kX9_pike Gl D cI cJ cZ mo ma mb mc md me mf mg mh mi mj mk ml mn n q c w z ev num plc sig pad row dig far cfr cby que has img kep _ p (by omega) (by omega)) (cwV 1 gts gX9_happen_X9_pike rfl rfl rfl (by decide +kernel) ⟨Nat.le_of_ble_eq_true rfl, Nat.le_of_ble_eq_true rfl⟩) ⟨fun a U g mk q => by obtain ⟨q0, q1, qP, qK, qD⟩ := q; exact ⟨q0, q1, qP, va_K.moved (u := U) (U := U.calling g mk a) (Vm.Alike.refl U.vm) qK, qD⟩, va_recv hK hPc (ci := 4) (q0 := 0) rfl rfl, fun U hU hW => ⟨rfl, by rw [hU], by rw [hU]; exact hPc, va_K.moved hW.alike hK, hDc.weaken (fun _ _ _ _ => trivial)⟩⟩ rfl rfl hl.1 rfl (lv_room (Nat.le_of_ble_eq_true rfl)) dX9_happen_136 ⟨Nat.le_of_ble_eq_true rfl, Nat.le_of_ble_eq_true rfl⟩) hS (fun q _ h => hFc q h) hFc (fun u t H1 locs ht hvm hw hB hz1 hk1 hS => ?_)
              obtain ⟨hP1, hK1, hD1⟩ := hB
              rw [ht] at hP1
              try dsimp only at hw
              try dsimp only at hP1
              try dsimp only at hD1
              have hK := va_K.moved hvm.symm hK1
              obtain ⟨hP, hD⟩ := va_join (wr := []) (w1 := wM mo ma mb mc md me mf mg mh mi mj mk ml mn cI cZ n q c w z ev num plc sig pad (pikeF p (z - 1) row) dig far cfr cby que has img kep) hP hD [0, 1, 2, 3, 4, 5, 6, 7, 8, 9, 10, 11, 12, 13] [] rfl rfl (by decide) (by decide) hk1 hFc hP1 hD1
              have hP := hP.sub (ws' := wM mo ma mb mc md me mf mg mh mi mj mk ml mn cI cZ n q c w z ev num plc sig pad (pikeF p (z - 1) row) dig far cfr cby que has img kep) [0, 1, 2, 3, 4, 5, 6, 7, 8, 9, 10, 11, 12, 13] rfl
              have hD := hD.sub (ws' := wM mo ma mb mc md me mf mg mh mi mj mk ml mn cI cZ n q c w z ev num plc sig pad (pikeF p (z - 1) row) dig far cfr cby que has img kep) [0, 1, 2, 3, 4, 5, 6, 7, 8, 9, 10, 11, 12, 13] (by decide) rfl
              have hK := va_K.moved (Vm.Alike.refl Gs.vm) hK
              generalize H1 = H at hP hS ⊢
              refine lv_aload_n gx gb dX9_happen_139 rfl (lv_at hl 1 rfl) ?_
              refine lv_dup gx gb dX9_happen_140 rfl ?_
              refine va_get (D := D) (ci := 4) (v := .int (nI z)) (C := RX9) (T := TX9) (N := 19) gx gb gts i9 gown hK hP 0 rfl rfl 9 (by decide) (gts (.fieldLink RX9 81 "SwanSumsModel" "size" "I") (by decide +kernel)) (fun _ h9 => h9) rfl dX9_happen_141 ?_
              refine lv_iconst (v := nI 1) gx gb dX9_happen_144 (by decide) ?_
              refine lv_isub gx gb dX9_happen_145 ?_
              refine lv_evi (nI (z - 1)) (e_sub (by omega)) ?_
              refine va_put (D := D) (ci := 4) (v := .int (nI (z - 1))) (ty := .int) (C := RX9) (T := TX9) (N := 19) gx gb gts i9 tyX9 tyX9_ok nmX9 gown hK hP hD hS 0 rfl rfl 9 (by decide) (gts (.fieldLink RX9 81 "SwanSumsModel" "size" "I") (by decide +kernel)) (fun _ h9 => h9) rfl (by decide +kernel) rfl rfl (Nat.le_of_ble_eq_true rfl) dX9_happen_146 (fun H locs hP hD hS => ?_)
              have hP : va_P D vwCl (wM mo ma mb mc md me mf mg mh mi mj mk ml mn cI cZ n q c w (z - 1) ev num plc sig pad (pikeF p (z - 1) row) dig far cfr cby que has img kep) H := hP
              have hD : va_D A (wM mo ma mb mc md me mf mg mh mi mj mk ml mn cI cZ n q c w (z - 1) ev num plc sig pad (pikeF p (z - 1) row) dig far cfr cby que has img kep) := hD
              refine lv_iconst (v := nI 1) gx gb dX9_happen_149 (by decide) ?_
              have e_row : pikeF p (z - 1) row = hapR a p z row := by first | (rw [hapR, if_pos hC, if_pos (by omega)]) | (rw [hapR, if_pos hC, if_neg (by omega), if_pos (by omega)]) | (rw [hapR, if_pos hC, if_neg (by omega), if_neg (by omega), if_pos (by omega)]) | (rw [hapR, if_pos hC, if_neg (by omega), if_neg (by omega), if_neg (by omega), if_pos (by omega)]) | (rw [hapR, if_pos hC, if_neg (by omega), if_neg (by omega), if_neg (by omega), if_neg (by omega)])
              have e_z : z - 1 = hapZ a p z := by first | (rw [hapZ, if_pos ⟨hC, by omega⟩]) | (rw [hapZ, if_neg (by omega)])
              have hP : va_P D vwCl (wM mo ma mb mc md me mf mg mh mi mj mk ml mn cI cZ n q c w (hapZ a p z) ev num plc sig pad (hapR a p z row) dig far cfr cby que has img kep) H := by rw [← e_row, ← e_z]; exact hP
              have hD : va_D A (wM mo ma mb mc md me mf mg mh mi mj mk ml mn cI cZ n q c w (hapZ a p z) ev num plc sig pad (hapR a p z row) dig far cfr cby que has img kep) := by rw [← e_row, ← e_z]; exact hD
              exact W.zret (v := nI 1) gx gb gr (by decide) (fun t ht hW => ⟨⟨nI 1, (), rfl, (by first | (dsimp only; done) | ((try dsimp only); exact bI_t hC)), by rw [ht]; exact hP, va_K.moved hW.alike hK, hD⟩, hS.F ht⟩) hS.2.2 dX9_happen_150
            · skip
              rw [nI_eq (by omega) (by omega)] at c120
              refine lv_aload_n gx gb dX9_happen_123 rfl (lv_at hl 1 rfl) ?_
              refine lv_iload_n gx gb dX9_happen_124 rfl (lv_at hl 3 rfl) ?_
              refine lv_iload_n gx gb dX9_happen_125 rfl (lv_at hl 3 rfl) ?_
              refine lv_iconst (v := nI 1) gx gb dX9_happen_126 (by decide) ?_
              refine lv_iadd gx gb dX9_happen_127 ?_
              refine lv_evi (nI (p + 1)) (nI_add p 1) ?_
              have hPc := hP.sub (ws' := wM mo ma mb mc md me mf mg mh mi mj mk ml mn cI cZ n q c w z ev num plc sig pad row dig far cfr cby que has img kep) [0, 1, 2, 3, 4, 5, 6, 7, 8, 9, 10, 11, 12, 13] rfl
              have hDc := hD.sub (ws' := wM mo ma mb mc md me mf mg mh mi mj mk ml mn cI cZ n q c w z ev num plc sig pad row dig far cfr cby que has img kep) [0, 1, 2, 3, 4, 5, 6, 7, 8, 9, 10, 11, 12, 13] (by decide) rfl
              have hFc := va_free (wc := wM mo ma mb mc md me mf mg mh mi mj mk ml mn cI cZ n q c w z ev num plc sig pad row dig far cfr cby que has img kep) hD hS hA [0, 1, 2, 3, 4, 5, 6, 7, 8, 9, 10, 11, 12, 13] rfl
              refine va_callv (va_runV (As := [.int (nI p), .int (nI (p + 1))]) (rest := []) ⟨gx, gb, gml, gown, gts⟩ (kX9_change Gl D cI cJ cZ mo ma mb mc md me mf mg mh mi mj mk ml mn n q c w z ev num plc sig pad row dig far cfr cby que has img kep _ p (p + 1) (by omega) (by omega)) (cwV 2 gts gX9_happen_X9_change rfl rfl rfl (by decide +kernel) ⟨Nat.le_of_ble_eq_true rfl, Nat.le_of_ble_eq_true rfl⟩) ⟨fun a U g mk q => by obtain ⟨q0, q1, qP, qK, qD⟩ := q; exact ⟨q0, q1, qP, va_K.moved (u := U) (U := U.calling g mk a) (Vm.Alike.refl U.vm) qK, qD⟩, va_recv hK hPc (ci := 4) (q0 := 0) rfl rfl, fun U hU hW => ⟨rfl, by rw [hU], by rw [hU]; exact hPc, va_K.moved hW.alike hK, hDc.weaken (fun _ _ _ _ => trivial)⟩⟩ rfl rfl hl.1 rfl (lv_room (Nat.le_of_ble_eq_true rfl)) dX9_happen_128 ⟨Nat.le_of_ble_eq_true rfl, Nat.le_of_ble_eq_true rfl⟩) hS (fun q _ h => hFc q h) hFc (fun u t H1 locs ht hvm hw hB hz1 hk1 hS => ?_)
              obtain ⟨hP1, hK1, hD1⟩ := hB
              rw [ht] at hP1
              try dsimp only at hw
              try dsimp only at hP1
              try dsimp only at hD1
              have hK := va_K.moved hvm.symm hK1
              obtain ⟨hP, hD⟩ := va_join (wr := []) (w1 := wM mo ma mb mc md me mf mg mh mi mj mk ml mn cI cZ n q c w z ev num plc sig pad (swp p (p + 1) row) dig far cfr cby que has img kep) hP hD [0, 1, 2, 3, 4, 5, 6, 7, 8, 9, 10, 11, 12, 13] [] rfl rfl (by decide) (by decide) hk1 hFc hP1 hD1
              have hP := hP.sub (ws' := wM mo ma mb mc md me mf mg mh mi mj mk ml mn cI cZ n q c w z ev num plc sig pad (swp p (p + 1) row) dig far cfr cby que has img kep) [0, 1, 2, 3, 4, 5, 6, 7, 8, 9, 10, 11, 12, 13] rfl
              have hD := hD.sub (ws' := wM mo ma mb mc md me mf mg mh mi mj mk ml mn cI cZ n q c w z ev num plc sig pad (swp p (p + 1) row) dig far cfr cby que has img kep) [0, 1, 2, 3, 4, 5, 6, 7, 8, 9, 10, 11, 12, 13] (by decide) rfl
              have hK := va_K.moved (Vm.Alike.refl Gs.vm) hK
              generalize H1 = H at hP hS ⊢
              refine lv_goto (tgt := 149) gx gb dX9_happen_131 (by decide) ?_
              refine lv_iconst (v := nI 1) gx gb dX9_happen_149 (by decide) ?_
              have e_row : swp p (p + 1) row = hapR a p z row := by first | (rw [hapR, if_pos hC, if_pos (by omega)]) | (rw [hapR, if_pos hC, if_neg (by omega), if_pos (by omega)]) | (rw [hapR, if_pos hC, if_neg (by omega), if_neg (by omega), if_pos (by omega)]) | (rw [hapR, if_pos hC, if_neg (by omega), if_neg (by omega), if_neg (by omega), if_pos (by omega)]) | (rw [hapR, if_pos hC, if_neg (by omega), if_neg (by omega), if_neg (by omega), if_neg (by omega)])
              have e_z : z = hapZ a p z := by first | (rw [hapZ, if_pos ⟨hC, by omega⟩]) | (rw [hapZ, if_neg (by omega)])
              have hP : va_P D vwCl (wM mo ma mb mc md me mf mg mh mi mj mk ml mn cI cZ n q c w (hapZ a p z) ev num plc sig pad (hapR a p z row) dig far cfr cby que has img kep) H := by rw [← e_row, ← e_z]; exact hP
              have hD : va_D A (wM mo ma mb mc md me mf mg mh mi mj mk ml mn cI cZ n q c w (hapZ a p z) ev num plc sig pad (hapR a p z row) dig far cfr cby que has img kep) := by rw [← e_row, ← e_z]; exact hD
              exact W.zret (v := nI 1) gx gb gr (by decide) (fun t ht hW => ⟨⟨nI 1, (), rfl, (by first | (dsimp only; done) | ((try dsimp only); exact bI_t hC)), by rw [ht]; exact hP, va_K.moved hW.alike hK, hD⟩, hS.F ht⟩) hS.2.2 dX9_happen_150
          · skip
            rw [nI_eq (by omega) (by omega)] at c106
            refine lv_aload_n gx gb dX9_happen_109 rfl (lv_at hl 1 rfl) ?_
            refine lv_iload_n gx gb dX9_happen_110 rfl (lv_at hl 3 rfl) ?_
            have hPc := hP.sub (ws' := wM mo ma mb mc md me mf mg mh mi mj mk ml mn cI cZ n q c w z ev num plc sig pad row dig far cfr cby que has img kep) [0, 1, 2, 3, 4, 5, 6, 7, 8, 9, 10, 11, 12, 13] rfl
            have hDc := hD.sub (ws' := wM mo ma mb mc md me mf mg mh mi mj mk ml mn cI cZ n q c w z ev num plc sig pad row dig far cfr cby que has img kep) [0, 1, 2, 3, 4, 5, 6, 7, 8, 9, 10, 11, 12, 13] (by decide) rfl
            have hFc := va_free (wc := wM mo ma mb mc md me mf mg mh mi mj mk ml mn cI cZ n q c w z ev num plc sig pad row dig far cfr cby que has img kep) hD hS hA [0, 1, 2, 3, 4, 5, 6, 7, 8, 9, 10, 11, 12, 13] rfl
            refine va_callv (va_runV (As := [.int (nI p)]) (rest := []) ⟨gx, gb, gml, gown, gts⟩ (kX9_pike Gl D cI cJ cZ mo ma mb mc md me mf mg mh mi mj mk ml mn n q c w z ev num plc sig pad row dig far cfr cby que has img kep _ p (by omega) (by omega)) (cwV 1 gts gX9_happen_X9_pike rfl rfl rfl (by decide +kernel) ⟨Nat.le_of_ble_eq_true rfl, Nat.le_of_ble_eq_true rfl⟩) ⟨fun a U g mk q => by obtain ⟨q0, q1, qP, qK, qD⟩ := q; exact ⟨q0, q1, qP, va_K.moved (u := U) (U := U.calling g mk a) (Vm.Alike.refl U.vm) qK, qD⟩, va_recv hK hPc (ci := 4) (q0 := 0) rfl rfl, fun U hU hW => ⟨rfl, by rw [hU], by rw [hU]; exact hPc, va_K.moved hW.alike hK, hDc.weaken (fun _ _ _ _ => trivial)⟩⟩ rfl rfl hl.1 rfl (lv_room (Nat.le_of_ble_eq_true rfl)) dX9_happen_111 ⟨Nat.le_of_ble_eq_true rfl, Nat.le_of_ble_eq_true rfl⟩) hS (fun q _ h => hFc q h) hFc (fun u t H1 locs ht hvm hw hB hz1 hk1 hS => ?_)
            obtain ⟨hP1, hK1, hD1⟩ := hB
            rw [ht] at hP1
            try dsimp only at hw
            try dsimp only at hP1
            try dsimp only at hD1
            have hK := va_K.moved hvm.symm hK1
            obtain ⟨hP, hD⟩ := va_join (wr := []) (w1 := wM mo ma mb mc md me mf mg mh mi mj mk ml mn cI cZ n q c w z ev num plc sig pad (pikeF p (z - 1) row) dig far cfr cby que has img kep) hP hD [0, 1, 2, 3, 4, 5, 6, 7, 8, 9, 10, 11, 12, 13] [] rfl rfl (by decide) (by decide) hk1 hFc hP1 hD1
            have hP := hP.sub (ws' := wM mo ma mb mc md me mf mg mh mi mj mk ml mn cI cZ n q c w z ev num plc sig pad (pikeF p (z - 1) row) dig far cfr cby que has img kep) [0, 1, 2, 3, 4, 5, 6, 7, 8, 9, 10, 11, 12, 13] rfl
            have hD := hD.sub (ws' := wM mo ma mb mc md me mf mg mh mi mj mk ml mn cI cZ n q c w z ev num plc sig pad (pikeF p (z - 1) row) dig far cfr cby que has img kep) [0, 1, 2, 3, 4, 5, 6, 7, 8, 9, 10, 11, 12, 13] (by decide) rfl
            have hK := va_K.moved (Vm.Alike.refl Gs.vm) hK
            generalize H1 = H at hP hS ⊢
            refine lv_goto (tgt := 149) gx gb dX9_happen_114 (by decide) ?_
            refine lv_iconst (v := nI 1) gx gb dX9_happen_149 (by decide) ?_
            have e_row : pikeF p (z - 1) row = hapR a p z row := by first | (rw [hapR, if_pos hC, if_pos (by omega)]) | (rw [hapR, if_pos hC, if_neg (by omega), if_pos (by omega)]) | (rw [hapR, if_pos hC, if_neg (by omega), if_neg (by omega), if_pos (by omega)]) | (rw [hapR, if_pos hC, if_neg (by omega), if_neg (by omega), if_neg (by omega), if_pos (by omega)]) | (rw [hapR, if_pos hC, if_neg (by omega), if_neg (by omega), if_neg (by omega), if_neg (by omega)])
            have e_z : z = hapZ a p z := by first | (rw [hapZ, if_pos ⟨hC, by omega⟩]) | (rw [hapZ, if_neg (by omega)])
            have hP : va_P D vwCl (wM mo ma mb mc md me mf mg mh mi mj mk ml mn cI cZ n q c w (hapZ a p z) ev num plc sig pad (hapR a p z row) dig far cfr cby que has img kep) H := by rw [← e_row, ← e_z]; exact hP
            have hD : va_D A (wM mo ma mb mc md me mf mg mh mi mj mk ml mn cI cZ n q c w (hapZ a p z) ev num plc sig pad (hapR a p z row) dig far cfr cby que has img kep) := by rw [← e_row, ← e_z]; exact hD
            exact W.zret (v := nI 1) gx gb gr (by decide) (fun t ht hW => ⟨⟨nI 1, (), rfl, (by first | (dsimp only; done) | ((try dsimp only); exact bI_t hC)), by rw [ht]; exact hP, va_K.moved hW.alike hK, hD⟩, hS.F ht⟩) hS.2.2 dX9_happen_150
        · skip
          rw [nI_eq (by omega) (by omega)] at c92
          refine lv_aload_n gx gb dX9_happen_95 rfl (lv_at hl 1 rfl) ?_
          refine lv_iload_n gx gb dX9_happen_96 rfl (lv_at hl 3 rfl) ?_
          have hPc := hP.sub (ws' := wM mo ma mb mc md me mf mg mh mi mj mk ml mn cI cZ n q c w z ev num plc sig pad row dig far cfr cby que has img kep) [0, 1, 2, 3, 4, 5, 6, 7, 8, 9, 10, 11, 12, 13] rfl
          have hDc := hD.sub (ws' := wM mo ma mb mc md me mf mg mh mi mj mk ml mn cI cZ n q c w z ev num plc sig pad row dig far cfr cby que has img kep) [0, 1, 2, 3, 4, 5, 6, 7, 8, 9, 10, 11, 12, 13] (by decide) rfl
          have hFc := va_free (wc := wM mo ma mb mc md me mf mg mh mi mj mk ml mn cI cZ n q c w z ev num plc sig pad row dig far cfr cby que has img kep) hD hS hA [0, 1, 2, 3, 4, 5, 6, 7, 8, 9, 10, 11, 12, 13] rfl
          refine va_callv (va_runV (As := [.int (nI p)]) (rest := []) ⟨gx, gb, gml, gown, gts⟩ (kX9_bread Gl D cI cJ cZ mo ma mb mc md me mf mg mh mi mj mk ml mn n q c w z ev num plc sig pad row dig far cfr cby que has img kep _ p (by omega)) (cwV 1 gts gX9_happen_X9_bread rfl rfl rfl (by decide +kernel) ⟨Nat.le_of_ble_eq_true rfl, Nat.le_of_ble_eq_true rfl⟩) ⟨fun a U g mk q => by obtain ⟨q0, q1, qP, qK, qD⟩ := q; exact ⟨q0, q1, qP, va_K.moved (u := U) (U := U.calling g mk a) (Vm.Alike.refl U.vm) qK, qD⟩, va_recv hK hPc (ci := 4) (q0 := 0) rfl rfl, fun U hU hW => ⟨rfl, by rw [hU], by rw [hU]; exact hPc, va_K.moved hW.alike hK, hDc.weaken (fun _ _ _ _ => trivial)⟩⟩ rfl rfl hl.1 rfl (lv_room (Nat.le_of_ble_eq_true rfl)) dX9_happen_97 ⟨Nat.le_of_ble_eq_true rfl, Nat.le_of_ble_eq_true rfl⟩) hS (fun q _ h => hFc q h) hFc (fun u t H1 locs ht hvm hw hB hz1 hk1 hS => ?_)
          obtain ⟨hP1, hK1, hD1⟩ := hB
          rw [ht] at hP1
          try dsimp only at hw
          try dsimp only at hP1
          try dsimp only at hD1
          have hK := va_K.moved hvm.symm hK1
          obtain ⟨hP, hD⟩ := va_join (wr := []) (w1 := wM mo ma mb mc md me mf mg mh mi mj mk ml mn cI cZ n q c w z ev num plc sig pad (breadF p row) dig far cfr cby que has img kep) hP hD [0, 1, 2, 3, 4, 5, 6, 7, 8, 9, 10, 11, 12, 13] [] rfl rfl (by decide) (by decide) hk1 hFc hP1 hD1
          have hP := hP.sub (ws' := wM mo ma mb mc md me mf mg mh mi mj mk ml mn cI cZ n q c w z ev num plc sig pad (breadF p row) dig far cfr cby que has img kep) [0, 1, 2, 3, 4, 5, 6, 7, 8, 9, 10, 11, 12, 13] rfl
          have hD := hD.sub (ws' := wM mo ma mb mc md me mf mg mh mi mj mk ml mn cI cZ n q c w z ev num plc sig pad (breadF p row) dig far cfr cby que has img kep) [0, 1, 2, 3, 4, 5, 6, 7, 8, 9, 10, 11, 12, 13] (by decide) rfl
          have hK := va_K.moved (Vm.Alike.refl Gs.vm) hK
          generalize H1 = H at hP hS ⊢
          refine lv_goto (tgt := 149) gx gb dX9_happen_100 (by decide) ?_
          refine lv_iconst (v := nI 1) gx gb dX9_happen_149 (by decide) ?_
          have e_row : breadF p row = hapR a p z row := by first | (rw [hapR, if_pos hC, if_pos (by omega)]) | (rw [hapR, if_pos hC, if_neg (by omega), if_pos (by omega)]) | (rw [hapR, if_pos hC, if_neg (by omega), if_neg (by omega), if_pos (by omega)]) | (rw [hapR, if_pos hC, if_neg (by omega), if_neg (by omega), if_neg (by omega), if_pos (by omega)]) | (rw [hapR, if_pos hC, if_neg (by omega), if_neg (by omega), if_neg (by omega), if_neg (by omega)])
          have e_z : z = hapZ a p z := by first | (rw [hapZ, if_pos ⟨hC, by omega⟩]) | (rw [hapZ, if_neg (by omega)])
          have hP : va_P D vwCl (wM mo ma mb mc md me mf mg mh mi mj mk ml mn cI cZ n q c w (hapZ a p z) ev num plc sig pad (hapR a p z row) dig far cfr cby que has img kep) H := by rw [← e_row, ← e_z]; exact hP
          have hD : va_D A (wM mo ma mb mc md me mf mg mh mi mj mk ml mn cI cZ n q c w (hapZ a p z) ev num plc sig pad (hapR a p z row) dig far cfr cby que has img kep) := by rw [← e_row, ← e_z]; exact hD
          exact W.zret (v := nI 1) gx gb gr (by decide) (fun t ht hW => ⟨⟨nI 1, (), rfl, (by first | (dsimp only; done) | ((try dsimp only); exact bI_t hC)), by rw [ht]; exact hP, va_K.moved hW.alike hK, hD⟩, hS.F ht⟩) hS.2.2 dX9_happen_150
      · skip
        rw [nI_eq (by omega) (by omega)] at c79
        refine lv_aload_n gx gb dX9_happen_82 rfl (lv_at hl 1 rfl) ?_
        have hPc := hP.sub (ws' := wM mo ma mb mc md me mf mg mh mi mj mk ml mn cI cZ n q c w z ev num plc sig pad row dig far cfr cby que has img kep) [0, 1, 2, 3, 4, 5, 6, 7, 8, 9, 10, 11, 12, 13] rfl
        have hDc := hD.sub (ws' := wM mo ma mb mc md me mf mg mh mi mj mk ml mn cI cZ n q c w z ev num plc sig pad row dig far cfr cby que has img kep) [0, 1, 2, 3, 4, 5, 6, 7, 8, 9, 10, 11, 12, 13] (by decide) rfl
        have hFc := va_free (wc := wM mo ma mb mc md me mf mg mh mi mj mk ml mn cI cZ n q c w z ev num plc sig pad row dig far cfr cby que has img kep) hD hS hA [0, 1, 2, 3, 4, 5, 6, 7, 8, 9, 10, 11, 12, 13] rfl
        refine va_callv (va_runV (As := []) (rest := []) ⟨gx, gb, gml, gown, gts⟩ (kX9_rain Gl D cI cJ cZ mo ma mb mc md me mf mg mh mi mj mk ml mn n q c w z ev num plc sig pad row dig far cfr cby que has img kep _  (by omega)) (cwV 0 gts gX9_happen_X9_rain rfl rfl rfl (by decide +kernel) ⟨Nat.le_of_ble_eq_true rfl, Nat.le_of_ble_eq_true rfl⟩) ⟨fun a U g mk q => by obtain ⟨q0, q1, qP, qK, qD⟩ := q; exact ⟨q0, q1, qP, va_K.moved (u := U) (U := U.calling g mk a) (Vm.Alike.refl U.vm) qK, qD⟩, va_recv hK hPc (ci := 4) (q0 := 0) rfl rfl, fun U hU hW => ⟨rfl, by rw [hU], by rw [hU]; exact hPc, va_K.moved hW.alike hK, hDc.weaken (fun _ _ _ _ => trivial)⟩⟩ rfl rfl hl.1 rfl (lv_room (Nat.le_of_ble_eq_true rfl)) dX9_happen_83 ⟨Nat.le_of_ble_eq_true rfl, Nat.le_of_ble_eq_true rfl⟩) hS (fun q _ h => hFc q h) hFc (fun u t H1 locs ht hvm hw hB hz1 hk1 hS => ?_)
        obtain ⟨hP1, hK1, hD1⟩ := hB
        rw [ht] at hP1
        try dsimp only at hw
        try dsimp only at hP1
        try dsimp only at hD1
        have hK := va_K.moved hvm.symm hK1
        obtain ⟨hP, hD⟩ := va_join (wr := []) (w1 := wM mo ma mb mc md me mf mg mh mi mj mk ml mn cI cZ n q c w z ev num plc sig pad (rainF z row) dig far cfr cby que has img kep) hP hD [0, 1, 2, 3, 4, 5, 6, 7, 8, 9, 10, 11, 12, 13] [] rfl rfl (by decide) (by decide) hk1 hFc hP1 hD1
        have hP := hP.sub (ws' := wM mo ma mb mc md me mf mg mh mi mj mk ml mn cI cZ n q c w z ev num plc sig pad (rainF z row) dig far cfr cby que has img kep) [0, 1, 2, 3, 4, 5, 6, 7, 8, 9, 10, 11, 12, 13] rfl
        have hD := hD.sub (ws' := wM mo ma mb mc md me mf mg mh mi mj mk ml mn cI cZ n q c w z ev num plc sig pad (rainF z row) dig far cfr cby que has img kep) [0, 1, 2, 3, 4, 5, 6, 7, 8, 9, 10, 11, 12, 13] (by decide) rfl
        have hK := va_K.moved (Vm.Alike.refl Gs.vm) hK
        generalize H1 = H at hP hS ⊢
        refine lv_goto (tgt := 149) gx gb dX9_happen_86 (by decide) ?_
        refine lv_iconst (v := nI 1) gx gb dX9_happen_149 (by decide) ?_
        have e_row : rainF z row = hapR a p z row := by first | (rw [hapR, if_pos hC, if_pos (by omega)]) | (rw [hapR, if_pos hC, if_neg (by omega), if_pos (by omega)]) | (rw [hapR, if_pos hC, if_neg (by omega), if_neg (by omega), if_pos (by omega)]) | (rw [hapR, if_pos hC, if_neg (by omega), if_neg (by omega), if_neg (by omega), if_pos (by omega)]) | (rw [hapR, if_pos hC, if_neg (by omega), if_neg (by omega), if_neg (by omega), if_neg (by omega)])
        have e_z : z = hapZ a p z := by first | (rw [hapZ, if_pos ⟨hC, by omega⟩]) | (rw [hapZ, if_neg (by omega)])
        have hP : va_P D vwCl (wM mo ma mb mc md me mf mg mh mi mj mk ml mn cI cZ n q c w (hapZ a p z) ev num plc sig pad (hapR a p z row) dig far cfr cby que has img kep) H := by rw [← e_row, ← e_z]; exact hP
        have hD : va_D A (wM mo ma mb mc md me mf mg mh mi mj mk ml mn cI cZ n q c w (hapZ a p z) ev num plc sig pad (hapR a p z row) dig far cfr cby que has img kep) := by rw [← e_row, ← e_z]; exact hD
        exact W.zret (v := nI 1) gx gb gr (by decide) (fun t ht hW => ⟨⟨nI 1, (), rfl, (by first | (dsimp only; done) | ((try dsimp only); exact bI_t hC)), by rw [ht]; exact hP, va_K.moved hW.alike hK, hD⟩, hS.F ht⟩) hS.2.2 dX9_happen_150
    · skip
      rw [b0_eq] at c71
      have hC : hapC a p z = false := hff ▸ c71
      refine lv_iconst (v := nI 0) gx gb dX9_happen_74 (by decide) ?_
      have e_row : row = hapR a p z row := by simp [hapR, hC]
      have e_z : z = hapZ a p z := by simp [hapZ, hC]
      have hP : va_P D vwCl (wM mo ma mb mc md me mf mg mh mi mj mk ml mn cI cZ n q c w (hapZ a p z) ev num plc sig pad (hapR a p z row) dig far cfr cby que has img kep) H := by rw [← e_row, ← e_z]; exact hP
      have hD : va_D A (wM mo ma mb mc md me mf mg mh mi mj mk ml mn cI cZ n q c w (hapZ a p z) ev num plc sig pad (hapR a p z row) dig far cfr cby que has img kep) := by rw [← e_row, ← e_z]; exact hD
      exact W.zret (v := nI 0) gx gb gr (by decide) (fun t ht hW => ⟨⟨nI 0, (), rfl, (by first | (dsimp only; done) | ((try dsimp only); exact bI_f hC)), by rw [ht]; exact hP, va_K.moved hW.alike hK, hD⟩, hS.F ht⟩) hS.2.2 dX9_happen_75
  refine lv_iload_n gx gb dX9_happen_0 rfl (lv_at hl 1 rfl) ?_
  refine lv_bipush (v := nI 114) gx gb dX9_happen_1 (by decide) ?_
  refine lv_icmp_eq (tgt := 64) gx gb dX9_happen_3 (by decide) (fun c3 => ?_) (fun c3 => ?_)
  · skip
    rw [nI_eq (by omega) (by omega)] at c3
    refine lv_iconst (v := nI 1) gx gb dX9_happen_64 (by decide) ?_
    refine lv_goto (tgt := 69) gx gb dX9_happen_65 (by decide) ?_
    exact L69 true (by first | exact (decide_eq_true (by omega)).symm | exact (decide_eq_false (by omega)).symm) _ _ hP hD hS ls (lv_sub hl [0, 1, 2] rfl)
  · skip
    rw [nI_eq (by omega) (by omega)] at c3
    refine lv_iload_n gx gb dX9_happen_6 rfl (lv_at hl 1 rfl) ?_
    refine lv_bipush (v := nI 103) gx gb dX9_happen_7 (by decide) ?_
    refine lv_icmp_ne (tgt := 22) gx gb dX9_happen_9 (by decide) (fun c9 => ?_) (fun c9 => ?_)
    · skip
      rw [nI_eq (by omega) (by omega)] at c9
      refine lv_iload_n gx gb dX9_happen_22 rfl (lv_at hl 1 rfl) ?_
      refine lv_bipush (v := nI 120) gx gb dX9_happen_23 (by decide) ?_
      refine lv_icmp_ne (tgt := 44) gx gb dX9_happen_25 (by decide) (fun c25 => ?_) (fun c25 => ?_)
      · skip
        rw [nI_eq (by omega) (by omega)] at c25
        refine lv_iload_n gx gb dX9_happen_44 rfl (lv_at hl 1 rfl) ?_
        refine lv_bipush (v := nI 98) gx gb dX9_happen_45 (by decide) ?_
        refine lv_icmp_eq (tgt := 56) gx gb dX9_happen_47 (by decide) (fun c47 => ?_) (fun c47 => ?_)
        · skip
          rw [nI_eq (by omega) (by omega)] at c47
          refine lv_iload_n gx gb dX9_happen_56 rfl (lv_at hl 2 rfl) ?_
          refine lv_aload_n gx gb dX9_happen_57 rfl (lv_at hl 0 rfl) ?_
          refine va_get (D := D) (ci := 4) (v := .int (nI z)) (C := RX9) (T := TX9) (N := 19) gx gb gts i9 gown hK hP 0 rfl rfl 9 (by decide) (gts (.fieldLink RX9 81 "SwanSumsModel" "size" "I") (by decide +kernel)) (fun _ h9 => h9) rfl dX9_happen_58 ?_
          refine lv_icmp_ge (tgt := 68) gx gb dX9_happen_61 (by decide) (fun c61 => ?_) (fun c61 => ?_)
          · skip
            rw [nI_leI (by omega) (by omega)] at c61
            refine lv_iconst (v := nI 0) gx gb dX9_happen_68 (by decide) ?_
            exact L69 false (by first | exact (decide_eq_true (by omega)).symm | exact (decide_eq_false (by omega)).symm) _ _ hP hD hS ls (lv_sub hl [0, 1, 2] rfl)
          · skip
            rw [nI_leI (by omega) (by omega)] at c61
            refine lv_iconst (v := nI 1) gx gb dX9_happen_64 (by decide) ?_
            refine lv_goto (tgt := 69) gx gb dX9_happen_65 (by decide) ?_
            exact L69 true (by first | exact (decide_eq_true (by omega)).symm | exact (decide_eq_false (by omega)).symm) _ _ hP hD hS ls (lv_sub hl [0, 1, 2] rfl)
        · skip
          rw [nI_eq (by omega) (by omega)] at c47
          refine lv_iload_n gx gb dX9_happen_50 rfl (lv_at hl 1 rfl) ?_
          refine lv_bipush (v := nI 112) gx gb dX9_happen_51 (by decide) ?_
          refine lv_icmp_ne (tgt := 68) gx gb dX9_happen_53 (by decide) (fun c53 => ?_) (fun c53 => ?_)
          · skip
            rw [nI_eq (by omega) (by omega)] at c53
            refine lv_iconst (v := nI 0) gx gb dX9_happen_68 (by decide) ?_
            exact L69 false (by first | exact (decide_eq_true (by omega)).symm | exact (decide_eq_false (by omega)).symm) _ _ hP hD hS ls (lv_sub hl [0, 1, 2] rfl)
          · skip
            rw [nI_eq (by omega) (by omega)] at c53
            refine lv_iload_n gx gb dX9_happen_56 rfl (lv_at hl 2 rfl) ?_
            refine lv_aload_n gx gb dX9_happen_57 rfl (lv_at hl 0 rfl) ?_
            refine va_get (D := D) (ci := 4) (v := .int (nI z)) (C := RX9) (T := TX9) (N := 19) gx gb gts i9 gown hK hP 0 rfl rfl 9 (by decide) (gts (.fieldLink RX9 81 "SwanSumsModel" "size" "I") (by decide +kernel)) (fun _ h9 => h9) rfl dX9_happen_58 ?_
            refine lv_icmp_ge (tgt := 68) gx gb dX9_happen_61 (by decide) (fun c61 => ?_) (fun c61 => ?_)
            · skip
              rw [nI_leI (by omega) (by omega)] at c61
              refine lv_iconst (v := nI 0) gx gb dX9_happen_68 (by decide) ?_
              exact L69 false (by first | exact (decide_eq_true (by omega)).symm | exact (decide_eq_false (by omega)).symm) _ _ hP hD hS ls (lv_sub hl [0, 1, 2] rfl)
            · skip
              rw [nI_leI (by omega) (by omega)] at c61
              refine lv_iconst (v := nI 1) gx gb dX9_happen_64 (by decide) ?_
              refine lv_goto (tgt := 69) gx gb dX9_happen_65 (by decide) ?_
              exact L69 true (by first | exact (decide_eq_true (by omega)).symm | exact (decide_eq_false (by omega)).symm) _ _ hP hD hS ls (lv_sub hl [0, 1, 2] rfl)
      · skip
        rw [nI_eq (by omega) (by omega)] at c25
        refine lv_iload_n gx gb dX9_happen_28 rfl (lv_at hl 2 rfl) ?_
        refine lv_aload_n gx gb dX9_happen_29 rfl (lv_at hl 0 rfl) ?_
        refine va_get (D := D) (ci := 4) (v := .int (nI z)) (C := RX9) (T := TX9) (N := 19) gx gb gts i9 gown hK hP 0 rfl rfl 9 (by decide) (gts (.fieldLink RX9 81 "SwanSumsModel" "size" "I") (by decide +kernel)) (fun _ h9 => h9) rfl dX9_happen_30 ?_
        refine lv_icmp_ge (tgt := 44) gx gb dX9_happen_33 (by decide) (fun c33 => ?_) (fun c33 => ?_)
        · skip
          rw [nI_leI (by omega) (by omega)] at c33
          refine lv_iload_n gx gb dX9_happen_44 rfl (lv_at hl 1 rfl) ?_
          refine lv_bipush (v := nI 98) gx gb dX9_happen_45 (by decide) ?_
          refine lv_icmp_eq (tgt := 56) gx gb dX9_happen_47 (by decide) (fun c47 => ?_) (fun c47 => ?_)
          · skip
            rw [nI_eq (by omega) (by omega)] at c47
            refine lv_iload_n gx gb dX9_happen_56 rfl (lv_at hl 2 rfl) ?_
            refine lv_aload_n gx gb dX9_happen_57 rfl (lv_at hl 0 rfl) ?_
            refine va_get (D := D) (ci := 4) (v := .int (nI z)) (C := RX9) (T := TX9) (N := 19) gx gb gts i9 gown hK hP 0 rfl rfl 9 (by decide) (gts (.fieldLink RX9 81 "SwanSumsModel" "size" "I") (by decide +kernel)) (fun _ h9 => h9) rfl dX9_happen_58 ?_
            refine lv_icmp_ge (tgt := 68) gx gb dX9_happen_61 (by decide) (fun c61 => ?_) (fun c61 => ?_)
            · skip
              rw [nI_leI (by omega) (by omega)] at c61
              refine lv_iconst (v := nI 0) gx gb dX9_happen_68 (by decide) ?_
              exact L69 false (by first | exact (decide_eq_true (by omega)).symm | exact (decide_eq_false (by omega)).symm) _ _ hP hD hS ls (lv_sub hl [0, 1, 2] rfl)
            · skip
              rw [nI_leI (by omega) (by omega)] at c61
              refine lv_iconst (v := nI 1) gx gb dX9_happen_64 (by decide) ?_
              refine lv_goto (tgt := 69) gx gb dX9_happen_65 (by decide) ?_
              exact L69 true (by first | exact (decide_eq_true (by omega)).symm | exact (decide_eq_false (by omega)).symm) _ _ hP hD hS ls (lv_sub hl [0, 1, 2] rfl)
          · skip
            rw [nI_eq (by omega) (by omega)] at c47
            refine lv_iload_n gx gb dX9_happen_50 rfl (lv_at hl 1 rfl) ?_
            refine lv_bipush (v := nI 112) gx gb dX9_happen_51 (by decide) ?_
            refine lv_icmp_ne (tgt := 68) gx gb dX9_happen_53 (by decide) (fun c53 => ?_) (fun c53 => ?_)
            · skip
              rw [nI_eq (by omega) (by omega)] at c53
              refine lv_iconst (v := nI 0) gx gb dX9_happen_68 (by decide) ?_
              exact L69 false (by first | exact (decide_eq_true (by omega)).symm | exact (decide_eq_false (by omega)).symm) _ _ hP hD hS ls (lv_sub hl [0, 1, 2] rfl)
            · skip
              rw [nI_eq (by omega) (by omega)] at c53
              refine lv_iload_n gx gb dX9_happen_56 rfl (lv_at hl 2 rfl) ?_
              refine lv_aload_n gx gb dX9_happen_57 rfl (lv_at hl 0 rfl) ?_
              refine va_get (D := D) (ci := 4) (v := .int (nI z)) (C := RX9) (T := TX9) (N := 19) gx gb gts i9 gown hK hP 0 rfl rfl 9 (by decide) (gts (.fieldLink RX9 81 "SwanSumsModel" "size" "I") (by decide +kernel)) (fun _ h9 => h9) rfl dX9_happen_58 ?_
              refine lv_icmp_ge (tgt := 68) gx gb dX9_happen_61 (by decide) (fun c61 => ?_) (fun c61 => ?_)
              · skip
                rw [nI_leI (by omega) (by omega)] at c61
                refine lv_iconst (v := nI 0) gx gb dX9_happen_68 (by decide) ?_
                exact L69 false (by first | exact (decide_eq_true (by omega)).symm | exact (decide_eq_false (by omega)).symm) _ _ hP hD hS ls (lv_sub hl [0, 1, 2] rfl)
              · skip
                rw [nI_leI (by omega) (by omega)] at c61
                refine lv_iconst (v := nI 1) gx gb dX9_happen_64 (by decide) ?_
                refine lv_goto (tgt := 69) gx gb dX9_happen_65 (by decide) ?_
                exact L69 true (by first | exact (decide_eq_true (by omega)).symm | exact (decide_eq_false (by omega)).symm) _ _ hP hD hS ls (lv_sub hl [0, 1, 2] rfl)
        · skip
          rw [nI_leI (by omega) (by omega)] at c33
          refine lv_aload_n gx gb dX9_happen_36 rfl (lv_at hl 0 rfl) ?_
          refine va_get (D := D) (ci := 4) (v := .int (nI z)) (C := RX9) (T := TX9) (N := 19) gx gb gts i9 gown hK hP 0 rfl rfl 9 (by decide) (gts (.fieldLink RX9 81 "SwanSumsModel" "size" "I") (by decide +kernel)) (fun _ h9 => h9) rfl dX9_happen_37 ?_
          refine lv_iconst (v := nI 1) gx gb dX9_happen_40 (by decide) ?_
          refine lv_icmp_gt (tgt := 64) gx gb dX9_happen_41 (by decide) (fun c41 => ?_) (fun c41 => ?_)
          · skip
            rw [nI_ltI (by omega) (by omega)] at c41
            refine lv_iconst (v := nI 1) gx gb dX9_happen_64 (by decide) ?_
            refine lv_goto (tgt := 69) gx gb dX9_happen_65 (by decide) ?_
            exact L69 true (by first | exact (decide_eq_true (by omega)).symm | exact (decide_eq_false (by omega)).symm) _ _ hP hD hS ls (lv_sub hl [0, 1, 2] rfl)
          · skip
            rw [nI_ltI (by omega) (by omega)] at c41
            refine lv_iload_n gx gb dX9_happen_44 rfl (lv_at hl 1 rfl) ?_
            refine lv_bipush (v := nI 98) gx gb dX9_happen_45 (by decide) ?_
            refine lv_icmp_eq (tgt := 56) gx gb dX9_happen_47 (by decide) (fun c47 => ?_) (fun c47 => ?_)
            · skip
              rw [nI_eq (by omega) (by omega)] at c47
              refine lv_iload_n gx gb dX9_happen_56 rfl (lv_at hl 2 rfl) ?_
              refine lv_aload_n gx gb dX9_happen_57 rfl (lv_at hl 0 rfl) ?_
              refine va_get (D := D) (ci := 4) (v := .int (nI z)) (C := RX9) (T := TX9) (N := 19) gx gb gts i9 gown hK hP 0 rfl rfl 9 (by decide) (gts (.fieldLink RX9 81 "SwanSumsModel" "size" "I") (by decide +kernel)) (fun _ h9 => h9) rfl dX9_happen_58 ?_
              refine lv_icmp_ge (tgt := 68) gx gb dX9_happen_61 (by decide) (fun c61 => ?_) (fun c61 => ?_)
              · skip
                rw [nI_leI (by omega) (by omega)] at c61
                refine lv_iconst (v := nI 0) gx gb dX9_happen_68 (by decide) ?_
                exact L69 false (by first | exact (decide_eq_true (by omega)).symm | exact (decide_eq_false (by omega)).symm) _ _ hP hD hS ls (lv_sub hl [0, 1, 2] rfl)
              · skip
                rw [nI_leI (by omega) (by omega)] at c61
                refine lv_iconst (v := nI 1) gx gb dX9_happen_64 (by decide) ?_
                refine lv_goto (tgt := 69) gx gb dX9_happen_65 (by decide) ?_
                exact L69 true (by first | exact (decide_eq_true (by omega)).symm | exact (decide_eq_false (by omega)).symm) _ _ hP hD hS ls (lv_sub hl [0, 1, 2] rfl)
            · skip
              rw [nI_eq (by omega) (by omega)] at c47
              refine lv_iload_n gx gb dX9_happen_50 rfl (lv_at hl 1 rfl) ?_
              refine lv_bipush (v := nI 112) gx gb dX9_happen_51 (by decide) ?_
              refine lv_icmp_ne (tgt := 68) gx gb dX9_happen_53 (by decide) (fun c53 => ?_) (fun c53 => ?_)
              · skip
                rw [nI_eq (by omega) (by omega)] at c53
                refine lv_iconst (v := nI 0) gx gb dX9_happen_68 (by decide) ?_
                exact L69 false (by first | exact (decide_eq_true (by omega)).symm | exact (decide_eq_false (by omega)).symm) _ _ hP hD hS ls (lv_sub hl [0, 1, 2] rfl)
              · skip
                rw [nI_eq (by omega) (by omega)] at c53
                refine lv_iload_n gx gb dX9_happen_56 rfl (lv_at hl 2 rfl) ?_
                refine lv_aload_n gx gb dX9_happen_57 rfl (lv_at hl 0 rfl) ?_
                refine va_get (D := D) (ci := 4) (v := .int (nI z)) (C := RX9) (T := TX9) (N := 19) gx gb gts i9 gown hK hP 0 rfl rfl 9 (by decide) (gts (.fieldLink RX9 81 "SwanSumsModel" "size" "I") (by decide +kernel)) (fun _ h9 => h9) rfl dX9_happen_58 ?_
                refine lv_icmp_ge (tgt := 68) gx gb dX9_happen_61 (by decide) (fun c61 => ?_) (fun c61 => ?_)
                · skip
                  rw [nI_leI (by omega) (by omega)] at c61
                  refine lv_iconst (v := nI 0) gx gb dX9_happen_68 (by decide) ?_
                  exact L69 false (by first | exact (decide_eq_true (by omega)).symm | exact (decide_eq_false (by omega)).symm) _ _ hP hD hS ls (lv_sub hl [0, 1, 2] rfl)
                · skip
                  rw [nI_leI (by omega) (by omega)] at c61
                  refine lv_iconst (v := nI 1) gx gb dX9_happen_64 (by decide) ?_
                  refine lv_goto (tgt := 69) gx gb dX9_happen_65 (by decide) ?_
                  exact L69 true (by first | exact (decide_eq_true (by omega)).symm | exact (decide_eq_false (by omega)).symm) _ _ hP hD hS ls (lv_sub hl [0, 1, 2] rfl)
    · skip
      rw [nI_eq (by omega) (by omega)] at c9
      refine lv_iload_n gx gb dX9_happen_12 rfl (lv_at hl 2 rfl) ?_
      refine lv_iconst (v := nI 1) gx gb dX9_happen_13 (by decide) ?_
      refine lv_iadd gx gb dX9_happen_14 ?_
      refine lv_evi (nI (p + 1)) (nI_add p 1) ?_
      refine lv_aload_n gx gb dX9_happen_15 rfl (lv_at hl 0 rfl) ?_
      refine va_get (D := D) (ci := 4) (v := .int (nI z)) (C := RX9) (T := TX9) (N := 19) gx gb gts i9 gown hK hP 0 rfl rfl 9 (by decide) (gts (.fieldLink RX9 81 "SwanSumsModel" "size" "I") (by decide +kernel)) (fun _ h9 => h9) rfl dX9_happen_16 ?_
      refine lv_icmp_lt (tgt := 64) gx gb dX9_happen_19 (by decide) (fun c19 => ?_) (fun c19 => ?_)
      · skip
        rw [nI_ltI (by omega) (by omega)] at c19
        refine lv_iconst (v := nI 1) gx gb dX9_happen_64 (by decide) ?_
        refine lv_goto (tgt := 69) gx gb dX9_happen_65 (by decide) ?_
        exact L69 true (by first | exact (decide_eq_true (by omega)).symm | exact (decide_eq_false (by omega)).symm) _ _ hP hD hS ls (lv_sub hl [0, 1, 2] rfl)
      · skip
        rw [nI_ltI (by omega) (by omega)] at c19
        refine lv_iload_n gx gb dX9_happen_22 rfl (lv_at hl 1 rfl) ?_
        refine lv_bipush (v := nI 120) gx gb dX9_happen_23 (by decide) ?_
        refine lv_icmp_ne (tgt := 44) gx gb dX9_happen_25 (by decide) (fun c25 => ?_) (fun c25 => ?_)
        · skip
          rw [nI_eq (by omega) (by omega)] at c25
          refine lv_iload_n gx gb dX9_happen_44 rfl (lv_at hl 1 rfl) ?_
          refine lv_bipush (v := nI 98) gx gb dX9_happen_45 (by decide) ?_
          refine lv_icmp_eq (tgt := 56) gx gb dX9_happen_47 (by decide) (fun c47 => ?_) (fun c47 => ?_)
          · skip
            rw [nI_eq (by omega) (by omega)] at c47
            refine lv_iload_n gx gb dX9_happen_56 rfl (lv_at hl 2 rfl) ?_
            refine lv_aload_n gx gb dX9_happen_57 rfl (lv_at hl 0 rfl) ?_
            refine va_get (D := D) (ci := 4) (v := .int (nI z)) (C := RX9) (T := TX9) (N := 19) gx gb gts i9 gown hK hP 0 rfl rfl 9 (by decide) (gts (.fieldLink RX9 81 "SwanSumsModel" "size" "I") (by decide +kernel)) (fun _ h9 => h9) rfl dX9_happen_58 ?_
            refine lv_icmp_ge (tgt := 68) gx gb dX9_happen_61 (by decide) (fun c61 => ?_) (fun c61 => ?_)
            · skip
              rw [nI_leI (by omega) (by omega)] at c61
              refine lv_iconst (v := nI 0) gx gb dX9_happen_68 (by decide) ?_
              exact L69 false (by first | exact (decide_eq_true (by omega)).symm | exact (decide_eq_false (by omega)).symm) _ _ hP hD hS ls (lv_sub hl [0, 1, 2] rfl)
            · skip
              rw [nI_leI (by omega) (by omega)] at c61
              refine lv_iconst (v := nI 1) gx gb dX9_happen_64 (by decide) ?_
              refine lv_goto (tgt := 69) gx gb dX9_happen_65 (by decide) ?_
              exact L69 true (by first | exact (decide_eq_true (by omega)).symm | exact (decide_eq_false (by omega)).symm) _ _ hP hD hS ls (lv_sub hl [0, 1, 2] rfl)
          · skip
            rw [nI_eq (by omega) (by omega)] at c47
            refine lv_iload_n gx gb dX9_happen_50 rfl (lv_at hl 1 rfl) ?_
            refine lv_bipush (v := nI 112) gx gb dX9_happen_51 (by decide) ?_
            refine lv_icmp_ne (tgt := 68) gx gb dX9_happen_53 (by decide) (fun c53 => ?_) (fun c53 => ?_)
            · skip
              rw [nI_eq (by omega) (by omega)] at c53
              refine lv_iconst (v := nI 0) gx gb dX9_happen_68 (by decide) ?_
              exact L69 false (by first | exact (decide_eq_true (by omega)).symm | exact (decide_eq_false (by omega)).symm) _ _ hP hD hS ls (lv_sub hl [0, 1, 2] rfl)
            · skip
              rw [nI_eq (by omega) (by omega)] at c53
              refine lv_iload_n gx gb dX9_happen_56 rfl (lv_at hl 2 rfl) ?_
              refine lv_aload_n gx gb dX9_happen_57 rfl (lv_at hl 0 rfl) ?_
              refine va_get (D := D) (ci := 4) (v := .int (nI z)) (C := RX9) (T := TX9) (N := 19) gx gb gts i9 gown hK hP 0 rfl rfl 9 (by decide) (gts (.fieldLink RX9 81 "SwanSumsModel" "size" "I") (by decide +kernel)) (fun _ h9 => h9) rfl dX9_happen_58 ?_
              refine lv_icmp_ge (tgt := 68) gx gb dX9_happen_61 (by decide) (fun c61 => ?_) (fun c61 => ?_)
              · skip
                rw [nI_leI (by omega) (by omega)] at c61
                refine lv_iconst (v := nI 0) gx gb dX9_happen_68 (by decide) ?_
                exact L69 false (by first | exact (decide_eq_true (by omega)).symm | exact (decide_eq_false (by omega)).symm) _ _ hP hD hS ls (lv_sub hl [0, 1, 2] rfl)
              · skip
                rw [nI_leI (by omega) (by omega)] at c61
                refine lv_iconst (v := nI 1) gx gb dX9_happen_64 (by decide) ?_
                refine lv_goto (tgt := 69) gx gb dX9_happen_65 (by decide) ?_
                exact L69 true (by first | exact (decide_eq_true (by omega)).symm | exact (decide_eq_false (by omega)).symm) _ _ hP hD hS ls (lv_sub hl [0, 1, 2] rfl)
        · skip
          rw [nI_eq (by omega) (by omega)] at c25
          refine lv_iload_n gx gb dX9_happen_28 rfl (lv_at hl 2 rfl) ?_
          refine lv_aload_n gx gb dX9_happen_29 rfl (lv_at hl 0 rfl) ?_
          refine va_get (D := D) (ci := 4) (v := .int (nI z)) (C := RX9) (T := TX9) (N := 19) gx gb gts i9 gown hK hP 0 rfl rfl 9 (by decide) (gts (.fieldLink RX9 81 "SwanSumsModel" "size" "I") (by decide +kernel)) (fun _ h9 => h9) rfl dX9_happen_30 ?_
          refine lv_icmp_ge (tgt := 44) gx gb dX9_happen_33 (by decide) (fun c33 => ?_) (fun c33 => ?_)
          · skip
            rw [nI_leI (by omega) (by omega)] at c33
            refine lv_iload_n gx gb dX9_happen_44 rfl (lv_at hl 1 rfl) ?_
            refine lv_bipush (v := nI 98) gx gb dX9_happen_45 (by decide) ?_
            refine lv_icmp_eq (tgt := 56) gx gb dX9_happen_47 (by decide) (fun c47 => ?_) (fun c47 => ?_)
            · skip
              rw [nI_eq (by omega) (by omega)] at c47
              refine lv_iload_n gx gb dX9_happen_56 rfl (lv_at hl 2 rfl) ?_
              refine lv_aload_n gx gb dX9_happen_57 rfl (lv_at hl 0 rfl) ?_
              refine va_get (D := D) (ci := 4) (v := .int (nI z)) (C := RX9) (T := TX9) (N := 19) gx gb gts i9 gown hK hP 0 rfl rfl 9 (by decide) (gts (.fieldLink RX9 81 "SwanSumsModel" "size" "I") (by decide +kernel)) (fun _ h9 => h9) rfl dX9_happen_58 ?_
              refine lv_icmp_ge (tgt := 68) gx gb dX9_happen_61 (by decide) (fun c61 => ?_) (fun c61 => ?_)
              · skip
                rw [nI_leI (by omega) (by omega)] at c61
                refine lv_iconst (v := nI 0) gx gb dX9_happen_68 (by decide) ?_
                exact L69 false (by first | exact (decide_eq_true (by omega)).symm | exact (decide_eq_false (by omega)).symm) _ _ hP hD hS ls (lv_sub hl [0, 1, 2] rfl)
              · skip
                rw [nI_leI (by omega) (by omega)] at c61
                refine lv_iconst (v := nI 1) gx gb dX9_happen_64 (by decide) ?_
                refine lv_goto (tgt := 69) gx gb dX9_happen_65 (by decide) ?_
                exact L69 true (by first | exact (decide_eq_true (by omega)).symm | exact (decide_eq_false (by omega)).symm) _ _ hP hD hS ls (lv_sub hl [0, 1, 2] rfl)
            · skip
              rw [nI_eq (by omega) (by omega)] at c47
              refine lv_iload_n gx gb dX9_happen_50 rfl (lv_at hl 1 rfl) ?_
              refine lv_bipush (v := nI 112) gx gb dX9_happen_51 (by decide) ?_
              refine lv_icmp_ne (tgt := 68) gx gb dX9_happen_53 (by decide) (fun c53 => ?_) (fun c53 => ?_)
              · skip
                rw [nI_eq (by omega) (by omega)] at c53
                refine lv_iconst (v := nI 0) gx gb dX9_happen_68 (by decide) ?_
                exact L69 false (by first | exact (decide_eq_true (by omega)).symm | exact (decide_eq_false (by omega)).symm) _ _ hP hD hS ls (lv_sub hl [0, 1, 2] rfl)
              · skip
                rw [nI_eq (by omega) (by omega)] at c53
                refine lv_iload_n gx gb dX9_happen_56 rfl (lv_at hl 2 rfl) ?_
                refine lv_aload_n gx gb dX9_happen_57 rfl (lv_at hl 0 rfl) ?_
                refine va_get (D := D) (ci := 4) (v := .int (nI z)) (C := RX9) (T := TX9) (N := 19) gx gb gts i9 gown hK hP 0 rfl rfl 9 (by decide) (gts (.fieldLink RX9 81 "SwanSumsModel" "size" "I") (by decide +kernel)) (fun _ h9 => h9) rfl dX9_happen_58 ?_
                refine lv_icmp_ge (tgt := 68) gx gb dX9_happen_61 (by decide) (fun c61 => ?_) (fun c61 => ?_)
                · skip
                  rw [nI_leI (by omega) (by omega)] at c61
                  refine lv_iconst (v := nI 0) gx gb dX9_happen_68 (by decide) ?_
                  exact L69 false (by first | exact (decide_eq_true (by omega)).symm | exact (decide_eq_false (by omega)).symm) _ _ hP hD hS ls (lv_sub hl [0, 1, 2] rfl)
                · skip
                  rw [nI_leI (by omega) (by omega)] at c61
                  refine lv_iconst (v := nI 1) gx gb dX9_happen_64 (by decide) ?_
                  refine lv_goto (tgt := 69) gx gb dX9_happen_65 (by decide) ?_
                  exact L69 true (by first | exact (decide_eq_true (by omega)).symm | exact (decide_eq_false (by omega)).symm) _ _ hP hD hS ls (lv_sub hl [0, 1, 2] rfl)
          · skip
            rw [nI_leI (by omega) (by omega)] at c33
            refine lv_aload_n gx gb dX9_happen_36 rfl (lv_at hl 0 rfl) ?_
            refine va_get (D := D) (ci := 4) (v := .int (nI z)) (C := RX9) (T := TX9) (N := 19) gx gb gts i9 gown hK hP 0 rfl rfl 9 (by decide) (gts (.fieldLink RX9 81 "SwanSumsModel" "size" "I") (by decide +kernel)) (fun _ h9 => h9) rfl dX9_happen_37 ?_
            refine lv_iconst (v := nI 1) gx gb dX9_happen_40 (by decide) ?_
            refine lv_icmp_gt (tgt := 64) gx gb dX9_happen_41 (by decide) (fun c41 => ?_) (fun c41 => ?_)
            · skip
              rw [nI_ltI (by omega) (by omega)] at c41
              refine lv_iconst (v := nI 1) gx gb dX9_happen_64 (by decide) ?_
              refine lv_goto (tgt := 69) gx gb dX9_happen_65 (by decide) ?_
              exact L69 true (by first | exact (decide_eq_true (by omega)).symm | exact (decide_eq_false (by omega)).symm) _ _ hP hD hS ls (lv_sub hl [0, 1, 2] rfl)
            · skip
              rw [nI_ltI (by omega) (by omega)] at c41
              refine lv_iload_n gx gb dX9_happen_44 rfl (lv_at hl 1 rfl) ?_
              refine lv_bipush (v := nI 98) gx gb dX9_happen_45 (by decide) ?_
              refine lv_icmp_eq (tgt := 56) gx gb dX9_happen_47 (by decide) (fun c47 => ?_) (fun c47 => ?_)
              · skip
                rw [nI_eq (by omega) (by omega)] at c47
                refine lv_iload_n gx gb dX9_happen_56 rfl (lv_at hl 2 rfl) ?_
                refine lv_aload_n gx gb dX9_happen_57 rfl (lv_at hl 0 rfl) ?_
                refine va_get (D := D) (ci := 4) (v := .int (nI z)) (C := RX9) (T := TX9) (N := 19) gx gb gts i9 gown hK hP 0 rfl rfl 9 (by decide) (gts (.fieldLink RX9 81 "SwanSumsModel" "size" "I") (by decide +kernel)) (fun _ h9 => h9) rfl dX9_happen_58 ?_
                refine lv_icmp_ge (tgt := 68) gx gb dX9_happen_61 (by decide) (fun c61 => ?_) (fun c61 => ?_)
                · skip
                  rw [nI_leI (by omega) (by omega)] at c61
                  refine lv_iconst (v := nI 0) gx gb dX9_happen_68 (by decide) ?_
                  exact L69 false (by first | exact (decide_eq_true (by omega)).symm | exact (decide_eq_false (by omega)).symm) _ _ hP hD hS ls (lv_sub hl [0, 1, 2] rfl)
                · skip
                  rw [nI_leI (by omega) (by omega)] at c61
                  refine lv_iconst (v := nI 1) gx gb dX9_happen_64 (by decide) ?_
                  refine lv_goto (tgt := 69) gx gb dX9_happen_65 (by decide) ?_
                  exact L69 true (by first | exact (decide_eq_true (by omega)).symm | exact (decide_eq_false (by omega)).symm) _ _ hP hD hS ls (lv_sub hl [0, 1, 2] rfl)
              · skip
                rw [nI_eq (by omega) (by omega)] at c47
                refine lv_iload_n gx gb dX9_happen_50 rfl (lv_at hl 1 rfl) ?_
                refine lv_bipush (v := nI 112) gx gb dX9_happen_51 (by decide) ?_
                refine lv_icmp_ne (tgt := 68) gx gb dX9_happen_53 (by decide) (fun c53 => ?_) (fun c53 => ?_)
                · skip
                  rw [nI_eq (by omega) (by omega)] at c53
                  refine lv_iconst (v := nI 0) gx gb dX9_happen_68 (by decide) ?_
                  exact L69 false (by first | exact (decide_eq_true (by omega)).symm | exact (decide_eq_false (by omega)).symm) _ _ hP hD hS ls (lv_sub hl [0, 1, 2] rfl)
                · skip
                  rw [nI_eq (by omega) (by omega)] at c53
                  refine lv_iload_n gx gb dX9_happen_56 rfl (lv_at hl 2 rfl) ?_
                  refine lv_aload_n gx gb dX9_happen_57 rfl (lv_at hl 0 rfl) ?_
                  refine va_get (D := D) (ci := 4) (v := .int (nI z)) (C := RX9) (T := TX9) (N := 19) gx gb gts i9 gown hK hP 0 rfl rfl 9 (by decide) (gts (.fieldLink RX9 81 "SwanSumsModel" "size" "I") (by decide +kernel)) (fun _ h9 => h9) rfl dX9_happen_58 ?_
                  refine lv_icmp_ge (tgt := 68) gx gb dX9_happen_61 (by decide) (fun c61 => ?_) (fun c61 => ?_)
                  · skip
                    rw [nI_leI (by omega) (by omega)] at c61
                    refine lv_iconst (v := nI 0) gx gb dX9_happen_68 (by decide) ?_
                    exact L69 false (by first | exact (decide_eq_true (by omega)).symm | exact (decide_eq_false (by omega)).symm) _ _ hP hD hS ls (lv_sub hl [0, 1, 2] rfl)
                  · skip
                    rw [nI_leI (by omega) (by omega)] at c61
                    refine lv_iconst (v := nI 1) gx gb dX9_happen_64 (by decide) ?_
                    refine lv_goto (tgt := 69) gx gb dX9_happen_65 (by decide) ?_
                    exact L69 true (by first | exact (decide_eq_true (by omega)).symm | exact (decide_eq_false (by omega)).symm) _ _ hP hD hS ls (lv_sub hl [0, 1, 2] rfl)

set_option maxHeartbeats 4000000 in
set_option maxRecDepth 100000 in
theorem kX9_goDay (Gl : Launch) (D : va_G) (cI cJ cZ : ClassId) (mo : Nat) (ma : Nat) (mb : Nat) (mc : Nat) (md : Nat) (me : Nat) (mf : Nat) (mg : Nat) (mh : Nat) (mi : Nat) (mj : Nat) (mk : Nat) (ml : Nat) (mn : Nat) (n : Nat) (q : Nat) (c : Nat) (w : Nat) (z : Nat) (ev : Nat) (num : Nat → Nat) (plc : Nat → Nat) (sig : Nat → Nat) (pad : Nat → Nat) (row : Nat → Nat) (dig : Nat → Nat) (far : Nat → Int32) (cfr : Nat → Nat) (cby : Nat → Nat) (que : Nat → Nat) (has : Nat → Nat) (img : Nat → Nat) (kep : Nat → Nat) (sz : Nat) (code E : Nat) (hw : w ≤ 60) (hg : ∀ k, k < w → pad k < 127) (hE : wfD pad w E) (hq1 : 1 ≤ q) (hq : q ≤ 7) (hcode : code < 1000) (ho : cq pad w ≤ 3) : Met Gl yX9_goDay wsX9_goDay ({ frames := 3, cells := 0, slots := 0, locals := 68 } : Room) (va_Pc [.ref mo, .int (nI code)] (fun U => U.heap.size = sz ∧ va_P D vwCl (wM mo ma mb mc md me mf mg mh mi mj mk ml mn cI cZ n q c w z ev num plc sig pad row dig far cfr cby que has img kep) U.heap ∧ va_K D vwCl [(cI, .int), (cJ, .long), (cZ, .boolean)] U ∧ va_D (fun _ => True) (wM mo ma mb mc md me mf mg mh mi mj mk ml mn cI cZ n q c w z ev num plc sig pad row dig far cfr cby que has img kep))) (va_Qi (fun (r : Int32) (u : Unit) => r = zI (dayZ (fun j => code / 10 ^ (cq pad w - 1 - j) % 10) pad (cpy plc row 7) q E)) (fun (u : Unit) t => va_P D vwCl (wM mo ma mb mc md me mf mg mh mi mj mk ml mn cI cZ n q c w ((dst (fun j => code / 10 ^ (cq pad w - 1 - j) % 10) pad (cpy plc row 7) q (dayN (fun j => code / 10 ^ (cq pad w - 1 - j) % 10) pad (cpy plc row 7) q E)).2) (dayN (fun j => code / 10 ^ (cq pad w - 1 - j) % 10) pad (cpy plc row 7) q E) num plc sig pad ((dst (fun j => code / 10 ^ (cq pad w - 1 - j) % 10) pad (cpy plc row 7) q (dayN (fun j => code / 10 ^ (cq pad w - 1 - j) % 10) pad (cpy plc row 7) q E)).1) dig far cfr cby que has img kep) t.heap ∧ va_K D vwCl [(cI, .int), (cJ, .long), (cZ, .boolean)] t ∧ va_D (va_A (wM mo ma mb mc md me mf mg mh mi mj mk ml mn cI cZ n q c w z ev num plc sig pad row dig far cfr cby que has img kep) sz) (wM mo ma mb mc md me mf mg mh mi mj mk ml mn cI cZ n q c w ((dst (fun j => code / 10 ^ (cq pad w - 1 - j) % 10) pad (cpy plc row 7) q (dayN (fun j => code / 10 ^ (cq pad w - 1 - j) % 10) pad (cpy plc row 7) q E)).2) (dayN (fun j => code / 10 ^ (cq pad w - 1 - j) % 10) pad (cpy plc row 7) q E) num plc sig pad ((dst (fun j => code / 10 ^ (cq pad w - 1 - j) % 10) pad (cpy plc row 7) q (dayN (fun j => code / 10 ^ (cq pad w - 1 - j) % 10) pad (cpy plc row 7) q E)).1) dig far cfr cby que has img kep)) (va_A (wM mo ma mb mc md me mf mg mh mi mj mk ml mn cI cZ n q c w z ev num plc sig pad row dig far cfr cby que has img kep) sz)) 0 0 (va_A (wM mo ma mb mc md me mf mg mh mi mj mk ml mn cI cZ n q c w z ev num plc sig pad row dig far cfr cby que has img kep) sz) := by
  refine Met.ofW (cc := cX9_goDay) (maxL := 6) (ret := (some .int)) (by decide +kernel) rfl ?_
  intro Gp Ge Gs Gm Ga Gw Gt Gc G1 Bd gml gv
  obtain ⟨rfl, hsz, hP, hK, hD0⟩ := gv
  have gx := Bd.exec
  have gb := Bd.bytes
  have gr := Bd.returns
  have gts := atoms_spec (ws := wsX9_goDay) Bd.pre
  have gown : Gs.vm.findClass RX9 = some Gm.cls := findClass_of_methodNamed Bd.named
  have glk := Bd.notSynchronized
  subst hsz
  have hD := hD0.self (sz := Gs.heap.size)
  generalize hAe : va_A (wM mo ma mb mc md me mf mg mh mi mj mk ml mn cI cZ n q c w z ev num plc sig pad row dig far cfr cby que has img kep) Gs.heap.size = A at hD ⊢
  have hA : ∀ q : Nat, Gs.heap.size ≤ q → A q := fun q h => by rw [← hAe]; exact Or.inr h
  have hS : va_S A Gs.heap Gs.heap [] := va_S.rf
  have hP : va_P D vwCl (wM mo ma mb mc md me mf mg mh mi mj mk ml mn cI cZ n q c w z ev num plc sig pad row dig far cfr cby que has img kep) Gs.heap := hP
  have hl := lv_entry ([.ref mo, .int (nI code)]) (n := 6) (Nat.le_of_ble_eq_true rfl)
  rw [lg_entry_eq]
  generalize (lg_sl ([.ref mo, .int (nI code)]) ++ List.replicate (6 - (lg_sl ([.ref mo, .int (nI code)])).length) Slot.unset).toArray = ls at hl ⊢
  have hl : lv_has ls 6 [(0, .ref mo), (1, .int (nI code))] := hl
  have i9 : ∀ w ∈ wsX90, w ∈ wsX9_goDay := by decide +kernel
  refine lv_aload_n gx gb dX9_goDay_0 rfl (lv_at hl 0 rfl) ?_
  have hPc := hP.sub (ws' := wM mo ma mb mc md me mf mg mh mi mj mk ml mn cI cZ n q c w z ev num plc sig pad row dig far cfr cby que has img kep) [0, 1, 2, 3, 4, 5, 6, 7, 8, 9, 10, 11, 12, 13] rfl
  have hDc := hD.sub (ws' := wM mo ma mb mc md me mf mg mh mi mj mk ml mn cI cZ n q c w z ev num plc sig pad row dig far cfr cby que has img kep) [0, 1, 2, 3, 4, 5, 6, 7, 8, 9, 10, 11, 12, 13] (by decide) rfl
  have hFc := va_free (wc := wM mo ma mb mc md me mf mg mh mi mj mk ml mn cI cZ n q c w z ev num plc sig pad row dig far cfr cby que has img kep) hD hS hA [0, 1, 2, 3, 4, 5, 6, 7, 8, 9, 10, 11, 12, 13] rfl
  refine va_callv (va_runV (As := []) (rest := []) ⟨gx, gb, gml, gown, gts⟩ (kX9_asNow Gl D cI cJ cZ mo ma mb mc md me mf mg mh mi mj mk ml mn n q c w z ev num plc sig pad row dig far cfr cby que has img kep _  ) (cwV 0 gts gX9_goDay_X9_asNow rfl rfl rfl (by decide +kernel) ⟨Nat.le_of_ble_eq_true rfl, Nat.le_of_ble_eq_true rfl⟩) ⟨fun a U g mk q => by obtain ⟨q0, q1, qP, qK, qD⟩ := q; exact ⟨q0, q1, qP, va_K.moved (u := U) (U := U.calling g mk a) (Vm.Alike.refl U.vm) qK, qD⟩, va_recv hK hPc (ci := 4) (q0 := 0) rfl rfl, fun U hU hW => ⟨rfl, by rw [hU], by rw [hU]; exact hPc, va_K.moved hW.alike hK, hDc.weaken (fun _ _ _ _ => trivial)⟩⟩ rfl rfl hl.1 rfl (lv_room (Nat.le_of_ble_eq_true rfl)) dX9_goDay_1 ⟨Nat.le_of_ble_eq_true rfl, Nat.le_of_ble_eq_true rfl⟩) hS (fun q _ h => hFc q h) hFc (fun u t H1 locs ht hvm hw hB hz1 hk1 hS => ?_)
  obtain ⟨hP1, hK1, hD1⟩ := hB
  rw [ht] at hP1
  try dsimp only at hw
  try dsimp only at hP1
  try dsimp only at hD1
  have hK := va_K.moved hvm.symm hK1
  obtain ⟨hP, hD⟩ := va_join (wr := []) (w1 := wM mo ma mb mc md me mf mg mh mi mj mk ml mn cI cZ n q c w q ev num plc sig pad (cpy plc row 7) dig far cfr cby que has img kep) hP hD [0, 1, 2, 3, 4, 5, 6, 7, 8, 9, 10, 11, 12, 13] [] rfl rfl (by decide) (by decide) hk1 hFc hP1 hD1
  have hP := hP.sub (ws' := wM mo ma mb mc md me mf mg mh mi mj mk ml mn cI cZ n q c w q ev num plc sig pad (cpy plc row 7) dig far cfr cby que has img kep) [0, 1, 2, 3, 4, 5, 6, 7, 8, 9, 10, 11, 12, 13] rfl
  have hD := hD.sub (ws' := wM mo ma mb mc md me mf mg mh mi mj mk ml mn cI cZ n q c w q ev num plc sig pad (cpy plc row 7) dig far cfr cby que has img kep) [0, 1, 2, 3, 4, 5, 6, 7, 8, 9, 10, 11, 12, 13] (by decide) rfl
  have hK := va_K.moved (Vm.Alike.refl Gs.vm) hK
  generalize H1 = H at hP hS ⊢
  refine lv_aload_n gx gb dX9_goDay_4 rfl (lv_at hl 0 rfl) ?_
  refine lv_iconst (v := nI 0) gx gb dX9_goDay_5 (by decide) ?_
  refine va_put (D := D) (ci := 4) (v := .int (nI 0)) (ty := .int) (C := RX9) (T := TX9) (N := 19) gx gb gts i9 tyX9 tyX9_ok nmX9 gown hK hP hD hS 0 rfl rfl 10 (by decide) (gts (.fieldLink RX9 101 "SwanSumsModel" "events" "I") (by decide +kernel)) (fun _ h9 => h9) rfl (by decide +kernel) rfl rfl (Nat.le_of_ble_eq_true rfl) dX9_goDay_6 (fun H locs hP hD hS => ?_)
  have hP : va_P D vwCl (wM mo ma mb mc md me mf mg mh mi mj mk ml mn cI cZ n q c w q 0 num plc sig pad (cpy plc row 7) dig far cfr cby que has img kep) H := hP
  have hD : va_D A (wM mo ma mb mc md me mf mg mh mi mj mk ml mn cI cZ n q c w q 0 num plc sig pad (cpy plc row 7) dig far cfr cby que has img kep) := hD
  refine lv_iconst (v := nI 1) gx gb dX9_goDay_9 (by decide) ?_
  refine lv_istore_n (lv' := [(2, .int (nI 1)), (0, .ref mo), (1, .int (nI code))]) gx gb dX9_goDay_10 rfl hl (by decide) rfl (fun ls hl => ?_)
  refine lv_iconst (v := nI 1) gx gb dX9_goDay_11 (by decide) ?_
  refine lv_istore_n (lv' := [(3, .int (nI 1)), (2, .int (nI 1)), (0, .ref mo), (1, .int (nI code))]) gx gb dX9_goDay_12 rfl hl (by decide) rfl (fun ls hl => ?_)
  have L13 : ∀ fu : Nat, ∀ (i : Nat) (hi1 : 1 ≤ i) (hi : i ≤ cq pad w ∨ i = 1), (4 - i) < fu → ∀ (H : Heap) (locs : List Loc), va_P D vwCl (wM mo ma mb mc md me mf mg mh mi mj mk ml mn cI cZ n q c w q 0 num plc sig pad (cpy plc row 7) dig far cfr cby que has img kep) H → va_D A (wM mo ma mb mc md me mf mg mh mi mj mk ml mn cI cZ n q c w q 0 num plc sig pad (cpy plc row 7) dig far cfr cby que has img kep) → va_S A Gs.heap H locs → ∀ ls : Array Slot, lv_has ls 6 [(2, .int (nI (10 ^ (i - 1)))), (3, .int (nI i)), (0, .ref mo), (1, .int (nI code))] → W Gp Gl Ge (headSpec wsX9_goDay ({ frames := 3, cells := 0, slots := 0, locals := 68 } : Room)).room Gs Gm ([.ref mo, .int (nI code)] : List Value).toArray Gw Gt Gc H locs 0 0 (MQ Gw (va_Qi (fun (r : Int32) (u : Unit) => r = zI (dayZ (fun j => code / 10 ^ (cq pad w - 1 - j) % 10) pad (cpy plc row 7) q E)) (fun (u : Unit) t => va_P D vwCl (wM mo ma mb mc md me mf mg mh mi mj mk ml mn cI cZ n q c w ((dst (fun j => code / 10 ^ (cq pad w - 1 - j) % 10) pad (cpy plc row 7) q (dayN (fun j => code / 10 ^ (cq pad w - 1 - j) % 10) pad (cpy plc row 7) q E)).2) (dayN (fun j => code / 10 ^ (cq pad w - 1 - j) % 10) pad (cpy plc row 7) q E) num plc sig pad ((dst (fun j => code / 10 ^ (cq pad w - 1 - j) % 10) pad (cpy plc row 7) q (dayN (fun j => code / 10 ^ (cq pad w - 1 - j) % 10) pad (cpy plc row 7) q E)).1) dig far cfr cby que has img kep) t.heap ∧ va_K D vwCl [(cI, .int), (cJ, .long), (cZ, .boolean)] t ∧ va_D A (wM mo ma mb mc md me mf mg mh mi mj mk ml mn cI cZ n q c w ((dst (fun j => code / 10 ^ (cq pad w - 1 - j) % 10) pad (cpy plc row 7) q (dayN (fun j => code / 10 ^ (cq pad w - 1 - j) % 10) pad (cpy plc row 7) q E)).2) (dayN (fun j => code / 10 ^ (cq pad w - 1 - j) % 10) pad (cpy plc row 7) q E) num plc sig pad ((dst (fun j => code / 10 ^ (cq pad w - 1 - j) % 10) pad (cpy plc row 7) q (dayN (fun j => code / 10 ^ (cq pad w - 1 - j) % 10) pad (cpy plc row 7) q E)).1) dig far cfr cby que has img kep)) A) ([.ref mo, .int (nI code)] : List Value).toArray Gs 0 0 A) (F0 Gm 13 ls []) := by
    intro fu
    induction fu with
    | zero => intro i hi1 hi hfu; exact absurd hfu (Nat.not_lt_zero _)
    | succ fu ih13 =>
      intro i hi1 hi hfu H locs hP hD hS ls hl
      refine lv_iload_n gx gb dX9_goDay_13 rfl (lv_at hl 1 rfl) ?_
      refine lv_aload_n gx gb dX9_goDay_14 rfl (lv_at hl 2 rfl) ?_
      have hPc := hP.sub (ws' := wM mo ma mb mc md me mf mg mh mi mj mk ml mn cI cZ n q c w q 0 num plc sig pad (cpy plc row 7) dig far cfr cby que has img kep) [0, 1, 2, 3, 4, 5, 6, 7, 8, 9, 10, 11, 12, 13] rfl
      refine vp_callSi (W.runV (As := []) (rest := [.int (nI i)]) ⟨gx, gb, gml, gown, gts⟩ (kX9_opens Gl D cI cJ cZ mo ma mb mc md me mf mg mh mi mj mk ml mn n q c w q 0 num plc sig pad (cpy plc row 7) dig far cfr cby que has img kep  (by omega) (by omega)) (cwV 0 gts gX9_goDay_X9_opens rfl rfl rfl (by decide +kernel) ⟨Nat.le_of_ble_eq_true rfl, Nat.le_of_ble_eq_true rfl⟩) ⟨fun a U g mk q => ⟨q.1, q.2.1, va_K.moved (u := U) (U := U.calling g mk a) (Vm.Alike.refl U.vm) q.2.2⟩, va_recv hK hPc (ci := 4) (q0 := 0) rfl rfl, fun U hU hW => ⟨rfl, by rw [hU]; exact hPc, va_K.moved hW.alike hK⟩⟩ rfl rfl hl.1 rfl (lv_room (Nat.le_of_ble_eq_true rfl)) dX9_goDay_15 ⟨Nat.le_of_ble_eq_true rfl, Nat.le_of_ble_eq_true rfl⟩) (fun r hw => ?_)
      have hr15 := hw
      subst hr15
      refine lv_icmp_ge (tgt := 32) gx gb dX9_goDay_18 (by decide) (fun c18 => ?_) (fun c18 => ?_)
      · skip
        rw [nI_leI (by omega) (by omega)] at c18
        refine lv_iconst (v := nI 0) gx gb dX9_goDay_32 (by decide) ?_
        refine lv_istore_n (lv' := [(3, .int (nI 0)), (2, .int (nI (10 ^ (i - 1)))), (0, .ref mo), (1, .int (nI code))]) gx gb dX9_goDay_33 rfl hl (by decide) rfl (fun ls hl => ?_)
        have L34 : ∀ fu : Nat, ∀ (e : Nat) (hpos : pos pad e ≤ w) (hall : dayG (fun j => code / 10 ^ (cq pad w - 1 - j) % 10) pad (cpy plc row 7) q e = none), (E - e) < fu → ∀ (H : Heap) (locs : List Loc), va_P D vwCl (wM mo ma mb mc md me mf mg mh mi mj mk ml mn cI cZ n q c w ((dst (fun j => code / 10 ^ (cq pad w - 1 - j) % 10) pad (cpy plc row 7) q e).2) e num plc sig pad ((dst (fun j => code / 10 ^ (cq pad w - 1 - j) % 10) pad (cpy plc row 7) q e).1) dig far cfr cby que has img kep) H → va_D A (wM mo ma mb mc md me mf mg mh mi mj mk ml mn cI cZ n q c w ((dst (fun j => code / 10 ^ (cq pad w - 1 - j) % 10) pad (cpy plc row 7) q e).2) e num plc sig pad ((dst (fun j => code / 10 ^ (cq pad w - 1 - j) % 10) pad (cpy plc row 7) q e).1) dig far cfr cby que has img kep) → va_S A Gs.heap H locs → ∀ ls : Array Slot, lv_has ls 6 [(2, .int (nI (10 ^ (cq pad w - 1 - cq pad (pos pad e))))), (3, .int (nI (pos pad e))), (0, .ref mo), (1, .int (nI code))] → W Gp Gl Ge (headSpec wsX9_goDay ({ frames := 3, cells := 0, slots := 0, locals := 68 } : Room)).room Gs Gm ([.ref mo, .int (nI code)] : List Value).toArray Gw Gt Gc H locs 0 0 (MQ Gw (va_Qi (fun (r : Int32) (u : Unit) => r = zI (dayZ (fun j => code / 10 ^ (cq pad w - 1 - j) % 10) pad (cpy plc row 7) q E)) (fun (u : Unit) t => va_P D vwCl (wM mo ma mb mc md me mf mg mh mi mj mk ml mn cI cZ n q c w ((dst (fun j => code / 10 ^ (cq pad w - 1 - j) % 10) pad (cpy plc row 7) q (dayN (fun j => code / 10 ^ (cq pad w - 1 - j) % 10) pad (cpy plc row 7) q E)).2) (dayN (fun j => code / 10 ^ (cq pad w - 1 - j) % 10) pad (cpy plc row 7) q E) num plc sig pad ((dst (fun j => code / 10 ^ (cq pad w - 1 - j) % 10) pad (cpy plc row 7) q (dayN (fun j => code / 10 ^ (cq pad w - 1 - j) % 10) pad (cpy plc row 7) q E)).1) dig far cfr cby que has img kep) t.heap ∧ va_K D vwCl [(cI, .int), (cJ, .long), (cZ, .boolean)] t ∧ va_D A (wM mo ma mb mc md me mf mg mh mi mj mk ml mn cI cZ n q c w ((dst (fun j => code / 10 ^ (cq pad w - 1 - j) % 10) pad (cpy plc row 7) q (dayN (fun j => code / 10 ^ (cq pad w - 1 - j) % 10) pad (cpy plc row 7) q E)).2) (dayN (fun j => code / 10 ^ (cq pad w - 1 - j) % 10) pad (cpy plc row 7) q E) num plc sig pad ((dst (fun j => code / 10 ^ (cq pad w - 1 - j) % 10) pad (cpy plc row 7) q (dayN (fun j => code / 10 ^ (cq pad w - 1 - j) % 10) pad (cpy plc row 7) q E)).1) dig far cfr cby que has img kep)) A) ([.ref mo, .int (nI code)] : List Value).toArray Gs 0 0 A) (F0 Gm 34 ls []) := by
          intro fu
          induction fu with
          | zero => intro e hpos hall hfu; exact absurd hfu (Nat.not_lt_zero _)
          | succ fu ih34 =>
            intro e hpos hall hfu H locs hP hD hS ls hl
            have hby := pow10_le (show cq pad w - 1 - cq pad (pos pad e) ≤ 2 by omega)
            have hdz := dst_z (D := (fun j => code / 10 ^ (cq pad w - 1 - j) % 10)) (g := pad) (f := cpy plc row 7) hq1 e
            refine lv_iload_n gx gb dX9_goDay_34 rfl (lv_at hl 1 rfl) ?_
            refine lv_aload_n gx gb dX9_goDay_35 rfl (lv_at hl 2 rfl) ?_
            refine va_get (D := D) (ci := 4) (v := .int (nI w)) (C := RX9) (T := TX9) (N := 19) gx gb gts i9 gown hK hP 0 rfl rfl 6 (by decide) (gts (.fieldLink RX9 71 "SwanSumsModel" "signs" "I") (by decide +kernel)) (fun _ h9 => h9) rfl dX9_goDay_36 ?_
            refine lv_icmp_ge (tgt := 157) gx gb dX9_goDay_39 (by decide) (fun c39 => ?_) (fun c39 => ?_)
            · skip
              rw [nI_leI (by omega) (by omega)] at c39
              refine lv_bipush (v := zI (-6)) gx gb dX9_goDay_157 (by decide) ?_
              have e_row : (dst (fun j => code / 10 ^ (cq pad w - 1 - j) % 10) pad (cpy plc row 7) q e).1 = (dst (fun j => code / 10 ^ (cq pad w - 1 - j) % 10) pad (cpy plc row 7) q (dayN (fun j => code / 10 ^ (cq pad w - 1 - j) % 10) pad (cpy plc row 7) q E)).1 := by obtain rfl : e = E := pos_inj (by rw [hE.1]; omega); rw [dayN_n hall]
              have e_z : (dst (fun j => code / 10 ^ (cq pad w - 1 - j) % 10) pad (cpy plc row 7) q e).2 = (dst (fun j => code / 10 ^ (cq pad w - 1 - j) % 10) pad (cpy plc row 7) q (dayN (fun j => code / 10 ^ (cq pad w - 1 - j) % 10) pad (cpy plc row 7) q E)).2 := by obtain rfl : e = E := pos_inj (by rw [hE.1]; omega); rw [dayN_n hall]
              have e_ev : e = dayN (fun j => code / 10 ^ (cq pad w - 1 - j) % 10) pad (cpy plc row 7) q E := by obtain rfl : e = E := pos_inj (by rw [hE.1]; omega); rw [dayN_n hall]
              have hP : va_P D vwCl (wM mo ma mb mc md me mf mg mh mi mj mk ml mn cI cZ n q c w ((dst (fun j => code / 10 ^ (cq pad w - 1 - j) % 10) pad (cpy plc row 7) q (dayN (fun j => code / 10 ^ (cq pad w - 1 - j) % 10) pad (cpy plc row 7) q E)).2) (dayN (fun j => code / 10 ^ (cq pad w - 1 - j) % 10) pad (cpy plc row 7) q E) num plc sig pad ((dst (fun j => code / 10 ^ (cq pad w - 1 - j) % 10) pad (cpy plc row 7) q (dayN (fun j => code / 10 ^ (cq pad w - 1 - j) % 10) pad (cpy plc row 7) q E)).1) dig far cfr cby que has img kep) H := by rw [← e_row, ← e_z, ← e_ev]; exact hP
              have hD : va_D A (wM mo ma mb mc md me mf mg mh mi mj mk ml mn cI cZ n q c w ((dst (fun j => code / 10 ^ (cq pad w - 1 - j) % 10) pad (cpy plc row 7) q (dayN (fun j => code / 10 ^ (cq pad w - 1 - j) % 10) pad (cpy plc row 7) q E)).2) (dayN (fun j => code / 10 ^ (cq pad w - 1 - j) % 10) pad (cpy plc row 7) q E) num plc sig pad ((dst (fun j => code / 10 ^ (cq pad w - 1 - j) % 10) pad (cpy plc row 7) q (dayN (fun j => code / 10 ^ (cq pad w - 1 - j) % 10) pad (cpy plc row 7) q E)).1) dig far cfr cby que has img kep) := by rw [← e_row, ← e_z, ← e_ev]; exact hD
              exact W.iret (v := zI (-6)) gx gb gr (fun t ht hW => ⟨⟨zI (-6), (), rfl, (by first | (dsimp only; done) | ((try dsimp only); obtain rfl : e = E := pos_inj (by rw [hE.1]; omega); rw [dayZ_n hall])), by rw [ht]; exact hP, va_K.moved hW.alike hK, hD⟩, hS.F ht⟩) hS.2.2 dX9_goDay_159
            · skip
              rw [nI_leI (by omega) (by omega)] at c39
              have heE : e < E := pos_inv (by rw [hE.1]; omega)
              obtain ⟨hlet, hop⟩ := hE.2 e heE
              have hgi := hg (pos pad e) (by omega)
              have hopb := opd_lt (D := (fun j => code / 10 ^ (cq pad w - 1 - j) % 10)) (g := pad) (k := pos pad e) (c := 1000) (fun j => by have := Nat.mod_lt (code / 10 ^ (cq pad w - 1 - j)) (show 0 < 10 by omega); omega) (by omega) (fun h => hg _ (hop h).1)
              refine lv_aload_n gx gb dX9_goDay_42 rfl (lv_at hl 2 rfl) ?_
              refine va_get (D := D) (ci := 4) (v := .ref md) (C := RX9) (T := TX9) (N := 19) gx gb gts i9 gown hK hP 0 rfl rfl 7 (by decide) (gts (.fieldLink RX9 26 "SwanSumsModel" "pad" "[I") (by decide +kernel)) (fun _ h9 => h9) rfl dX9_goDay_43 ?_
              refine lv_iload_n gx gb dX9_goDay_46 rfl (lv_at hl 1 rfl) ?_
              refine va_iald gx gb hK hP 4 0 rfl rfl (vp_in_nI (n := pos pad e) (by omega) (by decide)) dX9_goDay_47 ?_
              refine lv_evi (nI (pad (pos pad e))) (aN_rd pad (by omega)) ?_
              refine lv_istore (lv' := [(4, .int (nI (pad (pos pad e)))), (2, .int (nI (10 ^ (cq pad w - 1 - cq pad (pos pad e))))), (3, .int (nI (pos pad e))), (0, .ref mo), (1, .int (nI code))]) gx gb dX9_goDay_48 hl (by decide) rfl (fun ls hl => ?_)
              refine lv_iconst (v := nI 0) gx gb dX9_goDay_50 (by decide) ?_
              refine lv_istore (lv' := [(5, .int (nI 0)), (4, .int (nI (pad (pos pad e)))), (2, .int (nI (10 ^ (cq pad w - 1 - cq pad (pos pad e))))), (3, .int (nI (pos pad e))), (0, .ref mo), (1, .int (nI code))]) gx gb dX9_goDay_51 hl (by decide) rfl (fun ls hl => ?_)
              have hn63 : pad (pos pad e) ≠ 63 := by omega
              refine lv_iload gx gb dX9_goDay_53 (lv_at hl 1 rfl) ?_
              refine lv_bipush (v := nI 114) gx gb dX9_goDay_55 (by decide) ?_
              refine lv_icmp_eq (tgt := 125) gx gb dX9_goDay_57 (by decide) (fun c57 => ?_) (fun c57 => ?_)
              · skip
                rw [nI_eq (by omega) (by omega)] at c57
                have hps : pos pad (e + 1) = pos pad e + 1 := by simp only [pos, nxt]; rw [if_pos (by omega)]
                have hcs : cq pad (pos pad (e + 1)) = cq pad (pos pad e) := by rw [hps]; exact cq_s hn63
                refine lv_aload_n gx gb dX9_goDay_125 rfl (lv_at hl 4 rfl) ?_
                refine lv_iload gx gb dX9_goDay_126 (lv_at hl 1 rfl) ?_
                refine lv_iload gx gb dX9_goDay_128 (lv_at hl 0 rfl) ?_
                refine lv_evi (nI (opd (fun j => code / 10 ^ (cq pad w - 1 - j) % 10) pad (pos pad e))) (congrArg nI (by first | rfl | (rw [opd, if_pos (by omega)]))) ?_
                have hPc := hP.sub (ws' := wM mo ma mb mc md me mf mg mh mi mj mk ml mn cI cZ n q c w ((dst (fun j => code / 10 ^ (cq pad w - 1 - j) % 10) pad (cpy plc row 7) q e).2) e num plc sig pad ((dst (fun j => code / 10 ^ (cq pad w - 1 - j) % 10) pad (cpy plc row 7) q e).1) dig far cfr cby que has img kep) [0, 1, 2, 3, 4, 5, 6, 7, 8, 9, 10, 11, 12, 13] rfl
                have hDc := hD.sub (ws' := wM mo ma mb mc md me mf mg mh mi mj mk ml mn cI cZ n q c w ((dst (fun j => code / 10 ^ (cq pad w - 1 - j) % 10) pad (cpy plc row 7) q e).2) e num plc sig pad ((dst (fun j => code / 10 ^ (cq pad w - 1 - j) % 10) pad (cpy plc row 7) q e).1) dig far cfr cby que has img kep) [0, 1, 2, 3, 4, 5, 6, 7, 8, 9, 10, 11, 12, 13] (by decide) rfl
                have hFc := va_free (wc := wM mo ma mb mc md me mf mg mh mi mj mk ml mn cI cZ n q c w ((dst (fun j => code / 10 ^ (cq pad w - 1 - j) % 10) pad (cpy plc row 7) q e).2) e num plc sig pad ((dst (fun j => code / 10 ^ (cq pad w - 1 - j) % 10) pad (cpy plc row 7) q e).1) dig far cfr cby que has img kep) hD hS hA [0, 1, 2, 3, 4, 5, 6, 7, 8, 9, 10, 11, 12, 13] rfl
                refine va_calli (va_runV (As := [.int (nI (pad (pos pad e))), .int (nI (opd (fun j => code / 10 ^ (cq pad w - 1 - j) % 10) pad (pos pad e)))]) (rest := []) ⟨gx, gb, gml, gown, gts⟩ (kX9_happen Gl D cI cJ cZ mo ma mb mc md me mf mg mh mi mj mk ml mn n q c w ((dst (fun j => code / 10 ^ (cq pad w - 1 - j) % 10) pad (cpy plc row 7) q e).2) e num plc sig pad ((dst (fun j => code / 10 ^ (cq pad w - 1 - j) % 10) pad (cpy plc row 7) q e).1) dig far cfr cby que has img kep _ (pad (pos pad e)) (opd (fun j => code / 10 ^ (cq pad w - 1 - j) % 10) pad (pos pad e)) (by omega) (by omega) (by omega) (by omega)) (cwV 2 gts gX9_goDay_X9_happen rfl rfl rfl (by decide +kernel) ⟨Nat.le_of_ble_eq_true rfl, Nat.le_of_ble_eq_true rfl⟩) ⟨fun a U g mk q => by obtain ⟨q0, q1, qP, qK, qD⟩ := q; exact ⟨q0, q1, qP, va_K.moved (u := U) (U := U.calling g mk a) (Vm.Alike.refl U.vm) qK, qD⟩, va_recv hK hPc (ci := 4) (q0 := 0) rfl rfl, fun U hU hW => ⟨rfl, by rw [hU], by rw [hU]; exact hPc, va_K.moved hW.alike hK, hDc.weaken (fun _ _ _ _ => trivial)⟩⟩ rfl rfl hl.1 rfl (lv_room (Nat.le_of_ble_eq_true rfl)) dX9_goDay_130 ⟨Nat.le_of_ble_eq_true rfl, Nat.le_of_ble_eq_true rfl⟩) hS (fun q _ h => hFc q h) hFc (fun r u t H1 locs ht hvm hw hB hz1 hk1 hS => ?_)
                obtain ⟨hP1, hK1, hD1⟩ := hB
                rw [ht] at hP1
                try dsimp only at hw
                try dsimp only at hP1
                try dsimp only at hD1
                have hK := va_K.moved hvm.symm hK1
                obtain ⟨hP, hD⟩ := va_join (wr := []) (w1 := wM mo ma mb mc md me mf mg mh mi mj mk ml mn cI cZ n q c w (hapZ (pad (pos pad e)) (opd (fun j => code / 10 ^ (cq pad w - 1 - j) % 10) pad (pos pad e)) ((dst (fun j => code / 10 ^ (cq pad w - 1 - j) % 10) pad (cpy plc row 7) q e).2)) e num plc sig pad (hapR (pad (pos pad e)) (opd (fun j => code / 10 ^ (cq pad w - 1 - j) % 10) pad (pos pad e)) ((dst (fun j => code / 10 ^ (cq pad w - 1 - j) % 10) pad (cpy plc row 7) q e).2) ((dst (fun j => code / 10 ^ (cq pad w - 1 - j) % 10) pad (cpy plc row 7) q e).1)) dig far cfr cby que has img kep) hP hD [0, 1, 2, 3, 4, 5, 6, 7, 8, 9, 10, 11, 12, 13] [] rfl rfl (by decide) (by decide) hk1 hFc hP1 hD1
                have hP := hP.sub (ws' := wM mo ma mb mc md me mf mg mh mi mj mk ml mn cI cZ n q c w (hapZ (pad (pos pad e)) (opd (fun j => code / 10 ^ (cq pad w - 1 - j) % 10) pad (pos pad e)) ((dst (fun j => code / 10 ^ (cq pad w - 1 - j) % 10) pad (cpy plc row 7) q e).2)) e num plc sig pad (hapR (pad (pos pad e)) (opd (fun j => code / 10 ^ (cq pad w - 1 - j) % 10) pad (pos pad e)) ((dst (fun j => code / 10 ^ (cq pad w - 1 - j) % 10) pad (cpy plc row 7) q e).2) ((dst (fun j => code / 10 ^ (cq pad w - 1 - j) % 10) pad (cpy plc row 7) q e).1)) dig far cfr cby que has img kep) [0, 1, 2, 3, 4, 5, 6, 7, 8, 9, 10, 11, 12, 13] rfl
                have hD := hD.sub (ws' := wM mo ma mb mc md me mf mg mh mi mj mk ml mn cI cZ n q c w (hapZ (pad (pos pad e)) (opd (fun j => code / 10 ^ (cq pad w - 1 - j) % 10) pad (pos pad e)) ((dst (fun j => code / 10 ^ (cq pad w - 1 - j) % 10) pad (cpy plc row 7) q e).2)) e num plc sig pad (hapR (pad (pos pad e)) (opd (fun j => code / 10 ^ (cq pad w - 1 - j) % 10) pad (pos pad e)) ((dst (fun j => code / 10 ^ (cq pad w - 1 - j) % 10) pad (cpy plc row 7) q e).2) ((dst (fun j => code / 10 ^ (cq pad w - 1 - j) % 10) pad (cpy plc row 7) q e).1)) dig far cfr cby que has img kep) [0, 1, 2, 3, 4, 5, 6, 7, 8, 9, 10, 11, 12, 13] (by decide) rfl
                have hK := va_K.moved (Vm.Alike.refl Gs.vm) hK
                generalize H1 = H at hP hS ⊢
                have hr130 := hw
                subst hr130
                refine lv_if_ne (tgt := 141) gx gb dX9_goDay_133 (by decide) (fun c133 => ?_) (fun c133 => ?_)
                · skip
                  rw [b0_eq] at c133
                  have c133 := nf_t c133
                  refine lv_aload_n gx gb dX9_goDay_141 rfl (lv_at hl 4 rfl) ?_
                  refine lv_dup gx gb dX9_goDay_142 rfl ?_
                  refine va_get (D := D) (ci := 4) (v := .int (nI e)) (C := RX9) (T := TX9) (N := 19) gx gb gts i9 gown hK hP 0 rfl rfl 10 (by decide) (gts (.fieldLink RX9 101 "SwanSumsModel" "events" "I") (by decide +kernel)) (fun _ h9 => h9) rfl dX9_goDay_143 ?_
                  refine lv_iconst (v := nI 1) gx gb dX9_goDay_146 (by decide) ?_
                  refine lv_iadd gx gb dX9_goDay_147 ?_
                  refine lv_evi (nI (e + 1)) (nI_add e 1) ?_
                  refine va_put (D := D) (ci := 4) (v := .int (nI (e + 1))) (ty := .int) (C := RX9) (T := TX9) (N := 19) gx gb gts i9 tyX9 tyX9_ok nmX9 gown hK hP hD hS 0 rfl rfl 10 (by decide) (gts (.fieldLink RX9 101 "SwanSumsModel" "events" "I") (by decide +kernel)) (fun _ h9 => h9) rfl (by decide +kernel) rfl rfl (Nat.le_of_ble_eq_true rfl) dX9_goDay_148 (fun H locs hP hD hS => ?_)
                  have hP : va_P D vwCl (wM mo ma mb mc md me mf mg mh mi mj mk ml mn cI cZ n q c w (hapZ (pad (pos pad e)) (opd (fun j => code / 10 ^ (cq pad w - 1 - j) % 10) pad (pos pad e)) ((dst (fun j => code / 10 ^ (cq pad w - 1 - j) % 10) pad (cpy plc row 7) q e).2)) (e + 1) num plc sig pad (hapR (pad (pos pad e)) (opd (fun j => code / 10 ^ (cq pad w - 1 - j) % 10) pad (pos pad e)) ((dst (fun j => code / 10 ^ (cq pad w - 1 - j) % 10) pad (cpy plc row 7) q e).2) ((dst (fun j => code / 10 ^ (cq pad w - 1 - j) % 10) pad (cpy plc row 7) q e).1)) dig far cfr cby que has img kep) H := hP
                  have hD : va_D A (wM mo ma mb mc md me mf mg mh mi mj mk ml mn cI cZ n q c w (hapZ (pad (pos pad e)) (opd (fun j => code / 10 ^ (cq pad w - 1 - j) % 10) pad (pos pad e)) ((dst (fun j => code / 10 ^ (cq pad w - 1 - j) % 10) pad (cpy plc row 7) q e).2)) (e + 1) num plc sig pad (hapR (pad (pos pad e)) (opd (fun j => code / 10 ^ (cq pad w - 1 - j) % 10) pad (pos pad e)) ((dst (fun j => code / 10 ^ (cq pad w - 1 - j) % 10) pad (cpy plc row 7) q e).2) ((dst (fun j => code / 10 ^ (cq pad w - 1 - j) % 10) pad (cpy plc row 7) q e).1)) dig far cfr cby que has img kep) := hD
                  refine lv_iinc (v := nI (pos pad e + 1)) (lv' := [(3, .int (nI (pos pad e + 1))), (5, .int (nI 0)), (4, .int (nI (pad (pos pad e)))), (2, .int (nI (10 ^ (cq pad w - 1 - cq pad (pos pad e))))), (0, .ref mo), (1, .int (nI code))]) gx gb dX9_goDay_151 hl (k := 3) rfl (nI_add (pos pad e) 1) (by decide) rfl (fun ls hl => ?_)
                  first | (rw [show pos pad e + 1 + 1 = pos pad (e + 1) from hps.symm] at hl) | (rw [show pos pad e + 1 = pos pad (e + 1) from hps.symm, ← hcs] at hl)
                  have hl : lv_has ls 6 [(3, .int (nI (pos pad (e + 1)))), (5, .int (nI 0)), (4, .int (nI (pad (pos pad e)))), (2, .int (nI (10 ^ (cq pad w - 1 - cq pad (pos pad (e + 1)))))), (0, .ref mo), (1, .int (nI code))] := hl
                  refine lv_goto (tgt := 34) gx gb dX9_goDay_154 (by decide) ?_
                  exact ih34 (e + 1) (by omega) (by exact day_go hall c133) (by omega) _ _ hP hD hS ls (lv_sub hl [3, 0, 4, 5] rfl)
                · skip
                  rw [b0_eq] at c133
                  refine lv_aload_n gx gb dX9_goDay_136 rfl (lv_at hl 4 rfl) ?_
                  refine va_get (D := D) (ci := 4) (v := .int (nI e)) (C := RX9) (T := TX9) (N := 19) gx gb gts i9 gown hK hP 0 rfl rfl 10 (by decide) (gts (.fieldLink RX9 101 "SwanSumsModel" "events" "I") (by decide +kernel)) (fun _ h9 => h9) rfl dX9_goDay_137 ?_
                  have e_row : hapR (pad (pos pad e)) (opd (fun j => code / 10 ^ (cq pad w - 1 - j) % 10) pad (pos pad e)) ((dst (fun j => code / 10 ^ (cq pad w - 1 - j) % 10) pad (cpy plc row 7) q e).2) ((dst (fun j => code / 10 ^ (cq pad w - 1 - j) % 10) pad (cpy plc row 7) q e).1) = (dst (fun j => code / 10 ^ (cq pad w - 1 - j) % 10) pad (cpy plc row 7) q (dayN (fun j => code / 10 ^ (cq pad w - 1 - j) % 10) pad (cpy plc row 7) q E)).1 := by rw [dayN_at hall c133 heE]; exact hapR_f c133
                  have e_z : hapZ (pad (pos pad e)) (opd (fun j => code / 10 ^ (cq pad w - 1 - j) % 10) pad (pos pad e)) ((dst (fun j => code / 10 ^ (cq pad w - 1 - j) % 10) pad (cpy plc row 7) q e).2) = (dst (fun j => code / 10 ^ (cq pad w - 1 - j) % 10) pad (cpy plc row 7) q (dayN (fun j => code / 10 ^ (cq pad w - 1 - j) % 10) pad (cpy plc row 7) q E)).2 := by rw [dayN_at hall c133 heE]; exact hapZ_f c133
                  have e_ev : e = dayN (fun j => code / 10 ^ (cq pad w - 1 - j) % 10) pad (cpy plc row 7) q E := by rw [dayN_at hall c133 heE]
                  have hP : va_P D vwCl (wM mo ma mb mc md me mf mg mh mi mj mk ml mn cI cZ n q c w ((dst (fun j => code / 10 ^ (cq pad w - 1 - j) % 10) pad (cpy plc row 7) q (dayN (fun j => code / 10 ^ (cq pad w - 1 - j) % 10) pad (cpy plc row 7) q E)).2) (dayN (fun j => code / 10 ^ (cq pad w - 1 - j) % 10) pad (cpy plc row 7) q E) num plc sig pad ((dst (fun j => code / 10 ^ (cq pad w - 1 - j) % 10) pad (cpy plc row 7) q (dayN (fun j => code / 10 ^ (cq pad w - 1 - j) % 10) pad (cpy plc row 7) q E)).1) dig far cfr cby que has img kep) H := by rw [← e_row, ← e_z, ← e_ev]; exact hP
                  have hD : va_D A (wM mo ma mb mc md me mf mg mh mi mj mk ml mn cI cZ n q c w ((dst (fun j => code / 10 ^ (cq pad w - 1 - j) % 10) pad (cpy plc row 7) q (dayN (fun j => code / 10 ^ (cq pad w - 1 - j) % 10) pad (cpy plc row 7) q E)).2) (dayN (fun j => code / 10 ^ (cq pad w - 1 - j) % 10) pad (cpy plc row 7) q E) num plc sig pad ((dst (fun j => code / 10 ^ (cq pad w - 1 - j) % 10) pad (cpy plc row 7) q (dayN (fun j => code / 10 ^ (cq pad w - 1 - j) % 10) pad (cpy plc row 7) q E)).1) dig far cfr cby que has img kep) := by rw [← e_row, ← e_z, ← e_ev]; exact hD
                  exact W.iret (v := nI e) gx gb gr (fun t ht hW => ⟨⟨nI e, (), rfl, (by first | (dsimp only; done) | ((try dsimp only); rw [dayZ_at hall c133 heE, zI_nat])), by rw [ht]; exact hP, va_K.moved hW.alike hK, hD⟩, hS.F ht⟩) hS.2.2 dX9_goDay_140
              · skip
                rw [nI_eq (by omega) (by omega)] at c57
                have hop2 := hop (by omega)
                have hgj := hg (pos pad e + 1) (by omega)
                have hps : pos pad (e + 1) = pos pad e + 2 := by simp only [pos, nxt]; rw [if_neg (by omega)]
                have hcs : cq pad (pos pad (e + 1)) = cq pad (pos pad e) + (if pad (pos pad e + 1) = 63 then 1 else 0) := by rw [hps]; exact cq_2 hn63
                have L93 : ∀ (x : Nat) (hxx : x = opd (fun j => code / 10 ^ (cq pad w - 1 - j) % 10) pad (pos pad e)), ∀ (H : Heap) (locs : List Loc), va_P D vwCl (wM mo ma mb mc md me mf mg mh mi mj mk ml mn cI cZ n q c w ((dst (fun j => code / 10 ^ (cq pad w - 1 - j) % 10) pad (cpy plc row 7) q e).2) e num plc sig pad ((dst (fun j => code / 10 ^ (cq pad w - 1 - j) % 10) pad (cpy plc row 7) q e).1) dig far cfr cby que has img kep) H → va_D A (wM mo ma mb mc md me mf mg mh mi mj mk ml mn cI cZ n q c w ((dst (fun j => code / 10 ^ (cq pad w - 1 - j) % 10) pad (cpy plc row 7) q e).2) e num plc sig pad ((dst (fun j => code / 10 ^ (cq pad w - 1 - j) % 10) pad (cpy plc row 7) q e).1) dig far cfr cby que has img kep) → va_S A Gs.heap H locs → ∀ ls : Array Slot, lv_has ls 6 [(5, .int (nI 0)), (4, .int (nI (pad (pos pad e)))), (2, .int (nI (10 ^ (cq pad w - 1 - cq pad (pos pad e))))), (3, .int (nI (pos pad e))), (0, .ref mo), (1, .int (nI code))] → W Gp Gl Ge (headSpec wsX9_goDay ({ frames := 3, cells := 0, slots := 0, locals := 68 } : Room)).room Gs Gm ([.ref mo, .int (nI code)] : List Value).toArray Gw Gt Gc H locs 0 0 (MQ Gw (va_Qi (fun (r : Int32) (u : Unit) => r = zI (dayZ (fun j => code / 10 ^ (cq pad w - 1 - j) % 10) pad (cpy plc row 7) q E)) (fun (u : Unit) t => va_P D vwCl (wM mo ma mb mc md me mf mg mh mi mj mk ml mn cI cZ n q c w ((dst (fun j => code / 10 ^ (cq pad w - 1 - j) % 10) pad (cpy plc row 7) q (dayN (fun j => code / 10 ^ (cq pad w - 1 - j) % 10) pad (cpy plc row 7) q E)).2) (dayN (fun j => code / 10 ^ (cq pad w - 1 - j) % 10) pad (cpy plc row 7) q E) num plc sig pad ((dst (fun j => code / 10 ^ (cq pad w - 1 - j) % 10) pad (cpy plc row 7) q (dayN (fun j => code / 10 ^ (cq pad w - 1 - j) % 10) pad (cpy plc row 7) q E)).1) dig far cfr cby que has img kep) t.heap ∧ va_K D vwCl [(cI, .int), (cJ, .long), (cZ, .boolean)] t ∧ va_D A (wM mo ma mb mc md me mf mg mh mi mj mk ml mn cI cZ n q c w ((dst (fun j => code / 10 ^ (cq pad w - 1 - j) % 10) pad (cpy plc row 7) q (dayN (fun j => code / 10 ^ (cq pad w - 1 - j) % 10) pad (cpy plc row 7) q E)).2) (dayN (fun j => code / 10 ^ (cq pad w - 1 - j) % 10) pad (cpy plc row 7) q E) num plc sig pad ((dst (fun j => code / 10 ^ (cq pad w - 1 - j) % 10) pad (cpy plc row 7) q (dayN (fun j => code / 10 ^ (cq pad w - 1 - j) % 10) pad (cpy plc row 7) q E)).1) dig far cfr cby que has img kep)) A) ([.ref mo, .int (nI code)] : List Value).toArray Gs 0 0 A) (F0 Gm 93 ls [.int (nI x)]) := by
                  intro x hxx H locs hP hD hS ls hl
                  subst hxx
                  have hl : lv_has ls 6 [(5, .int (nI 0)), (4, .int (nI (pad (pos pad e)))), (2, .int (nI (10 ^ (cq pad w - 1 - cq pad (pos pad e))))), (3, .int (nI (pos pad e))), (0, .ref mo), (1, .int (nI code))] := hl
                  refine lv_istore (lv' := [(5, .int (nI (opd (fun j => code / 10 ^ (cq pad w - 1 - j) % 10) pad (pos pad e)))), (4, .int (nI (pad (pos pad e)))), (2, .int (nI (10 ^ (cq pad w - 1 - cq pad (pos pad e))))), (3, .int (nI (pos pad e))), (0, .ref mo), (1, .int (nI code))]) gx gb dX9_goDay_93 hl (by decide) rfl (fun ls hl => ?_)
                  have L121 : ∀ (x : Nat) (hx2 : x = 10 ^ (cq pad w - 1 - cq pad (pos pad (e + 1)))), ∀ (H : Heap) (locs : List Loc), va_P D vwCl (wM mo ma mb mc md me mf mg mh mi mj mk ml mn cI cZ n q c w ((dst (fun j => code / 10 ^ (cq pad w - 1 - j) % 10) pad (cpy plc row 7) q e).2) e num plc sig pad ((dst (fun j => code / 10 ^ (cq pad w - 1 - j) % 10) pad (cpy plc row 7) q e).1) dig far cfr cby que has img kep) H → va_D A (wM mo ma mb mc md me mf mg mh mi mj mk ml mn cI cZ n q c w ((dst (fun j => code / 10 ^ (cq pad w - 1 - j) % 10) pad (cpy plc row 7) q e).2) e num plc sig pad ((dst (fun j => code / 10 ^ (cq pad w - 1 - j) % 10) pad (cpy plc row 7) q e).1) dig far cfr cby que has img kep) → va_S A Gs.heap H locs → ∀ ls : Array Slot, lv_has ls 6 [(5, .int (nI (opd (fun j => code / 10 ^ (cq pad w - 1 - j) % 10) pad (pos pad e)))), (4, .int (nI (pad (pos pad e)))), (2, .int (nI (10 ^ (cq pad w - 1 - cq pad (pos pad e))))), (3, .int (nI (pos pad e))), (0, .ref mo), (1, .int (nI code))] → W Gp Gl Ge (headSpec wsX9_goDay ({ frames := 3, cells := 0, slots := 0, locals := 68 } : Room)).room Gs Gm ([.ref mo, .int (nI code)] : List Value).toArray Gw Gt Gc H locs 0 0 (MQ Gw (va_Qi (fun (r : Int32) (u : Unit) => r = zI (dayZ (fun j => code / 10 ^ (cq pad w - 1 - j) % 10) pad (cpy plc row 7) q E)) (fun (u : Unit) t => va_P D vwCl (wM mo ma mb mc md me mf mg mh mi mj mk ml mn cI cZ n q c w ((dst (fun j => code / 10 ^ (cq pad w - 1 - j) % 10) pad (cpy plc row 7) q (dayN (fun j => code / 10 ^ (cq pad w - 1 - j) % 10) pad (cpy plc row 7) q E)).2) (dayN (fun j => code / 10 ^ (cq pad w - 1 - j) % 10) pad (cpy plc row 7) q E) num plc sig pad ((dst (fun j => code / 10 ^ (cq pad w - 1 - j) % 10) pad (cpy plc row 7) q (dayN (fun j => code / 10 ^ (cq pad w - 1 - j) % 10) pad (cpy plc row 7) q E)).1) dig far cfr cby que has img kep) t.heap ∧ va_K D vwCl [(cI, .int), (cJ, .long), (cZ, .boolean)] t ∧ va_D A (wM mo ma mb mc md me mf mg mh mi mj mk ml mn cI cZ n q c w ((dst (fun j => code / 10 ^ (cq pad w - 1 - j) % 10) pad (cpy plc row 7) q (dayN (fun j => code / 10 ^ (cq pad w - 1 - j) % 10) pad (cpy plc row 7) q E)).2) (dayN (fun j => code / 10 ^ (cq pad w - 1 - j) % 10) pad (cpy plc row 7) q E) num plc sig pad ((dst (fun j => code / 10 ^ (cq pad w - 1 - j) % 10) pad (cpy plc row 7) q (dayN (fun j => code / 10 ^ (cq pad w - 1 - j) % 10) pad (cpy plc row 7) q E)).1) dig far cfr cby que has img kep)) A) ([.ref mo, .int (nI code)] : List Value).toArray Gs 0 0 A) (F0 Gm 121 ls [.int (nI x)]) := by
                    intro x hx2 H locs hP hD hS ls hl
                    subst hx2
                    have hl : lv_has ls 6 [(5, .int (nI (opd (fun j => code / 10 ^ (cq pad w - 1 - j) % 10) pad (pos pad e)))), (4, .int (nI (pad (pos pad e)))), (2, .int (nI (10 ^ (cq pad w - 1 - cq pad (pos pad e))))), (3, .int (nI (pos pad e))), (0, .ref mo), (1, .int (nI code))] := hl
                    refine lv_istore_n (lv' := [(2, .int (nI (10 ^ (cq pad w - 1 - cq pad (pos pad (e + 1)))))), (5, .int (nI (opd (fun j => code / 10 ^ (cq pad w - 1 - j) % 10) pad (pos pad e)))), (4, .int (nI (pad (pos pad e)))), (3, .int (nI (pos pad e))), (0, .ref mo), (1, .int (nI code))]) gx gb dX9_goDay_121 rfl hl (by decide) rfl (fun ls hl => ?_)
                    refine lv_iinc (v := nI (pos pad e + 1)) (lv' := [(3, .int (nI (pos pad e + 1))), (2, .int (nI (10 ^ (cq pad w - 1 - cq pad (pos pad (e + 1)))))), (5, .int (nI (opd (fun j => code / 10 ^ (cq pad w - 1 - j) % 10) pad (pos pad e)))), (4, .int (nI (pad (pos pad e)))), (0, .ref mo), (1, .int (nI code))]) gx gb dX9_goDay_122 hl (k := 3) rfl (nI_add (pos pad e) 1) (by decide) rfl (fun ls hl => ?_)
                    refine lv_aload_n gx gb dX9_goDay_125 rfl (lv_at hl 4 rfl) ?_
                    refine lv_iload gx gb dX9_goDay_126 (lv_at hl 3 rfl) ?_
                    refine lv_iload gx gb dX9_goDay_128 (lv_at hl 2 rfl) ?_
                    refine lv_evi (nI (opd (fun j => code / 10 ^ (cq pad w - 1 - j) % 10) pad (pos pad e))) (congrArg nI (by first | rfl | (rw [opd, if_pos (by omega)]))) ?_
                    have hPc := hP.sub (ws' := wM mo ma mb mc md me mf mg mh mi mj mk ml mn cI cZ n q c w ((dst (fun j => code / 10 ^ (cq pad w - 1 - j) % 10) pad (cpy plc row 7) q e).2) e num plc sig pad ((dst (fun j => code / 10 ^ (cq pad w - 1 - j) % 10) pad (cpy plc row 7) q e).1) dig far cfr cby que has img kep) [0, 1, 2, 3, 4, 5, 6, 7, 8, 9, 10, 11, 12, 13] rfl
                    have hDc := hD.sub (ws' := wM mo ma mb mc md me mf mg mh mi mj mk ml mn cI cZ n q c w ((dst (fun j => code / 10 ^ (cq pad w - 1 - j) % 10) pad (cpy plc row 7) q e).2) e num plc sig pad ((dst (fun j => code / 10 ^ (cq pad w - 1 - j) % 10) pad (cpy plc row 7) q e).1) dig far cfr cby que has img kep) [0, 1, 2, 3, 4, 5, 6, 7, 8, 9, 10, 11, 12, 13] (by decide) rfl
                    have hFc := va_free (wc := wM mo ma mb mc md me mf mg mh mi mj mk ml mn cI cZ n q c w ((dst (fun j => code / 10 ^ (cq pad w - 1 - j) % 10) pad (cpy plc row 7) q e).2) e num plc sig pad ((dst (fun j => code / 10 ^ (cq pad w - 1 - j) % 10) pad (cpy plc row 7) q e).1) dig far cfr cby que has img kep) hD hS hA [0, 1, 2, 3, 4, 5, 6, 7, 8, 9, 10, 11, 12, 13] rfl
                    refine va_calli (va_runV (As := [.int (nI (pad (pos pad e))), .int (nI (opd (fun j => code / 10 ^ (cq pad w - 1 - j) % 10) pad (pos pad e)))]) (rest := []) ⟨gx, gb, gml, gown, gts⟩ (kX9_happen Gl D cI cJ cZ mo ma mb mc md me mf mg mh mi mj mk ml mn n q c w ((dst (fun j => code / 10 ^ (cq pad w - 1 - j) % 10) pad (cpy plc row 7) q e).2) e num plc sig pad ((dst (fun j => code / 10 ^ (cq pad w - 1 - j) % 10) pad (cpy plc row 7) q e).1) dig far cfr cby que has img kep _ (pad (pos pad e)) (opd (fun j => code / 10 ^ (cq pad w - 1 - j) % 10) pad (pos pad e)) (by omega) (by omega) (by omega) (by omega)) (cwV 2 gts gX9_goDay_X9_happen rfl rfl rfl (by decide +kernel) ⟨Nat.le_of_ble_eq_true rfl, Nat.le_of_ble_eq_true rfl⟩) ⟨fun a U g mk q => by obtain ⟨q0, q1, qP, qK, qD⟩ := q; exact ⟨q0, q1, qP, va_K.moved (u := U) (U := U.calling g mk a) (Vm.Alike.refl U.vm) qK, qD⟩, va_recv hK hPc (ci := 4) (q0 := 0) rfl rfl, fun U hU hW => ⟨rfl, by rw [hU], by rw [hU]; exact hPc, va_K.moved hW.alike hK, hDc.weaken (fun _ _ _ _ => trivial)⟩⟩ rfl rfl hl.1 rfl (lv_room (Nat.le_of_ble_eq_true rfl)) dX9_goDay_130 ⟨Nat.le_of_ble_eq_true rfl, Nat.le_of_ble_eq_true rfl⟩) hS (fun q _ h => hFc q h) hFc (fun r u t H1 locs ht hvm hw hB hz1 hk1 hS => ?_)
                    obtain ⟨hP1, hK1, hD1⟩ := hB
                    rw [ht] at hP1
                    try dsimp only at hw
                    try dsimp only at hP1
                    try dsimp only at hD1
                    have hK := va_K.moved hvm.symm hK1
                    obtain ⟨hP, hD⟩ := va_join (wr := []) (w1 := wM mo ma mb mc md me mf mg mh mi mj mk ml mn cI cZ n q c w (hapZ (pad (pos pad e)) (opd (fun j => code / 10 ^ (cq pad w - 1 - j) % 10) pad (pos pad e)) ((dst (fun j => code / 10 ^ (cq pad w - 1 - j) % 10) pad (cpy plc row 7) q e).2)) e num plc sig pad (hapR (pad (pos pad e)) (opd (fun j => code / 10 ^ (cq pad w - 1 - j) % 10) pad (pos pad e)) ((dst (fun j => code / 10 ^ (cq pad w - 1 - j) % 10) pad (cpy plc row 7) q e).2) ((dst (fun j => code / 10 ^ (cq pad w - 1 - j) % 10) pad (cpy plc row 7) q e).1)) dig far cfr cby que has img kep) hP hD [0, 1, 2, 3, 4, 5, 6, 7, 8, 9, 10, 11, 12, 13] [] rfl rfl (by decide) (by decide) hk1 hFc hP1 hD1
                    have hP := hP.sub (ws' := wM mo ma mb mc md me mf mg mh mi mj mk ml mn cI cZ n q c w (hapZ (pad (pos pad e)) (opd (fun j => code / 10 ^ (cq pad w - 1 - j) % 10) pad (pos pad e)) ((dst (fun j => code / 10 ^ (cq pad w - 1 - j) % 10) pad (cpy plc row 7) q e).2)) e num plc sig pad (hapR (pad (pos pad e)) (opd (fun j => code / 10 ^ (cq pad w - 1 - j) % 10) pad (pos pad e)) ((dst (fun j => code / 10 ^ (cq pad w - 1 - j) % 10) pad (cpy plc row 7) q e).2) ((dst (fun j => code / 10 ^ (cq pad w - 1 - j) % 10) pad (cpy plc row 7) q e).1)) dig far cfr cby que has img kep) [0, 1, 2, 3, 4, 5, 6, 7, 8, 9, 10, 11, 12, 13] rfl
                    have hD := hD.sub (ws' := wM mo ma mb mc md me mf mg mh mi mj mk ml mn cI cZ n q c w (hapZ (pad (pos pad e)) (opd (fun j => code / 10 ^ (cq pad w - 1 - j) % 10) pad (pos pad e)) ((dst (fun j => code / 10 ^ (cq pad w - 1 - j) % 10) pad (cpy plc row 7) q e).2)) e num plc sig pad (hapR (pad (pos pad e)) (opd (fun j => code / 10 ^ (cq pad w - 1 - j) % 10) pad (pos pad e)) ((dst (fun j => code / 10 ^ (cq pad w - 1 - j) % 10) pad (cpy plc row 7) q e).2) ((dst (fun j => code / 10 ^ (cq pad w - 1 - j) % 10) pad (cpy plc row 7) q e).1)) dig far cfr cby que has img kep) [0, 1, 2, 3, 4, 5, 6, 7, 8, 9, 10, 11, 12, 13] (by decide) rfl
                    have hK := va_K.moved (Vm.Alike.refl Gs.vm) hK
                    generalize H1 = H at hP hS ⊢
                    have hr130 := hw
                    subst hr130
                    refine lv_if_ne (tgt := 141) gx gb dX9_goDay_133 (by decide) (fun c133 => ?_) (fun c133 => ?_)
                    · skip
                      rw [b0_eq] at c133
                      have c133 := nf_t c133
                      refine lv_aload_n gx gb dX9_goDay_141 rfl (lv_at hl 4 rfl) ?_
                      refine lv_dup gx gb dX9_goDay_142 rfl ?_
                      refine va_get (D := D) (ci := 4) (v := .int (nI e)) (C := RX9) (T := TX9) (N := 19) gx gb gts i9 gown hK hP 0 rfl rfl 10 (by decide) (gts (.fieldLink RX9 101 "SwanSumsModel" "events" "I") (by decide +kernel)) (fun _ h9 => h9) rfl dX9_goDay_143 ?_
                      refine lv_iconst (v := nI 1) gx gb dX9_goDay_146 (by decide) ?_
                      refine lv_iadd gx gb dX9_goDay_147 ?_
                      refine lv_evi (nI (e + 1)) (nI_add e 1) ?_
                      refine va_put (D := D) (ci := 4) (v := .int (nI (e + 1))) (ty := .int) (C := RX9) (T := TX9) (N := 19) gx gb gts i9 tyX9 tyX9_ok nmX9 gown hK hP hD hS 0 rfl rfl 10 (by decide) (gts (.fieldLink RX9 101 "SwanSumsModel" "events" "I") (by decide +kernel)) (fun _ h9 => h9) rfl (by decide +kernel) rfl rfl (Nat.le_of_ble_eq_true rfl) dX9_goDay_148 (fun H locs hP hD hS => ?_)
                      have hP : va_P D vwCl (wM mo ma mb mc md me mf mg mh mi mj mk ml mn cI cZ n q c w (hapZ (pad (pos pad e)) (opd (fun j => code / 10 ^ (cq pad w - 1 - j) % 10) pad (pos pad e)) ((dst (fun j => code / 10 ^ (cq pad w - 1 - j) % 10) pad (cpy plc row 7) q e).2)) (e + 1) num plc sig pad (hapR (pad (pos pad e)) (opd (fun j => code / 10 ^ (cq pad w - 1 - j) % 10) pad (pos pad e)) ((dst (fun j => code / 10 ^ (cq pad w - 1 - j) % 10) pad (cpy plc row 7) q e).2) ((dst (fun j => code / 10 ^ (cq pad w - 1 - j) % 10) pad (cpy plc row 7) q e).1)) dig far cfr cby que has img kep) H := hP
                      have hD : va_D A (wM mo ma mb mc md me mf mg mh mi mj mk ml mn cI cZ n q c w (hapZ (pad (pos pad e)) (opd (fun j => code / 10 ^ (cq pad w - 1 - j) % 10) pad (pos pad e)) ((dst (fun j => code / 10 ^ (cq pad w - 1 - j) % 10) pad (cpy plc row 7) q e).2)) (e + 1) num plc sig pad (hapR (pad (pos pad e)) (opd (fun j => code / 10 ^ (cq pad w - 1 - j) % 10) pad (pos pad e)) ((dst (fun j => code / 10 ^ (cq pad w - 1 - j) % 10) pad (cpy plc row 7) q e).2) ((dst (fun j => code / 10 ^ (cq pad w - 1 - j) % 10) pad (cpy plc row 7) q e).1)) dig far cfr cby que has img kep) := hD
                      refine lv_iinc (v := nI (pos pad e + 1 + 1)) (lv' := [(3, .int (nI (pos pad e + 1 + 1))), (2, .int (nI (10 ^ (cq pad w - 1 - cq pad (pos pad (e + 1)))))), (5, .int (nI (opd (fun j => code / 10 ^ (cq pad w - 1 - j) % 10) pad (pos pad e)))), (4, .int (nI (pad (pos pad e)))), (0, .ref mo), (1, .int (nI code))]) gx gb dX9_goDay_151 hl (k := 0) rfl (nI_add (pos pad e + 1) 1) (by decide) rfl (fun ls hl => ?_)
                      first | (rw [show pos pad e + 1 + 1 = pos pad (e + 1) from hps.symm] at hl) | (rw [show pos pad e + 1 = pos pad (e + 1) from hps.symm, ← hcs] at hl)
                      have hl : lv_has ls 6 [(3, .int (nI (pos pad (e + 1)))), (2, .int (nI (10 ^ (cq pad w - 1 - cq pad (pos pad (e + 1)))))), (5, .int (nI (opd (fun j => code / 10 ^ (cq pad w - 1 - j) % 10) pad (pos pad e)))), (4, .int (nI (pad (pos pad e)))), (0, .ref mo), (1, .int (nI code))] := hl
                      refine lv_goto (tgt := 34) gx gb dX9_goDay_154 (by decide) ?_
                      exact ih34 (e + 1) (by omega) (by exact day_go hall c133) (by omega) _ _ hP hD hS ls (lv_sub hl [1, 0, 4, 5] rfl)
                    · skip
                      rw [b0_eq] at c133
                      refine lv_aload_n gx gb dX9_goDay_136 rfl (lv_at hl 4 rfl) ?_
                      refine va_get (D := D) (ci := 4) (v := .int (nI e)) (C := RX9) (T := TX9) (N := 19) gx gb gts i9 gown hK hP 0 rfl rfl 10 (by decide) (gts (.fieldLink RX9 101 "SwanSumsModel" "events" "I") (by decide +kernel)) (fun _ h9 => h9) rfl dX9_goDay_137 ?_
                      have e_row : hapR (pad (pos pad e)) (opd (fun j => code / 10 ^ (cq pad w - 1 - j) % 10) pad (pos pad e)) ((dst (fun j => code / 10 ^ (cq pad w - 1 - j) % 10) pad (cpy plc row 7) q e).2) ((dst (fun j => code / 10 ^ (cq pad w - 1 - j) % 10) pad (cpy plc row 7) q e).1) = (dst (fun j => code / 10 ^ (cq pad w - 1 - j) % 10) pad (cpy plc row 7) q (dayN (fun j => code / 10 ^ (cq pad w - 1 - j) % 10) pad (cpy plc row 7) q E)).1 := by rw [dayN_at hall c133 heE]; exact hapR_f c133
                      have e_z : hapZ (pad (pos pad e)) (opd (fun j => code / 10 ^ (cq pad w - 1 - j) % 10) pad (pos pad e)) ((dst (fun j => code / 10 ^ (cq pad w - 1 - j) % 10) pad (cpy plc row 7) q e).2) = (dst (fun j => code / 10 ^ (cq pad w - 1 - j) % 10) pad (cpy plc row 7) q (dayN (fun j => code / 10 ^ (cq pad w - 1 - j) % 10) pad (cpy plc row 7) q E)).2 := by rw [dayN_at hall c133 heE]; exact hapZ_f c133
                      have e_ev : e = dayN (fun j => code / 10 ^ (cq pad w - 1 - j) % 10) pad (cpy plc row 7) q E := by rw [dayN_at hall c133 heE]
                      have hP : va_P D vwCl (wM mo ma mb mc md me mf mg mh mi mj mk ml mn cI cZ n q c w ((dst (fun j => code / 10 ^ (cq pad w - 1 - j) % 10) pad (cpy plc row 7) q (dayN (fun j => code / 10 ^ (cq pad w - 1 - j) % 10) pad (cpy plc row 7) q E)).2) (dayN (fun j => code / 10 ^ (cq pad w - 1 - j) % 10) pad (cpy plc row 7) q E) num plc sig pad ((dst (fun j => code / 10 ^ (cq pad w - 1 - j) % 10) pad (cpy plc row 7) q (dayN (fun j => code / 10 ^ (cq pad w - 1 - j) % 10) pad (cpy plc row 7) q E)).1) dig far cfr cby que has img kep) H := by rw [← e_row, ← e_z, ← e_ev]; exact hP
                      have hD : va_D A (wM mo ma mb mc md me mf mg mh mi mj mk ml mn cI cZ n q c w ((dst (fun j => code / 10 ^ (cq pad w - 1 - j) % 10) pad (cpy plc row 7) q (dayN (fun j => code / 10 ^ (cq pad w - 1 - j) % 10) pad (cpy plc row 7) q E)).2) (dayN (fun j => code / 10 ^ (cq pad w - 1 - j) % 10) pad (cpy plc row 7) q E) num plc sig pad ((dst (fun j => code / 10 ^ (cq pad w - 1 - j) % 10) pad (cpy plc row 7) q (dayN (fun j => code / 10 ^ (cq pad w - 1 - j) % 10) pad (cpy plc row 7) q E)).1) dig far cfr cby que has img kep) := by rw [← e_row, ← e_z, ← e_ev]; exact hD
                      exact W.iret (v := nI e) gx gb gr (fun t ht hW => ⟨⟨nI e, (), rfl, (by first | (dsimp only; done) | ((try dsimp only); rw [dayZ_at hall c133 heE, zI_nat])), by rw [ht]; exact hP, va_K.moved hW.alike hK, hD⟩, hS.F ht⟩) hS.2.2 dX9_goDay_140
                  refine lv_aload_n gx gb dX9_goDay_95 rfl (lv_at hl 4 rfl) ?_
                  refine va_get (D := D) (ci := 4) (v := .ref md) (C := RX9) (T := TX9) (N := 19) gx gb gts i9 gown hK hP 0 rfl rfl 7 (by decide) (gts (.fieldLink RX9 26 "SwanSumsModel" "pad" "[I") (by decide +kernel)) (fun _ h9 => h9) rfl dX9_goDay_96 ?_
                  refine lv_iload_n gx gb dX9_goDay_99 rfl (lv_at hl 3 rfl) ?_
                  refine lv_iconst (v := nI 1) gx gb dX9_goDay_100 (by decide) ?_
                  refine lv_iadd gx gb dX9_goDay_101 ?_
                  refine lv_evi (nI ((pos pad e) + 1)) (nI_add (pos pad e) 1) ?_
                  refine va_iald gx gb hK hP 4 0 rfl rfl (vp_in_nI (n := (pos pad e) + 1) (by omega) (by decide)) dX9_goDay_102 ?_
                  refine lv_evi (nI (pad ((pos pad e) + 1))) (aN_rd pad (by omega)) ?_
                  refine lv_bipush (v := nI 63) gx gb dX9_goDay_103 (by decide) ?_
                  refine lv_icmp_ne (tgt := 120) gx gb dX9_goDay_105 (by decide) (fun c105 => ?_) (fun c105 => ?_)
                  · skip
                    rw [nI_eq (by omega) (by omega)] at c105
                    refine lv_iload_n gx gb dX9_goDay_120 rfl (lv_at hl 2 rfl) ?_
                    exact L121 (10 ^ (cq pad w - 1 - cq pad (pos pad e))) (by first | (rw [hcs, if_neg (by omega)]; rfl) | (rw [hcs, if_pos (by omega)]; exact by_b (by omega)) | (rw [hcs, if_pos (by omega)]; exact by_c (by omega))) _ _ hP hD hS ls (lv_sub hl [0, 1, 2, 3, 4, 5] rfl)
                  · skip
                    rw [nI_eq (by omega) (by omega)] at c105
                    refine lv_iload_n gx gb dX9_goDay_108 rfl (lv_at hl 2 rfl) ?_
                    refine lv_iconst (v := nI 1) gx gb dX9_goDay_109 (by decide) ?_
                    refine lv_icmp_le (tgt := 120) gx gb dX9_goDay_110 (by decide) (fun c110 => ?_) (fun c110 => ?_)
                    · skip
                      rw [nI_leI (by omega) (by omega)] at c110
                      refine lv_iload_n gx gb dX9_goDay_120 rfl (lv_at hl 2 rfl) ?_
                      exact L121 (10 ^ (cq pad w - 1 - cq pad (pos pad e))) (by first | (rw [hcs, if_neg (by omega)]; rfl) | (rw [hcs, if_pos (by omega)]; exact by_b (by omega)) | (rw [hcs, if_pos (by omega)]; exact by_c (by omega))) _ _ hP hD hS ls (lv_sub hl [0, 1, 2, 3, 4, 5] rfl)
                    · skip
                      rw [nI_leI (by omega) (by omega)] at c110
                      refine lv_iload_n gx gb dX9_goDay_113 rfl (lv_at hl 2 rfl) ?_
                      refine lv_bipush (v := nI 10) gx gb dX9_goDay_114 (by decide) ?_
                      refine lv_idiv gx gb dX9_goDay_116 (nI_ne0 (by omega) (by omega)) ?_
                      refine lv_evi (nI ((10 ^ (cq pad w - 1 - cq pad (pos pad e))) / 10)) (e_div (by omega) (by omega) (by omega)) ?_
                      refine lv_goto (tgt := 121) gx gb dX9_goDay_117 (by decide) ?_
                      exact L121 ((10 ^ (cq pad w - 1 - cq pad (pos pad e))) / 10) (by first | (rw [hcs, if_neg (by omega)]; rfl) | (rw [hcs, if_pos (by omega)]; exact by_b (by omega)) | (rw [hcs, if_pos (by omega)]; exact by_c (by omega))) _ _ hP hD hS ls (lv_sub hl [0, 1, 2, 3, 4, 5] rfl)
                refine lv_aload_n gx gb dX9_goDay_60 rfl (lv_at hl 4 rfl) ?_
                refine va_get (D := D) (ci := 4) (v := .ref md) (C := RX9) (T := TX9) (N := 19) gx gb gts i9 gown hK hP 0 rfl rfl 7 (by decide) (gts (.fieldLink RX9 26 "SwanSumsModel" "pad" "[I") (by decide +kernel)) (fun _ h9 => h9) rfl dX9_goDay_61 ?_
                refine lv_iload_n gx gb dX9_goDay_64 rfl (lv_at hl 3 rfl) ?_
                refine lv_iconst (v := nI 1) gx gb dX9_goDay_65 (by decide) ?_
                refine lv_iadd gx gb dX9_goDay_66 ?_
                refine lv_evi (nI ((pos pad e) + 1)) (nI_add (pos pad e) 1) ?_
                refine va_iald gx gb hK hP 4 0 rfl rfl (vp_in_nI (n := (pos pad e) + 1) (by omega) (by decide)) dX9_goDay_67 ?_
                refine lv_evi (nI (pad ((pos pad e) + 1))) (aN_rd pad (by omega)) ?_
                refine lv_bipush (v := nI 63) gx gb dX9_goDay_68 (by decide) ?_
                refine lv_icmp_ne (tgt := 82) gx gb dX9_goDay_70 (by decide) (fun c70 => ?_) (fun c70 => ?_)
                · skip
                  rw [nI_eq (by omega) (by omega)] at c70
                  refine lv_aload_n gx gb dX9_goDay_82 rfl (lv_at hl 4 rfl) ?_
                  refine va_get (D := D) (ci := 4) (v := .ref md) (C := RX9) (T := TX9) (N := 19) gx gb gts i9 gown hK hP 0 rfl rfl 7 (by decide) (gts (.fieldLink RX9 26 "SwanSumsModel" "pad" "[I") (by decide +kernel)) (fun _ h9 => h9) rfl dX9_goDay_83 ?_
                  refine lv_iload_n gx gb dX9_goDay_86 rfl (lv_at hl 3 rfl) ?_
                  refine lv_iconst (v := nI 1) gx gb dX9_goDay_87 (by decide) ?_
                  refine lv_iadd gx gb dX9_goDay_88 ?_
                  refine lv_evi (nI ((pos pad e) + 1)) (nI_add (pos pad e) 1) ?_
                  refine va_iald gx gb hK hP 4 0 rfl rfl (vp_in_nI (n := (pos pad e) + 1) (by omega) (by decide)) dX9_goDay_89 ?_
                  refine lv_evi (nI (pad ((pos pad e) + 1))) (aN_rd pad (by omega)) ?_
                  refine lv_bipush (v := nI 48) gx gb dX9_goDay_90 (by decide) ?_
                  refine lv_isub gx gb dX9_goDay_92 ?_
                  refine lv_evi (nI ((pad ((pos pad e) + 1)) - 48)) (e_sub (by omega)) ?_
                  exact L93 ((pad ((pos pad e) + 1)) - 48) (by first | exact opd_q (D := (fun j => code / 10 ^ (cq pad w - 1 - j) % 10)) (by omega) (by omega) (by omega) | exact opd_d (by omega) (by omega)) _ _ hP hD hS ls (lv_sub hl [0, 1, 2, 3, 4, 5] rfl)
                · skip
                  rw [nI_eq (by omega) (by omega)] at c70
                  have hdv := Nat.div_le_self code (10 ^ (cq pad w - 1 - cq pad (pos pad e)))
                  refine lv_iload_n gx gb dX9_goDay_73 rfl (lv_at hl 5 rfl) ?_
                  refine lv_iload_n gx gb dX9_goDay_74 rfl (lv_at hl 2 rfl) ?_
                  refine lv_idiv gx gb dX9_goDay_75 (nI_ne0 (by omega) (by omega)) ?_
                  refine lv_evi (nI (code / (10 ^ (cq pad w - 1 - cq pad (pos pad e))))) (e_div (by omega) (by omega) (by omega)) ?_
                  refine lv_bipush (v := nI 10) gx gb dX9_goDay_76 (by decide) ?_
                  refine lv_irem gx gb dX9_goDay_78 (nI_ne0 (by omega) (by omega)) ?_
                  refine lv_evi (nI ((code / (10 ^ (cq pad w - 1 - cq pad (pos pad e)))) % 10)) (e_rem (by omega) (by omega) (by omega)) ?_
                  refine lv_goto (tgt := 93) gx gb dX9_goDay_79 (by decide) ?_
                  exact L93 ((code / (10 ^ (cq pad w - 1 - cq pad (pos pad e)))) % 10) (by first | exact opd_q (D := (fun j => code / 10 ^ (cq pad w - 1 - j) % 10)) (by omega) (by omega) (by omega) | exact opd_d (by omega) (by omega)) _ _ hP hD hS ls (lv_sub hl [0, 1, 2, 3, 4, 5] rfl)
        rw [show i - 1 = cq pad w - 1 - cq pad (pos pad 0) from by show i - 1 = cq pad w - 1 - 0; omega] at hl
        exact L34 _ 0 (by exact Nat.zero_le _) (by rfl) (Nat.lt_succ_self _) _ _ hP hD hS ls (lv_sub hl [1, 0, 2, 3] rfl)
      · skip
        rw [nI_leI (by omega) (by omega)] at c18
        refine lv_iload_n gx gb dX9_goDay_21 rfl (lv_at hl 0 rfl) ?_
        refine lv_bipush (v := nI 10) gx gb dX9_goDay_22 (by decide) ?_
        refine lv_imul gx gb dX9_goDay_24 ?_
        refine lv_evi (nI ((10 ^ (i - 1)) * 10)) (pk_mul (10 ^ (i - 1)) 10) ?_
        refine lv_evi (nI (10 ^ (i + 1 - 1))) (congrArg nI (p10s hi1)) ?_
        refine lv_istore_n (lv' := [(2, .int (nI (10 ^ (i + 1 - 1)))), (3, .int (nI i)), (0, .ref mo), (1, .int (nI code))]) gx gb dX9_goDay_25 rfl hl (by decide) rfl (fun ls hl => ?_)
        refine lv_iinc (v := nI (i + 1)) (lv' := [(3, .int (nI (i + 1))), (2, .int (nI (10 ^ (i + 1 - 1)))), (0, .ref mo), (1, .int (nI code))]) gx gb dX9_goDay_26 hl (k := 1) rfl (nI_add i 1) (by decide) rfl (fun ls hl => ?_)
        refine lv_goto (tgt := 13) gx gb dX9_goDay_29 (by decide) ?_
        exact ih13 (i + 1) (by omega) (by omega) (by omega) _ _ hP hD hS ls (lv_sub hl [1, 0, 2, 3] rfl)
  exact L13 _ 1 (by omega) (by omega) (Nat.lt_succ_self _) _ _ hP hD hS ls (lv_sub hl [1, 0, 2, 3] rfl)

