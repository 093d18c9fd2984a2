
set_option maxHeartbeats 4000000 in
set_option maxRecDepth 100000 in
theorem kX8_read (Gl : Launch) (D : va_G) (cI cJ cZ : ClassId) (h : Nat) (fl : Nat) (e1 : Nat) (e2 : Nat) (pd : Nat) (sg : Nat) (k1 : Nat) (k2 : Nat) (rv : Value) (n : Nat) (q : Nat) (S : Nat) (c : Nat) (na : Nat) (Na : Nat) (Ra : Nat) (qa : Nat) (Sa : Nat) (ca : Nat) (nb : Nat) (Nb : Nat) (Rb : Nat) (qb : Nat) (Sb : Nat) (cb : Nat) (cnt : Nat) (rb : Nat) (sb : Nat) (g : Nat → Nat) (num plc : Nat → Nat) (a b : Int) (hl_a : -2147483648 ≤ a) (hu_a : a < 2147483648) (hl_b : -2147483648 ≤ b) (hu_b : b < 2147483648) (hn1 : 1 ≤ n) (hn7 : n ≤ 7) (hq1 : 1 ≤ q) (hqn : q ≤ n) (hp : ∀ k, k < q → plc k < n) (hnum : ∀ k, k < n → num k ≤ 99) : Met Gl yX8_read wsX8_read ({ frames := 3, cells := 0, slots := 0, locals := 73 } : Room) (va_Pc [.ref h, .int (zI a), .int (zI b)] (fun U => va_P D vwCl (wX h fl e1 e2 pd sg cI k1 k2 rv n (pk 256 num n) (pk 8 plc q) q S c na Na Ra qa Sa ca nb Nb Rb qb Sb cb cnt rb sb g) U.heap ∧ va_K D vwCl [(cI, .int), (cJ, .long), (cZ, .boolean)] U)) (vp_Si (fun r : Int32 => ∃ zz : Int, r = zI zz ∧ rdZ (fun x => num (plc x)) q a b zz)) 0 0 (fun _ => False) := by
  refine Met.ofW (cc := cX8_read) (maxL := 5) (ret := (some .int)) (by decide +kernel) rfl ?_
  intro Gp Ge Gs Gm Ga Gw Gt Gc G1 Bd gml gv
  obtain ⟨rfl, hP, hK⟩ := gv
  have gx := Bd.exec
  have gb := Bd.bytes
  have gr := Bd.returns
  have gts := atoms_spec (ws := wsX8_read) Bd.pre
  have gown : Gs.vm.findClass RX8 = some Gm.cls := findClass_of_methodNamed Bd.named
  have glk := Bd.notSynchronized
  have hl := lv_entry ([.ref h, .int (zI a), .int (zI b)]) (n := 5) (Nat.le_of_ble_eq_true rfl)
  rw [lg_entry_eq]
  generalize (lg_sl ([.ref h, .int (zI a), .int (zI b)]) ++ List.replicate (5 - (lg_sl ([.ref h, .int (zI a), .int (zI b)])).length) Slot.unset).toArray = ls at hl ⊢
  have hl : lv_has ls 5 [(0, .ref h), (1, .int (zI a)), (2, .int (zI b))] := hl
  have i1 : ∀ w ∈ wsX10, w ∈ wsX8_read := by decide +kernel
  have i8 : ∀ w ∈ wsX80, w ∈ wsX8_read := by decide +kernel
  have hp8 : ∀ k, k < q → plc k < 8 := fun k hk => by have := hp k hk; omega
  have hR8 := pk8_lt hp8 (by omega)
  have hn256 : ∀ k, k < n → num k < 256 := fun k hk => by have := hnum k hk; omega
  have hN63 := pk256_lt hn256 (by omega)
  have hld := lin_dg hnum hp
  have hl63 := pk256_lt (f := (fun x => num (plc x))) (z := q) (fun i hi => by have := hnum _ (hp i hi); show num (plc i) < 256; omega) (by omega)
  refine lv_iload_n gx gb dX8_read_0 rfl (lv_at hl 1 rfl) ?_
  refine lv_if_lt (tgt := 20) gx gb dX8_read_1 (by decide) (fun c1 => ?_) (fun c1 => ?_)
  · skip
    rw [z0_lt (by omega) (by omega)] at c1
    refine lv_bipush (v := zI (-2)) gx gb dX8_read_20 (by decide) ?_
    exact W.iret (v := zI (-2)) gx gb gr (fun t ht hW => ⟨zI (-2), rfl, (by first | (dsimp only; done) | ((try dsimp only); exact ⟨-2, rfl, by rw [rdZ, if_neg (by omega)]⟩)), ht⟩) (fun q h => by cases h) dX8_read_22
  · skip
    rw [z0_lt (by omega) (by omega)] at c1
    refine lv_iload_n gx gb dX8_read_4 rfl (lv_at hl 1 rfl) ?_
    refine lv_sipush (v := nI 693) gx gb dX8_read_5 (by decide) ?_
    refine lv_icmp_gt (tgt := 20) gx gb dX8_read_8 (by decide) (fun c8 => ?_) (fun c8 => ?_)
    · skip
      rw [nz_lt (by omega) (by omega) (by omega)] at c8
      refine lv_bipush (v := zI (-2)) gx gb dX8_read_20 (by decide) ?_
      exact W.iret (v := zI (-2)) gx gb gr (fun t ht hW => ⟨zI (-2), rfl, (by first | (dsimp only; done) | ((try dsimp only); exact ⟨-2, rfl, by rw [rdZ, if_neg (by omega)]⟩)), ht⟩) (fun q h => by cases h) dX8_read_22
    · skip
      rw [nz_lt (by omega) (by omega) (by omega)] at c8
      refine lv_iload_n gx gb dX8_read_11 rfl (lv_at hl 2 rfl) ?_
      refine lv_if_lt (tgt := 20) gx gb dX8_read_12 (by decide) (fun c12 => ?_) (fun c12 => ?_)
      · skip
        rw [z0_lt (by omega) (by omega)] at c12
        refine lv_bipush (v := zI (-2)) gx gb dX8_read_20 (by decide) ?_
        exact W.iret (v := zI (-2)) gx gb gr (fun t ht hW => ⟨zI (-2), rfl, (by first | (dsimp only; done) | ((try dsimp only); exact ⟨-2, rfl, by rw [rdZ, if_neg (by omega)]⟩)), ht⟩) (fun q h => by cases h) dX8_read_22
      · skip
        rw [z0_lt (by omega) (by omega)] at c12
        refine lv_iload_n gx gb dX8_read_15 rfl (lv_at hl 2 rfl) ?_
        refine lv_iconst (v := nI 2) gx gb dX8_read_16 (by decide) ?_
        refine lv_icmp_le (tgt := 23) gx gb dX8_read_17 (by decide) (fun c17 => ?_) (fun c17 => ?_)
        · skip
          rw [zn_le (by omega) (by omega) (by omega)] at c17
          obtain ⟨s, hs⟩ : ∃ s : Nat, a = (s : Int) := ⟨a.toNat, by omega⟩
          rw [show zI a = nI s from by rw [hs, zI_nat]] at hl
          have hl : lv_has ls 5 [(0, .ref h), (1, .int (nI s)), (2, .int (zI b))] := hl
          refine lv_aload_n gx gb dX8_read_23 rfl (lv_at hl 0 rfl) ?_
          refine va_get (D := D) (ci := 3) (v := .ref fl) (C := RX8) (T := TX8) (N := 7) gx gb gts i8 gown hK hP 0 rfl rfl 0 (by decide) (gts (.fieldLink RX8 12 "SwanSums" "flock" "LSwanSums$Flock;") (by decide +kernel)) (fun _ h9 => h9) rfl dX8_read_24 ?_
          have hPc := hP.sub (ws' := wF fl n (pk 256 num n) (pk 8 plc q) q S c) [1] rfl
          refine vp_callSl (W.runV (As := []) (rest := []) ⟨gx, gb, gml, gown, gts⟩ (kX1_line Gl D cI cJ cZ fl n (pk 256 num n) (pk 8 plc q) q S c  (by omega) (by omega) (by omega)) (cwV 0 gts gX8_read_X1_line rfl rfl rfl (by decide +kernel) ⟨Nat.le_of_ble_eq_true rfl, Nat.le_of_ble_eq_true rfl⟩) ⟨fun a U g mk q => ⟨q.1, q.2.1, va_K.moved (u := U) (U := U.calling g mk a) (Vm.Alike.refl U.vm) q.2.2⟩, va_recv hK hPc (ci := 0) (q0 := 0) rfl rfl, fun U hU hW => ⟨rfl, by rw [hU]; exact hPc, va_K.moved hW.alike hK⟩⟩ rfl rfl hl.1 rfl (lv_room (Nat.le_of_ble_eq_true rfl)) dX8_read_27 ⟨Nat.le_of_ble_eq_true rfl, Nat.le_of_ble_eq_true rfl⟩) (fun r hw => ?_)
          have hr27 := hw
          subst hr27
          refine lv_evl (lN (pk 256 (fun x => num (plc x)) q)) (congrArg lN (lin_eq hn7 hnum hp)) ?_
          refine lv_lstore_n (lv' := [(3, .long (lN (pk 256 (fun x => num (plc x)) q))), (0, .ref h), (1, .int (nI s)), (2, .int (zI b))]) gx gb dX8_read_30 rfl hl (by decide) rfl (fun ls hl => ?_)
          refine lv_iload_n gx gb dX8_read_31 rfl (lv_at hl 3 rfl) ?_
          refine lv_if_ne (tgt := 48) gx gb dX8_read_32 (by decide) (fun c32 => ?_) (fun c32 => ?_)
          · skip
            rw [z0_eq (by omega) (by omega)] at c32
            refine lv_iload_n gx gb dX8_read_48 rfl (lv_at hl 3 rfl) ?_
            refine lv_iconst (v := nI 1) gx gb dX8_read_49 (by decide) ?_
            refine lv_icmp_ne (tgt := 68) gx gb dX8_read_50 (by decide) (fun c50 => ?_) (fun c50 => ?_)
            · skip
              rw [zn_eq (by omega) (by omega) (by omega)] at c50
              refine lv_lload_n gx gb dX8_read_68 rfl (lv_at hl 0 rfl) ?_
              refine lv_aload_n gx gb dX8_read_69 rfl (lv_at hl 1 rfl) ?_
              refine va_get (D := D) (ci := 3) (v := .ref fl) (C := RX8) (T := TX8) (N := 7) gx gb gts i8 gown hK hP 0 rfl rfl 0 (by decide) (gts (.fieldLink RX8 12 "SwanSums" "flock" "LSwanSums$Flock;") (by decide +kernel)) (fun _ h9 => h9) rfl dX8_read_70 ?_
              refine va_get (D := D) (ci := 0) (v := .int (nI q)) (C := RX1) (T := TX1) (N := 6) gx gb gts i1 gown hK hP 1 rfl rfl 3 (by decide) (gts (.fieldLink RX8 82 "SwanSums$Flock" "size" "I") (by decide +kernel)) (fun _ h9 => h9) rfl dX8_read_73 ?_
              refine lv_iload_n gx gb dX8_read_76 rfl (lv_at hl 2 rfl) ?_
              refine vp_callSi (W.runS (As := [.long (lN (pk 256 (fun x => num (plc x)) q)), .int (nI q), .int (nI s)]) (rest := []) ⟨gx, gb, gml, gown, gts⟩ (kX3_shortestStretch Gl (pk 256 (fun x => num (plc x)) q) q s (by omega) (by omega) (by omega)) (va_cwS 3 gts gX8_read_X3_shortestStretch rfl rfl rfl (by decide +kernel) ⟨Nat.le_of_ble_eq_true rfl, Nat.le_of_ble_eq_true rfl⟩) ⟨fun _ _ _ _ h => h, fun U hU hW => ⟨rfl, trivial⟩⟩ rfl rfl hl.1 rfl (lv_room (Nat.le_of_ble_eq_true rfl)) dX8_read_77 ⟨Nat.le_of_ble_eq_true rfl, Nat.le_of_ble_eq_true rfl⟩) (fun r hw => ?_)
              obtain ⟨r77, rfl⟩ : ∃ z, z = r := ⟨_, rfl⟩
              obtain ⟨z77, rfl, hz77⟩ := hw
              exact W.iret (v := zI z77) gx gb gr (fun t ht hW => ⟨zI z77, rfl, (by first | (dsimp only; done) | ((try dsimp only); first | exact ⟨z62, rfl, by rw [rdZ, if_pos (by omega), if_neg (by omega), if_pos (by omega), hs]; exact fstS_cong hld hz62⟩ | exact ⟨z77, rfl, by rw [rdZ, if_pos (by omega), if_neg (by omega), if_neg (by omega), hs]; exact shtS_cong hld hz77⟩)), ht⟩) (fun q h => by cases h) dX8_read_80
            · skip
              rw [zn_eq (by omega) (by omega) (by omega)] at c50
              refine lv_lload_n gx gb dX8_read_53 rfl (lv_at hl 0 rfl) ?_
              refine lv_aload_n gx gb dX8_read_54 rfl (lv_at hl 1 rfl) ?_
              refine va_get (D := D) (ci := 3) (v := .ref fl) (C := RX8) (T := TX8) (N := 7) gx gb gts i8 gown hK hP 0 rfl rfl 0 (by decide) (gts (.fieldLink RX8 12 "SwanSums" "flock" "LSwanSums$Flock;") (by decide +kernel)) (fun _ h9 => h9) rfl dX8_read_55 ?_
              refine va_get (D := D) (ci := 0) (v := .int (nI q)) (C := RX1) (T := TX1) (N := 6) gx gb gts i1 gown hK hP 1 rfl rfl 3 (by decide) (gts (.fieldLink RX8 82 "SwanSums$Flock" "size" "I") (by decide +kernel)) (fun _ h9 => h9) rfl dX8_read_58 ?_
              refine lv_iload_n gx gb dX8_read_61 rfl (lv_at hl 2 rfl) ?_
              refine vp_callSi (W.runS (As := [.long (lN (pk 256 (fun x => num (plc x)) q)), .int (nI q), .int (nI s)]) (rest := []) ⟨gx, gb, gml, gown, gts⟩ (kX3_firstStretch Gl (pk 256 (fun x => num (plc x)) q) q s (by omega) (by omega) (by omega)) (va_cwS 3 gts gX8_read_X3_firstStretch rfl rfl rfl (by decide +kernel) ⟨Nat.le_of_ble_eq_true rfl, Nat.le_of_ble_eq_true rfl⟩) ⟨fun _ _ _ _ h => h, fun U hU hW => ⟨rfl, trivial⟩⟩ rfl rfl hl.1 rfl (lv_room (Nat.le_of_ble_eq_true rfl)) dX8_read_62 ⟨Nat.le_of_ble_eq_true rfl, Nat.le_of_ble_eq_true rfl⟩) (fun r hw => ?_)
              obtain ⟨r62, rfl⟩ : ∃ z, z = r := ⟨_, rfl⟩
              obtain ⟨z62, rfl, hz62⟩ := hw
              refine lv_goto (tgt := 80) gx gb dX8_read_65 (by decide) ?_
              exact W.iret (v := zI z62) gx gb gr (fun t ht hW => ⟨zI z62, rfl, (by first | (dsimp only; done) | ((try dsimp only); first | exact ⟨z62, rfl, by rw [rdZ, if_pos (by omega), if_neg (by omega), if_pos (by omega), hs]; exact fstS_cong hld hz62⟩ | exact ⟨z77, rfl, by rw [rdZ, if_pos (by omega), if_neg (by omega), if_neg (by omega), hs]; exact shtS_cong hld hz77⟩)), ht⟩) (fun q h => by cases h) dX8_read_80
          · skip
            rw [z0_eq (by omega) (by omega)] at c32
            refine lv_lload_n gx gb dX8_read_35 rfl (lv_at hl 0 rfl) ?_
            refine lv_aload_n gx gb dX8_read_36 rfl (lv_at hl 1 rfl) ?_
            refine va_get (D := D) (ci := 3) (v := .ref fl) (C := RX8) (T := TX8) (N := 7) gx gb gts i8 gown hK hP 0 rfl rfl 0 (by decide) (gts (.fieldLink RX8 12 "SwanSums" "flock" "LSwanSums$Flock;") (by decide +kernel)) (fun _ h9 => h9) rfl dX8_read_37 ?_
            refine va_get (D := D) (ci := 0) (v := .int (nI q)) (C := RX1) (T := TX1) (N := 6) gx gb gts i1 gown hK hP 1 rfl rfl 3 (by decide) (gts (.fieldLink RX8 82 "SwanSums$Flock" "size" "I") (by decide +kernel)) (fun _ h9 => h9) rfl dX8_read_40 ?_
            refine lv_iload_n gx gb dX8_read_43 rfl (lv_at hl 2 rfl) ?_
            refine vp_callSi (W.runS (As := [.long (lN (pk 256 (fun x => num (plc x)) q)), .int (nI q), .int (nI s)]) (rest := []) ⟨gx, gb, gml, gown, gts⟩ (kX3_stretches Gl (pk 256 (fun x => num (plc x)) q) q s (by omega) (by omega) (by omega)) (va_cwS 3 gts gX8_read_X3_stretches rfl rfl rfl (by decide +kernel) ⟨Nat.le_of_ble_eq_true rfl, Nat.le_of_ble_eq_true rfl⟩) ⟨fun _ _ _ _ h => h, fun U hU hW => ⟨rfl, trivial⟩⟩ rfl rfl hl.1 rfl (lv_room (Nat.le_of_ble_eq_true rfl)) dX8_read_44 ⟨Nat.le_of_ble_eq_true rfl, Nat.le_of_ble_eq_true rfl⟩) (fun r hw => ?_)
            have hr44 := hw
            subst hr44
            exact W.iret (v := nI (str (dg 256 (pk 256 (fun x => num (plc x)) q)) s q q)) gx gb gr (fun t ht hW => ⟨nI (str (dg 256 (pk 256 (fun x => num (plc x)) q)) s q q), rfl, (by first | (dsimp only; done) | ((try dsimp only); exact ⟨(str (fun x => num (plc x)) s q q : Int), by rw [str_cong hld (Nat.le_refl _)]; exact (zI_nat _).symm, by rw [rdZ, if_pos (by omega), if_pos (by omega), hs]; rfl⟩)), ht⟩) (fun q h => by cases h) dX8_read_47
        · skip
          rw [zn_le (by omega) (by omega) (by omega)] at c17
          refine lv_bipush (v := zI (-2)) gx gb dX8_read_20 (by decide) ?_
          exact W.iret (v := zI (-2)) gx gb gr (fun t ht hW => ⟨zI (-2), rfl, (by first | (dsimp only; done) | ((try dsimp only); exact ⟨-2, rfl, by rw [rdZ, if_neg (by omega)]⟩)), ht⟩) (fun q h => by cases h) dX8_read_22

set_option maxHeartbeats 4000000 in
set_option maxRecDepth 100000 in
theorem kX8_sell (Gl : Launch) (D : va_G) (cI cJ cZ : ClassId) (h : Nat) (fl : Nat) (e1 : Nat) (e2 : Nat) (pd : Nat) (sg : Nat) (k1 : Nat) (k2 : Nat) (rv : Value) (n : Nat) (q : Nat) (S : Nat) (c : Nat) (na : Nat) (Na : Nat) (Ra : Nat) (qa : Nat) (Sa : Nat) (ca : Nat) (nb : Nat) (Nb : Nat) (Rb : Nat) (qb : Nat) (Sb : Nat) (cb : Nat) (cnt : Nat) (rb : Nat) (sb : Nat) (g : Nat → Nat) (num plc : Nat → Nat) (a : Int) (hl_a : -2147483648 ≤ a) (hu_a : a < 2147483648) (hn1 : 1 ≤ n) (hn7 : n ≤ 7) (hq1 : 1 ≤ q) (hqn : q ≤ n) (hp : ∀ k, k < q → plc k < n) (hnum : ∀ k, k < n → num k ≤ 99) : Met Gl yX8_sell wsX8_sell ({ frames := 3, cells := 0, slots := 0, locals := 88 } : Room) (va_Pc [.ref h, .int (zI a)] (fun U => va_P D vwCl (wX h fl e1 e2 pd sg cI k1 k2 rv n (pk 256 num n) (pk 8 plc q) q S c na Na Ra qa Sa ca nb Nb Rb qb Sb cb cnt rb sb g) U.heap ∧ va_K D vwCl [(cI, .int), (cJ, .long), (cZ, .boolean)] U)) (vp_Si (fun r : Int32 => r = zI (selZ num plc q a))) 0 0 (fun _ => False) := by
  refine Met.ofW (cc := cX8_sell) (maxL := 7) (ret := (some .int)) (by decide +kernel) rfl ?_
  intro Gp Ge Gs Gm Ga Gw Gt Gc G1 Bd gml gv
  obtain ⟨rfl, hP, hK⟩ := gv
  have gx := Bd.exec
  have gb := Bd.bytes
  have gr := Bd.returns
  have gts := atoms_spec (ws := wsX8_sell) Bd.pre
  have gown : Gs.vm.findClass RX8 = some Gm.cls := findClass_of_methodNamed Bd.named
  have glk := Bd.notSynchronized
  have hl := lv_entry ([.ref h, .int (zI a)]) (n := 7) (Nat.le_of_ble_eq_true rfl)
  rw [lg_entry_eq]
  generalize (lg_sl ([.ref h, .int (zI a)]) ++ List.replicate (7 - (lg_sl ([.ref h, .int (zI a)])).length) Slot.unset).toArray = ls at hl ⊢
  have hl : lv_has ls 7 [(0, .ref h), (1, .int (zI a))] := hl
  have i1 : ∀ w ∈ wsX10, w ∈ wsX8_sell := by decide +kernel
  have i8 : ∀ w ∈ wsX80, w ∈ wsX8_sell := by decide +kernel
  have hp8 : ∀ k, k < q → plc k < 8 := fun k hk => by have := hp k hk; omega
  have hR8 := pk8_lt hp8 (by omega)
  have hn256 : ∀ k, k < n → num k < 256 := fun k hk => by have := hnum k hk; omega
  have hN63 := pk256_lt hn256 (by omega)
  refine lv_iload_n gx gb dX8_sell_0 rfl (lv_at hl 1 rfl) ?_
  refine vp_callSi (W.runS (As := [.int (zI a)]) (rest := []) ⟨gx, gb, gml, gown, gts⟩ (kX8_isLesson Gl a (by omega) (by omega)) (va_cwS 1 gts gX8_sell_X8_isLesson rfl rfl rfl (by decide +kernel) ⟨Nat.le_of_ble_eq_true rfl, Nat.le_of_ble_eq_true rfl⟩) ⟨fun _ _ _ _ h => h, fun U hU hW => ⟨rfl, trivial⟩⟩ rfl rfl hl.1 rfl (lv_room (Nat.le_of_ble_eq_true rfl)) dX8_sell_1 ⟨Nat.le_of_ble_eq_true rfl, Nat.le_of_ble_eq_true rfl⟩) (fun r hw => ?_)
  have hr1 := hw
  subst hr1
  refine lv_if_ne (tgt := 10) gx gb dX8_sell_4 (by decide) (fun c4 => ?_) (fun c4 => ?_)
  · skip
    rw [b0_eq] at c4
    simp only [decide_eq_false_iff_not, Decidable.not_not] at c4
    obtain ⟨k, hk⟩ : ∃ k : Nat, a = (k : Int) := ⟨a.toNat, by omega⟩
    rw [show zI a = nI k from by rw [hk, zI_nat]] at hl
    have hl : lv_has ls 7 [(0, .ref h), (1, .int (nI k))] := hl
    refine lv_iconst (v := nI 0) gx gb dX8_sell_10 (by decide) ?_
    refine lv_istore_n (lv' := [(2, .int (nI 0)), (0, .ref h), (1, .int (nI k))]) gx gb dX8_sell_11 rfl hl (by decide) rfl (fun ls hl => ?_)
    refine lv_aload_n gx gb dX8_sell_12 rfl (lv_at hl 1 rfl) ?_
    refine va_get (D := D) (ci := 3) (v := .ref fl) (C := RX8) (T := TX8) (N := 7) gx gb gts i8 gown hK hP 0 rfl rfl 0 (by decide) (gts (.fieldLink RX8 12 "SwanSums" "flock" "LSwanSums$Flock;") (by decide +kernel)) (fun _ h9 => h9) rfl dX8_sell_13 ?_
    refine va_get (D := D) (ci := 0) (v := .int (nI q)) (C := RX1) (T := TX1) (N := 6) gx gb gts i1 gown hK hP 1 rfl rfl 3 (by decide) (gts (.fieldLink RX8 82 "SwanSums$Flock" "size" "I") (by decide +kernel)) (fun _ h9 => h9) rfl dX8_sell_16 ?_
    refine lv_iconst (v := nI 1) gx gb dX8_sell_19 (by decide) ?_
    refine lv_isub gx gb dX8_sell_20 ?_
    refine lv_evi (nI (q - 1)) (e_sub (by omega)) ?_
    refine lv_istore_n (lv' := [(3, .int (nI (q - 1))), (2, .int (nI 0)), (0, .ref h), (1, .int (nI k))]) gx gb dX8_sell_21 rfl hl (by decide) rfl (fun ls hl => ?_)
    refine lv_iconst (v := nI 0) gx gb dX8_sell_22 (by decide) ?_
    refine lv_istore (lv' := [(4, .int (nI 0)), (3, .int (nI (q - 1))), (2, .int (nI 0)), (0, .ref h), (1, .int (nI k))]) gx gb dX8_sell_23 hl (by decide) rfl (fun ls hl => ?_)
    have L25 : ∀ fu : Nat, ∀ (p : Nat) (hpq : p ≤ q) (hp1 : p = 0 ∨ 1 < q), (q - p) < fu → ∀ ls : Array Slot, lv_has ls 7 [(2, .int (nI (selB num plc q k p))), (3, .int (nI (q - 1))), (4, .int (nI p)), (0, .ref h), (1, .int (nI k))] → W Gp Gl Ge (headSpec wsX8_sell ({ frames := 3, cells := 0, slots := 0, locals := 88 } : Room)).room Gs Gm ([.ref h, .int (zI a)] : List Value).toArray Gw Gt Gc Gs.heap [] 0 0 (MQ Gw (vp_Si (fun r : Int32 => r = zI (selZ num plc q a))) ([.ref h, .int (zI a)] : List Value).toArray Gs 0 0 (fun _ => False)) (F0 Gm 25 ls []) := by
      intro fu
      induction fu with
      | zero => intro p hpq hp1 hfu; exact absurd hfu (Nat.not_lt_zero _)
      | succ fu ih25 =>
        intro p hpq hp1 hfu ls hl
        refine lv_iload_n gx gb dX8_sell_25 rfl (lv_at hl 1 rfl) ?_
        refine lv_if_le (tgt := 93) gx gb dX8_sell_26 (by decide) (fun c26 => ?_) (fun c26 => ?_)
        · skip
          rw [n0_le (by omega)] at c26
          refine lv_iload_n gx gb dX8_sell_93 rfl (lv_at hl 0 rfl) ?_
          exact W.iret (v := nI (selB num plc q k p)) gx gb gr (fun t ht hW => ⟨nI (selB num plc q k p), rfl, (by first | (dsimp only; done) | ((try dsimp only); first | (have e9 : p = 0 := (by omega); subst e9; rw [selZ, if_pos (by omega), if_neg (by omega)]; exact (show nI 0 = zI 0 by decide)) | (have e9 : p = q := (by omega); subst e9; rw [selZ, if_pos (by omega), if_pos (by omega), hk, zI_nat] <;> rfl))), ht⟩) (fun q h => by cases h) dX8_sell_94
        · skip
          rw [n0_le (by omega)] at c26
          refine lv_iload gx gb dX8_sell_29 (lv_at hl 2 rfl) ?_
          refine lv_iload_n gx gb dX8_sell_31 rfl (lv_at hl 1 rfl) ?_
          refine lv_icmp_gt (tgt := 93) gx gb dX8_sell_32 (by decide) (fun c32 => ?_) (fun c32 => ?_)
          · skip
            rw [nI_ltI (by omega) (by omega)] at c32
            refine lv_iload_n gx gb dX8_sell_93 rfl (lv_at hl 0 rfl) ?_
            exact W.iret (v := nI (selB num plc q k p)) gx gb gr (fun t ht hW => ⟨nI (selB num plc q k p), rfl, (by first | (dsimp only; done) | ((try dsimp only); first | (have e9 : p = 0 := (by omega); subst e9; rw [selZ, if_pos (by omega), if_neg (by omega)]; exact (show nI 0 = zI 0 by decide)) | (have e9 : p = q := (by omega); subst e9; rw [selZ, if_pos (by omega), if_pos (by omega), hk, zI_nat] <;> rfl))), ht⟩) (fun q h => by cases h) dX8_sell_94
          · skip
            rw [nI_ltI (by omega) (by omega)] at c32
            have hpp := hp p (by omega)
            have hpi := pikeF_in (q := q) (P := fun x => x < n) (by omega : p < q) hp
            have hsl : soldC (pk 8 plc q) p = pk 8 (pikeF p (q - 1) plc) (q - 1) := soldC_pk hp8 (by omega)
            have hkl := lin_dg (q := q - 1) hnum (fun x hx => hpi x (by omega))
            have hk8 : ∀ x, x < q - 1 → pikeF p (q - 1) plc x < 8 := fun x hx => by have := hpi x (by omega); omega
            have hs8 := pk8_lt hk8 (by omega)
            have hk63 := pk256_lt (f := (fun i => num (pikeF p (q - 1) plc i))) (z := q - 1) (fun i hi => by have := hnum _ (hpi i (by omega)); show num (pikeF p (q - 1) plc i) < 256; omega) (by omega)
            refine lv_aload_n gx gb dX8_sell_35 rfl (lv_at hl 3 rfl) ?_
            refine va_get (D := D) (ci := 3) (v := .ref fl) (C := RX8) (T := TX8) (N := 7) gx gb gts i8 gown hK hP 0 rfl rfl 0 (by decide) (gts (.fieldLink RX8 12 "SwanSums" "flock" "LSwanSums$Flock;") (by decide +kernel)) (fun _ h9 => h9) rfl dX8_sell_36 ?_
            refine va_get (D := D) (ci := 0) (v := .long (lN (pk 256 num n))) (C := RX1) (T := TX1) (N := 6) gx gb gts i1 gown hK hP 1 rfl rfl 1 (by decide) (gts (.fieldLink RX8 52 "SwanSums$Flock" "numbers" "J") (by decide +kernel)) (fun _ h9 => h9) rfl dX8_sell_39 ?_
            refine lv_aload_n gx gb dX8_sell_42 rfl (lv_at hl 3 rfl) ?_
            refine va_get (D := D) (ci := 3) (v := .ref fl) (C := RX8) (T := TX8) (N := 7) gx gb gts i8 gown hK hP 0 rfl rfl 0 (by decide) (gts (.fieldLink RX8 12 "SwanSums" "flock" "LSwanSums$Flock;") (by decide +kernel)) (fun _ h9 => h9) rfl dX8_sell_43 ?_
            refine va_get (D := D) (ci := 0) (v := .int (nI (pk 8 plc q))) (C := RX1) (T := TX1) (N := 6) gx gb gts i1 gown hK hP 1 rfl rfl 2 (by decide) (gts (.fieldLink RX8 79 "SwanSums$Flock" "row" "I") (by decide +kernel)) (fun _ h9 => h9) rfl dX8_sell_46 ?_
            refine lv_iload gx gb dX8_sell_49 (lv_at hl 2 rfl) ?_
            refine vp_callSi (W.runS (As := [.int (nI (pk 8 plc q)), .int (nI p)]) (rest := [.long (lN (pk 256 num n))]) ⟨gx, gb, gml, gown, gts⟩ (kX6_sold Gl (pk 8 plc q) p (by omega) (by omega)) (va_cwS 2 gts gX8_sell_X6_sold rfl rfl rfl (by decide +kernel) ⟨Nat.le_of_ble_eq_true rfl, Nat.le_of_ble_eq_true rfl⟩) ⟨fun _ _ _ _ h => h, fun U hU hW => ⟨rfl, trivial⟩⟩ rfl rfl hl.1 rfl (lv_room (Nat.le_of_ble_eq_true rfl)) dX8_sell_51 ⟨Nat.le_of_ble_eq_true rfl, Nat.le_of_ble_eq_true rfl⟩) (fun r hw => ?_)
            have hr51 := hw
            subst hr51
            refine lv_evi (nI (pk 8 (pikeF p (q - 1) plc) (q - 1))) (congrArg nI hsl) ?_
            refine lv_iload_n gx gb dX8_sell_54 rfl (lv_at hl 1 rfl) ?_
            refine vp_callSl (W.runS (As := [.long (lN (pk 256 num n)), .int (nI (pk 8 (pikeF p (q - 1) plc) (q - 1))), .int (nI (q - 1))]) (rest := []) ⟨gx, gb, gml, gown, gts⟩ (kX3_inOrder Gl (pk 256 num n) (pk 8 (pikeF p (q - 1) plc) (q - 1)) (q - 1) (by omega) (by omega) (by omega)) (va_cwS 3 gts gX8_sell_X3_inOrder rfl rfl rfl (by decide +kernel) ⟨Nat.le_of_ble_eq_true rfl, Nat.le_of_ble_eq_true rfl⟩) ⟨fun _ _ _ _ h => h, fun U hU hW => ⟨rfl, trivial⟩⟩ rfl rfl hl.1 rfl (lv_room (Nat.le_of_ble_eq_true rfl)) dX8_sell_55 ⟨Nat.le_of_ble_eq_true rfl, Nat.le_of_ble_eq_true rfl⟩) (fun r hw => ?_)
            have hr55 := hw
            subst hr55
            refine lv_evl (lN (pk 256 (fun i => num (pikeF p (q - 1) plc i)) (q - 1))) (congrArg lN (lin_eq hn7 hnum (fun x hx => hpi x (by omega)))) ?_
            refine lv_lstore (lv' := [(5, .long (lN (pk 256 (fun i => num (pikeF p (q - 1) plc i)) (q - 1)))), (2, .int (nI (selB num plc q k p))), (3, .int (nI (q - 1))), (4, .int (nI p)), (0, .ref h), (1, .int (nI k))]) gx gb dX8_sell_58 hl (by decide) rfl (fun ls hl => ?_)
            refine lv_iload_n gx gb dX8_sell_60 rfl (lv_at hl 5 rfl) ?_
            refine lv_lload gx gb dX8_sell_61 (lv_at hl 0 rfl) ?_
            refine lv_iload_n gx gb dX8_sell_63 rfl (lv_at hl 2 rfl) ?_
            refine vp_callSi (W.runS (As := [.int (nI k), .long (lN (pk 256 (fun i => num (pikeF p (q - 1) plc i)) (q - 1))), .int (nI (q - 1))]) (rest := []) ⟨gx, gb, gml, gown, gts⟩ (kX2_teach Gl k (pk 256 (fun i => num (pikeF p (q - 1) plc i)) (q - 1)) (q - 1) (by omega) (by omega) (by omega) (by omega) (by exact pk99 (fun x hx => hnum _ (hpi x (by omega))))) (va_cwS 3 gts gX8_sell_X2_teach rfl rfl rfl (by decide +kernel) ⟨Nat.le_of_ble_eq_true rfl, Nat.le_of_ble_eq_true rfl⟩) ⟨fun _ _ _ _ h => h, fun U hU hW => ⟨rfl, trivial⟩⟩ rfl rfl hl.1 rfl (lv_room (Nat.le_of_ble_eq_true rfl)) dX8_sell_64 ⟨Nat.le_of_ble_eq_true rfl, Nat.le_of_ble_eq_true rfl⟩) (fun r hw => ?_)
            have hr64 := hw
            subst hr64
            refine lv_evi (bI (tau k (fun i => num (pikeF p (q - 1) plc i)) (q - 1))) (congrArg bI (tau_cong (by omega) hkl)) ?_
            refine lv_if_eq (tgt := 87) gx gb dX8_sell_67 (by decide) (fun c67 => ?_) (fun c67 => ?_)
            · skip
              rw [b0_eq] at c67
              first | (rw [show selB num plc q k p = selB num plc q k (p + 1) from by rw [selB, c67]; exact (Nat.or_zero _).symm] at hl) | (rw [show selB num plc q k p ||| 1 * 2 ^ plc p = selB num plc q k (p + 1) from by rw [selB, c67]; rfl] at hl)
              have hl : lv_has ls 7 [(5, .long (lN (pk 256 (fun i => num (pikeF p (q - 1) plc i)) (q - 1)))), (2, .int (nI (selB num plc q k (p + 1)))), (3, .int (nI (q - 1))), (4, .int (nI p)), (0, .ref h), (1, .int (nI k))] := hl
              refine lv_iinc (v := nI (p + 1)) (lv' := [(4, .int (nI (p + 1))), (5, .long (lN (pk 256 (fun i => num (pikeF p (q - 1) plc i)) (q - 1)))), (2, .int (nI (selB num plc q k (p + 1)))), (3, .int (nI (q - 1))), (0, .ref h), (1, .int (nI k))]) gx gb dX8_sell_87 hl (k := 3) rfl (nI_add p 1) (by decide) rfl (fun ls hl => ?_)
              refine lv_goto (tgt := 25) gx gb dX8_sell_90 (by decide) ?_
              exact ih25 (p + 1) (by omega) (by omega) (by omega) ls (lv_sub hl [2, 3, 0, 4, 5] rfl)
            · skip
              rw [b0_eq] at c67
              have c67 := nf_t c67
              refine lv_iload_n gx gb dX8_sell_70 rfl (lv_at hl 1 rfl) ?_
              refine lv_iconst (v := nI 1) gx gb dX8_sell_71 (by decide) ?_
              refine lv_aload_n gx gb dX8_sell_72 rfl (lv_at hl 4 rfl) ?_
              refine va_get (D := D) (ci := 3) (v := .ref fl) (C := RX8) (T := TX8) (N := 7) gx gb gts i8 gown hK hP 0 rfl rfl 0 (by decide) (gts (.fieldLink RX8 12 "SwanSums" "flock" "LSwanSums$Flock;") (by decide +kernel)) (fun _ h9 => h9) rfl dX8_sell_73 ?_
              refine va_get (D := D) (ci := 0) (v := .int (nI (pk 8 plc q))) (C := RX1) (T := TX1) (N := 6) gx gb gts i1 gown hK hP 1 rfl rfl 2 (by decide) (gts (.fieldLink RX8 79 "SwanSums$Flock" "row" "I") (by decide +kernel)) (fun _ h9 => h9) rfl dX8_sell_76 ?_
              refine lv_iload gx gb dX8_sell_79 (lv_at hl 3 rfl) ?_
              refine vp_callSi (W.runS (As := [.int (nI (pk 8 plc q)), .int (nI p)]) (rest := [.int (nI 1), .int (nI (selB num plc q k p))]) ⟨gx, gb, gml, gown, gts⟩ (kX6_who Gl (pk 8 plc q) p (by omega) (by omega)) (va_cwS 2 gts gX8_sell_X6_who rfl rfl rfl (by decide +kernel) ⟨Nat.le_of_ble_eq_true rfl, Nat.le_of_ble_eq_true rfl⟩) ⟨fun _ _ _ _ h => h, fun U hU hW => ⟨rfl, trivial⟩⟩ rfl rfl hl.1 rfl (lv_room (Nat.le_of_ble_eq_true rfl)) dX8_sell_81 ⟨Nat.le_of_ble_eq_true rfl, Nat.le_of_ble_eq_true rfl⟩) (fun r hw => ?_)
              have hr81 := hw
              subst hr81
              refine lv_evi (nI (plc p)) (congrArg nI (dg_pk hp8 (by omega))) ?_
              refine lv_ishl gx gb dX8_sell_84 ?_
              refine lv_evi (nI (1 * 2 ^ (plc p))) (e_shl _ (by omega)) ?_
              refine lv_ior gx gb dX8_sell_85 ?_
              refine lv_evi (nI ((selB num plc q k p) ||| (1 * 2 ^ (plc p)))) (e_or (selB num plc q k p) (1 * 2 ^ (plc p))) ?_
              refine lv_istore_n (lv' := [(2, .int (nI ((selB num plc q k p) ||| (1 * 2 ^ (plc p))))), (5, .long (lN (pk 256 (fun i => num (pikeF p (q - 1) plc i)) (q - 1)))), (3, .int (nI (q - 1))), (4, .int (nI p)), (0, .ref h), (1, .int (nI k))]) gx gb dX8_sell_86 rfl hl (by decide) rfl (fun ls hl => ?_)
              first | (rw [show selB num plc q k p = selB num plc q k (p + 1) from by rw [selB, c67]; exact (Nat.or_zero _).symm] at hl) | (rw [show selB num plc q k p ||| 1 * 2 ^ plc p = selB num plc q k (p + 1) from by rw [selB, c67]; rfl] at hl)
              have hl : lv_has ls 7 [(2, .int (nI (selB num plc q k (p + 1)))), (5, .long (lN (pk 256 (fun i => num (pikeF p (q - 1) plc i)) (q - 1)))), (3, .int (nI (q - 1))), (4, .int (nI p)), (0, .ref h), (1, .int (nI k))] := hl
              refine lv_iinc (v := nI (p + 1)) (lv' := [(4, .int (nI (p + 1))), (2, .int (nI (selB num plc q k (p + 1)))), (5, .long (lN (pk 256 (fun i => num (pikeF p (q - 1) plc i)) (q - 1)))), (3, .int (nI (q - 1))), (0, .ref h), (1, .int (nI k))]) gx gb dX8_sell_87 hl (k := 3) rfl (nI_add p 1) (by decide) rfl (fun ls hl => ?_)
              refine lv_goto (tgt := 25) gx gb dX8_sell_90 (by decide) ?_
              exact ih25 (p + 1) (by omega) (by omega) (by omega) ls (lv_sub hl [1, 3, 0, 4, 5] rfl)
    exact L25 _ 0 (by omega) (by omega) (Nat.lt_succ_self _) ls (lv_sub hl [2, 1, 0, 3, 4] rfl)
  · skip
    rw [b0_eq] at c4
    simp only [decide_eq_false_iff_not, Decidable.not_not] at c4
    refine lv_bipush (v := zI (-2)) gx gb dX8_sell_7 (by decide) ?_
    exact W.iret (v := zI (-2)) gx gb gr (fun t ht hW => ⟨zI (-2), rfl, (by first | (dsimp only; done) | ((try dsimp only); rw [selZ, if_neg (by omega)])), ht⟩) (fun q h => by cases h) dX8_sell_9

set_option maxHeartbeats 4000000 in
set_option maxRecDepth 100000 in
theorem kX8_worn (Gl : Launch) (D : va_G) (cI cJ cZ : ClassId) (h : Nat) (fl : Nat) (e1 : Nat) (e2 : Nat) (pd : Nat) (sg : Nat) (k1 : Nat) (k2 : Nat) (rv : Value) (n : Nat) (q : Nat) (S : Nat) (c : Nat) (na : Nat) (Na : Nat) (Ra : Nat) (qa : Nat) (Sa : Nat) (ca : Nat) (nb : Nat) (Nb : Nat) (Rb : Nat) (qb : Nat) (Sb : Nat) (cb : Nat) (cnt : Nat) (rb : Nat) (sb : Nat) (g : Nat → Nat) (num plc : Nat → Nat) (a b e_ : Int) (hl_a : -2147483648 ≤ a) (hu_a : a < 2147483648) (hl_b : -2147483648 ≤ b) (hu_b : b < 2147483648) (hl_e_ : -2147483648 ≤ e_) (hu_e_ : e_ < 2147483648) (hn1 : 1 ≤ n) (hn7 : n ≤ 7) (hq1 : 1 ≤ q) (hqn : q ≤ n) (hp : ∀ k, k < q → plc k < n) (hnum : ∀ k, k < n → num k ≤ 99) (hinj : ∀ i j, i < q → j < q → plc i = plc j → i = j) : Met Gl yX8_worn wsX8_worn ({ frames := 3, cells := 0, slots := 0, locals := 88 } : Room) (va_Pc [.ref h, .int (zI a), .int (zI b), .int (zI e_)] (fun U => va_P D vwCl (wX h fl e1 e2 pd sg cI k1 k2 rv n (pk 256 num n) (pk 8 plc q) q S c na Na Ra qa Sa ca nb Nb Rb qb Sb cb cnt rb sb g) U.heap ∧ va_K D vwCl [(cI, .int), (cJ, .long), (cZ, .boolean)] U)) (vp_Si (fun r : Int32 => r = zI (worZ num plc q a b e_))) 0 0 (fun _ => False) := by
  refine Met.ofW (cc := cX8_worn) (maxL := 11) (ret := (some .int)) (by decide +kernel) rfl ?_
  intro Gp Ge Gs Gm Ga Gw Gt Gc G1 Bd gml gv
  obtain ⟨rfl, hP, hK⟩ := gv
  have gx := Bd.exec
  have gb := Bd.bytes
  have gr := Bd.returns
  have gts := atoms_spec (ws := wsX8_worn) Bd.pre
  have gown : Gs.vm.findClass RX8 = some Gm.cls := findClass_of_methodNamed Bd.named
  have glk := Bd.notSynchronized
  have hl := lv_entry ([.ref h, .int (zI a), .int (zI b), .int (zI e_)]) (n := 11) (Nat.le_of_ble_eq_true rfl)
  rw [lg_entry_eq]
  generalize (lg_sl ([.ref h, .int (zI a), .int (zI b), .int (zI e_)]) ++ List.replicate (11 - (lg_sl ([.ref h, .int (zI a), .int (zI b), .int (zI e_)])).length) Slot.unset).toArray = ls at hl ⊢
  have hl : lv_has ls 11 [(0, .ref h), (1, .int (zI a)), (2, .int (zI b)), (3, .int (zI e_))] := hl
  have i1 : ∀ w ∈ wsX10, w ∈ wsX8_worn := by decide +kernel
  have i8 : ∀ w ∈ wsX80, w ∈ wsX8_worn := by decide +kernel
  have hp8 : ∀ k, k < q → plc k < 8 := fun k hk => by have := hp k hk; omega
  have hR8 := pk8_lt hp8 (by omega)
  have hn256 : ∀ k, k < n → num k < 256 := fun k hk => by have := hnum k hk; omega
  have hN63 := pk256_lt hn256 (by omega)
  have hld := lin_dg hnum hp
  have hl63 := pk256_lt (f := (fun x => num (plc x))) (z := q) (fun i hi => by have := hnum _ (hp i hi); show num (plc i) < 256; omega) (by omega)
  refine lv_aload_n gx gb dX8_worn_0 rfl (lv_at hl 0 rfl) ?_
  refine va_get (D := D) (ci := 3) (v := .ref fl) (C := RX8) (T := TX8) (N := 7) gx gb gts i8 gown hK hP 0 rfl rfl 0 (by decide) (gts (.fieldLink RX8 12 "SwanSums" "flock" "LSwanSums$Flock;") (by decide +kernel)) (fun _ h9 => h9) rfl dX8_worn_1 ?_
  refine lv_iload_n gx gb dX8_worn_4 rfl (lv_at hl 1 rfl) ?_
  have hPc := hP.sub (ws' := wF fl n (pk 256 num n) (pk 8 plc q) q S c) [1] rfl
  refine vp_callSi (W.runV (As := [.int (zI a)]) (rest := []) ⟨gx, gb, gml, gown, gts⟩ (kX1_placeOf Gl D cI cJ cZ fl n (pk 256 num n) (pk 8 plc q) q S c a (by omega) (by omega) (by omega) (by omega)) (cwV 1 gts gX8_worn_X1_placeOf rfl rfl rfl (by decide +kernel) ⟨Nat.le_of_ble_eq_true rfl, Nat.le_of_ble_eq_true rfl⟩) ⟨fun a U g mk q => ⟨q.1, q.2.1, va_K.moved (u := U) (U := U.calling g mk a) (Vm.Alike.refl U.vm) q.2.2⟩, va_recv hK hPc (ci := 0) (q0 := 0) rfl rfl, fun U hU hW => ⟨rfl, by rw [hU]; exact hPc, va_K.moved hW.alike hK⟩⟩ rfl rfl hl.1 rfl (lv_room (Nat.le_of_ble_eq_true rfl)) dX8_worn_5 ⟨Nat.le_of_ble_eq_true rfl, Nat.le_of_ble_eq_true rfl⟩) (fun r hw => ?_)
  obtain ⟨r5, rfl⟩ : ∃ z, z = r := ⟨_, rfl⟩
  obtain ⟨z5, rfl, hz5⟩ := hw
  have hzb := plcS_bd hz5
  refine lv_istore (lv' := [(4, .int (zI z5)), (0, .ref h), (1, .int (zI a)), (2, .int (zI b)), (3, .int (zI e_))]) gx gb dX8_worn_8 hl (by decide) rfl (fun ls hl => ?_)
  refine lv_iload gx gb dX8_worn_10 (lv_at hl 0 rfl) ?_
  refine lv_if_ge (tgt := 17) gx gb dX8_worn_12 (by decide) (fun c12 => ?_) (fun c12 => ?_)
  · skip
    rw [z0_ge (by omega) (by omega)] at c12
    obtain ⟨p0, hp0, hpq0, hpa⟩ : ∃ p0 : Nat, z5 = (p0 : Int) ∧ p0 < q ∧ (plc p0 : Int) = a := by rcases hz5 with ⟨p0, e0, h3, h4, h5⟩ | ⟨e0, h3⟩; exact ⟨p0, e0, h3, by rw [dg_pk hp8 h3] at h4; exact h4⟩; omega
    rw [show zI z5 = nI p0 from by rw [hp0, zI_nat]] at hl
    have hl : lv_has ls 11 [(4, .int (nI p0)), (0, .ref h), (1, .int (zI a)), (2, .int (zI b)), (3, .int (zI e_))] := hl
    refine lv_iload_n gx gb dX8_worn_17 rfl (lv_at hl 3 rfl) ?_
    refine vp_callSi (W.runS (As := [.int (zI b)]) (rest := []) ⟨gx, gb, gml, gown, gts⟩ (kX8_isLesson Gl b (by omega) (by omega)) (va_cwS 1 gts gX8_worn_X8_isLesson rfl rfl rfl (by decide +kernel) ⟨Nat.le_of_ble_eq_true rfl, Nat.le_of_ble_eq_true rfl⟩) ⟨fun _ _ _ _ h => h, fun U hU hW => ⟨rfl, trivial⟩⟩ rfl rfl hl.1 rfl (lv_room (Nat.le_of_ble_eq_true rfl)) dX8_worn_18 ⟨Nat.le_of_ble_eq_true rfl, Nat.le_of_ble_eq_true rfl⟩) (fun r hw => ?_)
    have hr18 := hw
    subst hr18
    refine lv_if_eq (tgt := 33) gx gb dX8_worn_21 (by decide) (fun c21 => ?_) (fun c21 => ?_)
    · skip
      rw [b0_eq] at c21
      simp only [decide_eq_false_iff_not, Decidable.not_not] at c21
      refine lv_bipush (v := zI (-2)) gx gb dX8_worn_33 (by decide) ?_
      exact W.iret (v := zI (-2)) gx gb gr (fun t ht hW => ⟨zI (-2), rfl, (by first | (dsimp only; done) | ((try dsimp only); rw [worZ, if_pos ⟨p0, hpq0, hpa⟩, if_neg (by omega)])), ht⟩) (fun q h => by cases h) dX8_worn_35
    · skip
      rw [b0_eq] at c21
      simp only [decide_eq_false_iff_not, Decidable.not_not] at c21
      refine lv_iload_n gx gb dX8_worn_24 rfl (lv_at hl 4 rfl) ?_
      refine lv_if_lt (tgt := 33) gx gb dX8_worn_25 (by decide) (fun c25 => ?_) (fun c25 => ?_)
      · skip
        rw [z0_lt (by omega) (by omega)] at c25
        refine lv_bipush (v := zI (-2)) gx gb dX8_worn_33 (by decide) ?_
        exact W.iret (v := zI (-2)) gx gb gr (fun t ht hW => ⟨zI (-2), rfl, (by first | (dsimp only; done) | ((try dsimp only); rw [worZ, if_pos ⟨p0, hpq0, hpa⟩, if_neg (by omega)])), ht⟩) (fun q h => by cases h) dX8_worn_35
      · skip
        rw [z0_lt (by omega) (by omega)] at c25
        refine lv_iload_n gx gb dX8_worn_28 rfl (lv_at hl 4 rfl) ?_
        refine lv_iconst (v := nI 2) gx gb dX8_worn_29 (by decide) ?_
        refine lv_icmp_le (tgt := 36) gx gb dX8_worn_30 (by decide) (fun c30 => ?_) (fun c30 => ?_)
        · skip
          rw [zn_le (by omega) (by omega) (by omega)] at c30
          obtain ⟨s, hs⟩ : ∃ s : Nat, a = (s : Int) := ⟨a.toNat, by omega⟩
          rw [show zI a = nI s from by rw [hs, zI_nat]] at hl
          obtain ⟨k, hk⟩ : ∃ k : Nat, b = (k : Int) := ⟨b.toNat, by omega⟩
          rw [show zI b = nI k from by rw [hk, zI_nat]] at hl
          have hl : lv_has ls 11 [(4, .int (nI p0)), (0, .ref h), (1, .int (nI s)), (2, .int (nI k)), (3, .int (zI e_))] := hl
          refine lv_aload_n gx gb dX8_worn_36 rfl (lv_at hl 1 rfl) ?_
          refine va_get (D := D) (ci := 3) (v := .ref fl) (C := RX8) (T := TX8) (N := 7) gx gb gts i8 gown hK hP 0 rfl rfl 0 (by decide) (gts (.fieldLink RX8 12 "SwanSums" "flock" "LSwanSums$Flock;") (by decide +kernel)) (fun _ h9 => h9) rfl dX8_worn_37 ?_
          have hPc := hP.sub (ws' := wF fl n (pk 256 num n) (pk 8 plc q) q S c) [1] rfl
          refine vp_callSl (W.runV (As := []) (rest := []) ⟨gx, gb, gml, gown, gts⟩ (kX1_line Gl D cI cJ cZ fl n (pk 256 num n) (pk 8 plc q) q S c  (by omega) (by omega) (by omega)) (cwV 0 gts gX8_worn_X1_line rfl rfl rfl (by decide +kernel) ⟨Nat.le_of_ble_eq_true rfl, Nat.le_of_ble_eq_true rfl⟩) ⟨fun a U g mk q => ⟨q.1, q.2.1, va_K.moved (u := U) (U := U.calling g mk a) (Vm.Alike.refl U.vm) q.2.2⟩, va_recv hK hPc (ci := 0) (q0 := 0) rfl rfl, fun U hU hW => ⟨rfl, by rw [hU]; exact hPc, va_K.moved hW.alike hK⟩⟩ rfl rfl hl.1 rfl (lv_room (Nat.le_of_ble_eq_true rfl)) dX8_worn_40 ⟨Nat.le_of_ble_eq_true rfl, Nat.le_of_ble_eq_true rfl⟩) (fun r hw => ?_)
          have hr40 := hw
          subst hr40
          refine lv_evl (lN (pk 256 (fun x => num (plc x)) q)) (congrArg lN (lin_eq hn7 hnum hp)) ?_
          refine lv_lstore (lv' := [(5, .long (lN (pk 256 (fun x => num (plc x)) q))), (4, .int (nI p0)), (0, .ref h), (1, .int (nI s)), (2, .int (nI k)), (3, .int (zI e_))]) gx gb dX8_worn_43 hl (by decide) rfl (fun ls hl => ?_)
          refine lv_iconst (v := nI 0) gx gb dX8_worn_45 (by decide) ?_
          refine lv_istore (lv' := [(7, .int (nI 0)), (5, .long (lN (pk 256 (fun x => num (plc x)) q))), (4, .int (nI p0)), (0, .ref h), (1, .int (nI s)), (2, .int (nI k)), (3, .int (zI e_))]) gx gb dX8_worn_46 hl (by decide) rfl (fun ls hl => ?_)
          refine lv_bipush (v := zI (-6)) gx gb dX8_worn_48 (by decide) ?_
          refine lv_istore (lv' := [(8, .int (zI (-6))), (7, .int (nI 0)), (5, .long (lN (pk 256 (fun x => num (plc x)) q))), (4, .int (nI p0)), (0, .ref h), (1, .int (nI s)), (2, .int (nI k)), (3, .int (zI e_))]) gx gb dX8_worn_50 hl (by decide) rfl (fun ls hl => ?_)
          refine lv_bipush (v := zI (-6)) gx gb dX8_worn_52 (by decide) ?_
          refine lv_istore (lv' := [(9, .int (zI (-6))), (8, .int (zI (-6))), (7, .int (nI 0)), (5, .long (lN (pk 256 (fun x => num (plc x)) q))), (4, .int (nI p0)), (0, .ref h), (1, .int (nI s)), (2, .int (nI k)), (3, .int (zI e_))]) gx gb dX8_worn_54 hl (by decide) rfl (fun ls hl => ?_)
          refine lv_iconst (v := nI 0) gx gb dX8_worn_56 (by decide) ?_
          refine lv_istore (lv' := [(10, .int (nI 0)), (9, .int (zI (-6))), (8, .int (zI (-6))), (7, .int (nI 0)), (5, .long (lN (pk 256 (fun x => num (plc x)) q))), (4, .int (nI p0)), (0, .ref h), (1, .int (nI s)), (2, .int (nI k)), (3, .int (zI e_))]) gx gb dX8_worn_57 hl (by decide) rfl (fun ls hl => ?_)
          have L59 : ∀ fu : Nat, ∀ (v n_ : Nat) (l_ g_ : Int) (hv : v ≤ 100) (hW : (n_, l_, g_) = wrn (wnP num plc q k s) v), (100 - v) < fu → ∀ ls : Array Slot, lv_has ls 11 [(7, .int (nI n_)), (8, .int (zI l_)), (9, .int (zI g_)), (10, .int (nI v)), (5, .long (lN (pk 256 (fun x => num (plc x)) q))), (4, .int (nI p0)), (0, .ref h), (1, .int (nI s)), (2, .int (nI k)), (3, .int (zI e_))] → W Gp Gl Ge (headSpec wsX8_worn ({ frames := 3, cells := 0, slots := 0, locals := 88 } : Room)).room Gs Gm ([.ref h, .int (zI a), .int (zI b), .int (zI e_)] : List Value).toArray Gw Gt Gc Gs.heap [] 0 0 (MQ Gw (vp_Si (fun r : Int32 => r = zI (worZ num plc q a b e_))) ([.ref h, .int (zI a), .int (zI b), .int (zI e_)] : List Value).toArray Gs 0 0 (fun _ => False)) (F0 Gm 59 ls []) := by
            intro fu
            induction fu with
            | zero => intro v n_ l_ g_ hv hW hfu; exact absurd hfu (Nat.not_lt_zero _)
            | succ fu ih59 =>
              intro v n_ l_ g_ hv hW hfu ls hl
              have hwb := wrn_bd (wnP num plc q k s) v
              rw [← hW] at hwb
              refine lv_iload gx gb dX8_worn_59 (lv_at hl 3 rfl) ?_
              refine lv_bipush (v := nI 99) gx gb dX8_worn_61 (by decide) ?_
              refine lv_icmp_gt (tgt := 116) gx gb dX8_worn_63 (by decide) (fun c63 => ?_) (fun c63 => ?_)
              · skip
                rw [nI_ltI (by omega) (by omega)] at c63
                refine lv_iload_n gx gb dX8_worn_116 rfl (lv_at hl 9 rfl) ?_
                refine lv_if_ne (tgt := 123) gx gb dX8_worn_117 (by decide) (fun c117 => ?_) (fun c117 => ?_)
                · skip
                  rw [z0_eq (by omega) (by omega)] at c117
                  refine lv_iload_n gx gb dX8_worn_123 rfl (lv_at hl 9 rfl) ?_
                  refine lv_iconst (v := nI 1) gx gb dX8_worn_124 (by decide) ?_
                  refine lv_icmp_ne (tgt := 133) gx gb dX8_worn_125 (by decide) (fun c125 => ?_) (fun c125 => ?_)
                  · skip
                    rw [zn_eq (by omega) (by omega) (by omega)] at c125
                    refine lv_iload gx gb dX8_worn_133 (lv_at hl 2 rfl) ?_
                    exact W.iret (v := zI g_) gx gb gr (fun t ht hW => ⟨zI g_, rfl, (by first | (dsimp only; done) | ((try dsimp only); have e9 : v = 100 := (by omega); subst e9; first | (rw [worZ, if_pos ⟨p0, hpq0, by omega⟩, if_pos (by omega), if_neg (by omega), if_pos (by omega), hk, hs]; show zI l_ = zI (wrn (wnP num plc q k s) 100).2.1; rw [← hW]) | (rw [worZ, if_pos ⟨p0, hpq0, by omega⟩, if_pos (by omega), if_neg (by omega), if_neg (by omega), hk, hs]; show zI g_ = zI (wrn (wnP num plc q k s) 100).2.2; rw [← hW]))), ht⟩) (fun q h => by cases h) dX8_worn_135
                  · skip
                    rw [zn_eq (by omega) (by omega) (by omega)] at c125
                    refine lv_iload gx gb dX8_worn_128 (lv_at hl 1 rfl) ?_
                    refine lv_goto (tgt := 135) gx gb dX8_worn_130 (by decide) ?_
                    exact W.iret (v := zI l_) gx gb gr (fun t ht hW => ⟨zI l_, rfl, (by first | (dsimp only; done) | ((try dsimp only); have e9 : v = 100 := (by omega); subst e9; first | (rw [worZ, if_pos ⟨p0, hpq0, by omega⟩, if_pos (by omega), if_neg (by omega), if_pos (by omega), hk, hs]; show zI l_ = zI (wrn (wnP num plc q k s) 100).2.1; rw [← hW]) | (rw [worZ, if_pos ⟨p0, hpq0, by omega⟩, if_pos (by omega), if_neg (by omega), if_neg (by omega), hk, hs]; show zI g_ = zI (wrn (wnP num plc q k s) 100).2.2; rw [← hW]))), ht⟩) (fun q h => by cases h) dX8_worn_135
                · skip
                  rw [z0_eq (by omega) (by omega)] at c117
                  refine lv_iload gx gb dX8_worn_120 (lv_at hl 0 rfl) ?_
                  exact W.iret (v := nI n_) gx gb gr (fun t ht hW => ⟨nI n_, rfl, (by first | (dsimp only; done) | ((try dsimp only); have e9 : v = 100 := (by omega); subst e9; rw [worZ, if_pos ⟨p0, hpq0, by omega⟩, if_pos (by omega), if_pos (by omega), hk, hs]; show nI n_ = zI ((wrn (wnP num plc q k s) 100).1 : Int); rw [← hW]; exact (zI_nat n_).symm)), ht⟩) (fun q h => by cases h) dX8_worn_122
              · skip
                rw [nI_ltI (by omega) (by omega)] at c63
                have hvl : ∀ i, i < q → num (plc i) < 256 := fun i hi => by have := hnum _ (hp i hi); omega
                have hvu : ∀ x, x < q → up (fun x => num (plc x)) p0 v x = up num s v (plc x) := fun x hx => by simp only [up]; by_cases h9 : x = p0; rw [if_pos h9, if_pos (by rw [h9]; omega)]; rw [if_neg h9, if_neg (fun h8 => h9 (hinj x p0 hx hpq0 (by omega)))]
                have hul : ∀ x, x < q → up (fun x => num (plc x)) p0 v x < 256 := fun x hx => by simp only [up]; split; omega; exact hvl x hx
                have hu63 := pk256_lt hul (by omega)
                refine lv_iload_n gx gb dX8_worn_66 rfl (lv_at hl 8 rfl) ?_
                refine lv_lload gx gb dX8_worn_67 (lv_at hl 4 rfl) ?_
                refine lv_iload gx gb dX8_worn_69 (lv_at hl 5 rfl) ?_
                refine lv_iload gx gb dX8_worn_71 (lv_at hl 3 rfl) ?_
                refine vp_callSl (W.runS (As := [.long (lN (pk 256 (fun x => num (plc x)) q)), .int (nI p0), .int (nI v)]) (rest := [.int (nI k)]) ⟨gx, gb, gml, gown, gts⟩ (kX3_with Gl (pk 256 (fun x => num (plc x)) q) p0 v (by omega) (by omega) (by omega)) (va_cwS 3 gts gX8_worn_X3_with rfl rfl rfl (by decide +kernel) ⟨Nat.le_of_ble_eq_true rfl, Nat.le_of_ble_eq_true rfl⟩) ⟨fun _ _ _ _ h => h, fun U hU hW => ⟨rfl, trivial⟩⟩ rfl rfl hl.1 rfl (lv_room (Nat.le_of_ble_eq_true rfl)) dX8_worn_73 ⟨Nat.le_of_ble_eq_true rfl, Nat.le_of_ble_eq_true rfl⟩) (fun r hw => ?_)
                have hr73 := hw
                subst hr73
                refine lv_evl (lN (pk 256 (up (fun x => num (plc x)) p0 v) q)) (congrArg lN (withC_pk hvl hpq0 (by omega))) ?_
                refine lv_aload_n gx gb dX8_worn_76 rfl (lv_at hl 6 rfl) ?_
                refine va_get (D := D) (ci := 3) (v := .ref fl) (C := RX8) (T := TX8) (N := 7) gx gb gts i8 gown hK hP 0 rfl rfl 0 (by decide) (gts (.fieldLink RX8 12 "SwanSums" "flock" "LSwanSums$Flock;") (by decide +kernel)) (fun _ h9 => h9) rfl dX8_worn_77 ?_
                refine va_get (D := D) (ci := 0) (v := .int (nI q)) (C := RX1) (T := TX1) (N := 6) gx gb gts i1 gown hK hP 1 rfl rfl 3 (by decide) (gts (.fieldLink RX8 82 "SwanSums$Flock" "size" "I") (by decide +kernel)) (fun _ h9 => h9) rfl dX8_worn_80 ?_
                refine vp_callSi (W.runS (As := [.int (nI k), .long (lN (pk 256 (up (fun x => num (plc x)) p0 v) q)), .int (nI q)]) (rest := []) ⟨gx, gb, gml, gown, gts⟩ (kX2_teach Gl k (pk 256 (up (fun x => num (plc x)) p0 v) q) q (by omega) (by omega) (by omega) (by omega) (by exact pk99 (fun x hx => by simp only [up]; split; omega; exact hnum _ (hp x hx)))) (va_cwS 3 gts gX8_worn_X2_teach rfl rfl rfl (by decide +kernel) ⟨Nat.le_of_ble_eq_true rfl, Nat.le_of_ble_eq_true rfl⟩) ⟨fun _ _ _ _ h => h, fun U hU hW => ⟨rfl, trivial⟩⟩ rfl rfl hl.1 rfl (lv_room (Nat.le_of_ble_eq_true rfl)) dX8_worn_83 ⟨Nat.le_of_ble_eq_true rfl, Nat.le_of_ble_eq_true rfl⟩) (fun r hw => ?_)
                have hr83 := hw
                subst hr83
                refine lv_evi (bI (wnP num plc q k s v)) (congrArg bI (tau_cong (by omega) (fun x hx => by rw [dg_pk hul hx]; exact hvu x hx))) ?_
                refine lv_if_eq (tgt := 110) gx gb dX8_worn_86 (by decide) (fun c86 => ?_) (fun c86 => ?_)
                · skip
                  rw [b0_eq] at c86
                  refine lv_iinc (v := nI (v + 1)) (lv' := [(10, .int (nI (v + 1))), (7, .int (nI n_)), (8, .int (zI l_)), (9, .int (zI g_)), (5, .long (lN (pk 256 (fun x => num (plc x)) q))), (4, .int (nI p0)), (0, .ref h), (1, .int (nI s)), (2, .int (nI k)), (3, .int (zI e_))]) gx gb dX8_worn_110 hl (k := 3) rfl (nI_add v 1) (by decide) rfl (fun ls hl => ?_)
                  refine lv_goto (tgt := 59) gx gb dX8_worn_113 (by decide) ?_
                  exact ih59 (v + 1) n_ l_ g_ (by omega) (by first | exact wrn_f hW c86 | exact wrn_t hW c86 hxx) (by omega) ls (lv_sub hl [1, 2, 3, 0, 4, 5, 6, 7, 8, 9] rfl)
                · skip
                  rw [b0_eq] at c86
                  have c86 := nf_t c86
                  have L101 : ∀ (x : Int) (hxx : x = if n_ = 0 then ((v : Nat) : Int) else l_), ∀ ls : Array Slot, lv_has ls 11 [(7, .int (nI n_)), (8, .int (zI l_)), (9, .int (zI g_)), (10, .int (nI v)), (5, .long (lN (pk 256 (fun x => num (plc x)) q))), (4, .int (nI p0)), (0, .ref h), (1, .int (nI s)), (2, .int (nI k)), (3, .int (zI e_))] → W Gp Gl Ge (headSpec wsX8_worn ({ frames := 3, cells := 0, slots := 0, locals := 88 } : Room)).room Gs Gm ([.ref h, .int (zI a), .int (zI b), .int (zI e_)] : List Value).toArray Gw Gt Gc Gs.heap [] 0 0 (MQ Gw (vp_Si (fun r : Int32 => r = zI (worZ num plc q a b e_))) ([.ref h, .int (zI a), .int (zI b), .int (zI e_)] : List Value).toArray Gs 0 0 (fun _ => False)) (F0 Gm 101 ls [.int (zI x)]) := by
                    intro x hxx ls hl
                    refine lv_istore (lv' := [(8, .int (zI x)), (7, .int (nI n_)), (9, .int (zI g_)), (10, .int (nI v)), (5, .long (lN (pk 256 (fun x => num (plc x)) q))), (4, .int (nI p0)), (0, .ref h), (1, .int (nI s)), (2, .int (nI k)), (3, .int (zI e_))]) gx gb dX8_worn_101 hl (by decide) rfl (fun ls hl => ?_)
                    refine lv_iload gx gb dX8_worn_103 (lv_at hl 3 rfl) ?_
                    refine lv_evi (zI ((v : Nat) : Int)) (nI_zc v) ?_
                    refine lv_istore (lv' := [(9, .int (zI ((v : Nat) : Int))), (8, .int (zI x)), (7, .int (nI n_)), (10, .int (nI v)), (5, .long (lN (pk 256 (fun x => num (plc x)) q))), (4, .int (nI p0)), (0, .ref h), (1, .int (nI s)), (2, .int (nI k)), (3, .int (zI e_))]) gx gb dX8_worn_105 hl (by decide) rfl (fun ls hl => ?_)
                    refine lv_iinc (v := nI (n_ + 1)) (lv' := [(7, .int (nI (n_ + 1))), (9, .int (zI ((v : Nat) : Int))), (8, .int (zI x)), (10, .int (nI v)), (5, .long (lN (pk 256 (fun x => num (plc x)) q))), (4, .int (nI p0)), (0, .ref h), (1, .int (nI s)), (2, .int (nI k)), (3, .int (zI e_))]) gx gb dX8_worn_107 hl (k := 2) rfl (nI_add n_ 1) (by decide) rfl (fun ls hl => ?_)
                    refine lv_iinc (v := nI (v + 1)) (lv' := [(10, .int (nI (v + 1))), (7, .int (nI (n_ + 1))), (9, .int (zI ((v : Nat) : Int))), (8, .int (zI x)), (5, .long (lN (pk 256 (fun x => num (plc x)) q))), (4, .int (nI p0)), (0, .ref h), (1, .int (nI s)), (2, .int (nI k)), (3, .int (zI e_))]) gx gb dX8_worn_110 hl (k := 3) rfl (nI_add v 1) (by decide) rfl (fun ls hl => ?_)
                    refine lv_goto (tgt := 59) gx gb dX8_worn_113 (by decide) ?_
                    exact ih59 (v + 1) (n_ + 1) x ((v : Nat) : Int) (by omega) (by first | exact wrn_f hW c86 | exact wrn_t hW c86 hxx) (by omega) ls (lv_sub hl [1, 3, 2, 0, 4, 5, 6, 7, 8, 9] rfl)
                  refine lv_iload gx gb dX8_worn_89 (lv_at hl 0 rfl) ?_
                  refine lv_if_ne (tgt := 99) gx gb dX8_worn_91 (by decide) (fun c91 => ?_) (fun c91 => ?_)
                  · skip
                    rw [n0_eq (by omega)] at c91
                    refine lv_iload gx gb dX8_worn_99 (lv_at hl 1 rfl) ?_
                    exact L101 l_ (by first | rw [if_pos (by omega)] | rw [if_neg (by omega)]) ls (lv_sub hl [0, 1, 2, 3, 4, 5, 6, 7, 8, 9] rfl)
                  · skip
                    rw [n0_eq (by omega)] at c91
                    refine lv_iload gx gb dX8_worn_94 (lv_at hl 3 rfl) ?_
                    refine lv_goto (tgt := 101) gx gb dX8_worn_96 (by decide) ?_
                    refine lv_evs [.int (zI ((v : Nat) : Int))] (by simp only [nI_zc]) ?_
                    exact L101 ((v : Nat) : Int) (by first | rw [if_pos (by omega)] | rw [if_neg (by omega)]) ls (lv_sub hl [0, 1, 2, 3, 4, 5, 6, 7, 8, 9] rfl)
          exact L59 _ 0 0 (-6) (-6) (by omega) (by rfl) (Nat.lt_succ_self _) ls (lv_sub hl [3, 2, 1, 0, 4, 5, 6, 7, 8, 9] rfl)
        · skip
          rw [zn_le (by omega) (by omega) (by omega)] at c30
          refine lv_bipush (v := zI (-2)) gx gb dX8_worn_33 (by decide) ?_
          exact W.iret (v := zI (-2)) gx gb gr (fun t ht hW => ⟨zI (-2), rfl, (by first | (dsimp only; done) | ((try dsimp only); rw [worZ, if_pos ⟨p0, hpq0, hpa⟩, if_neg (by omega)])), ht⟩) (fun q h => by cases h) dX8_worn_35
  · skip
    rw [z0_ge (by omega) (by omega)] at c12
    have hnx : ¬ ∃ p, p < q ∧ (plc p : Int) = a := fun ⟨p, h1, h2⟩ => by rcases hz5 with ⟨p0, e0, h3, h4, h5⟩ | ⟨e0, h3⟩; omega; exact h3 p h1 (by rw [dg_pk hp8 h1]; exact h2)
    refine lv_iconst (v := zI (-1)) gx gb dX8_worn_15 (by decide) ?_
    exact W.iret (v := zI (-1)) gx gb gr (fun t ht hW => ⟨zI (-1), rfl, (by first | (dsimp only; done) | ((try dsimp only); rw [worZ, if_neg hnx])), ht⟩) (fun q h => by cases h) dX8_worn_16

set_option maxHeartbeats 4000000 in
set_option maxRecDepth 100000 in
theorem kX8_rivals (Gl : Launch) (D : va_G) (cI cJ cZ : ClassId) (h : Nat) (fl : Nat) (e1 : Nat) (e2 : Nat) (pd : Nat) (sg : Nat) (k1 : Nat) (k2 : Nat) (rv : Value) (n : Nat) (q : Nat) (S : Nat) (c : Nat) (na : Nat) (Na : Nat) (Ra : Nat) (qa : Nat) (Sa : Nat) (ca : Nat) (nb : Nat) (Nb : Nat) (Rb : Nat) (qb : Nat) (Sb : Nat) (cb : Nat) (cnt : Nat) (rb : Nat) (sb : Nat) (g : Nat → Nat) (num plc : Nat → Nat) (a : Int) (hl_a : -2147483648 ≤ a) (hu_a : a < 2147483648) (hn1 : 1 ≤ n) (hn7 : n ≤ 7) (hq1 : 1 ≤ q) (hqn : q ≤ n) (hp : ∀ k, k < q → plc k < n) (hnum : ∀ k, k < n → num k ≤ 99) : Met Gl yX8_rivals wsX8_rivals ({ frames := 15, cells := 0, slots := 0, locals := 330 } : Room) (va_Pc [.ref h, .int (zI a)] (fun U => va_P D vwCl (wX h fl e1 e2 pd sg cI k1 k2 rv n (pk 256 num n) (pk 8 plc q) q S c na Na Ra qa Sa ca nb Nb Rb qb Sb cb cnt rb sb g) U.heap ∧ va_K D vwCl [(cI, .int), (cJ, .long), (cZ, .boolean)] U ∧ va_Nw (.methodLinkNest RX8 170 yX3_lead "SwanSums") U ∧ va_Nw (.methodLinkNest RX8 176 yX3_leadByFirst "SwanSums") U)) (vp_Si (fun r : Int32 => r = zI (rivZ (fun x => num (plc x)) q a))) 0 0 (fun _ => False) := by
  refine Met.ofW (cc := cX8_rivals) (maxL := 5) (ret := (some .int)) (by decide +kernel) rfl ?_
  intro Gp Ge Gs Gm Ga Gw Gt Gc G1 Bd gml gv
  obtain ⟨rfl, hP, hK, hNw170, hNw176⟩ := gv
  have gx := Bd.exec
  have gb := Bd.bytes
  have gr := Bd.returns
  have gts := atoms_spec (ws := wsX8_rivals) Bd.pre
  have gown : Gs.vm.findClass RX8 = some Gm.cls := findClass_of_methodNamed Bd.named
  have glk := Bd.notSynchronized
  have hl := lv_entry ([.ref h, .int (zI a)]) (n := 5) (Nat.le_of_ble_eq_true rfl)
  rw [lg_entry_eq]
  generalize (lg_sl ([.ref h, .int (zI a)]) ++ List.replicate (5 - (lg_sl ([.ref h, .int (zI a)])).length) Slot.unset).toArray = ls at hl ⊢
  have hl : lv_has ls 5 [(0, .ref h), (1, .int (zI a))] := hl
  have i1 : ∀ w ∈ wsX10, w ∈ wsX8_rivals := by decide +kernel
  have i8 : ∀ w ∈ wsX80, w ∈ wsX8_rivals := by decide +kernel
  have hp8 : ∀ k, k < q → plc k < 8 := fun k hk => by have := hp k hk; omega
  have hR8 := pk8_lt hp8 (by omega)
  have hn256 : ∀ k, k < n → num k < 256 := fun k hk => by have := hnum k hk; omega
  have hN63 := pk256_lt hn256 (by omega)
  have hld := lin_dg hnum hp
  have hl63 := pk256_lt (f := (fun x => num (plc x))) (z := q) (fun i hi => by have := hnum _ (hp i hi); show num (plc i) < 256; omega) (by omega)
  have hv256 : ∀ p, p < q → (fun x => num (plc x)) p < 256 := fun p h9 => by have := hnum _ (hp p h9); show num (plc p) < 256; omega
  refine lv_iload_n gx gb dX8_rivals_0 rfl (lv_at hl 1 rfl) ?_
  refine lv_if_lt (tgt := 9) gx gb dX8_rivals_1 (by decide) (fun c1 => ?_) (fun c1 => ?_)
  · skip
    rw [z0_lt (by omega) (by omega)] at c1
    refine lv_bipush (v := zI (-2)) gx gb dX8_rivals_9 (by decide) ?_
    exact W.iret (v := zI (-2)) gx gb gr (fun t ht hW => ⟨zI (-2), rfl, (by first | (dsimp only; done) | ((try dsimp only); rw [rivZ, if_neg (by omega), if_neg (by omega)])), ht⟩) (fun q h => by cases h) dX8_rivals_11
  · skip
    rw [z0_lt (by omega) (by omega)] at c1
    refine lv_iload_n gx gb dX8_rivals_4 rfl (lv_at hl 1 rfl) ?_
    refine lv_iconst (v := nI 1) gx gb dX8_rivals_5 (by decide) ?_
    refine lv_icmp_le (tgt := 12) gx gb dX8_rivals_6 (by decide) (fun c6 => ?_) (fun c6 => ?_)
    · skip
      rw [zn_le (by omega) (by omega) (by omega)] at c6
      refine lv_aload_n gx gb dX8_rivals_12 rfl (lv_at hl 0 rfl) ?_
      refine va_get (D := D) (ci := 3) (v := .ref fl) (C := RX8) (T := TX8) (N := 7) gx gb gts i8 gown hK hP 0 rfl rfl 0 (by decide) (gts (.fieldLink RX8 12 "SwanSums" "flock" "LSwanSums$Flock;") (by decide +kernel)) (fun _ h9 => h9) rfl dX8_rivals_13 ?_
      have hPc := hP.sub (ws' := wF fl n (pk 256 num n) (pk 8 plc q) q S c) [1] rfl
      refine vp_callSl (W.runV (As := []) (rest := []) ⟨gx, gb, gml, gown, gts⟩ (kX1_line Gl D cI cJ cZ fl n (pk 256 num n) (pk 8 plc q) q S c  (by omega) (by omega) (by omega)) (cwV 0 gts gX8_rivals_X1_line rfl rfl rfl (by decide +kernel) ⟨Nat.le_of_ble_eq_true rfl, Nat.le_of_ble_eq_true rfl⟩) ⟨fun a U g mk q => ⟨q.1, q.2.1, va_K.moved (u := U) (U := U.calling g mk a) (Vm.Alike.refl U.vm) q.2.2⟩, va_recv hK hPc (ci := 0) (q0 := 0) rfl rfl, fun U hU hW => ⟨rfl, by rw [hU]; exact hPc, va_K.moved hW.alike hK⟩⟩ rfl rfl hl.1 rfl (lv_room (Nat.le_of_ble_eq_true rfl)) dX8_rivals_16 ⟨Nat.le_of_ble_eq_true rfl, Nat.le_of_ble_eq_true rfl⟩) (fun r hw => ?_)
      have hr16 := hw
      subst hr16
      refine lv_evl (lN (pk 256 (fun x => num (plc x)) q)) (congrArg lN (lin_eq hn7 hnum hp)) ?_
      refine lv_lstore_n (lv' := [(2, .long (lN (pk 256 (fun x => num (plc x)) q))), (0, .ref h), (1, .int (zI a))]) gx gb dX8_rivals_19 rfl hl (by decide) rfl (fun ls hl => ?_)
      refine lv_lload_n gx gb dX8_rivals_20 rfl (lv_at hl 0 rfl) ?_
      refine lv_aload_n gx gb dX8_rivals_21 rfl (lv_at hl 1 rfl) ?_
      refine va_get (D := D) (ci := 3) (v := .ref fl) (C := RX8) (T := TX8) (N := 7) gx gb gts i8 gown hK hP 0 rfl rfl 0 (by decide) (gts (.fieldLink RX8 12 "SwanSums" "flock" "LSwanSums$Flock;") (by decide +kernel)) (fun _ h9 => h9) rfl dX8_rivals_22 ?_
      rcases (show q = 1 ∨ q = 2 ∨ q = 3 ∨ q = 4 ∨ q = 5 ∨ q = 6 ∨ q = 7 by omega) with rfl | rfl | rfl | rfl | rfl | rfl | rfl
      · skip
        refine va_get (D := D) (ci := 0) (v := .int (nI 1)) (C := RX1) (T := TX1) (N := 6) gx gb gts i1 gown hK hP 1 rfl rfl 3 (by decide) (gts (.fieldLink RX8 82 "SwanSums$Flock" "size" "I") (by decide +kernel)) (fun _ h9 => h9) rfl dX8_rivals_25 ?_
        refine vq_callSi (va_runSN (As := [.long (lN (pk 256 (fun x => num (plc x)) 1)), .int (nI 1)]) (rest := []) ⟨gx, gb, gml, gown, gts⟩ (kX3_lead_1 Gl (pk 256 (fun x => num (plc x)) 1) (by omega)) ⟨va_cnB 2 gts gX8_rivals_X3_lead_n170 rfl rfl rfl hNw170 (gts (.initialized RX3) (by decide +kernel)) (by decide +kernel) ⟨Nat.le_of_ble_eq_true rfl, Nat.le_of_ble_eq_true rfl⟩, gts (.static yX3_lead) (by decide +kernel), trivial⟩ ⟨fun _ _ _ _ h => h, fun U hU hW => ⟨rfl, trivial⟩⟩ rfl rfl hl.1 rfl (lv_room (Nat.le_of_ble_eq_true rfl)) dX8_rivals_28 ⟨Nat.le_of_ble_eq_true rfl, Nat.le_of_ble_eq_true rfl⟩) (fun r hw => ?_)
        have hr28 := hw
        subst hr28
        refine lv_evi (zI (ldv (fun x => num (plc x)) 0 1)) (congrArg zI (ldN_ldv hv256 _ 0 _ (by omega) (fun i hi => by rw [hld i (by omega), Nat.zero_add]))) ?_
        have hg1 := gv_ld (fun x => num (plc x)) 1 0
        have hg2 := gv_ld (fun x => num (plc x)) 0 1
        have hgl1 := gv_le (fun x => num (plc x)) 1 0
        have hgl2 := gv_le (fun x => num (plc x)) 0 1
        have hs1 := sm_le (v := (fun x => num (plc x))) (a := 0) (c := 99) (n := 1) (fun x hx => hnum _ (hp _ (by omega)))
        have hs2 := sm_le (v := (fun x => num (plc x))) (a := 1) (c := 99) (n := 0) (fun x hx => hnum _ (hp _ (by omega)))
        have hv0 : (fun x => num (plc x)) 0 < 256 := hv256 0 (by omega)
        refine lv_istore (lv' := [(4, .int (zI (ldv (fun x => num (plc x)) 0 1))), (2, .long (lN (pk 256 (fun x => num (plc x)) 1))), (0, .ref h), (1, .int (zI a))]) gx gb dX8_rivals_31 hl (by decide) rfl (fun ls hl => ?_)
        refine lv_iload_n gx gb dX8_rivals_33 rfl (lv_at hl 3 rfl) ?_
        refine lv_if_ne (tgt := 55) gx gb dX8_rivals_34 (by decide) (fun c34 => ?_) (fun c34 => ?_)
        · skip
          rw [z0_eq (by omega) (by omega)] at c34
          refine lv_lload_n gx gb dX8_rivals_55 rfl (lv_at hl 1 rfl) ?_
          refine lv_aload_n gx gb dX8_rivals_56 rfl (lv_at hl 2 rfl) ?_
          refine va_get (D := D) (ci := 3) (v := .ref fl) (C := RX8) (T := TX8) (N := 7) gx gb gts i8 gown hK hP 0 rfl rfl 0 (by decide) (gts (.fieldLink RX8 12 "SwanSums" "flock" "LSwanSums$Flock;") (by decide +kernel)) (fun _ h9 => h9) rfl dX8_rivals_57 ?_
          refine va_get (D := D) (ci := 0) (v := .int (nI 1)) (C := RX1) (T := TX1) (N := 6) gx gb gts i1 gown hK hP 1 rfl rfl 3 (by decide) (gts (.fieldLink RX8 82 "SwanSums$Flock" "size" "I") (by decide +kernel)) (fun _ h9 => h9) rfl dX8_rivals_60 ?_
          refine vq_callSi (va_runSN (As := [.long (lN (pk 256 (fun x => num (plc x)) 1)), .int (nI 1)]) (rest := []) ⟨gx, gb, gml, gown, gts⟩ (kX3_leadByFirst_1 Gl (pk 256 (fun x => num (plc x)) 1) (by omega)) ⟨va_cnB 2 gts gX8_rivals_X3_leadByFirst_n176 rfl rfl rfl hNw176 (gts (.initialized RX3) (by decide +kernel)) (by decide +kernel) ⟨Nat.le_of_ble_eq_true rfl, Nat.le_of_ble_eq_true rfl⟩, gts (.static yX3_leadByFirst) (by decide +kernel), trivial⟩ ⟨fun _ _ _ _ h => h, fun U hU hW => ⟨rfl, trivial⟩⟩ rfl rfl hl.1 rfl (lv_room (Nat.le_of_ble_eq_true rfl)) dX8_rivals_63 ⟨Nat.le_of_ble_eq_true rfl, Nat.le_of_ble_eq_true rfl⟩) (fun r hw => ?_)
          have hr63 := hw
          subst hr63
          refine lv_evi (zI ((((fun x => num (plc x)) 0 : Nat) : Int) - ldv (fun x => num (plc x)) 1 0)) (congrArg zI (by rw [hld 0 (by omega), ldN_ldv hv256 _ 1 _ (by omega) (fun i hi => by rw [← dg_s, hld (i + 1) (by omega)]; exact congrArg num (congrArg plc (by omega)))])) ?_
          refine lv_iload gx gb dX8_rivals_66 (lv_at hl 0 rfl) ?_
          refine lv_icmp_ne (tgt := 75) gx gb dX8_rivals_68 (by decide) (fun c68 => ?_) (fun c68 => ?_)
          · skip
            rw [zI_eq (by omega) (by omega) (by omega) (by omega)] at c68
            refine lv_iconst (v := nI 1) gx gb dX8_rivals_75 (by decide) ?_
            exact W.iret (v := nI 1) gx gb gr (fun t ht hW => ⟨nI 1, rfl, (by first | (dsimp only; done) | ((try dsimp only); first | (rw [rivZ, if_neg (by omega), if_pos (by omega), zI_nat]; exact congrArg nI ((riv_e (fun x => num (plc x)) 0).trans (if_pos c68)).symm) | (rw [rivZ, if_neg (by omega), if_pos (by omega), zI_nat]; exact congrArg nI ((riv_e (fun x => num (plc x)) 0).trans (if_neg c68)).symm))), ht⟩) (fun q h => by cases h) dX8_rivals_76
          · skip
            rw [zI_eq (by omega) (by omega) (by omega) (by omega)] at c68
            refine lv_iconst (v := nI 0) gx gb dX8_rivals_71 (by decide) ?_
            refine lv_goto (tgt := 76) gx gb dX8_rivals_72 (by decide) ?_
            exact W.iret (v := nI 0) gx gb gr (fun t ht hW => ⟨nI 0, rfl, (by first | (dsimp only; done) | ((try dsimp only); first | (rw [rivZ, if_neg (by omega), if_pos (by omega), zI_nat]; exact congrArg nI ((riv_e (fun x => num (plc x)) 0).trans (if_pos c68)).symm) | (rw [rivZ, if_neg (by omega), if_pos (by omega), zI_nat]; exact congrArg nI ((riv_e (fun x => num (plc x)) 0).trans (if_neg c68)).symm))), ht⟩) (fun q h => by cases h) dX8_rivals_76
        · skip
          rw [z0_eq (by omega) (by omega)] at c34
          refine lv_lload_n gx gb dX8_rivals_37 rfl (lv_at hl 1 rfl) ?_
          refine lv_iconst (v := nI 0) gx gb dX8_rivals_38 (by decide) ?_
          refine lv_aload_n gx gb dX8_rivals_39 rfl (lv_at hl 2 rfl) ?_
          refine va_get (D := D) (ci := 3) (v := .ref fl) (C := RX8) (T := TX8) (N := 7) gx gb gts i8 gown hK hP 0 rfl rfl 0 (by decide) (gts (.fieldLink RX8 12 "SwanSums" "flock" "LSwanSums$Flock;") (by decide +kernel)) (fun _ h9 => h9) rfl dX8_rivals_40 ?_
          refine va_get (D := D) (ci := 0) (v := .int (nI 1)) (C := RX1) (T := TX1) (N := 6) gx gb gts i1 gown hK hP 1 rfl rfl 3 (by decide) (gts (.fieldLink RX8 82 "SwanSums$Flock" "size" "I") (by decide +kernel)) (fun _ h9 => h9) rfl dX8_rivals_43 ?_
          refine vp_callSi (W.runS (As := [.long (lN (pk 256 (fun x => num (plc x)) 1)), .int (nI 0), .int (nI 1)]) (rest := []) ⟨gx, gb, gml, gown, gts⟩ (kX3_sum Gl (pk 256 (fun x => num (plc x)) 1) 0 1 (by omega) (by omega) (by omega)) (va_cwS 3 gts gX8_rivals_X3_sum rfl rfl rfl (by decide +kernel) ⟨Nat.le_of_ble_eq_true rfl, Nat.le_of_ble_eq_true rfl⟩) ⟨fun _ _ _ _ h => h, fun U hU hW => ⟨rfl, trivial⟩⟩ rfl rfl hl.1 rfl (lv_room (Nat.le_of_ble_eq_true rfl)) dX8_rivals_46 ⟨Nat.le_of_ble_eq_true rfl, Nat.le_of_ble_eq_true rfl⟩) (fun r hw => ?_)
          have hr46 := hw
          subst hr46
          refine lv_evi (nI (sm (fun x => num (plc x)) 0 1)) (congrArg nI (sm_cong (fun i hi => by rw [hld _ (by omega)]))) ?_
          refine lv_iload gx gb dX8_rivals_49 (lv_at hl 0 rfl) ?_
          refine lv_iadd gx gb dX8_rivals_51 ?_
          refine lv_evi (zI (((sm (fun x => num (plc x)) 0 1 : Nat) : Int) + (ldv (fun x => num (plc x)) 0 1))) (by rw [nI_zc (sm (fun x => num (plc x)) 0 1)]; exact zI_add ((sm (fun x => num (plc x)) 0 1 : Nat) : Int) (ldv (fun x => num (plc x)) 0 1)) ?_
          refine lv_evi (nI (2 * gv (fun x => num (plc x)) 0 1)) (by rw [← zI_nat]; congr 1; omega) ?_
          refine lv_iconst (v := nI 2) gx gb dX8_rivals_52 (by decide) ?_
          refine lv_idiv gx gb dX8_rivals_53 (nI_ne0 (by omega) (by omega)) ?_
          refine lv_evi (nI ((2 * gv (fun x => num (plc x)) 0 1) / 2)) (e_div (by omega) (by omega) (by omega)) ?_
          refine lv_evi (nI (gv (fun x => num (plc x)) 0 1)) (congrArg nI (by omega)) ?_
          exact W.iret (v := nI (gv (fun x => num (plc x)) 0 1)) gx gb gr (fun t ht hW => ⟨nI (gv (fun x => num (plc x)) 0 1), rfl, (by first | (dsimp only; done) | ((try dsimp only); rw [rivZ, if_pos (by omega), zI_nat])), ht⟩) (fun q h => by cases h) dX8_rivals_54
      · skip
        refine va_get (D := D) (ci := 0) (v := .int (nI 2)) (C := RX1) (T := TX1) (N := 6) gx gb gts i1 gown hK hP 1 rfl rfl 3 (by decide) (gts (.fieldLink RX8 82 "SwanSums$Flock" "size" "I") (by decide +kernel)) (fun _ h9 => h9) rfl dX8_rivals_25 ?_
        refine vq_callSi (va_runSN (As := [.long (lN (pk 256 (fun x => num (plc x)) 2)), .int (nI 2)]) (rest := []) ⟨gx, gb, gml, gown, gts⟩ (kX3_lead_2 Gl (pk 256 (fun x => num (plc x)) 2) (by omega)) ⟨va_cnB 2 gts gX8_rivals_X3_lead_n170 rfl rfl rfl hNw170 (gts (.initialized RX3) (by decide +kernel)) (by decide +kernel) ⟨Nat.le_of_ble_eq_true rfl, Nat.le_of_ble_eq_true rfl⟩, gts (.static yX3_lead) (by decide +kernel), trivial⟩ ⟨fun _ _ _ _ h => h, fun U hU hW => ⟨rfl, trivial⟩⟩ rfl rfl hl.1 rfl (lv_room (Nat.le_of_ble_eq_true rfl)) dX8_rivals_28 ⟨Nat.le_of_ble_eq_true rfl, Nat.le_of_ble_eq_true rfl⟩) (fun r hw => ?_)
        have hr28 := hw
        subst hr28
        refine lv_evi (zI (ldv (fun x => num (plc x)) 0 2)) (congrArg zI (ldN_ldv hv256 _ 0 _ (by omega) (fun i hi => by rw [hld i (by omega), Nat.zero_add]))) ?_
        have hg1 := gv_ld (fun x => num (plc x)) 2 0
        have hg2 := gv_ld (fun x => num (plc x)) 1 1
        have hgl1 := gv_le (fun x => num (plc x)) 2 0
        have hgl2 := gv_le (fun x => num (plc x)) 1 1
        have hs1 := sm_le (v := (fun x => num (plc x))) (a := 0) (c := 99) (n := 2) (fun x hx => hnum _ (hp _ (by omega)))
        have hs2 := sm_le (v := (fun x => num (plc x))) (a := 1) (c := 99) (n := 1) (fun x hx => hnum _ (hp _ (by omega)))
        have hv0 : (fun x => num (plc x)) 0 < 256 := hv256 0 (by omega)
        refine lv_istore (lv' := [(4, .int (zI (ldv (fun x => num (plc x)) 0 2))), (2, .long (lN (pk 256 (fun x => num (plc x)) 2))), (0, .ref h), (1, .int (zI a))]) gx gb dX8_rivals_31 hl (by decide) rfl (fun ls hl => ?_)
        refine lv_iload_n gx gb dX8_rivals_33 rfl (lv_at hl 3 rfl) ?_
        refine lv_if_ne (tgt := 55) gx gb dX8_rivals_34 (by decide) (fun c34 => ?_) (fun c34 => ?_)
        · skip
          rw [z0_eq (by omega) (by omega)] at c34
          refine lv_lload_n gx gb dX8_rivals_55 rfl (lv_at hl 1 rfl) ?_
          refine lv_aload_n gx gb dX8_rivals_56 rfl (lv_at hl 2 rfl) ?_
          refine va_get (D := D) (ci := 3) (v := .ref fl) (C := RX8) (T := TX8) (N := 7) gx gb gts i8 gown hK hP 0 rfl rfl 0 (by decide) (gts (.fieldLink RX8 12 "SwanSums" "flock" "LSwanSums$Flock;") (by decide +kernel)) (fun _ h9 => h9) rfl dX8_rivals_57 ?_
          refine va_get (D := D) (ci := 0) (v := .int (nI 2)) (C := RX1) (T := TX1) (N := 6) gx gb gts i1 gown hK hP 1 rfl rfl 3 (by decide) (gts (.fieldLink RX8 82 "SwanSums$Flock" "size" "I") (by decide +kernel)) (fun _ h9 => h9) rfl dX8_rivals_60 ?_
          refine vq_callSi (va_runSN (As := [.long (lN (pk 256 (fun x => num (plc x)) 2)), .int (nI 2)]) (rest := []) ⟨gx, gb, gml, gown, gts⟩ (kX3_leadByFirst_2 Gl (pk 256 (fun x => num (plc x)) 2) (by omega)) ⟨va_cnB 2 gts gX8_rivals_X3_leadByFirst_n176 rfl rfl rfl hNw176 (gts (.initialized RX3) (by decide +kernel)) (by decide +kernel) ⟨Nat.le_of_ble_eq_true rfl, Nat.le_of_ble_eq_true rfl⟩, gts (.static yX3_leadByFirst) (by decide +kernel), trivial⟩ ⟨fun _ _ _ _ h => h, fun U hU hW => ⟨rfl, trivial⟩⟩ rfl rfl hl.1 rfl (lv_room (Nat.le_of_ble_eq_true rfl)) dX8_rivals_63 ⟨Nat.le_of_ble_eq_true rfl, Nat.le_of_ble_eq_true rfl⟩) (fun r hw => ?_)
          have hr63 := hw
          subst hr63
          refine lv_evi (zI ((((fun x => num (plc x)) 0 : Nat) : Int) - ldv (fun x => num (plc x)) 1 1)) (congrArg zI (by rw [hld 0 (by omega), ldN_ldv hv256 _ 1 _ (by omega) (fun i hi => by rw [← dg_s, hld (i + 1) (by omega)]; exact congrArg num (congrArg plc (by omega)))])) ?_
          refine lv_iload gx gb dX8_rivals_66 (lv_at hl 0 rfl) ?_
          refine lv_icmp_ne (tgt := 75) gx gb dX8_rivals_68 (by decide) (fun c68 => ?_) (fun c68 => ?_)
          · skip
            rw [zI_eq (by omega) (by omega) (by omega) (by omega)] at c68
            refine lv_iconst (v := nI 1) gx gb dX8_rivals_75 (by decide) ?_
            exact W.iret (v := nI 1) gx gb gr (fun t ht hW => ⟨nI 1, rfl, (by first | (dsimp only; done) | ((try dsimp only); first | (rw [rivZ, if_neg (by omega), if_pos (by omega), zI_nat]; exact congrArg nI ((riv_e (fun x => num (plc x)) 1).trans (if_pos c68)).symm) | (rw [rivZ, if_neg (by omega), if_pos (by omega), zI_nat]; exact congrArg nI ((riv_e (fun x => num (plc x)) 1).trans (if_neg c68)).symm))), ht⟩) (fun q h => by cases h) dX8_rivals_76
          · skip
            rw [zI_eq (by omega) (by omega) (by omega) (by omega)] at c68
            refine lv_iconst (v := nI 0) gx gb dX8_rivals_71 (by decide) ?_
            refine lv_goto (tgt := 76) gx gb dX8_rivals_72 (by decide) ?_
            exact W.iret (v := nI 0) gx gb gr (fun t ht hW => ⟨nI 0, rfl, (by first | (dsimp only; done) | ((try dsimp only); first | (rw [rivZ, if_neg (by omega), if_pos (by omega), zI_nat]; exact congrArg nI ((riv_e (fun x => num (plc x)) 1).trans (if_pos c68)).symm) | (rw [rivZ, if_neg (by omega), if_pos (by omega), zI_nat]; exact congrArg nI ((riv_e (fun x => num (plc x)) 1).trans (if_neg c68)).symm))), ht⟩) (fun q h => by cases h) dX8_rivals_76
        · skip
          rw [z0_eq (by omega) (by omega)] at c34
          refine lv_lload_n gx gb dX8_rivals_37 rfl (lv_at hl 1 rfl) ?_
          refine lv_iconst (v := nI 0) gx gb dX8_rivals_38 (by decide) ?_
          refine lv_aload_n gx gb dX8_rivals_39 rfl (lv_at hl 2 rfl) ?_
          refine va_get (D := D) (ci := 3) (v := .ref fl) (C := RX8) (T := TX8) (N := 7) gx gb gts i8 gown hK hP 0 rfl rfl 0 (by decide) (gts (.fieldLink RX8 12 "SwanSums" "flock" "LSwanSums$Flock;") (by decide +kernel)) (fun _ h9 => h9) rfl dX8_rivals_40 ?_
          refine va_get (D := D) (ci := 0) (v := .int (nI 2)) (C := RX1) (T := TX1) (N := 6) gx gb gts i1 gown hK hP 1 rfl rfl 3 (by decide) (gts (.fieldLink RX8 82 "SwanSums$Flock" "size" "I") (by decide +kernel)) (fun _ h9 => h9) rfl dX8_rivals_43 ?_
          refine vp_callSi (W.runS (As := [.long (lN (pk 256 (fun x => num (plc x)) 2)), .int (nI 0), .int (nI 2)]) (rest := []) ⟨gx, gb, gml, gown, gts⟩ (kX3_sum Gl (pk 256 (fun x => num (plc x)) 2) 0 2 (by omega) (by omega) (by omega)) (va_cwS 3 gts gX8_rivals_X3_sum rfl rfl rfl (by decide +kernel) ⟨Nat.le_of_ble_eq_true rfl, Nat.le_of_ble_eq_true rfl⟩) ⟨fun _ _ _ _ h => h, fun U hU hW => ⟨rfl, trivial⟩⟩ rfl rfl hl.1 rfl (lv_room (Nat.le_of_ble_eq_true rfl)) dX8_rivals_46 ⟨Nat.le_of_ble_eq_true rfl, Nat.le_of_ble_eq_true rfl⟩) (fun r hw => ?_)
          have hr46 := hw
          subst hr46
          refine lv_evi (nI (sm (fun x => num (plc x)) 0 2)) (congrArg nI (sm_cong (fun i hi => by rw [hld _ (by omega)]))) ?_
          refine lv_iload gx gb dX8_rivals_49 (lv_at hl 0 rfl) ?_
          refine lv_iadd gx gb dX8_rivals_51 ?_
          refine lv_evi (zI (((sm (fun x => num (plc x)) 0 2 : Nat) : Int) + (ldv (fun x => num (plc x)) 0 2))) (by rw [nI_zc (sm (fun x => num (plc x)) 0 2)]; exact zI_add ((sm (fun x => num (plc x)) 0 2 : Nat) : Int) (ldv (fun x => num (plc x)) 0 2)) ?_
          refine lv_evi (nI (2 * gv (fun x => num (plc x)) 0 2)) (by rw [← zI_nat]; congr 1; omega) ?_
          refine lv_iconst (v := nI 2) gx gb dX8_rivals_52 (by decide) ?_
          refine lv_idiv gx gb dX8_rivals_53 (nI_ne0 (by omega) (by omega)) ?_
          refine lv_evi (nI ((2 * gv (fun x => num (plc x)) 0 2) / 2)) (e_div (by omega) (by omega) (by omega)) ?_
          refine lv_evi (nI (gv (fun x => num (plc x)) 0 2)) (congrArg nI (by omega)) ?_
          exact W.iret (v := nI (gv (fun x => num (plc x)) 0 2)) gx gb gr (fun t ht hW => ⟨nI (gv (fun x => num (plc x)) 0 2), rfl, (by first | (dsimp only; done) | ((try dsimp only); rw [rivZ, if_pos (by omega), zI_nat])), ht⟩) (fun q h => by cases h) dX8_rivals_54
      · skip
        refine va_get (D := D) (ci := 0) (v := .int (nI 3)) (C := RX1) (T := TX1) (N := 6) gx gb gts i1 gown hK hP 1 rfl rfl 3 (by decide) (gts (.fieldLink RX8 82 "SwanSums$Flock" "size" "I") (by decide +kernel)) (fun _ h9 => h9) rfl dX8_rivals_25 ?_
        refine vq_callSi (va_runSN (As := [.long (lN (pk 256 (fun x => num (plc x)) 3)), .int (nI 3)]) (rest := []) ⟨gx, gb, gml, gown, gts⟩ (kX3_lead_3 Gl (pk 256 (fun x => num (plc x)) 3) (by omega)) ⟨va_cnB 2 gts gX8_rivals_X3_lead_n170 rfl rfl rfl hNw170 (gts (.initialized RX3) (by decide +kernel)) (by decide +kernel) ⟨Nat.le_of_ble_eq_true rfl, Nat.le_of_ble_eq_true rfl⟩, gts (.static yX3_lead) (by decide +kernel), trivial⟩ ⟨fun _ _ _ _ h => h, fun U hU hW => ⟨rfl, trivial⟩⟩ rfl rfl hl.1 rfl (lv_room (Nat.le_of_ble_eq_true rfl)) dX8_rivals_28 ⟨Nat.le_of_ble_eq_true rfl, Nat.le_of_ble_eq_true rfl⟩) (fun r hw => ?_)
        have hr28 := hw
        subst hr28
        refine lv_evi (zI (ldv (fun x => num (plc x)) 0 3)) (congrArg zI (ldN_ldv hv256 _ 0 _ (by omega) (fun i hi => by rw [hld i (by omega), Nat.zero_add]))) ?_
        have hg1 := gv_ld (fun x => num (plc x)) 3 0
        have hg2 := gv_ld (fun x => num (plc x)) 2 1
        have hgl1 := gv_le (fun x => num (plc x)) 3 0
        have hgl2 := gv_le (fun x => num (plc x)) 2 1
        have hs1 := sm_le (v := (fun x => num (plc x))) (a := 0) (c := 99) (n := 3) (fun x hx => hnum _ (hp _ (by omega)))
        have hs2 := sm_le (v := (fun x => num (plc x))) (a := 1) (c := 99) (n := 2) (fun x hx => hnum _ (hp _ (by omega)))
        have hv0 : (fun x => num (plc x)) 0 < 256 := hv256 0 (by omega)
        refine lv_istore (lv' := [(4, .int (zI (ldv (fun x => num (plc x)) 0 3))), (2, .long (lN (pk 256 (fun x => num (plc x)) 3))), (0, .ref h), (1, .int (zI a))]) gx gb dX8_rivals_31 hl (by decide) rfl (fun ls hl => ?_)
        refine lv_iload_n gx gb dX8_rivals_33 rfl (lv_at hl 3 rfl) ?_
        refine lv_if_ne (tgt := 55) gx gb dX8_rivals_34 (by decide) (fun c34 => ?_) (fun c34 => ?_)
        · skip
          rw [z0_eq (by omega) (by omega)] at c34
          refine lv_lload_n gx gb dX8_rivals_55 rfl (lv_at hl 1 rfl) ?_
          refine lv_aload_n gx gb dX8_rivals_56 rfl (lv_at hl 2 rfl) ?_
          refine va_get (D := D) (ci := 3) (v := .ref fl) (C := RX8) (T := TX8) (N := 7) gx gb gts i8 gown hK hP 0 rfl rfl 0 (by decide) (gts (.fieldLink RX8 12 "SwanSums" "flock" "LSwanSums$Flock;") (by decide +kernel)) (fun _ h9 => h9) rfl dX8_rivals_57 ?_
          refine va_get (D := D) (ci := 0) (v := .int (nI 3)) (C := RX1) (T := TX1) (N := 6) gx gb gts i1 gown hK hP 1 rfl rfl 3 (by decide) (gts (.fieldLink RX8 82 "SwanSums$Flock" "size" "I") (by decide +kernel)) (fun _ h9 => h9) rfl dX8_rivals_60 ?_
          refine vq_callSi (va_runSN (As := [.long (lN (pk 256 (fun x => num (plc x)) 3)), .int (nI 3)]) (rest := []) ⟨gx, gb, gml, gown, gts⟩ (kX3_leadByFirst_3 Gl (pk 256 (fun x => num (plc x)) 3) (by omega)) ⟨va_cnB 2 gts gX8_rivals_X3_leadByFirst_n176 rfl rfl rfl hNw176 (gts (.initialized RX3) (by decide +kernel)) (by decide +kernel) ⟨Nat.le_of_ble_eq_true rfl, Nat.le_of_ble_eq_true rfl⟩, gts (.static yX3_leadByFirst) (by decide +kernel), trivial⟩ ⟨fun _ _ _ _ h => h, fun U hU hW => ⟨rfl, trivial⟩⟩ rfl rfl hl.1 rfl (lv_room (Nat.le_of_ble_eq_true rfl)) dX8_rivals_63 ⟨Nat.le_of_ble_eq_true rfl, Nat.le_of_ble_eq_true rfl⟩) (fun r hw => ?_)
          have hr63 := hw
          subst hr63
          refine lv_evi (zI ((((fun x => num (plc x)) 0 : Nat) : Int) - ldv (fun x => num (plc x)) 1 2)) (congrArg zI (by rw [hld 0 (by omega), ldN_ldv hv256 _ 1 _ (by omega) (fun i hi => by rw [← dg_s, hld (i + 1) (by omega)]; exact congrArg num (congrArg plc (by omega)))])) ?_
          refine lv_iload gx gb dX8_rivals_66 (lv_at hl 0 rfl) ?_
          refine lv_icmp_ne (tgt := 75) gx gb dX8_rivals_68 (by decide) (fun c68 => ?_) (fun c68 => ?_)
          · skip
            rw [zI_eq (by omega) (by omega) (by omega) (by omega)] at c68
            refine lv_iconst (v := nI 1) gx gb dX8_rivals_75 (by decide) ?_
            exact W.iret (v := nI 1) gx gb gr (fun t ht hW => ⟨nI 1, rfl, (by first | (dsimp only; done) | ((try dsimp only); first | (rw [rivZ, if_neg (by omega), if_pos (by omega), zI_nat]; exact congrArg nI ((riv_e (fun x => num (plc x)) 2).trans (if_pos c68)).symm) | (rw [rivZ, if_neg (by omega), if_pos (by omega), zI_nat]; exact congrArg nI ((riv_e (fun x => num (plc x)) 2).trans (if_neg c68)).symm))), ht⟩) (fun q h => by cases h) dX8_rivals_76
          · skip
            rw [zI_eq (by omega) (by omega) (by omega) (by omega)] at c68
            refine lv_iconst (v := nI 0) gx gb dX8_rivals_71 (by decide) ?_
            refine lv_goto (tgt := 76) gx gb dX8_rivals_72 (by decide) ?_
            exact W.iret (v := nI 0) gx gb gr (fun t ht hW => ⟨nI 0, rfl, (by first | (dsimp only; done) | ((try dsimp only); first | (rw [rivZ, if_neg (by omega), if_pos (by omega), zI_nat]; exact congrArg nI ((riv_e (fun x => num (plc x)) 2).trans (if_pos c68)).symm) | (rw [rivZ, if_neg (by omega), if_pos (by omega), zI_nat]; exact congrArg nI ((riv_e (fun x => num (plc x)) 2).trans (if_neg c68)).symm))), ht⟩) (fun q h => by cases h) dX8_rivals_76
        · skip
          rw [z0_eq (by omega) (by omega)] at c34
          refine lv_lload_n gx gb dX8_rivals_37 rfl (lv_at hl 1 rfl) ?_
          refine lv_iconst (v := nI 0) gx gb dX8_rivals_38 (by decide) ?_
          refine lv_aload_n gx gb dX8_rivals_39 rfl (lv_at hl 2 rfl) ?_
          refine va_get (D := D) (ci := 3) (v := .ref fl) (C := RX8) (T := TX8) (N := 7) gx gb gts i8 gown hK hP 0 rfl rfl 0 (by decide) (gts (.fieldLink RX8 12 "SwanSums" "flock" "LSwanSums$Flock;") (by decide +kernel)) (fun _ h9 => h9) rfl dX8_rivals_40 ?_
          refine va_get (D := D) (ci := 0) (v := .int (nI 3)) (C := RX1) (T := TX1) (N := 6) gx gb gts i1 gown hK hP 1 rfl rfl 3 (by decide) (gts (.fieldLink RX8 82 "SwanSums$Flock" "size" "I") (by decide +kernel)) (fun _ h9 => h9) rfl dX8_rivals_43 ?_
          refine vp_callSi (W.runS (As := [.long (lN (pk 256 (fun x => num (plc x)) 3)), .int (nI 0), .int (nI 3)]) (rest := []) ⟨gx, gb, gml, gown, gts⟩ (kX3_sum Gl (pk 256 (fun x => num (plc x)) 3) 0 3 (by omega) (by omega) (by omega)) (va_cwS 3 gts gX8_rivals_X3_sum rfl rfl rfl (by decide +kernel) ⟨Nat.le_of_ble_eq_true rfl, Nat.le_of_ble_eq_true rfl⟩) ⟨fun _ _ _ _ h => h, fun U hU hW => ⟨rfl, trivial⟩⟩ rfl rfl hl.1 rfl (lv_room (Nat.le_of_ble_eq_true rfl)) dX8_rivals_46 ⟨Nat.le_of_ble_eq_true rfl, Nat.le_of_ble_eq_true rfl⟩) (fun r hw => ?_)
          have hr46 := hw
          subst hr46
          refine lv_evi (nI (sm (fun x => num (plc x)) 0 3)) (congrArg nI (sm_cong (fun i hi => by rw [hld _ (by omega)]))) ?_
          refine lv_iload gx gb dX8_rivals_49 (lv_at hl 0 rfl) ?_
          refine lv_iadd gx gb dX8_rivals_51 ?_
          refine lv_evi (zI (((sm (fun x => num (plc x)) 0 3 : Nat) : Int) + (ldv (fun x => num (plc x)) 0 3))) (by rw [nI_zc (sm (fun x => num (plc x)) 0 3)]; exact zI_add ((sm (fun x => num (plc x)) 0 3 : Nat) : Int) (ldv (fun x => num (plc x)) 0 3)) ?_
          refine lv_evi (nI (2 * gv (fun x => num (plc x)) 0 3)) (by rw [← zI_nat]; congr 1; omega) ?_
          refine lv_iconst (v := nI 2) gx gb dX8_rivals_52 (by decide) ?_
          refine lv_idiv gx gb dX8_rivals_53 (nI_ne0 (by omega) (by omega)) ?_
          refine lv_evi (nI ((2 * gv (fun x => num (plc x)) 0 3) / 2)) (e_div (by omega) (by omega) (by omega)) ?_
          refine lv_evi (nI (gv (fun x => num (plc x)) 0 3)) (congrArg nI (by omega)) ?_
          exact W.iret (v := nI (gv (fun x => num (plc x)) 0 3)) gx gb gr (fun t ht hW => ⟨nI (gv (fun x => num (plc x)) 0 3), rfl, (by first | (dsimp only; done) | ((try dsimp only); rw [rivZ, if_pos (by omega), zI_nat])), ht⟩) (fun q h => by cases h) dX8_rivals_54
      · skip
        refine va_get (D := D) (ci := 0) (v := .int (nI 4)) (C := RX1) (T := TX1) (N := 6) gx gb gts i1 gown hK hP 1 rfl rfl 3 (by decide) (gts (.fieldLink RX8 82 "SwanSums$Flock" "size" "I") (by decide +kernel)) (fun _ h9 => h9) rfl dX8_rivals_25 ?_
        refine vq_callSi (va_runSN (As := [.long (lN (pk 256 (fun x => num (plc x)) 4)), .int (nI 4)]) (rest := []) ⟨gx, gb, gml, gown, gts⟩ (kX3_lead_4 Gl (pk 256 (fun x => num (plc x)) 4) (by omega)) ⟨va_cnB 2 gts gX8_rivals_X3_lead_n170 rfl rfl rfl hNw170 (gts (.initialized RX3) (by decide +kernel)) (by decide +kernel) ⟨Nat.le_of_ble_eq_true rfl, Nat.le_of_ble_eq_true rfl⟩, gts (.static yX3_lead) (by decide +kernel), trivial⟩ ⟨fun _ _ _ _ h => h, fun U hU hW => ⟨rfl, trivial⟩⟩ rfl rfl hl.1 rfl (lv_room (Nat.le_of_ble_eq_true rfl)) dX8_rivals_28 ⟨Nat.le_of_ble_eq_true rfl, Nat.le_of_ble_eq_true rfl⟩) (fun r hw => ?_)
        have hr28 := hw
        subst hr28
        refine lv_evi (zI (ldv (fun x => num (plc x)) 0 4)) (congrArg zI (ldN_ldv hv256 _ 0 _ (by omega) (fun i hi => by rw [hld i (by omega), Nat.zero_add]))) ?_
        have hg1 := gv_ld (fun x => num (plc x)) 4 0
        have hg2 := gv_ld (fun x => num (plc x)) 3 1
        have hgl1 := gv_le (fun x => num (plc x)) 4 0
        have hgl2 := gv_le (fun x => num (plc x)) 3 1
        have hs1 := sm_le (v := (fun x => num (plc x))) (a := 0) (c := 99) (n := 4) (fun x hx => hnum _ (hp _ (by omega)))
        have hs2 := sm_le (v := (fun x => num (plc x))) (a := 1) (c := 99) (n := 3) (fun x hx => hnum _ (hp _ (by omega)))
        have hv0 : (fun x => num (plc x)) 0 < 256 := hv256 0 (by omega)
        refine lv_istore (lv' := [(4, .int (zI (ldv (fun x => num (plc x)) 0 4))), (2, .long (lN (pk 256 (fun x => num (plc x)) 4))), (0, .ref h), (1, .int (zI a))]) gx gb dX8_rivals_31 hl (by decide) rfl (fun ls hl => ?_)
        refine lv_iload_n gx gb dX8_rivals_33 rfl (lv_at hl 3 rfl) ?_
        refine lv_if_ne (tgt := 55) gx gb dX8_rivals_34 (by decide) (fun c34 => ?_) (fun c34 => ?_)
        · skip
          rw [z0_eq (by omega) (by omega)] at c34
          refine lv_lload_n gx gb dX8_rivals_55 rfl (lv_at hl 1 rfl) ?_
          refine lv_aload_n gx gb dX8_rivals_56 rfl (lv_at hl 2 rfl) ?_
          refine va_get (D := D) (ci := 3) (v := .ref fl) (C := RX8) (T := TX8) (N := 7) gx gb gts i8 gown hK hP 0 rfl rfl 0 (by decide) (gts (.fieldLink RX8 12 "SwanSums" "flock" "LSwanSums$Flock;") (by decide +kernel)) (fun _ h9 => h9) rfl dX8_rivals_57 ?_
          refine va_get (D := D) (ci := 0) (v := .int (nI 4)) (C := RX1) (T := TX1) (N := 6) gx gb gts i1 gown hK hP 1 rfl rfl 3 (by decide) (gts (.fieldLink RX8 82 "SwanSums$Flock" "size" "I") (by decide +kernel)) (fun _ h9 => h9) rfl dX8_rivals_60 ?_
          refine vq_callSi (va_runSN (As := [.long (lN (pk 256 (fun x => num (plc x)) 4)), .int (nI 4)]) (rest := []) ⟨gx, gb, gml, gown, gts⟩ (kX3_leadByFirst_4 Gl (pk 256 (fun x => num (plc x)) 4) (by omega)) ⟨va_cnB 2 gts gX8_rivals_X3_leadByFirst_n176 rfl rfl rfl hNw176 (gts (.initialized RX3) (by decide +kernel)) (by decide +kernel) ⟨Nat.le_of_ble_eq_true rfl, Nat.le_of_ble_eq_true rfl⟩, gts (.static yX3_leadByFirst) (by decide +kernel), trivial⟩ ⟨fun _ _ _ _ h => h, fun U hU hW => ⟨rfl, trivial⟩⟩ rfl rfl hl.1 rfl (lv_room (Nat.le_of_ble_eq_true rfl)) dX8_rivals_63 ⟨Nat.le_of_ble_eq_true rfl, Nat.le_of_ble_eq_true rfl⟩) (fun r hw => ?_)
          have hr63 := hw
          subst hr63
          refine lv_evi (zI ((((fun x => num (plc x)) 0 : Nat) : Int) - ldv (fun x => num (plc x)) 1 3)) (congrArg zI (by rw [hld 0 (by omega), ldN_ldv hv256 _ 1 _ (by omega) (fun i hi => by rw [← dg_s, hld (i + 1) (by omega)]; exact congrArg num (congrArg plc (by omega)))])) ?_
          refine lv_iload gx gb dX8_rivals_66 (lv_at hl 0 rfl) ?_
          refine lv_icmp_ne (tgt := 75) gx gb dX8_rivals_68 (by decide) (fun c68 => ?_) (fun c68 => ?_)
          · skip
            rw [zI_eq (by omega) (by omega) (by omega) (by omega)] at c68
            refine lv_iconst (v := nI 1) gx gb dX8_rivals_75 (by decide) ?_
            exact W.iret (v := nI 1) gx gb gr (fun t ht hW => ⟨nI 1, rfl, (by first | (dsimp only; done) | ((try dsimp only); first | (rw [rivZ, if_neg (by omega), if_pos (by omega), zI_nat]; exact congrArg nI ((riv_e (fun x => num (plc x)) 3).trans (if_pos c68)).symm) | (rw [rivZ, if_neg (by omega), if_pos (by omega), zI_nat]; exact congrArg nI ((riv_e (fun x => num (plc x)) 3).trans (if_neg c68)).symm))), ht⟩) (fun q h => by cases h) dX8_rivals_76
          · skip
            rw [zI_eq (by omega) (by omega) (by omega) (by omega)] at c68
            refine lv_iconst (v := nI 0) gx gb dX8_rivals_71 (by decide) ?_
            refine lv_goto (tgt := 76) gx gb dX8_rivals_72 (by decide) ?_
            exact W.iret (v := nI 0) gx gb gr (fun t ht hW => ⟨nI 0, rfl, (by first | (dsimp only; done) | ((try dsimp only); first | (rw [rivZ, if_neg (by omega), if_pos (by omega), zI_nat]; exact congrArg nI ((riv_e (fun x => num (plc x)) 3).trans (if_pos c68)).symm) | (rw [rivZ, if_neg (by omega), if_pos (by omega), zI_nat]; exact congrArg nI ((riv_e (fun x => num (plc x)) 3).trans (if_neg c68)).symm))), ht⟩) (fun q h => by cases h) dX8_rivals_76
        · skip
          rw [z0_eq (by omega) (by omega)] at c34
          refine lv_lload_n gx gb dX8_rivals_37 rfl (lv_at hl 1 rfl) ?_
          refine lv_iconst (v := nI 0) gx gb dX8_rivals_38 (by decide) ?_
          refine lv_aload_n gx gb dX8_rivals_39 rfl (lv_at hl 2 rfl) ?_
          refine va_get (D := D) (ci := 3) (v := .ref fl) (C := RX8) (T := TX8) (N := 7) gx gb gts i8 gown hK hP 0 rfl rfl 0 (by decide) (gts (.fieldLink RX8 12 "SwanSums" "flock" "LSwanSums$Flock;") (by decide +kernel)) (fun _ h9 => h9) rfl dX8_rivals_40 ?_
          refine va_get (D := D) (ci := 0) (v := .int (nI 4)) (C := RX1) (T := TX1) (N := 6) gx gb gts i1 gown hK hP 1 rfl rfl 3 (by decide) (gts (.fieldLink RX8 82 "SwanSums$Flock" "size" "I") (by decide +kernel)) (fun _ h9 => h9) rfl dX8_rivals_43 ?_
          refine vp_callSi (W.runS (As := [.long (lN (pk 256 (fun x => num (plc x)) 4)), .int (nI 0), .int (nI 4)]) (rest := []) ⟨gx, gb, gml, gown, gts⟩ (kX3_sum Gl (pk 256 (fun x => num (plc x)) 4) 0 4 (by omega) (by omega) (by omega)) (va_cwS 3 gts gX8_rivals_X3_sum rfl rfl rfl (by decide +kernel) ⟨Nat.le_of_ble_eq_true rfl, Nat.le_of_ble_eq_true rfl⟩) ⟨fun _ _ _ _ h => h, fun U hU hW => ⟨rfl, trivial⟩⟩ rfl rfl hl.1 rfl (lv_room (Nat.le_of_ble_eq_true rfl)) dX8_rivals_46 ⟨Nat.le_of_ble_eq_true rfl, Nat.le_of_ble_eq_true rfl⟩) (fun r hw => ?_)
          have hr46 := hw
          subst hr46
          refine lv_evi (nI (sm (fun x => num (plc x)) 0 4)) (congrArg nI (sm_cong (fun i hi => by rw [hld _ (by omega)]))) ?_
          refine lv_iload gx gb dX8_rivals_49 (lv_at hl 0 rfl) ?_
          refine lv_iadd gx gb dX8_rivals_51 ?_
          refine lv_evi (zI (((sm (fun x => num (plc x)) 0 4 : Nat) : Int) + (ldv (fun x => num (plc x)) 0 4))) (by rw [nI_zc (sm (fun x => num (plc x)) 0 4)]; exact zI_add ((sm (fun x => num (plc x)) 0 4 : Nat) : Int) (ldv (fun x => num (plc x)) 0 4)) ?_
          refine lv_evi (nI (2 * gv (fun x => num (plc x)) 0 4)) (by rw [← zI_nat]; congr 1; omega) ?_
          refine lv_iconst (v := nI 2) gx gb dX8_rivals_52 (by decide) ?_
          refine lv_idiv gx gb dX8_rivals_53 (nI_ne0 (by omega) (by omega)) ?_
          refine lv_evi (nI ((2 * gv (fun x => num (plc x)) 0 4) / 2)) (e_div (by omega) (by omega) (by omega)) ?_
          refine lv_evi (nI (gv (fun x => num (plc x)) 0 4)) (congrArg nI (by omega)) ?_
          exact W.iret (v := nI (gv (fun x => num (plc x)) 0 4)) gx gb gr (fun t ht hW => ⟨nI (gv (fun x => num (plc x)) 0 4), rfl, (by first | (dsimp only; done) | ((try dsimp only); rw [rivZ, if_pos (by omega), zI_nat])), ht⟩) (fun q h => by cases h) dX8_rivals_54
      · skip
        refine va_get (D := D) (ci := 0) (v := .int (nI 5)) (C := RX1) (T := TX1) (N := 6) gx gb gts i1 gown hK hP 1 rfl rfl 3 (by decide) (gts (.fieldLink RX8 82 "SwanSums$Flock" "size" "I") (by decide +kernel)) (fun _ h9 => h9) rfl dX8_rivals_25 ?_
        refine vq_callSi (va_runSN (As := [.long (lN (pk 256 (fun x => num (plc x)) 5)), .int (nI 5)]) (rest := []) ⟨gx, gb, gml, gown, gts⟩ (kX3_lead_5 Gl (pk 256 (fun x => num (plc x)) 5) (by omega)) ⟨va_cnB 2 gts gX8_rivals_X3_lead_n170 rfl rfl rfl hNw170 (gts (.initialized RX3) (by decide +kernel)) (by decide +kernel) ⟨Nat.le_of_ble_eq_true rfl, Nat.le_of_ble_eq_true rfl⟩, gts (.static yX3_lead) (by decide +kernel), trivial⟩ ⟨fun _ _ _ _ h => h, fun U hU hW => ⟨rfl, trivial⟩⟩ rfl rfl hl.1 rfl (lv_room (Nat.le_of_ble_eq_true rfl)) dX8_rivals_28 ⟨Nat.le_of_ble_eq_true rfl, Nat.le_of_ble_eq_true rfl⟩) (fun r hw => ?_)
        have hr28 := hw
        subst hr28
        refine lv_evi (zI (ldv (fun x => num (plc x)) 0 5)) (congrArg zI (ldN_ldv hv256 _ 0 _ (by omega) (fun i hi => by rw [hld i (by omega), Nat.zero_add]))) ?_
        have hg1 := gv_ld (fun x => num (plc x)) 5 0
        have hg2 := gv_ld (fun x => num (plc x)) 4 1
        have hgl1 := gv_le (fun x => num (plc x)) 5 0
        have hgl2 := gv_le (fun x => num (plc x)) 4 1
        have hs1 := sm_le (v := (fun x => num (plc x))) (a := 0) (c := 99) (n := 5) (fun x hx => hnum _ (hp _ (by omega)))
        have hs2 := sm_le (v := (fun x => num (plc x))) (a := 1) (c := 99) (n := 4) (fun x hx => hnum _ (hp _ (by omega)))
        have hv0 : (fun x => num (plc x)) 0 < 256 := hv256 0 (by omega)
        refine lv_istore (lv' := [(4, .int (zI (ldv (fun x => num (plc x)) 0 5))), (2, .long (lN (pk 256 (fun x => num (plc x)) 5))), (0, .ref h), (1, .int (zI a))]) gx gb dX8_rivals_31 hl (by decide) rfl (fun ls hl => ?_)
        refine lv_iload_n gx gb dX8_rivals_33 rfl (lv_at hl 3 rfl) ?_
        refine lv_if_ne (tgt := 55) gx gb dX8_rivals_34 (by decide) (fun c34 => ?_) (fun c34 => ?_)
        · skip
          rw [z0_eq (by omega) (by omega)] at c34
          refine lv_lload_n gx gb dX8_rivals_55 rfl (lv_at hl 1 rfl) ?_
          refine lv_aload_n gx gb dX8_rivals_56 rfl (lv_at hl 2 rfl) ?_
          refine va_get (D := D) (ci := 3) (v := .ref fl) (C := RX8) (T := TX8) (N := 7) gx gb gts i8 gown hK hP 0 rfl rfl 0 (by decide) (gts (.fieldLink RX8 12 "SwanSums" "flock" "LSwanSums$Flock;") (by decide +kernel)) (fun _ h9 => h9) rfl dX8_rivals_57 ?_
          refine va_get (D := D) (ci := 0) (v := .int (nI 5)) (C := RX1) (T := TX1) (N := 6) gx gb gts i1 gown hK hP 1 rfl rfl 3 (by decide) (gts (.fieldLink RX8 82 "SwanSums$Flock" "size" "I") (by decide +kernel)) (fun _ h9 => h9) rfl dX8_rivals_60 ?_
          refine vq_callSi (va_runSN (As := [.long (lN (pk 256 (fun x => num (plc x)) 5)), .int (nI 5)]) (rest := []) ⟨gx, gb, gml, gown, gts⟩ (kX3_leadByFirst_5 Gl (pk 256 (fun x => num (plc x)) 5) (by omega)) ⟨va_cnB 2 gts gX8_rivals_X3_leadByFirst_n176 rfl rfl rfl hNw176 (gts (.initialized RX3) (by decide +kernel)) (by decide +kernel) ⟨Nat.le_of_ble_eq_true rfl, Nat.le_of_ble_eq_true rfl⟩, gts (.static yX3_leadByFirst) (by decide +kernel), trivial⟩ ⟨fun _ _ _ _ h => h, fun U hU hW => ⟨rfl, trivial⟩⟩ rfl rfl hl.1 rfl (lv_room (Nat.le_of_ble_eq_true rfl)) dX8_rivals_63 ⟨Nat.le_of_ble_eq_true rfl, Nat.le_of_ble_eq_true rfl⟩) (fun r hw => ?_)
          have hr63 := hw
          subst hr63
          refine lv_evi (zI ((((fun x => num (plc x)) 0 : Nat) : Int) - ldv (fun x => num (plc x)) 1 4)) (congrArg zI (by rw [hld 0 (by omega), ldN_ldv hv256 _ 1 _ (by omega) (fun i hi => by rw [← dg_s, hld (i + 1) (by omega)]; exact congrArg num (congrArg plc (by omega)))])) ?_
          refine lv_iload gx gb dX8_rivals_66 (lv_at hl 0 rfl) ?_
          refine lv_icmp_ne (tgt := 75) gx gb dX8_rivals_68 (by decide) (fun c68 => ?_) (fun c68 => ?_)
          · skip
            rw [zI_eq (by omega) (by omega) (by omega) (by omega)] at c68
            refine lv_iconst (v := nI 1) gx gb dX8_rivals_75 (by decide) ?_
            exact W.iret (v := nI 1) gx gb gr (fun t ht hW => ⟨nI 1, rfl, (by first | (dsimp only; done) | ((try dsimp only); first | (rw [rivZ, if_neg (by omega), if_pos (by omega), zI_nat]; exact congrArg nI ((riv_e (fun x => num (plc x)) 4).trans (if_pos c68)).symm) | (rw [rivZ, if_neg (by omega), if_pos (by omega), zI_nat]; exact congrArg nI ((riv_e (fun x => num (plc x)) 4).trans (if_neg c68)).symm))), ht⟩) (fun q h => by cases h) dX8_rivals_76
          · skip
            rw [zI_eq (by omega) (by omega) (by omega) (by omega)] at c68
            refine lv_iconst (v := nI 0) gx gb dX8_rivals_71 (by decide) ?_
            refine lv_goto (tgt := 76) gx gb dX8_rivals_72 (by decide) ?_
            exact W.iret (v := nI 0) gx gb gr (fun t ht hW => ⟨nI 0, rfl, (by first | (dsimp only; done) | ((try dsimp only); first | (rw [rivZ, if_neg (by omega), if_pos (by omega), zI_nat]; exact congrArg nI ((riv_e (fun x => num (plc x)) 4).trans (if_pos c68)).symm) | (rw [rivZ, if_neg (by omega), if_pos (by omega), zI_nat]; exact congrArg nI ((riv_e (fun x => num (plc x)) 4).trans (if_neg c68)).symm))), ht⟩) (fun q h => by cases h) dX8_rivals_76
        · skip
          rw [z0_eq (by omega) (by omega)] at c34
          refine lv_lload_n gx gb dX8_rivals_37 rfl (lv_at hl 1 rfl) ?_
          refine lv_iconst (v := nI 0) gx gb dX8_rivals_38 (by decide) ?_
          refine lv_aload_n gx gb dX8_rivals_39 rfl (lv_at hl 2 rfl) ?_
          refine va_get (D := D) (ci := 3) (v := .ref fl) (C := RX8) (T := TX8) (N := 7) gx gb gts i8 gown hK hP 0 rfl rfl 0 (by decide) (gts (.fieldLink RX8 12 "SwanSums" "flock" "LSwanSums$Flock;") (by decide +kernel)) (fun _ h9 => h9) rfl dX8_rivals_40 ?_
          refine va_get (D := D) (ci := 0) (v := .int (nI 5)) (C := RX1) (T := TX1) (N := 6) gx gb gts i1 gown hK hP 1 rfl rfl 3 (by decide) (gts (.fieldLink RX8 82 "SwanSums$Flock" "size" "I") (by decide +kernel)) (fun _ h9 => h9) rfl dX8_rivals_43 ?_
          refine vp_callSi (W.runS (As := [.long (lN (pk 256 (fun x => num (plc x)) 5)), .int (nI 0), .int (nI 5)]) (rest := []) ⟨gx, gb, gml, gown, gts⟩ (kX3_sum Gl (pk 256 (fun x => num (plc x)) 5) 0 5 (by omega) (by omega) (by omega)) (va_cwS 3 gts gX8_rivals_X3_sum rfl rfl rfl (by decide +kernel) ⟨Nat.le_of_ble_eq_true rfl, Nat.le_of_ble_eq_true rfl⟩) ⟨fun _ _ _ _ h => h, fun U hU hW => ⟨rfl, trivial⟩⟩ rfl rfl hl.1 rfl (lv_room (Nat.le_of_ble_eq_true rfl)) dX8_rivals_46 ⟨Nat.le_of_ble_eq_true rfl, Nat.le_of_ble_eq_true rfl⟩) (fun r hw => ?_)
          have hr46 := hw
          subst hr46
          refine lv_evi (nI (sm (fun x => num (plc x)) 0 5)) (congrArg nI (sm_cong (fun i hi => by rw [hld _ (by omega)]))) ?_
          refine lv_iload gx gb dX8_rivals_49 (lv_at hl 0 rfl) ?_
          refine lv_iadd gx gb dX8_rivals_51 ?_
          refine lv_evi (zI (((sm (fun x => num (plc x)) 0 5 : Nat) : Int) + (ldv (fun x => num (plc x)) 0 5))) (by rw [nI_zc (sm (fun x => num (plc x)) 0 5)]; exact zI_add ((sm (fun x => num (plc x)) 0 5 : Nat) : Int) (ldv (fun x => num (plc x)) 0 5)) ?_
          refine lv_evi (nI (2 * gv (fun x => num (plc x)) 0 5)) (by rw [← zI_nat]; congr 1; omega) ?_
          refine lv_iconst (v := nI 2) gx gb dX8_rivals_52 (by decide) ?_
          refine lv_idiv gx gb dX8_rivals_53 (nI_ne0 (by omega) (by omega)) ?_
          refine lv_evi (nI ((2 * gv (fun x => num (plc x)) 0 5) / 2)) (e_div (by omega) (by omega) (by omega)) ?_
          refine lv_evi (nI (gv (fun x => num (plc x)) 0 5)) (congrArg nI (by omega)) ?_
          exact W.iret (v := nI (gv (fun x => num (plc x)) 0 5)) gx gb gr (fun t ht hW => ⟨nI (gv (fun x => num (plc x)) 0 5), rfl, (by first | (dsimp only; done) | ((try dsimp only); rw [rivZ, if_pos (by omega), zI_nat])), ht⟩) (fun q h => by cases h) dX8_rivals_54
      · skip
        refine va_get (D := D) (ci := 0) (v := .int (nI 6)) (C := RX1) (T := TX1) (N := 6) gx gb gts i1 gown hK hP 1 rfl rfl 3 (by decide) (gts (.fieldLink RX8 82 "SwanSums$Flock" "size" "I") (by decide +kernel)) (fun _ h9 => h9) rfl dX8_rivals_25 ?_
        refine vq_callSi (va_runSN (As := [.long (lN (pk 256 (fun x => num (plc x)) 6)), .int (nI 6)]) (rest := []) ⟨gx, gb, gml, gown, gts⟩ (kX3_lead_6 Gl (pk 256 (fun x => num (plc x)) 6) (by omega)) ⟨va_cnB 2 gts gX8_rivals_X3_lead_n170 rfl rfl rfl hNw170 (gts (.initialized RX3) (by decide +kernel)) (by decide +kernel) ⟨Nat.le_of_ble_eq_true rfl, Nat.le_of_ble_eq_true rfl⟩, gts (.static yX3_lead) (by decide +kernel), trivial⟩ ⟨fun _ _ _ _ h => h, fun U hU hW => ⟨rfl, trivial⟩⟩ rfl rfl hl.1 rfl (lv_room (Nat.le_of_ble_eq_true rfl)) dX8_rivals_28 ⟨Nat.le_of_ble_eq_true rfl, Nat.le_of_ble_eq_true rfl⟩) (fun r hw => ?_)
        have hr28 := hw
        subst hr28
        refine lv_evi (zI (ldv (fun x => num (plc x)) 0 6)) (congrArg zI (ldN_ldv hv256 _ 0 _ (by omega) (fun i hi => by rw [hld i (by omega), Nat.zero_add]))) ?_
        have hg1 := gv_ld (fun x => num (plc x)) 6 0
        have hg2 := gv_ld (fun x => num (plc x)) 5 1
        have hgl1 := gv_le (fun x => num (plc x)) 6 0
        have hgl2 := gv_le (fun x => num (plc x)) 5 1
        have hs1 := sm_le (v := (fun x => num (plc x))) (a := 0) (c := 99) (n := 6) (fun x hx => hnum _ (hp _ (by omega)))
        have hs2 := sm_le (v := (fun x => num (plc x))) (a := 1) (c := 99) (n := 5) (fun x hx => hnum _ (hp _ (by omega)))
        have hv0 : (fun x => num (plc x)) 0 < 256 := hv256 0 (by omega)
        refine lv_istore (lv' := [(4, .int (zI (ldv (fun x => num (plc x)) 0 6))), (2, .long (lN (pk 256 (fun x => num (plc x)) 6))), (0, .ref h), (1, .int (zI a))]) gx gb dX8_rivals_31 hl (by decide) rfl (fun ls hl => ?_)
        refine lv_iload_n gx gb dX8_rivals_33 rfl (lv_at hl 3 rfl) ?_
        refine lv_if_ne (tgt := 55) gx gb dX8_rivals_34 (by decide) (fun c34 => ?_) (fun c34 => ?_)
        · skip
          rw [z0_eq (by omega) (by omega)] at c34
          refine lv_lload_n gx gb dX8_rivals_55 rfl (lv_at hl 1 rfl) ?_
          refine lv_aload_n gx gb dX8_rivals_56 rfl (lv_at hl 2 rfl) ?_
          refine va_get (D := D) (ci := 3) (v := .ref fl) (C := RX8) (T := TX8) (N := 7) gx gb gts i8 gown hK hP 0 rfl rfl 0 (by decide) (gts (.fieldLink RX8 12 "SwanSums" "flock" "LSwanSums$Flock;") (by decide +kernel)) (fun _ h9 => h9) rfl dX8_rivals_57 ?_
          refine va_get (D := D) (ci := 0) (v := .int (nI 6)) (C := RX1) (T := TX1) (N := 6) gx gb gts i1 gown hK hP 1 rfl rfl 3 (by decide) (gts (.fieldLink RX8 82 "SwanSums$Flock" "size" "I") (by decide +kernel)) (fun _ h9 => h9) rfl dX8_rivals_60 ?_
          refine vq_callSi (va_runSN (As := [.long (lN (pk 256 (fun x => num (plc x)) 6)), .int (nI 6)]) (rest := []) ⟨gx, gb, gml, gown, gts⟩ (kX3_leadByFirst_6 Gl (pk 256 (fun x => num (plc x)) 6) (by omega)) ⟨va_cnB 2 gts gX8_rivals_X3_leadByFirst_n176 rfl rfl rfl hNw176 (gts (.initialized RX3) (by decide +kernel)) (by decide +kernel) ⟨Nat.le_of_ble_eq_true rfl, Nat.le_of_ble_eq_true rfl⟩, gts (.static yX3_leadByFirst) (by decide +kernel), trivial⟩ ⟨fun _ _ _ _ h => h, fun U hU hW => ⟨rfl, trivial⟩⟩ rfl rfl hl.1 rfl (lv_room (Nat.le_of_ble_eq_true rfl)) dX8_rivals_63 ⟨Nat.le_of_ble_eq_true rfl, Nat.le_of_ble_eq_true rfl⟩) (fun r hw => ?_)
          have hr63 := hw
          subst hr63
          refine lv_evi (zI ((((fun x => num (plc x)) 0 : Nat) : Int) - ldv (fun x => num (plc x)) 1 5)) (congrArg zI (by rw [hld 0 (by omega), ldN_ldv hv256 _ 1 _ (by omega) (fun i hi => by rw [← dg_s, hld (i + 1) (by omega)]; exact congrArg num (congrArg plc (by omega)))])) ?_
          refine lv_iload gx gb dX8_rivals_66 (lv_at hl 0 rfl) ?_
          refine lv_icmp_ne (tgt := 75) gx gb dX8_rivals_68 (by decide) (fun c68 => ?_) (fun c68 => ?_)
          · skip
            rw [zI_eq (by omega) (by omega) (by omega) (by omega)] at c68
            refine lv_iconst (v := nI 1) gx gb dX8_rivals_75 (by decide) ?_
            exact W.iret (v := nI 1) gx gb gr (fun t ht hW => ⟨nI 1, rfl, (by first | (dsimp only; done) | ((try dsimp only); first | (rw [rivZ, if_neg (by omega), if_pos (by omega), zI_nat]; exact congrArg nI ((riv_e (fun x => num (plc x)) 5).trans (if_pos c68)).symm) | (rw [rivZ, if_neg (by omega), if_pos (by omega), zI_nat]; exact congrArg nI ((riv_e (fun x => num (plc x)) 5).trans (if_neg c68)).symm))), ht⟩) (fun q h => by cases h) dX8_rivals_76
          · skip
            rw [zI_eq (by omega) (by omega) (by omega) (by omega)] at c68
            refine lv_iconst (v := nI 0) gx gb dX8_rivals_71 (by decide) ?_
            refine lv_goto (tgt := 76) gx gb dX8_rivals_72 (by decide) ?_
            exact W.iret (v := nI 0) gx gb gr (fun t ht hW => ⟨nI 0, rfl, (by first | (dsimp only; done) | ((try dsimp only); first | (rw [rivZ, if_neg (by omega), if_pos (by omega), zI_nat]; exact congrArg nI ((riv_e (fun x => num (plc x)) 5).trans (if_pos c68)).symm) | (rw [rivZ, if_neg (by omega), if_pos (by omega), zI_nat]; exact congrArg nI ((riv_e (fun x => num (plc x)) 5).trans (if_neg c68)).symm))), ht⟩) (fun q h => by cases h) dX8_rivals_76
        · skip
          rw [z0_eq (by omega) (by omega)] at c34
          refine lv_lload_n gx gb dX8_rivals_37 rfl (lv_at hl 1 rfl) ?_
          refine lv_iconst (v := nI 0) gx gb dX8_rivals_38 (by decide) ?_
          refine lv_aload_n gx gb dX8_rivals_39 rfl (lv_at hl 2 rfl) ?_
          refine va_get (D := D) (ci := 3) (v := .ref fl) (C := RX8) (T := TX8) (N := 7) gx gb gts i8 gown hK hP 0 rfl rfl 0 (by decide) (gts (.fieldLink RX8 12 "SwanSums" "flock" "LSwanSums$Flock;") (by decide +kernel)) (fun _ h9 => h9) rfl dX8_rivals_40 ?_
          refine va_get (D := D) (ci := 0) (v := .int (nI 6)) (C := RX1) (T := TX1) (N := 6) gx gb gts i1 gown hK hP 1 rfl rfl 3 (by decide) (gts (.fieldLink RX8 82 "SwanSums$Flock" "size" "I") (by decide +kernel)) (fun _ h9 => h9) rfl dX8_rivals_43 ?_
          refine vp_callSi (W.runS (As := [.long (lN (pk 256 (fun x => num (plc x)) 6)), .int (nI 0), .int (nI 6)]) (rest := []) ⟨gx, gb, gml, gown, gts⟩ (kX3_sum Gl (pk 256 (fun x => num (plc x)) 6) 0 6 (by omega) (by omega) (by omega)) (va_cwS 3 gts gX8_rivals_X3_sum rfl rfl rfl (by decide +kernel) ⟨Nat.le_of_ble_eq_true rfl, Nat.le_of_ble_eq_true rfl⟩) ⟨fun _ _ _ _ h => h, fun U hU hW => ⟨rfl, trivial⟩⟩ rfl rfl hl.1 rfl (lv_room (Nat.le_of_ble_eq_true rfl)) dX8_rivals_46 ⟨Nat.le_of_ble_eq_true rfl, Nat.le_of_ble_eq_true rfl⟩) (fun r hw => ?_)
          have hr46 := hw
          subst hr46
          refine lv_evi (nI (sm (fun x => num (plc x)) 0 6)) (congrArg nI (sm_cong (fun i hi => by rw [hld _ (by omega)]))) ?_
          refine lv_iload gx gb dX8_rivals_49 (lv_at hl 0 rfl) ?_
          refine lv_iadd gx gb dX8_rivals_51 ?_
          refine lv_evi (zI (((sm (fun x => num (plc x)) 0 6 : Nat) : Int) + (ldv (fun x => num (plc x)) 0 6))) (by rw [nI_zc (sm (fun x => num (plc x)) 0 6)]; exact zI_add ((sm (fun x => num (plc x)) 0 6 : Nat) : Int) (ldv (fun x => num (plc x)) 0 6)) ?_
          refine lv_evi (nI (2 * gv (fun x => num (plc x)) 0 6)) (by rw [← zI_nat]; congr 1; omega) ?_
          refine lv_iconst (v := nI 2) gx gb dX8_rivals_52 (by decide) ?_
          refine lv_idiv gx gb dX8_rivals_53 (nI_ne0 (by omega) (by omega)) ?_
          refine lv_evi (nI ((2 * gv (fun x => num (plc x)) 0 6) / 2)) (e_div (by omega) (by omega) (by omega)) ?_
          refine lv_evi (nI (gv (fun x => num (plc x)) 0 6)) (congrArg nI (by omega)) ?_
          exact W.iret (v := nI (gv (fun x => num (plc x)) 0 6)) gx gb gr (fun t ht hW => ⟨nI (gv (fun x => num (plc x)) 0 6), rfl, (by first | (dsimp only; done) | ((try dsimp only); rw [rivZ, if_pos (by omega), zI_nat])), ht⟩) (fun q h => by cases h) dX8_rivals_54
      · skip
        refine va_get (D := D) (ci := 0) (v := .int (nI 7)) (C := RX1) (T := TX1) (N := 6) gx gb gts i1 gown hK hP 1 rfl rfl 3 (by decide) (gts (.fieldLink RX8 82 "SwanSums$Flock" "size" "I") (by decide +kernel)) (fun _ h9 => h9) rfl dX8_rivals_25 ?_
        refine vq_callSi (va_runSN (As := [.long (lN (pk 256 (fun x => num (plc x)) 7)), .int (nI 7)]) (rest := []) ⟨gx, gb, gml, gown, gts⟩ (kX3_lead_7 Gl (pk 256 (fun x => num (plc x)) 7) (by omega)) ⟨va_cnB 2 gts gX8_rivals_X3_lead_n170 rfl rfl rfl hNw170 (gts (.initialized RX3) (by decide +kernel)) (by decide +kernel) ⟨Nat.le_of_ble_eq_true rfl, Nat.le_of_ble_eq_true rfl⟩, gts (.static yX3_lead) (by decide +kernel), trivial⟩ ⟨fun _ _ _ _ h => h, fun U hU hW => ⟨rfl, trivial⟩⟩ rfl rfl hl.1 rfl (lv_room (Nat.le_of_ble_eq_true rfl)) dX8_rivals_28 ⟨Nat.le_of_ble_eq_true rfl, Nat.le_of_ble_eq_true rfl⟩) (fun r hw => ?_)
        have hr28 := hw
        subst hr28
        refine lv_evi (zI (ldv (fun x => num (plc x)) 0 7)) (congrArg zI (ldN_ldv hv256 _ 0 _ (by omega) (fun i hi => by rw [hld i (by omega), Nat.zero_add]))) ?_
        have hg1 := gv_ld (fun x => num (plc x)) 7 0
        have hg2 := gv_ld (fun x => num (plc x)) 6 1
        have hgl1 := gv_le (fun x => num (plc x)) 7 0
        have hgl2 := gv_le (fun x => num (plc x)) 6 1
        have hs1 := sm_le (v := (fun x => num (plc x))) (a := 0) (c := 99) (n := 7) (fun x hx => hnum _ (hp _ (by omega)))
        have hs2 := sm_le (v := (fun x => num (plc x))) (a := 1) (c := 99) (n := 6) (fun x hx => hnum _ (hp _ (by omega)))
        have hv0 : (fun x => num (plc x)) 0 < 256 := hv256 0 (by omega)
        refine lv_istore (lv' := [(4, .int (zI (ldv (fun x => num (plc x)) 0 7))), (2, .long (lN (pk 256 (fun x => num (plc x)) 7))), (0, .ref h), (1, .int (zI a))]) gx gb dX8_rivals_31 hl (by decide) rfl (fun ls hl => ?_)
        refine lv_iload_n gx gb dX8_rivals_33 rfl (lv_at hl 3 rfl) ?_
        refine lv_if_ne (tgt := 55) gx gb dX8_rivals_34 (by decide) (fun c34 => ?_) (fun c34 => ?_)
        · skip
          rw [z0_eq (by omega) (by omega)] at c34
          refine lv_lload_n gx gb dX8_rivals_55 rfl (lv_at hl 1 rfl) ?_
          refine lv_aload_n gx gb dX8_rivals_56 rfl (lv_at hl 2 rfl) ?_
          refine va_get (D := D) (ci := 3) (v := .ref fl) (C := RX8) (T := TX8) (N := 7) gx gb gts i8 gown hK hP 0 rfl rfl 0 (by decide) (gts (.fieldLink RX8 12 "SwanSums" "flock" "LSwanSums$Flock;") (by decide +kernel)) (fun _ h9 => h9) rfl dX8_rivals_57 ?_
          refine va_get (D := D) (ci := 0) (v := .int (nI 7)) (C := RX1) (T := TX1) (N := 6) gx gb gts i1 gown hK hP 1 rfl rfl 3 (by decide) (gts (.fieldLink RX8 82 "SwanSums$Flock" "size" "I") (by decide +kernel)) (fun _ h9 => h9) rfl dX8_rivals_60 ?_
          refine vq_callSi (va_runSN (As := [.long (lN (pk 256 (fun x => num (plc x)) 7)), .int (nI 7)]) (rest := []) ⟨gx, gb, gml, gown, gts⟩ (kX3_leadByFirst_7 Gl (pk 256 (fun x => num (plc x)) 7) (by omega)) ⟨va_cnB 2 gts gX8_rivals_X3_leadByFirst_n176 rfl rfl rfl hNw176 (gts (.initialized RX3) (by decide +kernel)) (by decide +kernel) ⟨Nat.le_of_ble_eq_true rfl, Nat.le_of_ble_eq_true rfl⟩, gts (.static yX3_leadByFirst) (by decide +kernel), trivial⟩ ⟨fun _ _ _ _ h => h, fun U hU hW => ⟨rfl, trivial⟩⟩ rfl rfl hl.1 rfl (lv_room (Nat.le_of_ble_eq_true rfl)) dX8_rivals_63 ⟨Nat.le_of_ble_eq_true rfl, Nat.le_of_ble_eq_true rfl⟩) (fun r hw => ?_)
          have hr63 := hw
          subst hr63
          refine lv_evi (zI ((((fun x => num (plc x)) 0 : Nat) : Int) - ldv (fun x => num (plc x)) 1 6)) (congrArg zI (by rw [hld 0 (by omega), ldN_ldv hv256 _ 1 _ (by omega) (fun i hi => by rw [← dg_s, hld (i + 1) (by omega)]; exact congrArg num (congrArg plc (by omega)))])) ?_
          refine lv_iload gx gb dX8_rivals_66 (lv_at hl 0 rfl) ?_
          refine lv_icmp_ne (tgt := 75) gx gb dX8_rivals_68 (by decide) (fun c68 => ?_) (fun c68 => ?_)
          · skip
            rw [zI_eq (by omega) (by omega) (by omega) (by omega)] at c68
            refine lv_iconst (v := nI 1) gx gb dX8_rivals_75 (by decide) ?_
            exact W.iret (v := nI 1) gx gb gr (fun t ht hW => ⟨nI 1, rfl, (by first | (dsimp only; done) | ((try dsimp only); first | (rw [rivZ, if_neg (by omega), if_pos (by omega), zI_nat]; exact congrArg nI ((riv_e (fun x => num (plc x)) 6).trans (if_pos c68)).symm) | (rw [rivZ, if_neg (by omega), if_pos (by omega), zI_nat]; exact congrArg nI ((riv_e (fun x => num (plc x)) 6).trans (if_neg c68)).symm))), ht⟩) (fun q h => by cases h) dX8_rivals_76
          · skip
            rw [zI_eq (by omega) (by omega) (by omega) (by omega)] at c68
            refine lv_iconst (v := nI 0) gx gb dX8_rivals_71 (by decide) ?_
            refine lv_goto (tgt := 76) gx gb dX8_rivals_72 (by decide) ?_
            exact W.iret (v := nI 0) gx gb gr (fun t ht hW => ⟨nI 0, rfl, (by first | (dsimp only; done) | ((try dsimp only); first | (rw [rivZ, if_neg (by omega), if_pos (by omega), zI_nat]; exact congrArg nI ((riv_e (fun x => num (plc x)) 6).trans (if_pos c68)).symm) | (rw [rivZ, if_neg (by omega), if_pos (by omega), zI_nat]; exact congrArg nI ((riv_e (fun x => num (plc x)) 6).trans (if_neg c68)).symm))), ht⟩) (fun q h => by cases h) dX8_rivals_76
        · skip
          rw [z0_eq (by omega) (by omega)] at c34
          refine lv_lload_n gx gb dX8_rivals_37 rfl (lv_at hl 1 rfl) ?_
          refine lv_iconst (v := nI 0) gx gb dX8_rivals_38 (by decide) ?_
          refine lv_aload_n gx gb dX8_rivals_39 rfl (lv_at hl 2 rfl) ?_
          refine va_get (D := D) (ci := 3) (v := .ref fl) (C := RX8) (T := TX8) (N := 7) gx gb gts i8 gown hK hP 0 rfl rfl 0 (by decide) (gts (.fieldLink RX8 12 "SwanSums" "flock" "LSwanSums$Flock;") (by decide +kernel)) (fun _ h9 => h9) rfl dX8_rivals_40 ?_
          refine va_get (D := D) (ci := 0) (v := .int (nI 7)) (C := RX1) (T := TX1) (N := 6) gx gb gts i1 gown hK hP 1 rfl rfl 3 (by decide) (gts (.fieldLink RX8 82 "SwanSums$Flock" "size" "I") (by decide +kernel)) (fun _ h9 => h9) rfl dX8_rivals_43 ?_
          refine vp_callSi (W.runS (As := [.long (lN (pk 256 (fun x => num (plc x)) 7)), .int (nI 0), .int (nI 7)]) (rest := []) ⟨gx, gb, gml, gown, gts⟩ (kX3_sum Gl (pk 256 (fun x => num (plc x)) 7) 0 7 (by omega) (by omega) (by omega)) (va_cwS 3 gts gX8_rivals_X3_sum rfl rfl rfl (by decide +kernel) ⟨Nat.le_of_ble_eq_true rfl, Nat.le_of_ble_eq_true rfl⟩) ⟨fun _ _ _ _ h => h, fun U hU hW => ⟨rfl, trivial⟩⟩ rfl rfl hl.1 rfl (lv_room (Nat.le_of_ble_eq_true rfl)) dX8_rivals_46 ⟨Nat.le_of_ble_eq_true rfl, Nat.le_of_ble_eq_true rfl⟩) (fun r hw => ?_)
          have hr46 := hw
          subst hr46
          refine lv_evi (nI (sm (fun x => num (plc x)) 0 7)) (congrArg nI (sm_cong (fun i hi => by rw [hld _ (by omega)]))) ?_
          refine lv_iload gx gb dX8_rivals_49 (lv_at hl 0 rfl) ?_
          refine lv_iadd gx gb dX8_rivals_51 ?_
          refine lv_evi (zI (((sm (fun x => num (plc x)) 0 7 : Nat) : Int) + (ldv (fun x => num (plc x)) 0 7))) (by rw [nI_zc (sm (fun x => num (plc x)) 0 7)]; exact zI_add ((sm (fun x => num (plc x)) 0 7 : Nat) : Int) (ldv (fun x => num (plc x)) 0 7)) ?_
          refine lv_evi (nI (2 * gv (fun x => num (plc x)) 0 7)) (by rw [← zI_nat]; congr 1; omega) ?_
          refine lv_iconst (v := nI 2) gx gb dX8_rivals_52 (by decide) ?_
          refine lv_idiv gx gb dX8_rivals_53 (nI_ne0 (by omega) (by omega)) ?_
          refine lv_evi (nI ((2 * gv (fun x => num (plc x)) 0 7) / 2)) (e_div (by omega) (by omega) (by omega)) ?_
          refine lv_evi (nI (gv (fun x => num (plc x)) 0 7)) (congrArg nI (by omega)) ?_
          exact W.iret (v := nI (gv (fun x => num (plc x)) 0 7)) gx gb gr (fun t ht hW => ⟨nI (gv (fun x => num (plc x)) 0 7), rfl, (by first | (dsimp only; done) | ((try dsimp only); rw [rivZ, if_pos (by omega), zI_nat])), ht⟩) (fun q h => by cases h) dX8_rivals_54
    · skip
      rw [zn_le (by omega) (by omega) (by omega)] at c6
      refine lv_bipush (v := zI (-2)) gx gb dX8_rivals_9 (by decide) ?_
      exact W.iret (v := zI (-2)) gx gb gr (fun t ht hW => ⟨zI (-2), rfl, (by first | (dsimp only; done) | ((try dsimp only); rw [rivZ, if_neg (by omega), if_neg (by omega)])), ht⟩) (fun q h => by cases h) dX8_rivals_11

