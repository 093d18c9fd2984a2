
set_option maxHeartbeats 4000000 in
set_option maxRecDepth 100000 in
theorem kX5_lookBehind (Gl : Launch) (D : va_G) (cI cJ cZ : ClassId) (rt : Nat) (r0 : Nat) (r1 : Nat) (r4 : Nat) (r5 : Nat) (tn : Nat) (tq : Nat) (rws : Nat → Nat) (lks : Nat → Nat) (mks : Nat → Nat) (qu : Nat → Nat) (sz : Nat) (num plc : Nat → Nat) (q hd C s d a m : Nat) (hq1 : 1 ≤ q) (hq : q ≤ 7) (hm4 : m ≤ 4) (ha : a < 2147483648) (ha7 : ∀ k, k < m → dg 10 a k ≤ 6) (hnv : ∀ x, x < q → num (plc x) ≤ 99) (hJ0 : weJ q (tkW num plc q a m) m hd 0 C s d tq qu mks) : Met Gl yX5_lookBehind wsX5_lookBehind ({ frames := 4, cells := 0, slots := 0, locals := 117 } : Room) (va_Pc [.ref rt, .int (nI ((d * 8 + s) * 2097152 + C)), .int (nI a), .int (nI m), .long (lN (pk 256 (fun x_ => num (plc x_)) q))] (fun U => U.heap.size = sz ∧ va_P D vwCl (wT rt r0 r1 r4 r5 cI cJ tn q tq rws lks mks qu) U.heap ∧ va_K D vwCl [(cI, .int), (cJ, .long), (cZ, .boolean)] U ∧ va_D (fun _ => True) (wT rt r0 r1 r4 r5 cI cJ tn q tq rws lks mks qu))) (va_Qi (fun (r : Int32) (u : (Nat) × (Nat → Nat) × (Nat → Nat)) => ∃ zz : Int, r = zI zz ∧ zz ≤ 100 ∧ ((zz = -1 ∧ weS q (tkW num plc q a m) m (hd + 1) u.1 u.2.1 u.2.2) ∨ (0 ≤ zz ∧ wkA q (tkW num plc q a m) m zz))) (fun (u : (Nat) × (Nat → Nat) × (Nat → Nat)) t => va_P D vwCl (wT rt r0 r1 r4 r5 cI cJ tn q u.1 rws lks u.2.2 u.2.1) t.heap ∧ va_K D vwCl [(cI, .int), (cJ, .long), (cZ, .boolean)] t ∧ va_D (va_A (wT rt r0 r1 r4 r5 cI cJ tn q tq rws lks mks qu) sz) (wT rt r0 r1 r4 r5 cI cJ tn q u.1 rws lks u.2.2 u.2.1)) (va_A (wT rt r0 r1 r4 r5 cI cJ tn q tq rws lks mks qu) sz)) 0 0 (va_A (wT rt r0 r1 r4 r5 cI cJ tn q tq rws lks mks qu) sz) := by
  refine Met.ofW (cc := cX5_lookBehind) (maxL := 14) (ret := (some .int)) (by decide +kernel) rfl ?_
  intro Gp Ge Gs Gm Ga Gw Gt Gc G1 Bd gml gv
  obtain ⟨rfl, hsz, hP, hK, hD0⟩ := gv
  have gx := Bd.exec
  have gb := Bd.bytes
  have gr := Bd.returns
  have gts := atoms_spec (ws := wsX5_lookBehind) Bd.pre
  have gown : Gs.vm.findClass RX5 = some Gm.cls := findClass_of_methodNamed Bd.named
  have glk := Bd.notSynchronized
  subst hsz
  have hD := hD0.self (sz := Gs.heap.size)
  generalize hAe : va_A (wT rt r0 r1 r4 r5 cI cJ tn q tq rws lks mks qu) Gs.heap.size = A at hD ⊢
  have hA : ∀ q : Nat, Gs.heap.size ≤ q → A q := fun q h => by rw [← hAe]; exact Or.inr h
  have hS : va_S A Gs.heap Gs.heap [] := va_S.rf
  have hP : va_P D vwCl (wT rt r0 r1 r4 r5 cI cJ tn q tq rws lks mks qu) Gs.heap := hP
  have hl := lv_entry ([.ref rt, .int (nI ((d * 8 + s) * 2097152 + C)), .int (nI a), .int (nI m), .long (lN (pk 256 (fun x_ => num (plc x_)) q))]) (n := 14) (Nat.le_of_ble_eq_true rfl)
  rw [lg_entry_eq]
  generalize (lg_sl ([.ref rt, .int (nI ((d * 8 + s) * 2097152 + C)), .int (nI a), .int (nI m), .long (lN (pk 256 (fun x_ => num (plc x_)) q))]) ++ List.replicate (14 - (lg_sl ([.ref rt, .int (nI ((d * 8 + s) * 2097152 + C)), .int (nI a), .int (nI m), .long (lN (pk 256 (fun x_ => num (plc x_)) q))])).length) Slot.unset).toArray = ls at hl ⊢
  have hl : lv_has ls 14 [(0, .ref rt), (1, .int (nI ((d * 8 + s) * 2097152 + C))), (2, .int (nI a)), (3, .int (nI m)), (4, .long (lN (pk 256 (fun x_ => num (plc x_)) q)))] := hl
  have i5 : ∀ w ∈ wsX50, w ∈ wsX5_lookBehind := by decide +kernel
  have hv256 : ∀ x, x < q → num (plc x) < 256 := fun x hx => by have := hnv x hx; omega
  have hl63 := pk256_lt (f := fun x_ => num (plc x_)) (z := q) hv256 (by omega)
  obtain ⟨haC, hsm, hd28⟩ := weJ_b hq hJ0
  have hC21 := arr_21 hq haC
  refine lv_iload_n gx gb dX5_lookBehind_0 rfl (lv_at hl 1 rfl) ?_
  refine lv_ldc (v := (2097151)) gx gb gown (gts (.constant RX5 116 (2097151)) (by decide +kernel)) dX5_lookBehind_1 ?_
  refine lv_evi (nI 2097151) (rfl) ?_
  refine lv_iand gx gb dX5_lookBehind_3 ?_
  refine lv_evi (nI (((d * 8 + s) * 2097152 + C) % 2 ^ 21)) (e_mask ((d * 8 + s) * 2097152 + C) 21 rfl) ?_
  refine lv_evi (nI C) (congrArg nI (show ((d * 8 + s) * 2097152 + C) % 2 ^ 21 = C by omega)) ?_
  refine lv_istore (lv' := [(6, .int (nI C)), (0, .ref rt), (1, .int (nI ((d * 8 + s) * 2097152 + C))), (2, .int (nI a)), (3, .int (nI m)), (4, .long (lN (pk 256 (fun x_ => num (plc x_)) q)))]) gx gb dX5_lookBehind_4 hl (by decide) rfl (fun ls hl => ?_)
  refine lv_iload_n gx gb dX5_lookBehind_6 rfl (lv_at hl 2 rfl) ?_
  refine lv_bipush (v := nI 21) gx gb dX5_lookBehind_7 (by decide) ?_
  refine lv_ishr gx gb dX5_lookBehind_9 ?_
  refine lv_evi (nI (((d * 8 + s) * 2097152 + C) / 2 ^ 21)) (e_shr (by omega) (by omega)) ?_
  refine lv_bipush (v := nI 7) gx gb dX5_lookBehind_10 (by decide) ?_
  refine lv_iand gx gb dX5_lookBehind_12 ?_
  refine lv_evi (nI ((((d * 8 + s) * 2097152 + C) / 2 ^ 21) % 2 ^ 3)) (e_mask (((d * 8 + s) * 2097152 + C) / 2 ^ 21) 3 rfl) ?_
  refine lv_evi (nI s) (congrArg nI (show ((d * 8 + s) * 2097152 + C) / 2 ^ 21 % 2 ^ 3 = s by omega)) ?_
  refine lv_istore (lv' := [(7, .int (nI s)), (6, .int (nI C)), (0, .ref rt), (1, .int (nI ((d * 8 + s) * 2097152 + C))), (2, .int (nI a)), (3, .int (nI m)), (4, .long (lN (pk 256 (fun x_ => num (plc x_)) q)))]) gx gb dX5_lookBehind_13 hl (by decide) rfl (fun ls hl => ?_)
  refine lv_iload_n gx gb dX5_lookBehind_15 rfl (lv_at hl 3 rfl) ?_
  refine lv_bipush (v := nI 24) gx gb dX5_lookBehind_16 (by decide) ?_
  refine lv_ishr gx gb dX5_lookBehind_18 ?_
  refine lv_evi (nI (((d * 8 + s) * 2097152 + C) / 2 ^ 24)) (e_shr (by omega) (by omega)) ?_
  refine lv_evi (nI d) (congrArg nI (show ((d * 8 + s) * 2097152 + C) / 2 ^ 24 = d by omega)) ?_
  refine lv_iconst (v := nI 1) gx gb dX5_lookBehind_19 (by decide) ?_
  refine lv_iadd gx gb dX5_lookBehind_20 ?_
  refine lv_evi (nI (d + 1)) (nI_add d 1) ?_
  refine lv_istore (lv' := [(8, .int (nI (d + 1))), (7, .int (nI s)), (6, .int (nI C)), (0, .ref rt), (1, .int (nI ((d * 8 + s) * 2097152 + C))), (2, .int (nI a)), (3, .int (nI m)), (4, .long (lN (pk 256 (fun x_ => num (plc x_)) q)))]) gx gb dX5_lookBehind_21 hl (by decide) rfl (fun ls hl => ?_)
  refine lv_iconst (v := nI 0) gx gb dX5_lookBehind_23 (by decide) ?_
  refine lv_istore (lv' := [(9, .int (nI 0)), (8, .int (nI (d + 1))), (7, .int (nI s)), (6, .int (nI C)), (0, .ref rt), (1, .int (nI ((d * 8 + s) * 2097152 + C))), (2, .int (nI a)), (3, .int (nI m)), (4, .long (lN (pk 256 (fun x_ => num (plc x_)) q)))]) gx gb dX5_lookBehind_24 hl (by decide) rfl (fun ls hl => ?_)
  have L26 : ∀ fu : Nat, ∀ (sr tq_ : Nat) (qu_ mk_ : Nat → Nat) (hs4 : sr ≤ 4) (hJ1 : weJ q (tkW num plc q a m) m hd (bse q sr) C s d tq_ qu_ mk_), (4 - sr) < fu → ∀ (H : Heap) (locs : List Loc), va_P D vwCl (wT rt r0 r1 r4 r5 cI cJ tn q tq_ rws lks mk_ qu_) H → va_D A (wT rt r0 r1 r4 r5 cI cJ tn q tq_ rws lks mk_ qu_) → va_S A Gs.heap H locs → ∀ ls : Array Slot, lv_has ls 14 [(9, .int (nI sr)), (8, .int (nI (d + 1))), (7, .int (nI s)), (6, .int (nI C)), (0, .ref rt), (1, .int (nI ((d * 8 + s) * 2097152 + C))), (2, .int (nI a)), (3, .int (nI m)), (4, .long (lN (pk 256 (fun x_ => num (plc x_)) q)))] → W Gp Gl Ge (headSpec wsX5_lookBehind ({ frames := 4, cells := 0, slots := 0, locals := 117 } : Room)).room Gs Gm ([.ref rt, .int (nI ((d * 8 + s) * 2097152 + C)), .int (nI a), .int (nI m), .long (lN (pk 256 (fun x_ => num (plc x_)) q))] : List Value).toArray Gw Gt Gc H locs 0 0 (MQ Gw (va_Qi (fun (r : Int32) (u : (Nat) × (Nat → Nat) × (Nat → Nat)) => ∃ zz : Int, r = zI zz ∧ zz ≤ 100 ∧ ((zz = -1 ∧ weS q (tkW num plc q a m) m (hd + 1) u.1 u.2.1 u.2.2) ∨ (0 ≤ zz ∧ wkA q (tkW num plc q a m) m zz))) (fun (u : (Nat) × (Nat → Nat) × (Nat → Nat)) t => va_P D vwCl (wT rt r0 r1 r4 r5 cI cJ tn q u.1 rws lks u.2.2 u.2.1) t.heap ∧ va_K D vwCl [(cI, .int), (cJ, .long), (cZ, .boolean)] t ∧ va_D A (wT rt r0 r1 r4 r5 cI cJ tn q u.1 rws lks u.2.2 u.2.1)) A) ([.ref rt, .int (nI ((d * 8 + s) * 2097152 + C)), .int (nI a), .int (nI m), .long (lN (pk 256 (fun x_ => num (plc x_)) q))] : List Value).toArray Gs 0 0 A) (F0 Gm 26 ls []) := by
    intro fu
    induction fu with
    | zero => intro sr tq_ qu_ mk_ hs4 hJ1 hfu; exact absurd hfu (Nat.not_lt_zero _)
    | succ fu ih26 =>
      intro sr tq_ qu_ mk_ hs4 hJ1 hfu H locs hP hD hS ls hl
      refine lv_iload gx gb dX5_lookBehind_26 (lv_at hl 0 rfl) ?_
      refine lv_iconst (v := nI 4) gx gb dX5_lookBehind_28 (by decide) ?_
      refine lv_icmp_ge (tgt := 140) gx gb dX5_lookBehind_29 (by decide) (fun c29 => ?_) (fun c29 => ?_)
      · skip
        rw [nI_leI (by omega) (by omega)] at c29
        refine lv_iconst (v := zI (-1)) gx gb dX5_lookBehind_140 (by decide) ?_
        exact W.iret (v := zI (-1)) gx gb gr (fun t ht hW => ⟨⟨zI (-1), (tq_, qu_, mk_), rfl, (by first | (dsimp only; done) | ((try dsimp only); exact ⟨-1, rfl, by omega, Or.inl ⟨rfl, weJ_n (by rw [show sr = 4 by omega] at hJ1; exact hJ1)⟩⟩)), by rw [ht]; exact hP, va_K.moved hW.alike hK, hD⟩, hS.F ht⟩) hS.2.2 dX5_lookBehind_141
      · skip
        rw [nI_leI (by omega) (by omega)] at c29
        refine lv_iload gx gb dX5_lookBehind_32 (lv_at hl 0 rfl) ?_
        refine lv_aload_n gx gb dX5_lookBehind_34 rfl (lv_at hl 4 rfl) ?_
        refine va_get (D := D) (ci := 2) (v := .int (nI q)) (C := RX5) (T := TX5) (N := 7) gx gb gts i5 gown hK hP 0 rfl rfl 3 (by decide) (gts (.fieldLink RX5 22 "SwanSums$Routes" "size" "I") (by decide +kernel)) (fun _ h9 => h9) rfl dX5_lookBehind_35 ?_
        refine vp_callSi (W.runS (As := [.int (nI sr), .int (nI q)]) (rest := []) ⟨gx, gb, gml, gown, gts⟩ (kX7_places Gl sr q (by omega) (by omega) (by omega)) (va_cwS 2 gts gX5_lookBehind_X7_places rfl rfl rfl (by decide +kernel) ⟨Nat.le_of_ble_eq_true rfl, Nat.le_of_ble_eq_true rfl⟩) ⟨fun _ _ _ _ h => h, fun U hU hW => ⟨rfl, trivial⟩⟩ rfl rfl hl.1 rfl (lv_room (Nat.le_of_ble_eq_true rfl)) dX5_lookBehind_38 ⟨Nat.le_of_ble_eq_true rfl, Nat.le_of_ble_eq_true rfl⟩) (fun r hw => ?_)
        have hr38 := hw
        subst hr38
        refine lv_istore (lv' := [(10, .int (nI (plC sr q))), (9, .int (nI sr)), (8, .int (nI (d + 1))), (7, .int (nI s)), (6, .int (nI C)), (0, .ref rt), (1, .int (nI ((d * 8 + s) * 2097152 + C))), (2, .int (nI a)), (3, .int (nI m)), (4, .long (lN (pk 256 (fun x_ => num (plc x_)) q)))]) gx gb dX5_lookBehind_41 hl (by decide) rfl (fun ls hl => ?_)
        refine lv_iconst (v := nI 0) gx gb dX5_lookBehind_43 (by decide) ?_
        refine lv_istore (lv' := [(11, .int (nI 0)), (10, .int (nI (plC sr q))), (9, .int (nI sr)), (8, .int (nI (d + 1))), (7, .int (nI s)), (6, .int (nI C)), (0, .ref rt), (1, .int (nI ((d * 8 + s) * 2097152 + C))), (2, .int (nI a)), (3, .int (nI m)), (4, .long (lN (pk 256 (fun x_ => num (plc x_)) q)))]) gx gb dX5_lookBehind_44 hl (by decide) rfl (fun ls hl => ?_)
        have L46 : ∀ fu : Nat, ∀ (p tq_ : Nat) (qu_ mk_ : Nat → Nat) (hpp : p ≤ plC sr q) (hJ2 : weJ q (tkW num plc q a m) m hd (bse q sr + p) C s d tq_ qu_ mk_), (plC sr q - p) < fu → ∀ (H : Heap) (locs : List Loc), va_P D vwCl (wT rt r0 r1 r4 r5 cI cJ tn q tq_ rws lks mk_ qu_) H → va_D A (wT rt r0 r1 r4 r5 cI cJ tn q tq_ rws lks mk_ qu_) → va_S A Gs.heap H locs → ∀ ls : Array Slot, lv_has ls 14 [(11, .int (nI p)), (10, .int (nI (plC sr q))), (9, .int (nI sr)), (8, .int (nI (d + 1))), (7, .int (nI s)), (6, .int (nI C)), (0, .ref rt), (1, .int (nI ((d * 8 + s) * 2097152 + C))), (2, .int (nI a)), (3, .int (nI m)), (4, .long (lN (pk 256 (fun x_ => num (plc x_)) q)))] → W Gp Gl Ge (headSpec wsX5_lookBehind ({ frames := 4, cells := 0, slots := 0, locals := 117 } : Room)).room Gs Gm ([.ref rt, .int (nI ((d * 8 + s) * 2097152 + C)), .int (nI a), .int (nI m), .long (lN (pk 256 (fun x_ => num (plc x_)) q))] : List Value).toArray Gw Gt Gc H locs 0 0 (MQ Gw (va_Qi (fun (r : Int32) (u : (Nat) × (Nat → Nat) × (Nat → Nat)) => ∃ zz : Int, r = zI zz ∧ zz ≤ 100 ∧ ((zz = -1 ∧ weS q (tkW num plc q a m) m (hd + 1) u.1 u.2.1 u.2.2) ∨ (0 ≤ zz ∧ wkA q (tkW num plc q a m) m zz))) (fun (u : (Nat) × (Nat → Nat) × (Nat → Nat)) t => va_P D vwCl (wT rt r0 r1 r4 r5 cI cJ tn q u.1 rws lks u.2.2 u.2.1) t.heap ∧ va_K D vwCl [(cI, .int), (cJ, .long), (cZ, .boolean)] t ∧ va_D A (wT rt r0 r1 r4 r5 cI cJ tn q u.1 rws lks u.2.2 u.2.1)) A) ([.ref rt, .int (nI ((d * 8 + s) * 2097152 + C)), .int (nI a), .int (nI m), .long (lN (pk 256 (fun x_ => num (plc x_)) q))] : List Value).toArray Gs 0 0 A) (F0 Gm 46 ls []) := by
          intro fu
          induction fu with
          | zero => intro p tq_ qu_ mk_ hpp hJ2 hfu; exact absurd hfu (Nat.not_lt_zero _)
          | succ fu ih46 =>
            intro p tq_ qu_ mk_ hpp hJ2 hfu H locs hP hD hS ls hl
            have hple := plC_b (s := sr) hq1 hq
            refine lv_iload gx gb dX5_lookBehind_46 (lv_at hl 0 rfl) ?_
            refine lv_iload gx gb dX5_lookBehind_48 (lv_at hl 1 rfl) ?_
            refine lv_icmp_ge (tgt := 134) gx gb dX5_lookBehind_50 (by decide) (fun c50 => ?_) (fun c50 => ?_)
            · skip
              rw [nI_leI (by omega) (by omega)] at c50
              refine lv_iinc (v := nI (sr + 1)) (lv' := [(9, .int (nI (sr + 1))), (11, .int (nI p)), (10, .int (nI (plC sr q))), (8, .int (nI (d + 1))), (7, .int (nI s)), (6, .int (nI C)), (0, .ref rt), (1, .int (nI ((d * 8 + s) * 2097152 + C))), (2, .int (nI a)), (3, .int (nI m)), (4, .long (lN (pk 256 (fun x_ => num (plc x_)) q)))]) gx gb dX5_lookBehind_134 hl (k := 2) rfl (nI_add sr 1) (by decide) rfl (fun ls hl => ?_)
              refine lv_goto (tgt := 26) gx gb dX5_lookBehind_137 (by decide) ?_
              exact ih26 (sr + 1) tq_ qu_ mk_ (by omega) (by rw [← bse_s hq1 (by omega), show plC sr q = p by omega]; exact hJ2) (by omega) _ _ hP hD hS ls (lv_sub hl [0, 3, 4, 5, 6, 7, 8, 9, 10] rfl)
            · skip
              rw [nI_leI (by omega) (by omega)] at c50
              have hlt : p < plC sr q := by omega
              have h3q := bse_le hq1 (show sr < 4 by omega) hlt
              have hevX := evC_X hq1 hq (show sr < 4 by omega) hlt haC
              have aE := arr_ev haC hq h3q
              have hE21 := arr_21 hq aE
              obtain ⟨Q, qC, qS, qD, lv, hwQ, hwJ, hwC, hwS, hwD⟩ := hJ2
              refine lv_iload gx gb dX5_lookBehind_53 (lv_at hl 5 rfl) ?_
              refine lv_aload_n gx gb dX5_lookBehind_55 rfl (lv_at hl 6 rfl) ?_
              refine va_get (D := D) (ci := 2) (v := .int (nI q)) (C := RX5) (T := TX5) (N := 7) gx gb gts i5 gown hK hP 0 rfl rfl 3 (by decide) (gts (.fieldLink RX5 22 "SwanSums$Routes" "size" "I") (by decide +kernel)) (fun _ h9 => h9) rfl dX5_lookBehind_56 ?_
              refine lv_iload gx gb dX5_lookBehind_59 (lv_at hl 2 rfl) ?_
              refine lv_iload gx gb dX5_lookBehind_61 (lv_at hl 0 rfl) ?_
              refine vp_callSi (W.runS (As := [.int (nI C), .int (nI q), .int (nI sr), .int (nI p)]) (rest := []) ⟨gx, gb, gml, gown, gts⟩ (kX6_behindEvent Gl C q sr p (by omega) (by omega) (by omega) (by omega) (by omega)) (va_cwS 4 gts gX5_lookBehind_X6_behindEvent rfl rfl rfl (by decide +kernel) ⟨Nat.le_of_ble_eq_true rfl, Nat.le_of_ble_eq_true rfl⟩) ⟨fun _ _ _ _ h => h, fun U hU hW => ⟨rfl, trivial⟩⟩ rfl rfl hl.1 rfl (lv_room (Nat.le_of_ble_eq_true rfl)) dX5_lookBehind_63 ⟨Nat.le_of_ble_eq_true rfl, Nat.le_of_ble_eq_true rfl⟩) (fun r hw => ?_)
              have hr63 := hw
              subst hr63
              refine lv_evi (nI (evX q (bse q sr + p) C)) (congrArg nI hevX) ?_
              refine lv_istore (lv' := [(12, .int (nI (evX q (bse q sr + p) C))), (11, .int (nI p)), (10, .int (nI (plC sr q))), (9, .int (nI sr)), (8, .int (nI (d + 1))), (7, .int (nI s)), (6, .int (nI C)), (0, .ref rt), (1, .int (nI ((d * 8 + s) * 2097152 + C))), (2, .int (nI a)), (3, .int (nI m)), (4, .long (lN (pk 256 (fun x_ => num (plc x_)) q)))]) gx gb dX5_lookBehind_66 hl (by decide) rfl (fun ls hl => ?_)
              refine lv_aload_n gx gb dX5_lookBehind_68 rfl (lv_at hl 7 rfl) ?_
              refine lv_iload gx gb dX5_lookBehind_69 (lv_at hl 0 rfl) ?_
              refine lv_iload gx gb dX5_lookBehind_71 (lv_at hl 5 rfl) ?_
              refine lv_iconst (v := nI 1) gx gb dX5_lookBehind_73 (by decide) ?_
              refine lv_iadd gx gb dX5_lookBehind_74 ?_
              refine lv_evi (nI (s + 1)) (nI_add s 1) ?_
              have hPc := hP.sub (ws' := wT rt r0 r1 r4 r5 cI cJ tn q tq_ rws lks mk_ qu_) [0, 1, 2, 3, 4] rfl
              have hDc := hD.sub (ws' := wT rt r0 r1 r4 r5 cI cJ tn q tq_ rws lks mk_ qu_) [0, 1, 2, 3, 4] (by decide) rfl
              have hFc := va_free (wc := wT rt r0 r1 r4 r5 cI cJ tn q tq_ rws lks mk_ qu_) hD hS hA [0, 1, 2, 3, 4] rfl
              refine va_calli (va_runV (As := [.int (nI (evX q (bse q sr + p) C)), .int (nI (s + 1))]) (rest := []) ⟨gx, gb, gml, gown, gts⟩ (kX5_raise Gl D cI cJ cZ rt r0 r1 r4 r5 tn q tq_ rws lks mk_ qu_ _ lv (evX q (bse q sr + p) C) (s + 1) (by omega) (by omega) (by exact hwQ.2.2.1) (by exact hwQ.2.2.2.1)) (cwV 2 gts gX5_lookBehind_X5_raise rfl rfl rfl (by decide +kernel) ⟨Nat.le_of_ble_eq_true rfl, Nat.le_of_ble_eq_true rfl⟩) ⟨fun a U g mk q => by obtain ⟨q0, q1, qP, qK, qD⟩ := q; exact ⟨q0, q1, qP, va_K.moved (u := U) (U := U.calling g mk a) (Vm.Alike.refl U.vm) qK, qD⟩, va_recv hK hPc (ci := 2) (q0 := 0) rfl rfl, fun U hU hW => ⟨rfl, by rw [hU], by rw [hU]; exact hPc, va_K.moved hW.alike hK, hDc.weaken (fun _ _ _ _ => trivial)⟩⟩ rfl rfl hl.1 rfl (lv_room (Nat.le_of_ble_eq_true rfl)) dX5_lookBehind_75 ⟨Nat.le_of_ble_eq_true rfl, Nat.le_of_ble_eq_true rfl⟩) hS (fun q _ h => hFc q h) hFc (fun r u t H1 locs ht hvm hw hB hz1 hk1 hS => ?_)
              obtain ⟨mks_75, rfl⟩ : ∃ z, z = u := ⟨_, rfl⟩
              obtain ⟨hP1, hK1, hD1⟩ := hB
              rw [ht] at hP1
              try dsimp only at hw
              try dsimp only at hP1
              try dsimp only at hD1
              have hK := va_K.moved hvm.symm hK1
              obtain ⟨hP, hD⟩ := va_join (wr := []) (w1 := wT rt r0 r1 r4 r5 cI cJ tn q tq_ rws lks mks_75 qu_) hP hD [0, 1, 2, 3, 4] [] rfl rfl (by decide) (by decide) hk1 hFc hP1 hD1
              have hP := hP.sub (ws' := wT rt r0 r1 r4 r5 cI cJ tn q tq_ rws lks mks_75 qu_) [0, 1, 2, 3, 4] rfl
              have hD := hD.sub (ws' := wT rt r0 r1 r4 r5 cI cJ tn q tq_ rws lks mks_75 qu_) [0, 1, 2, 3, 4] (by decide) rfl
              have hK := va_K.moved (Vm.Alike.refl Gs.vm) hK
              generalize H1 = H at hP hS ⊢
              obtain ⟨hr75, hw⟩ := hw
              subst hr75
              have hm75 := hw
              refine lv_if_ne (tgt := 84) gx gb dX5_lookBehind_78 (by decide) (fun c78 => ?_) (fun c78 => ?_)
              · skip
                rw [b0_eq] at c78
                simp only [decide_eq_false_iff_not, Decidable.not_not] at c78
                refine lv_aload_n gx gb dX5_lookBehind_84 rfl (lv_at hl 7 rfl) ?_
                refine lv_iload gx gb dX5_lookBehind_85 (lv_at hl 0 rfl) ?_
                refine lv_iload gx gb dX5_lookBehind_87 (lv_at hl 5 rfl) ?_
                refine lv_iload_n gx gb dX5_lookBehind_89 rfl (lv_at hl 9 rfl) ?_
                refine lv_iload_n gx gb dX5_lookBehind_90 rfl (lv_at hl 10 rfl) ?_
                refine lv_lload gx gb dX5_lookBehind_91 (lv_at hl 11 rfl) ?_
                have hPc := hP.sub (ws' := wT rt r0 r1 r4 r5 cI cJ tn q tq_ rws lks mks_75 qu_) [0, 1, 2, 3, 4] rfl
                refine vp_callSi (W.runV (As := [.int (nI (evX q (bse q sr + p) C)), .int (nI s), .int (nI a), .int (nI m), .long (lN (pk 256 (fun x_ => num (plc x_)) q))]) (rest := []) ⟨gx, gb, gml, gown, gts⟩ (kX5_stageAt Gl D cI cJ cZ rt r0 r1 r4 r5 tn tq_ rws lks mks_75 qu_ num plc q (evX q (bse q sr + p) C) s a m (by omega) (by omega) (by exact aE) (by omega) (by omega) (by omega) (by exact ha7) (by exact hnv)) (cwV 5 gts gX5_lookBehind_X5_stageAt rfl rfl rfl (by decide +kernel) ⟨Nat.le_of_ble_eq_true rfl, Nat.le_of_ble_eq_true rfl⟩) ⟨fun a U g mk q => ⟨q.1, q.2.1, va_K.moved (u := U) (U := U.calling g mk a) (Vm.Alike.refl U.vm) q.2.2⟩, va_recv hK hPc (ci := 2) (q0 := 0) rfl rfl, fun U hU hW => ⟨rfl, by rw [hU]; exact hPc, va_K.moved hW.alike hK⟩⟩ rfl rfl hl.1 rfl (lv_room (Nat.le_of_ble_eq_true rfl)) dX5_lookBehind_93 ⟨Nat.le_of_ble_eq_true rfl, Nat.le_of_ble_eq_true rfl⟩) (fun r hw => ?_)
                obtain ⟨r93, rfl⟩ : ∃ z, z = r := ⟨_, rfl⟩
                obtain ⟨x93, rfl, hx1, hx2, hx3, hx4⟩ := hw
                refine lv_istore (lv' := [(13, .int (nI x93)), (12, .int (nI (evX q (bse q sr + p) C))), (11, .int (nI p)), (10, .int (nI (plC sr q))), (9, .int (nI sr)), (8, .int (nI (d + 1))), (7, .int (nI s)), (6, .int (nI C)), (0, .ref rt), (1, .int (nI ((d * 8 + s) * 2097152 + C))), (2, .int (nI a)), (3, .int (nI m)), (4, .long (lN (pk 256 (fun x_ => num (plc x_)) q)))]) gx gb dX5_lookBehind_96 hl (by decide) rfl (fun ls hl => ?_)
                refine lv_iload gx gb dX5_lookBehind_98 (lv_at hl 0 rfl) ?_
                refine lv_iload_n gx gb dX5_lookBehind_100 rfl (lv_at hl 11 rfl) ?_
                refine lv_icmp_lt (tgt := 107) gx gb dX5_lookBehind_101 (by decide) (fun c101 => ?_) (fun c101 => ?_)
                · skip
                  rw [nI_ltI (by omega) (by omega)] at c101
                  refine lv_aload_n gx gb dX5_lookBehind_107 rfl (lv_at hl 8 rfl) ?_
                  refine lv_iload gx gb dX5_lookBehind_108 (lv_at hl 1 rfl) ?_
                  refine lv_iload gx gb dX5_lookBehind_110 (lv_at hl 0 rfl) ?_
                  refine lv_iconst (v := nI 1) gx gb dX5_lookBehind_112 (by decide) ?_
                  refine lv_iadd gx gb dX5_lookBehind_113 ?_
                  refine lv_evi (nI (x93 + 1)) (nI_add x93 1) ?_
                  have hPc := hP.sub (ws' := wT rt r0 r1 r4 r5 cI cJ tn q tq_ rws lks mks_75 qu_) [0, 1, 2, 3, 4] rfl
                  have hDc := hD.sub (ws' := wT rt r0 r1 r4 r5 cI cJ tn q tq_ rws lks mks_75 qu_) [0, 1, 2, 3, 4] (by decide) rfl
                  have hFc := va_free (wc := wT rt r0 r1 r4 r5 cI cJ tn q tq_ rws lks mks_75 qu_) hD hS hA [0, 1, 2, 3, 4] rfl
                  refine va_calli (va_runV (As := [.int (nI (evX q (bse q sr + p) C)), .int (nI (x93 + 1))]) (rest := []) ⟨gx, gb, gml, gown, gts⟩ (kX5_raise Gl D cI cJ cZ rt r0 r1 r4 r5 tn q tq_ rws lks mks_75 qu_ _ (up lv (evX q (bse q sr + p) C % 262144) (s + 1)) (evX q (bse q sr + p) C) (x93 + 1) (by omega) (by omega) (by rw [if_pos c78] at hm75; exact hm75) (by intro x; simp only [up]; split; omega; exact hwQ.2.2.2.1 x)) (cwV 2 gts gX5_lookBehind_X5_raise rfl rfl rfl (by decide +kernel) ⟨Nat.le_of_ble_eq_true rfl, Nat.le_of_ble_eq_true rfl⟩) ⟨fun a U g mk q => by obtain ⟨q0, q1, qP, qK, qD⟩ := q; exact ⟨q0, q1, qP, va_K.moved (u := U) (U := U.calling g mk a) (Vm.Alike.refl U.vm) qK, qD⟩, va_recv hK hPc (ci := 2) (q0 := 0) rfl rfl, fun U hU hW => ⟨rfl, by rw [hU], by rw [hU]; exact hPc, va_K.moved hW.alike hK, hDc.weaken (fun _ _ _ _ => trivial)⟩⟩ rfl rfl hl.1 rfl (lv_room (Nat.le_of_ble_eq_true rfl)) dX5_lookBehind_114 ⟨Nat.le_of_ble_eq_true rfl, Nat.le_of_ble_eq_true rfl⟩) hS (fun q _ h => hFc q h) hFc (fun r u t H1 locs ht hvm hw hB hz1 hk1 hS => ?_)
                  obtain ⟨mks_114, rfl⟩ : ∃ z, z = u := ⟨_, rfl⟩
                  obtain ⟨hP1, hK1, hD1⟩ := hB
                  rw [ht] at hP1
                  try dsimp only at hw
                  try dsimp only at hP1
                  try dsimp only at hD1
                  have hK := va_K.moved hvm.symm hK1
                  obtain ⟨hP, hD⟩ := va_join (wr := []) (w1 := wT rt r0 r1 r4 r5 cI cJ tn q tq_ rws lks mks_114 qu_) hP hD [0, 1, 2, 3, 4] [] rfl rfl (by decide) (by decide) hk1 hFc hP1 hD1
                  have hP := hP.sub (ws' := wT rt r0 r1 r4 r5 cI cJ tn q tq_ rws lks mks_114 qu_) [0, 1, 2, 3, 4] rfl
                  have hD := hD.sub (ws' := wT rt r0 r1 r4 r5 cI cJ tn q tq_ rws lks mks_114 qu_) [0, 1, 2, 3, 4] (by decide) rfl
                  have hK := va_K.moved (Vm.Alike.refl Gs.vm) hK
                  generalize H1 = H at hP hS ⊢
                  obtain ⟨hr114, hw⟩ := hw
                  subst hr114
                  have hm114 := hw
                  refine lv_pop gx gb dX5_lookBehind_117 rfl ?_
                  have hJenq := weJ_enq hq hm4 h3q hwQ hwJ hwC hwS hwD c78 hx1 (by omega) hx3 (hx4 (by omega)) hm114
                  refine lv_aload_n gx gb dX5_lookBehind_118 rfl (lv_at hl 8 rfl) ?_
                  refine lv_iload gx gb dX5_lookBehind_119 (lv_at hl 1 rfl) ?_
                  refine lv_iload gx gb dX5_lookBehind_121 (lv_at hl 0 rfl) ?_
                  refine lv_iload gx gb dX5_lookBehind_123 (lv_at hl 5 rfl) ?_
                  have hPc := hP.sub (ws' := wT rt r0 r1 r4 r5 cI cJ tn q tq_ rws lks mks_114 qu_) [0, 1, 2, 3, 4] rfl
                  have hDc := hD.sub (ws' := wT rt r0 r1 r4 r5 cI cJ tn q tq_ rws lks mks_114 qu_) [0, 1, 2, 3, 4] (by decide) rfl
                  have hFc := va_free (wc := wT rt r0 r1 r4 r5 cI cJ tn q tq_ rws lks mks_114 qu_) hD hS hA [0, 1, 2, 3, 4] rfl
                  refine va_callv (va_runV (As := [.int (nI (evX q (bse q sr + p) C)), .int (nI x93), .int (nI (d + 1))]) (rest := []) ⟨gx, gb, gml, gown, gts⟩ (kX5_enqueue Gl D cI cJ cZ rt r0 r1 r4 r5 tn q tq_ rws lks mks_114 qu_ _ (evX q (bse q sr + p) C) x93 (d + 1) (by omega) (by omega) (by omega) (by omega)) (cwV 3 gts gX5_lookBehind_X5_enqueue rfl rfl rfl (by decide +kernel) ⟨Nat.le_of_ble_eq_true rfl, Nat.le_of_ble_eq_true rfl⟩) ⟨fun a U g mk q => by obtain ⟨q0, q1, qP, qK, qD⟩ := q; exact ⟨q0, q1, qP, va_K.moved (u := U) (U := U.calling g mk a) (Vm.Alike.refl U.vm) qK, qD⟩, va_recv hK hPc (ci := 2) (q0 := 0) rfl rfl, fun U hU hW => ⟨rfl, by rw [hU], by rw [hU]; exact hPc, va_K.moved hW.alike hK, hDc.weaken (fun _ _ _ _ => trivial)⟩⟩ rfl rfl hl.1 rfl (lv_room (Nat.le_of_ble_eq_true rfl)) dX5_lookBehind_125 ⟨Nat.le_of_ble_eq_true rfl, Nat.le_of_ble_eq_true rfl⟩) hS (fun q _ h => hFc q h) hFc (fun u t H1 locs ht hvm hw hB hz1 hk1 hS => ?_)
                  obtain ⟨hP1, hK1, hD1⟩ := hB
                  rw [ht] at hP1
                  try dsimp only at hw
                  try dsimp only at hP1
                  try dsimp only at hD1
                  have hK := va_K.moved hvm.symm hK1
                  obtain ⟨hP, hD⟩ := va_join (wr := []) (w1 := wT rt r0 r1 r4 r5 cI cJ tn q (tq_ + 1) rws lks mks_114 (up qu_ tq_ (((d + 1) * 8 + x93) * 2097152 + (evX q (bse q sr + p) C)))) hP hD [0, 1, 2, 3, 4] [] rfl rfl (by decide) (by decide) hk1 hFc hP1 hD1
                  have hP := hP.sub (ws' := wT rt r0 r1 r4 r5 cI cJ tn q (tq_ + 1) rws lks mks_114 (up qu_ tq_ (((d + 1) * 8 + x93) * 2097152 + (evX q (bse q sr + p) C)))) [0, 1, 2, 3, 4] rfl
                  have hD := hD.sub (ws' := wT rt r0 r1 r4 r5 cI cJ tn q (tq_ + 1) rws lks mks_114 (up qu_ tq_ (((d + 1) * 8 + x93) * 2097152 + (evX q (bse q sr + p) C)))) [0, 1, 2, 3, 4] (by decide) rfl
                  have hK := va_K.moved (Vm.Alike.refl Gs.vm) hK
                  generalize H1 = H at hP hS ⊢
                  refine lv_iinc (v := nI (p + 1)) (lv' := [(11, .int (nI (p + 1))), (13, .int (nI x93)), (12, .int (nI (evX q (bse q sr + p) C))), (10, .int (nI (plC sr q))), (9, .int (nI sr)), (8, .int (nI (d + 1))), (7, .int (nI s)), (6, .int (nI C)), (0, .ref rt), (1, .int (nI ((d * 8 + s) * 2097152 + C))), (2, .int (nI a)), (3, .int (nI m)), (4, .long (lN (pk 256 (fun x_ => num (plc x_)) q)))]) gx gb dX5_lookBehind_128 hl (k := 2) rfl (nI_add p 1) (by decide) rfl (fun ls hl => ?_)
                  refine lv_goto (tgt := 46) gx gb dX5_lookBehind_131 (by decide) ?_
                  exact ih46 (p + 1) (tq_ + 1) (up qu_ tq_ (((d + 1) * 8 + x93) * 2097152 + (evX q (bse q sr + p) C))) mks_114 (by omega) (by first | exact hJold | exact hJenq.2.2) (by omega) _ _ hP hD hS ls (lv_sub hl [0, 3, 4, 5, 6, 7, 8, 9, 10, 11, 12] rfl)
                · skip
                  rw [nI_ltI (by omega) (by omega)] at c101
                  refine lv_iload gx gb dX5_lookBehind_104 (lv_at hl 5 rfl) ?_
                  exact W.iret (v := nI (d + 1)) gx gb gr (fun t ht hW => ⟨⟨nI (d + 1), (tq_, qu_, mks_75), rfl, (by first | (dsimp only; done) | ((try dsimp only); exact ⟨((d + 1 : Nat) : Int), (zI_nat _).symm, by omega, Or.inr ⟨by omega, weJ_ans h3q hwQ hwJ hwC hwS hwD (by omega) hx3⟩⟩)), by rw [ht]; exact hP, va_K.moved hW.alike hK, hD⟩, hS.F ht⟩) hS.2.2 dX5_lookBehind_106
              · skip
                rw [b0_eq] at c78
                simp only [decide_eq_false_iff_not, Decidable.not_not] at c78
                have hJold := weJ_old hq h3q hwQ hwJ hwC hwS hwD c78 hm75
                refine lv_goto (tgt := 128) gx gb dX5_lookBehind_81 (by decide) ?_
                refine lv_iinc (v := nI (p + 1)) (lv' := [(11, .int (nI (p + 1))), (12, .int (nI (evX q (bse q sr + p) C))), (10, .int (nI (plC sr q))), (9, .int (nI sr)), (8, .int (nI (d + 1))), (7, .int (nI s)), (6, .int (nI C)), (0, .ref rt), (1, .int (nI ((d * 8 + s) * 2097152 + C))), (2, .int (nI a)), (3, .int (nI m)), (4, .long (lN (pk 256 (fun x_ => num (plc x_)) q)))]) gx gb dX5_lookBehind_128 hl (k := 1) rfl (nI_add p 1) (by decide) rfl (fun ls hl => ?_)
                refine lv_goto (tgt := 46) gx gb dX5_lookBehind_131 (by decide) ?_
                exact ih46 (p + 1) tq_ qu_ mks_75 (by omega) (by first | exact hJold | exact hJenq.2.2) (by omega) _ _ hP hD hS ls (lv_sub hl [0, 2, 3, 4, 5, 6, 7, 8, 9, 10, 11] rfl)
        exact L46 _ 0 tq_ qu_ mk_ (by omega) (by exact hJ1) (Nat.lt_succ_self _) _ _ hP hD hS ls (lv_sub hl [0, 1, 2, 3, 4, 5, 6, 7, 8, 9, 10] rfl)
  exact L26 _ 0 tq qu mks (by omega) (by exact hJ0) (Nat.lt_succ_self _) _ _ hP hD hS ls (lv_sub hl [0, 1, 2, 3, 4, 5, 6, 7, 8] rfl)

set_option maxHeartbeats 4000000 in
set_option maxRecDepth 100000 in
theorem kX5_fewestInTurn (Gl : Launch) (D : va_G) (cI cJ cZ : ClassId) (rt : Nat) (r0 : Nat) (r1 : Nat) (r4 : Nat) (r5 : Nat) (tn : Nat) (tq : Nat) (rws : Nat → Nat) (lks : Nat → Nat) (mks : Nat → Nat) (qu : Nat → Nat) (sz : Nat) (num plc : Nat → Nat) (q a m : Nat) (hq1 : 1 ≤ q) (hq : q ≤ 7) (hsR : simR q (bAll q) tn rws lks) (hm4 : m ≤ 4) (ha : a < 2147483648) (ha7 : ∀ k, k < m → dg 10 a k ≤ 6) (hnv : ∀ x, x < q → num (plc x) ≤ 99) : Met Gl yX5_fewestInTurn wsX5_fewestInTurn ({ frames := 5, cells := 0, slots := 0, locals := 150 } : Room) (va_Pc [.ref rt, .int (nI a), .int (nI m), .long (lN (pk 256 (fun x_ => num (plc x_)) q))] (fun U => U.heap.size = sz ∧ va_P D vwCl (wT rt r0 r1 r4 r5 cI cJ tn q tq rws lks mks qu) U.heap ∧ va_K D vwCl [(cI, .int), (cJ, .long), (cZ, .boolean)] U ∧ va_D (fun _ => True) (wT rt r0 r1 r4 r5 cI cJ tn q tq rws lks mks qu))) (va_Qi (fun (r : Int32) (u : (Nat) × (Nat → Nat) × (Nat → Nat)) => ∃ zz : Int, r = zI zz ∧ wkA q (tkW num plc q a m) m zz) (fun (u : (Nat) × (Nat → Nat) × (Nat → Nat)) t => va_P D vwCl (wT rt r0 r1 r4 r5 cI cJ tn q u.1 rws lks u.2.2 u.2.1) t.heap ∧ va_K D vwCl [(cI, .int), (cJ, .long), (cZ, .boolean)] t ∧ va_D (va_A (wT rt r0 r1 r4 r5 cI cJ tn q tq rws lks mks qu) sz) (wT rt r0 r1 r4 r5 cI cJ tn q u.1 rws lks u.2.2 u.2.1)) (va_A (wT rt r0 r1 r4 r5 cI cJ tn q tq rws lks mks qu) sz)) 0 0 (va_A (wT rt r0 r1 r4 r5 cI cJ tn q tq rws lks mks qu) sz) := by
  refine Met.ofW (cc := cX5_fewestInTurn) (maxL := 9) (ret := (some .int)) (by decide +kernel) rfl ?_
  intro Gp Ge Gs Gm Ga Gw Gt Gc G1 Bd gml gv
  obtain ⟨rfl, hsz, hP, hK, hD0⟩ := gv
  have gx := Bd.exec
  have gb := Bd.bytes
  have gr := Bd.returns
  have gts := atoms_spec (ws := wsX5_fewestInTurn) Bd.pre
  have gown : Gs.vm.findClass RX5 = some Gm.cls := findClass_of_methodNamed Bd.named
  have glk := Bd.notSynchronized
  subst hsz
  have hD := hD0.self (sz := Gs.heap.size)
  generalize hAe : va_A (wT rt r0 r1 r4 r5 cI cJ tn q tq rws lks mks qu) Gs.heap.size = A at hD ⊢
  have hA : ∀ q : Nat, Gs.heap.size ≤ q → A q := fun q h => by rw [← hAe]; exact Or.inr h
  have hS : va_S A Gs.heap Gs.heap [] := va_S.rf
  have hP : va_P D vwCl (wT rt r0 r1 r4 r5 cI cJ tn q tq rws lks mks qu) Gs.heap := hP
  have hl := lv_entry ([.ref rt, .int (nI a), .int (nI m), .long (lN (pk 256 (fun x_ => num (plc x_)) q))]) (n := 9) (Nat.le_of_ble_eq_true rfl)
  rw [lg_entry_eq]
  generalize (lg_sl ([.ref rt, .int (nI a), .int (nI m), .long (lN (pk 256 (fun x_ => num (plc x_)) q))]) ++ List.replicate (9 - (lg_sl ([.ref rt, .int (nI a), .int (nI m), .long (lN (pk 256 (fun x_ => num (plc x_)) q))])).length) Slot.unset).toArray = ls at hl ⊢
  have hl : lv_has ls 9 [(0, .ref rt), (1, .int (nI a)), (2, .int (nI m)), (3, .long (lN (pk 256 (fun x_ => num (plc x_)) q)))] := hl
  have i5 : ∀ w ∈ wsX50, w ∈ wsX5_fewestInTurn := by decide +kernel
  have hv256 : ∀ x, x < q → num (plc x) < 256 := fun x hx => by have := hnv x hx; omega
  have hl63 := pk256_lt (f := fun x_ => num (plc x_)) (z := q) hv256 (by omega)
  have hbk := bfs_ok hq 5040
  have haC := arr_id q
  have hC21 := arr_21 hq haC
  refine lv_aload_n gx gb dX5_fewestInTurn_0 rfl (lv_at hl 0 rfl) ?_
  refine lv_iload_n gx gb dX5_fewestInTurn_1 rfl (lv_at hl 1 rfl) ?_
  refine lv_iload_n gx gb dX5_fewestInTurn_2 rfl (lv_at hl 2 rfl) ?_
  refine lv_lload_n gx gb dX5_fewestInTurn_3 rfl (lv_at hl 3 rfl) ?_
  have hPc := hP.sub (ws' := wT rt r0 r1 r4 r5 cI cJ tn q tq rws lks mks qu) [0, 1, 2, 3, 4] rfl
  refine vp_callSi (W.runV (As := [.int (nI a), .int (nI m), .long (lN (pk 256 (fun x_ => num (plc x_)) q))]) (rest := []) ⟨gx, gb, gml, gown, gts⟩ (kX5_eachCanBe Gl D cI cJ cZ rt r0 r1 r4 r5 tn tq rws lks mks qu (bAll q) num plc q a m (by omega) (by omega) (by exact hbk) (by exact hsR) (by omega) (by omega) (by exact ha7) (by exact hnv)) (cwV 3 gts gX5_fewestInTurn_X5_eachCanBe rfl rfl rfl (by decide +kernel) ⟨Nat.le_of_ble_eq_true rfl, Nat.le_of_ble_eq_true rfl⟩) ⟨fun a U g mk q => ⟨q.1, q.2.1, va_K.moved (u := U) (U := U.calling g mk a) (Vm.Alike.refl U.vm) q.2.2⟩, va_recv hK hPc (ci := 2) (q0 := 0) rfl rfl, fun U hU hW => ⟨rfl, by rw [hU]; exact hPc, va_K.moved hW.alike hK⟩⟩ rfl rfl hl.1 rfl (lv_room (Nat.le_of_ble_eq_true rfl)) dX5_fewestInTurn_4 ⟨Nat.le_of_ble_eq_true rfl, Nat.le_of_ble_eq_true rfl⟩) (fun r hw => ?_)
  obtain ⟨r4, rfl⟩ : ∃ z, z = r := ⟨_, rfl⟩
  obtain ⟨b4, rfl, hb4⟩ := hw
  refine lv_if_ne (tgt := 13) gx gb dX5_fewestInTurn_7 (by decide) (fun c7 => ?_) (fun c7 => ?_)
  · skip
    rw [b0_eq] at c7
    have c7 := nf_t c7
    refine lv_aload_n gx gb dX5_fewestInTurn_13 rfl (lv_at hl 0 rfl) ?_
    refine va_get (D := D) (ci := 2) (v := .ref r4) (C := RX5) (T := TX5) (N := 7) gx gb gts i5 gown hK hP 0 rfl rfl 4 (by decide) (gts (.fieldLink RX5 25 "SwanSums$Routes" "marks" "[J") (by decide +kernel)) (fun _ h9 => h9) rfl dX5_fewestInTurn_14 ?_
    refine lv_lconst (v := lN 0) gx gb dX5_fewestInTurn_17 rfl ?_
    have hPc := hP.sub (ws' := wAJ r4 cJ mks) [3] rfl
    have hDc := hD.sub (ws' := wAJ r4 cJ mks) [3] (by decide) rfl
    have hFc := va_free (wc := wAJ r4 cJ mks) hD hS hA [3] rfl
    refine va_callv (va_runS (As := [.ref r4, .long (lN 0)]) (rest := []) ⟨gx, gb, gml, gown, gts⟩ (kJ7_fill_d0a16 Gl D cI cJ cZ r4 mks _  ) (va_cwS 2 gts gX5_fewestInTurn_J7_fill_d0a16 rfl rfl rfl (by decide +kernel) ⟨Nat.le_of_ble_eq_true rfl, Nat.le_of_ble_eq_true rfl⟩) ⟨fun a U g mk q => by obtain ⟨q0, q1, qP, qK, qD⟩ := q; exact ⟨q0, q1, qP, va_K.moved (u := U) (U := U.calling g mk a) (Vm.Alike.refl U.vm) qK, qD⟩, fun U hU hW => ⟨rfl, by rw [hU], by rw [hU]; exact hPc, va_K.moved hW.alike hK, hDc.weaken (fun _ _ _ _ => trivial)⟩⟩ rfl rfl hl.1 rfl (lv_room (Nat.le_of_ble_eq_true rfl)) dX5_fewestInTurn_18 ⟨Nat.le_of_ble_eq_true rfl, Nat.le_of_ble_eq_true rfl⟩) hS (fun q _ h => hFc q h) hFc (fun u t H1 locs ht hvm hw hB hz1 hk1 hS => ?_)
    obtain ⟨hP1, hK1, hD1⟩ := hB
    rw [ht] at hP1
    try dsimp only at hw
    try dsimp only at hP1
    try dsimp only at hD1
    have hK := va_K.moved hvm.symm hK1
    obtain ⟨hP, hD⟩ := va_join (wr := [(rt, .inr (2, [.ref r0, .ref r1, .int (nI tn), .int (nI q), .ref r4, .ref r5, .int (nI tq)])), (r0, .inl (cI, 5040, .inl (aN rws))), (r1, .inl (cI, 5040, .inl (aN lks))), (r5, .inl (cI, 20160, .inl (aN qu)))]) (w1 := wAJ r4 cJ (cpy (fun _ => 0) mks 16384)) hP hD [3] [0, 1, 2, 4] rfl rfl (by decide) (by decide) hk1 hFc hP1 hD1
    have hP := hP.sub (ws' := wT rt r0 r1 r4 r5 cI cJ tn q tq rws lks (cpy (fun _ => 0) mks 16384) qu) [0, 1, 2, 4, 3] rfl
    have hD := hD.sub (ws' := wT rt r0 r1 r4 r5 cI cJ tn q tq rws lks (cpy (fun _ => 0) mks 16384) qu) [0, 1, 2, 4, 3] (by decide) rfl
    have hK := va_K.moved (Vm.Alike.refl Gs.vm) hK
    generalize H1 = H at hP hS ⊢
    refine lv_aload_n gx gb dX5_fewestInTurn_21 rfl (lv_at hl 0 rfl) ?_
    refine lv_iconst (v := nI 0) gx gb dX5_fewestInTurn_22 (by decide) ?_
    refine va_put (D := D) (ci := 2) (v := .int (nI 0)) (ty := .int) (C := RX5) (T := TX5) (N := 7) gx gb gts i5 tyX5 tyX5_ok nmX5 gown hK hP hD hS 0 rfl rfl 6 (by decide) (gts (.fieldLink RX5 32 "SwanSums$Routes" "queued" "I") (by decide +kernel)) (fun _ h9 => h9) rfl (by decide +kernel) rfl rfl (Nat.le_of_ble_eq_true rfl) dX5_fewestInTurn_23 (fun H locs hP hD hS => ?_)
    have hP : va_P D vwCl (wT rt r0 r1 r4 r5 cI cJ tn q 0 rws lks (cpy (fun _ => 0) mks 16384) qu) H := hP
    have hD : va_D A (wT rt r0 r1 r4 r5 cI cJ tn q 0 rws lks (cpy (fun _ => 0) mks 16384) qu) := hD
    refine lv_aload_n gx gb dX5_fewestInTurn_26 rfl (lv_at hl 0 rfl) ?_
    refine va_get (D := D) (ci := 2) (v := .int (nI q)) (C := RX5) (T := TX5) (N := 7) gx gb gts i5 gown hK hP 0 rfl rfl 3 (by decide) (gts (.fieldLink RX5 22 "SwanSums$Routes" "size" "I") (by decide +kernel)) (fun _ h9 => h9) rfl dX5_fewestInTurn_27 ?_
    refine vp_callSi (W.runS (As := [.int (nI q)]) (rest := []) ⟨gx, gb, gml, gown, gts⟩ (kX6_first Gl q (by omega)) (va_cwS 1 gts gX5_fewestInTurn_X6_first rfl rfl rfl (by decide +kernel) ⟨Nat.le_of_ble_eq_true rfl, Nat.le_of_ble_eq_true rfl⟩) ⟨fun _ _ _ _ h => h, fun U hU hW => ⟨rfl, trivial⟩⟩ rfl rfl hl.1 rfl (lv_room (Nat.le_of_ble_eq_true rfl)) dX5_fewestInTurn_30 ⟨Nat.le_of_ble_eq_true rfl, Nat.le_of_ble_eq_true rfl⟩) (fun r hw => ?_)
    have hr30 := hw
    subst hr30
    refine lv_evi (nI (cod q idn)) (rfl) ?_
    refine lv_istore (lv' := [(5, .int (nI (cod q idn))), (0, .ref rt), (1, .int (nI a)), (2, .int (nI m)), (3, .long (lN (pk 256 (fun x_ => num (plc x_)) q)))]) gx gb dX5_fewestInTurn_33 hl (by decide) rfl (fun ls hl => ?_)
    refine lv_aload_n gx gb dX5_fewestInTurn_35 rfl (lv_at hl 1 rfl) ?_
    refine lv_iload gx gb dX5_fewestInTurn_36 (lv_at hl 0 rfl) ?_
    refine lv_iconst (v := nI 0) gx gb dX5_fewestInTurn_38 (by decide) ?_
    refine lv_iload_n gx gb dX5_fewestInTurn_39 rfl (lv_at hl 2 rfl) ?_
    refine lv_iload_n gx gb dX5_fewestInTurn_40 rfl (lv_at hl 3 rfl) ?_
    refine lv_lload_n gx gb dX5_fewestInTurn_41 rfl (lv_at hl 4 rfl) ?_
    have hPc := hP.sub (ws' := wT rt r0 r1 r4 r5 cI cJ tn q 0 rws lks (cpy (fun _ => 0) mks 16384) qu) [0, 1, 2, 3, 4] rfl
    refine vp_callSi (W.runV (As := [.int (nI (cod q idn)), .int (nI 0), .int (nI a), .int (nI m), .long (lN (pk 256 (fun x_ => num (plc x_)) q))]) (rest := []) ⟨gx, gb, gml, gown, gts⟩ (kX5_stageAt Gl D cI cJ cZ rt r0 r1 r4 r5 tn 0 rws lks (cpy (fun _ => 0) mks 16384) qu num plc q (cod q idn) 0 a m (by omega) (by omega) (by exact haC) (by omega) (by omega) (by omega) (by exact ha7) (by exact hnv)) (cwV 5 gts gX5_fewestInTurn_X5_stageAt rfl rfl rfl (by decide +kernel) ⟨Nat.le_of_ble_eq_true rfl, Nat.le_of_ble_eq_true rfl⟩) ⟨fun a U g mk q => ⟨q.1, q.2.1, va_K.moved (u := U) (U := U.calling g mk a) (Vm.Alike.refl U.vm) q.2.2⟩, va_recv hK hPc (ci := 2) (q0 := 0) rfl rfl, fun U hU hW => ⟨rfl, by rw [hU]; exact hPc, va_K.moved hW.alike hK⟩⟩ rfl rfl hl.1 rfl (lv_room (Nat.le_of_ble_eq_true rfl)) dX5_fewestInTurn_42 ⟨Nat.le_of_ble_eq_true rfl, Nat.le_of_ble_eq_true rfl⟩) (fun r hw => ?_)
    obtain ⟨r42, rfl⟩ : ∃ z, z = r := ⟨_, rfl⟩
    obtain ⟨x42, rfl, hx1, hx2, hx3, hx4⟩ := hw
    refine lv_istore (lv' := [(6, .int (nI x42)), (5, .int (nI (cod q idn))), (0, .ref rt), (1, .int (nI a)), (2, .int (nI m)), (3, .long (lN (pk 256 (fun x_ => num (plc x_)) q)))]) gx gb dX5_fewestInTurn_45 hl (by decide) rfl (fun ls hl => ?_)
    refine lv_iload gx gb dX5_fewestInTurn_47 (lv_at hl 0 rfl) ?_
    refine lv_iload_n gx gb dX5_fewestInTurn_49 rfl (lv_at hl 4 rfl) ?_
    refine lv_icmp_lt (tgt := 55) gx gb dX5_fewestInTurn_50 (by decide) (fun c50 => ?_) (fun c50 => ?_)
    · skip
      rw [nI_ltI (by omega) (by omega)] at c50
      refine lv_aload_n gx gb dX5_fewestInTurn_55 rfl (lv_at hl 2 rfl) ?_
      refine lv_iload gx gb dX5_fewestInTurn_56 (lv_at hl 1 rfl) ?_
      refine lv_iload gx gb dX5_fewestInTurn_58 (lv_at hl 0 rfl) ?_
      refine lv_iconst (v := nI 1) gx gb dX5_fewestInTurn_60 (by decide) ?_
      refine lv_iadd gx gb dX5_fewestInTurn_61 ?_
      refine lv_evi (nI (x42 + 1)) (nI_add x42 1) ?_
      have hPc := hP.sub (ws' := wT rt r0 r1 r4 r5 cI cJ tn q 0 rws lks (cpy (fun _ => 0) mks 16384) qu) [0, 1, 2, 3, 4] rfl
      have hDc := hD.sub (ws' := wT rt r0 r1 r4 r5 cI cJ tn q 0 rws lks (cpy (fun _ => 0) mks 16384) qu) [0, 1, 2, 3, 4] (by decide) rfl
      have hFc := va_free (wc := wT rt r0 r1 r4 r5 cI cJ tn q 0 rws lks (cpy (fun _ => 0) mks 16384) qu) hD hS hA [0, 1, 2, 3, 4] rfl
      refine va_calli (va_runV (As := [.int (nI (cod q idn)), .int (nI (x42 + 1))]) (rest := []) ⟨gx, gb, gml, gown, gts⟩ (kX5_raise Gl D cI cJ cZ rt r0 r1 r4 r5 tn q 0 rws lks (cpy (fun _ => 0) mks 16384) qu _ (fun _ => 0) (cod q idn) (x42 + 1) (by omega) (by omega) (by exact mk_0 (fun s hs => if_pos hs)) (by exact fun _ => Nat.zero_le _)) (cwV 2 gts gX5_fewestInTurn_X5_raise rfl rfl rfl (by decide +kernel) ⟨Nat.le_of_ble_eq_true rfl, Nat.le_of_ble_eq_true rfl⟩) ⟨fun a U g mk q => by obtain ⟨q0, q1, qP, qK, qD⟩ := q; exact ⟨q0, q1, qP, va_K.moved (u := U) (U := U.calling g mk a) (Vm.Alike.refl U.vm) qK, qD⟩, va_recv hK hPc (ci := 2) (q0 := 0) rfl rfl, fun U hU hW => ⟨rfl, by rw [hU], by rw [hU]; exact hPc, va_K.moved hW.alike hK, hDc.weaken (fun _ _ _ _ => trivial)⟩⟩ rfl rfl hl.1 rfl (lv_room (Nat.le_of_ble_eq_true rfl)) dX5_fewestInTurn_62 ⟨Nat.le_of_ble_eq_true rfl, Nat.le_of_ble_eq_true rfl⟩) hS (fun q _ h => hFc q h) hFc (fun r u t H1 locs ht hvm hw hB hz1 hk1 hS => ?_)
      obtain ⟨mks_62, rfl⟩ : ∃ z, z = u := ⟨_, rfl⟩
      obtain ⟨hP1, hK1, hD1⟩ := hB
      rw [ht] at hP1
      try dsimp only at hw
      try dsimp only at hP1
      try dsimp only at hD1
      have hK := va_K.moved hvm.symm hK1
      obtain ⟨hP, hD⟩ := va_join (wr := []) (w1 := wT rt r0 r1 r4 r5 cI cJ tn q 0 rws lks mks_62 qu) hP hD [0, 1, 2, 3, 4] [] rfl rfl (by decide) (by decide) hk1 hFc hP1 hD1
      have hP := hP.sub (ws' := wT rt r0 r1 r4 r5 cI cJ tn q 0 rws lks mks_62 qu) [0, 1, 2, 3, 4] rfl
      have hD := hD.sub (ws' := wT rt r0 r1 r4 r5 cI cJ tn q 0 rws lks mks_62 qu) [0, 1, 2, 3, 4] (by decide) rfl
      have hK := va_K.moved (Vm.Alike.refl Gs.vm) hK
      generalize H1 = H at hP hS ⊢
      obtain ⟨hr62, hw⟩ := hw
      subst hr62
      have hm62 := hw
      refine lv_pop gx gb dX5_fewestInTurn_65 rfl ?_
      refine lv_aload_n gx gb dX5_fewestInTurn_66 rfl (lv_at hl 2 rfl) ?_
      refine lv_iload gx gb dX5_fewestInTurn_67 (lv_at hl 1 rfl) ?_
      refine lv_iload gx gb dX5_fewestInTurn_69 (lv_at hl 0 rfl) ?_
      refine lv_iconst (v := nI 0) gx gb dX5_fewestInTurn_71 (by decide) ?_
      have hPc := hP.sub (ws' := wT rt r0 r1 r4 r5 cI cJ tn q 0 rws lks mks_62 qu) [0, 1, 2, 3, 4] rfl
      have hDc := hD.sub (ws' := wT rt r0 r1 r4 r5 cI cJ tn q 0 rws lks mks_62 qu) [0, 1, 2, 3, 4] (by decide) rfl
      have hFc := va_free (wc := wT rt r0 r1 r4 r5 cI cJ tn q 0 rws lks mks_62 qu) hD hS hA [0, 1, 2, 3, 4] rfl
      refine va_callv (va_runV (As := [.int (nI (cod q idn)), .int (nI x42), .int (nI 0)]) (rest := []) ⟨gx, gb, gml, gown, gts⟩ (kX5_enqueue Gl D cI cJ cZ rt r0 r1 r4 r5 tn q 0 rws lks mks_62 qu _ (cod q idn) x42 0 (by omega) (by omega) (by omega) (by omega)) (cwV 3 gts gX5_fewestInTurn_X5_enqueue rfl rfl rfl (by decide +kernel) ⟨Nat.le_of_ble_eq_true rfl, Nat.le_of_ble_eq_true rfl⟩) ⟨fun a U g mk q => by obtain ⟨q0, q1, qP, qK, qD⟩ := q; exact ⟨q0, q1, qP, va_K.moved (u := U) (U := U.calling g mk a) (Vm.Alike.refl U.vm) qK, qD⟩, va_recv hK hPc (ci := 2) (q0 := 0) rfl rfl, fun U hU hW => ⟨rfl, by rw [hU], by rw [hU]; exact hPc, va_K.moved hW.alike hK, hDc.weaken (fun _ _ _ _ => trivial)⟩⟩ rfl rfl hl.1 rfl (lv_room (Nat.le_of_ble_eq_true rfl)) dX5_fewestInTurn_72 ⟨Nat.le_of_ble_eq_true rfl, Nat.le_of_ble_eq_true rfl⟩) hS (fun q _ h => hFc q h) hFc (fun u t H1 locs ht hvm hw hB hz1 hk1 hS => ?_)
      obtain ⟨hP1, hK1, hD1⟩ := hB
      rw [ht] at hP1
      try dsimp only at hw
      try dsimp only at hP1
      try dsimp only at hD1
      have hK := va_K.moved hvm.symm hK1
      obtain ⟨hP, hD⟩ := va_join (wr := []) (w1 := wT rt r0 r1 r4 r5 cI cJ tn q (0 + 1) rws lks mks_62 (up qu 0 ((0 * 8 + x42) * 2097152 + (cod q idn)))) hP hD [0, 1, 2, 3, 4] [] rfl rfl (by decide) (by decide) hk1 hFc hP1 hD1
      have hP := hP.sub (ws' := wT rt r0 r1 r4 r5 cI cJ tn q (0 + 1) rws lks mks_62 (up qu 0 ((0 * 8 + x42) * 2097152 + (cod q idn)))) [0, 1, 2, 3, 4] rfl
      have hD := hD.sub (ws' := wT rt r0 r1 r4 r5 cI cJ tn q (0 + 1) rws lks mks_62 (up qu 0 ((0 * 8 + x42) * 2097152 + (cod q idn)))) [0, 1, 2, 3, 4] (by decide) rfl
      have hK := va_K.moved (Vm.Alike.refl Gs.vm) hK
      generalize H1 = H at hP hS ⊢
      refine lv_iconst (v := nI 0) gx gb dX5_fewestInTurn_75 (by decide) ?_
      refine lv_istore (lv' := [(7, .int (nI 0)), (6, .int (nI x42)), (5, .int (nI (cod q idn))), (0, .ref rt), (1, .int (nI a)), (2, .int (nI m)), (3, .long (lN (pk 256 (fun x_ => num (plc x_)) q)))]) gx gb dX5_fewestInTurn_76 hl (by decide) rfl (fun ls hl => ?_)
      have L78 : ∀ fu : Nat, ∀ (hd tq_ : Nat) (qu_ mk_ : Nat → Nat) (hS1 : weS q (tkW num plc q a m) m hd tq_ qu_ mk_), (20160 - hd) < fu → ∀ (H : Heap) (locs : List Loc), va_P D vwCl (wT rt r0 r1 r4 r5 cI cJ tn q tq_ rws lks mk_ qu_) H → va_D A (wT rt r0 r1 r4 r5 cI cJ tn q tq_ rws lks mk_ qu_) → va_S A Gs.heap H locs → ∀ ls : Array Slot, lv_has ls 9 [(7, .int (nI hd)), (6, .int (nI x42)), (5, .int (nI (cod q idn))), (0, .ref rt), (1, .int (nI a)), (2, .int (nI m)), (3, .long (lN (pk 256 (fun x_ => num (plc x_)) q)))] → W Gp Gl Ge (headSpec wsX5_fewestInTurn ({ frames := 5, cells := 0, slots := 0, locals := 150 } : Room)).room Gs Gm ([.ref rt, .int (nI a), .int (nI m), .long (lN (pk 256 (fun x_ => num (plc x_)) q))] : List Value).toArray Gw Gt Gc H locs 0 0 (MQ Gw (va_Qi (fun (r : Int32) (u : (Nat) × (Nat → Nat) × (Nat → Nat)) => ∃ zz : Int, r = zI zz ∧ wkA q (tkW num plc q a m) m zz) (fun (u : (Nat) × (Nat → Nat) × (Nat → Nat)) t => va_P D vwCl (wT rt r0 r1 r4 r5 cI cJ tn q u.1 rws lks u.2.2 u.2.1) t.heap ∧ va_K D vwCl [(cI, .int), (cJ, .long), (cZ, .boolean)] t ∧ va_D A (wT rt r0 r1 r4 r5 cI cJ tn q u.1 rws lks u.2.2 u.2.1)) A) ([.ref rt, .int (nI a), .int (nI m), .long (lN (pk 256 (fun x_ => num (plc x_)) q))] : List Value).toArray Gs 0 0 A) (F0 Gm 78 ls []) := by
        intro fu
        induction fu with
        | zero => intro hd tq_ qu_ mk_ hS1 hfu; exact absurd hfu (Nat.not_lt_zero _)
        | succ fu ih78 =>
          intro hd tq_ qu_ mk_ hS1 hfu H locs hP hD hS ls hl
          have htq := weS_Q hq hm4 hS1
          have hht := hS1.1
          refine lv_iload gx gb dX5_fewestInTurn_78 (lv_at hl 0 rfl) ?_
          refine lv_aload_n gx gb dX5_fewestInTurn_80 rfl (lv_at hl 3 rfl) ?_
          refine va_get (D := D) (ci := 2) (v := .int (nI tq_)) (C := RX5) (T := TX5) (N := 7) gx gb gts i5 gown hK hP 0 rfl rfl 6 (by decide) (gts (.fieldLink RX5 32 "SwanSums$Routes" "queued" "I") (by decide +kernel)) (fun _ h9 => h9) rfl dX5_fewestInTurn_81 ?_
          refine lv_icmp_ge (tgt := 127) gx gb dX5_fewestInTurn_84 (by decide) (fun c84 => ?_) (fun c84 => ?_)
          · skip
            rw [nI_leI (by omega) (by omega)] at c84
            refine lv_bipush (v := zI (-6)) gx gb dX5_fewestInTurn_127 (by decide) ?_
            exact W.iret (v := zI (-6)) gx gb gr (fun t ht hW => ⟨⟨zI (-6), (tq_, qu_, mk_), rfl, (by first | (dsimp only; done) | ((try dsimp only); exact ⟨-6, rfl, weS_end hS1 (by omega)⟩)), by rw [ht]; exact hP, va_K.moved hW.alike hK, hD⟩, hS.F ht⟩) hS.2.2 dX5_fewestInTurn_129
          · skip
            rw [nI_leI (by omega) (by omega)] at c84
            refine lv_iload gx gb dX5_fewestInTurn_87 (lv_at hl 0 rfl) ?_
            refine lv_aload_n gx gb dX5_fewestInTurn_89 rfl (lv_at hl 3 rfl) ?_
            refine va_get (D := D) (ci := 2) (v := .ref r5) (C := RX5) (T := TX5) (N := 7) gx gb gts i5 gown hK hP 0 rfl rfl 5 (by decide) (gts (.fieldLink RX5 29 "SwanSums$Routes" "queue" "[I") (by decide +kernel)) (fun _ h9 => h9) rfl dX5_fewestInTurn_90 ?_
            refine va_alen (v := nI 20160) gx gb hK hP 4 0 rfl rfl rfl dX5_fewestInTurn_93 ?_
            refine lv_icmp_ge (tgt := 127) gx gb dX5_fewestInTurn_94 (by decide) (fun c94 => ?_) (fun c94 => ?_)
            · skip
              rw [nI_leI (by omega) (by omega)] at c94
              exfalso; omega
            · skip
              rw [nI_leI (by omega) (by omega)] at c94
              obtain ⟨C_, s_, d_, hqe, hJ_⟩ := weS_j hS1 (by omega)
              obtain ⟨haC_, hsm_, hd28_⟩ := weJ_b hq hJ_
              have hC21_ := arr_21 hq haC_
              refine lv_aload_n gx gb dX5_fewestInTurn_97 rfl (lv_at hl 3 rfl) ?_
              refine lv_aload_n gx gb dX5_fewestInTurn_98 rfl (lv_at hl 3 rfl) ?_
              refine va_get (D := D) (ci := 2) (v := .ref r5) (C := RX5) (T := TX5) (N := 7) gx gb gts i5 gown hK hP 0 rfl rfl 5 (by decide) (gts (.fieldLink RX5 29 "SwanSums$Routes" "queue" "[I") (by decide +kernel)) (fun _ h9 => h9) rfl dX5_fewestInTurn_99 ?_
              refine lv_iload gx gb dX5_fewestInTurn_102 (lv_at hl 0 rfl) ?_
              refine va_iald gx gb hK hP 4 0 rfl rfl (vp_in_nI (n := hd) (by omega) (by decide)) dX5_fewestInTurn_104 ?_
              refine lv_evi (nI (qu_ hd)) (aN_rd qu_ (by omega)) ?_
              refine lv_evi (nI ((d_ * 8 + s_) * 2097152 + C_)) (congrArg nI hqe) ?_
              refine lv_iload_n gx gb dX5_fewestInTurn_105 rfl (lv_at hl 4 rfl) ?_
              refine lv_iload_n gx gb dX5_fewestInTurn_106 rfl (lv_at hl 5 rfl) ?_
              refine lv_lload_n gx gb dX5_fewestInTurn_107 rfl (lv_at hl 6 rfl) ?_
              have hPc := hP.sub (ws' := wT rt r0 r1 r4 r5 cI cJ tn q tq_ rws lks mk_ qu_) [0, 1, 2, 3, 4] rfl
              have hDc := hD.sub (ws' := wT rt r0 r1 r4 r5 cI cJ tn q tq_ rws lks mk_ qu_) [0, 1, 2, 3, 4] (by decide) rfl
              have hFc := va_free (wc := wT rt r0 r1 r4 r5 cI cJ tn q tq_ rws lks mk_ qu_) hD hS hA [0, 1, 2, 3, 4] rfl
              refine va_calli (va_runV (As := [.int (nI ((d_ * 8 + s_) * 2097152 + C_)), .int (nI a), .int (nI m), .long (lN (pk 256 (fun x_ => num (plc x_)) q))]) (rest := []) ⟨gx, gb, gml, gown, gts⟩ (kX5_lookBehind Gl D cI cJ cZ rt r0 r1 r4 r5 tn tq_ rws lks mk_ qu_ _ num plc q hd C_ s_ d_ a m (by omega) (by omega) (by omega) (by omega) (by exact ha7) (by exact hnv) (by exact hJ_)) (cwV 4 gts gX5_fewestInTurn_X5_lookBehind rfl rfl rfl (by decide +kernel) ⟨Nat.le_of_ble_eq_true rfl, Nat.le_of_ble_eq_true rfl⟩) ⟨fun a U g mk q => by obtain ⟨q0, q1, qP, qK, qD⟩ := q; exact ⟨q0, q1, qP, va_K.moved (u := U) (U := U.calling g mk a) (Vm.Alike.refl U.vm) qK, qD⟩, va_recv hK hPc (ci := 2) (q0 := 0) rfl rfl, fun U hU hW => ⟨rfl, by rw [hU], by rw [hU]; exact hPc, va_K.moved hW.alike hK, hDc.weaken (fun _ _ _ _ => trivial)⟩⟩ rfl rfl hl.1 rfl (lv_room (Nat.le_of_ble_eq_true rfl)) dX5_fewestInTurn_108 ⟨Nat.le_of_ble_eq_true rfl, Nat.le_of_ble_eq_true rfl⟩) hS (fun q _ h => hFc q h) hFc (fun r u t H1 locs ht hvm hw hB hz1 hk1 hS => ?_)
              obtain ⟨tq_108, qu_108, mks_108⟩ := u
              obtain ⟨hP1, hK1, hD1⟩ := hB
              rw [ht] at hP1
              try dsimp only at hw
              try dsimp only at hP1
              try dsimp only at hD1
              have hK := va_K.moved hvm.symm hK1
              obtain ⟨hP, hD⟩ := va_join (wr := []) (w1 := wT rt r0 r1 r4 r5 cI cJ tn q tq_108 rws lks mks_108 qu_108) hP hD [0, 1, 2, 3, 4] [] rfl rfl (by decide) (by decide) hk1 hFc hP1 hD1
              have hP := hP.sub (ws' := wT rt r0 r1 r4 r5 cI cJ tn q tq_108 rws lks mks_108 qu_108) [0, 1, 2, 3, 4] rfl
              have hD := hD.sub (ws' := wT rt r0 r1 r4 r5 cI cJ tn q tq_108 rws lks mks_108 qu_108) [0, 1, 2, 3, 4] (by decide) rfl
              have hK := va_K.moved (Vm.Alike.refl Gs.vm) hK
              generalize H1 = H at hP hS ⊢
              obtain ⟨r108, rfl⟩ : ∃ z, z = r := ⟨_, rfl⟩
              obtain ⟨z108, rfl, hz2, hz3⟩ := hw
              refine lv_istore (lv' := [(8, .int (zI z108)), (7, .int (nI hd)), (6, .int (nI x42)), (5, .int (nI (cod q idn))), (0, .ref rt), (1, .int (nI a)), (2, .int (nI m)), (3, .long (lN (pk 256 (fun x_ => num (plc x_)) q)))]) gx gb dX5_fewestInTurn_111 hl (by decide) rfl (fun ls hl => ?_)
              refine lv_iload gx gb dX5_fewestInTurn_113 (lv_at hl 0 rfl) ?_
              refine lv_if_lt (tgt := 121) gx gb dX5_fewestInTurn_115 (by decide) (fun c115 => ?_) (fun c115 => ?_)
              · skip
                rw [z0_lt (by omega) (by omega)] at c115
                refine lv_iinc (v := nI (hd + 1)) (lv' := [(7, .int (nI (hd + 1))), (8, .int (zI z108)), (6, .int (nI x42)), (5, .int (nI (cod q idn))), (0, .ref rt), (1, .int (nI a)), (2, .int (nI m)), (3, .long (lN (pk 256 (fun x_ => num (plc x_)) q)))]) gx gb dX5_fewestInTurn_121 hl (k := 1) rfl (nI_add hd 1) (by decide) rfl (fun ls hl => ?_)
                refine lv_goto (tgt := 78) gx gb dX5_fewestInTurn_124 (by decide) ?_
                exact ih78 (hd + 1) tq_108 qu_108 mks_108 (by rcases hz3 with h9 | h9; exact h9.2; omega) (by omega) _ _ hP hD hS ls (lv_sub hl [0, 2, 3, 4, 5, 6, 7] rfl)
              · skip
                rw [z0_lt (by omega) (by omega)] at c115
                refine lv_iload gx gb dX5_fewestInTurn_118 (lv_at hl 0 rfl) ?_
                exact W.iret (v := zI z108) gx gb gr (fun t ht hW => ⟨⟨zI z108, (tq_108, qu_108, mks_108), rfl, (by first | (dsimp only; done) | ((try dsimp only); rcases hz3 with h9 | h9; omega; exact ⟨z108, rfl, h9.2⟩)), by rw [ht]; exact hP, va_K.moved hW.alike hK, hD⟩, hS.F ht⟩) hS.2.2 dX5_fewestInTurn_120
      exact L78 _ 0 (0 + 1) (up qu 0 ((0 * 8 + x42) * 2097152 + (cod q idn))) mks_62 (by exact weS_ini hq hm4 (by omega) (fun j hj => hx3 j (Nat.zero_le _) hj) (hx4 (by omega)) hm62) (Nat.lt_succ_self _) _ _ hP hD hS ls (lv_sub hl [0, 1, 2, 3, 4, 5, 6] rfl)
    · skip
      rw [nI_ltI (by omega) (by omega)] at c50
      refine lv_iconst (v := nI 0) gx gb dX5_fewestInTurn_53 (by decide) ?_
      exact W.iret (v := nI 0) gx gb gr (fun t ht hW => ⟨⟨nI 0, (0, qu, cpy (fun _ => 0) mks 16384), rfl, (by first | (dsimp only; done) | ((try dsimp only); exact ⟨0, rfl, wk_now (by omega) (fun j hj => hx3 j (Nat.zero_le _) hj)⟩)), by rw [ht]; exact hP, va_K.moved hW.alike hK, hD⟩, hS.F ht⟩) hS.2.2 dX5_fewestInTurn_54
  · skip
    rw [b0_eq] at c7
    refine lv_bipush (v := zI (-6)) gx gb dX5_fewestInTurn_10 (by decide) ?_
    exact W.iret (v := zI (-6)) gx gb gr (fun t ht hW => ⟨⟨zI (-6), (tq, qu, mks), rfl, (by first | (dsimp only; done) | ((try dsimp only); refine ⟨-6, rfl, ?_⟩; rw [c7] at hb4; have hx : ¬ ∀ k, k < m → fstT (fun i_ => tkC num plc (dg 10 a k) q (bR (bAll q) i_)) (bN (bAll q)) ≠ none := fun h9 => (by have := hb4.mpr h9; cases this); obtain ⟨k, hk9⟩ := Classical.not_forall.mp hx; obtain ⟨hk, hk2⟩ := Classical.not_imp.mp hk9; have hk3 := Decidable.of_not_not hk2; exact wk_each (j := m - 1 - k) hq (by omega) (fun i hi => by show tkC num plc (dg 10 a (m - 1 - (m - 1 - k))) q _ = false; rw [show m - 1 - (m - 1 - k) = k by omega]; exact fstT_no hk3 i hi))), by rw [ht]; exact hP, va_K.moved hW.alike hK, hD⟩, hS.F ht⟩) hS.2.2 dX5_fewestInTurn_12

