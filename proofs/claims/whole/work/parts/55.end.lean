set_option maxHeartbeats 4000000 in
set_option maxRecDepth 100000 in
theorem lB_loop {Gp : Program} {Gl : Launch} {Ge : Env} {Gs : State} {Gm : MethodId} {Gw : List Frame} {Gt : Method} {Gc : Code} {b L : Nat} {xs : Nat → Int32} (hL : L ≤ 256) (C0 : lw_At Gp Gs Gm Gt Gc b L xs) (D : va_G) (cI cJ cZ : ClassId) (A : Nat → Prop) (hA : ∀ q : Nat, Gs.heap.size ≤ q → A q) (hbA : ¬ A b) (hA2 : ∀ q : Nat, A q → Gs.heap.size ≤ q) (hK : va_K D vwCl [(cI, .int), (cJ, .long), (cZ, .boolean)] Gs) (h fl e1 e2 pd sg mo ma mb mc md me mf mg mh mi mj mk ml mn rt r0 r1 r4 r5 : Nat) : ∀ (fu i : Nat), i ≤ L → L + 1 ≤ i + fu → lwHB Gp Gl Ge Gs Gm Gw Gt Gc b D cI cJ cZ A h fl e1 e2 pd sg mo ma mb mc md me mf mg mh mi mj mk ml mn rt r0 r1 r4 r5 i := by
  obtain ⟨gx, gb, gr, gml, gown0, gts0, hX, hbl, glk, hgv⟩ := id C0
  have gts : ∀ w ∈ wsL_law, w.before #[Value.ref b] Gs = true := fun w h => gts0 w (wsL_law_in w h)
  have gown : Gs.vm.findClass RL = some Gm.cls := gown0
  intro fu
  induction fu with
  | zero => intro i h1 h2; omega
  | succ fu ih =>
    intro i h1 h2
    unfold lwHB
    intro n q c w nX qX cX N R S k1 k2 na Na Ra qa Sa ca nb Nb Rb qb Sb cb rb sb z ev num plc sig pad row dig cfr cby que has img kep far tn ts tq rws lks mks qu hI hT H locs hP hD hS ls hl
    have hb0 := sX_bd xs i
    refine lv_iload_n gx gb dL_law_18 rfl (lv_at hl 3 rfl) ?_
    refine lv_aload_n gx gb dL_law_19 rfl (lv_at hl 0 rfl) ?_
    refine va_slen gx gb hX hbl hbA hS dL_law_20 ?_
    refine lv_evi (nI L) rfl ?_
    refine lv_iconst (v := nI 4) gx gb dL_law_21 (by decide) ?_
    refine lv_isub gx gb dL_law_22 ?_
    refine lv_evi (zI (((L : Nat) : Int) - ((4 : Nat) : Int))) (by rw [nI_zc L, nI_zc 4]; exact zI_sub ((L : Nat) : Int) ((4 : Nat) : Int)) ?_
    refine lv_icmp_gt (tgt := 780) gx gb dL_law_23 (by decide) (fun c23 => ?_) (fun c23 => ?_)
    · skip
      rw [zn_lt (by omega) (by omega) (by omega)] at c23
      refine lv_iconst (v := 1) gx gb dL_law_780 (by decide) ?_
      refine va_forget (fun q hq => hA2 _ (hS.2.2 q hq)) ?_
      refine W.widen (k := 196106) (n := 8513930) (Nat.le_of_ble_eq_true rfl) (Nat.le_of_ble_eq_true rfl) ?_
      exact lw_ret gx gb gr glk dL_law_781
    · skip
      rw [zn_lt (by omega) (by omega) (by omega)] at c23
      refine lv_aload_n gx gb dL_law_26 rfl (lv_at hl 0 rfl) ?_
      refine lv_iload_n gx gb dL_law_27 rfl (lv_at hl 3 rfl) ?_
      refine va_sld gx gb hX hbl hbA hS (vp_in_nI (n := i) (by omega) (by omega)) dL_law_28 ?_
      refine lv_evi (zI (sX xs i)) (sX_rd xs (by omega)) ?_
      refine lv_bipush (v := nI 31) gx gb dL_law_29 (by decide) ?_
      obtain ⟨kx, hkx, ekx⟩ := and31 (zI (sX xs i))
      refine lv_iand gx gb dL_law_31 ?_
      refine lv_evi (nI kx) (ekx) ?_
      rcases (show kx = 0 ∨ kx = 1 ∨ kx = 2 ∨ kx = 3 ∨ kx = 4 ∨ kx = 5 ∨ kx = 6 ∨ kx = 7 ∨ kx = 8 ∨ kx = 9 ∨ kx = 10 ∨ kx = 11 ∨ kx = 12 ∨ kx = 13 ∨ kx = 14 ∨ kx = 15 ∨ kx = 16 ∨ kx = 17 ∨ kx = 18 ∨ kx = 19 ∨ kx = 20 ∨ kx = 21 ∨ kx = 22 ∨ kx = 23 ∨ kx = 24 ∨ 25 ≤ kx by omega) with rfl | rfl | rfl | rfl | rfl | rfl | rfl | rfl | rfl | rfl | rfl | rfl | rfl | rfl | rfl | rfl | rfl | rfl | rfl | rfl | rfl | rfl | rfl | rfl | rfl | hout
      · skip
        refine lv_tableIn (tgt := 148) (off := 116) gx gb dL_law_32 (by decide) (by decide) (by decide) (by decide) ?_
        exact lB_swans hL C0 D cI cJ cZ A hA hbA hK h fl e1 e2 pd sg mo ma mb mc md me mf mg mh mi mj mk ml mn rt r0 r1 r4 r5 i (by omega) (ih (i + 4) (by omega) (by omega)) n q c w nX qX cX N R S k1 k2 na Na Ra qa Sa ca nb Nb Rb qb Sb cb rb sb z ev num plc sig pad row dig cfr cby que has img kep far tn ts tq rws lks mks qu hI hT H locs hP hD hS ls (lv_sub hl [0, 1, 2, 3] rfl)
      · skip
        refine lv_tableIn (tgt := 171) (off := 139) gx gb dL_law_32 (by decide) (by decide) (by decide) (by decide) ?_
        exact lB_number hL C0 D cI cJ cZ A hA hbA hK h fl e1 e2 pd sg mo ma mb mc md me mf mg mh mi mj mk ml mn rt r0 r1 r4 r5 i (by omega) (ih (i + 4) (by omega) (by omega)) n q c w nX qX cX N R S k1 k2 na Na Ra qa Sa ca nb Nb Rb qb Sb cb rb sb z ev num plc sig pad row dig cfr cby que has img kep far tn ts tq rws lks mks qu hI hT H locs hP hD hS ls (lv_sub hl [0, 1, 2, 3] rfl)
      · skip
        refine lv_tableIn (tgt := 204) (off := 172) gx gb dL_law_32 (by decide) (by decide) (by decide) (by decide) ?_
        exact lB_say hL C0 D cI cJ cZ A hA hbA hK h fl e1 e2 pd sg mo ma mb mc md me mf mg mh mi mj mk ml mn rt r0 r1 r4 r5 i (by omega) (ih (i + 4) (by omega) (by omega)) n q c w nX qX cX N R S k1 k2 na Na Ra qa Sa ca nb Nb Rb qb Sb cb rb sb z ev num plc sig pad row dig cfr cby que has img kep far tn ts tq rws lks mks qu hI hT H locs hP hD hS ls (lv_sub hl [0, 1, 2, 3] rfl)
      · skip
        refine lv_tableIn (tgt := 227) (off := 195) gx gb dL_law_32 (by decide) (by decide) (by decide) (by decide) ?_
        exact lB_wipe hL C0 D cI cJ cZ A hA hbA hK h fl e1 e2 pd sg mo ma mb mc md me mf mg mh mi mj mk ml mn rt r0 r1 r4 r5 i (by omega) (ih (i + 4) (by omega) (by omega)) n q c w nX qX cX N R S k1 k2 na Na Ra qa Sa ca nb Nb Rb qb Sb cb rb sb z ev num plc sig pad row dig cfr cby que has img kep far tn ts tq rws lks mks qu hI hT H locs hP hD hS ls (lv_sub hl [0, 1, 2, 3] rfl)
      · skip
        refine lv_tableIn (tgt := 240) (off := 208) gx gb dL_law_32 (by decide) (by decide) (by decide) (by decide) ?_
        exact lB_fault hL C0 D cI cJ cZ A hA hbA hK h fl e1 e2 pd sg mo ma mb mc md me mf mg mh mi mj mk ml mn rt r0 r1 r4 r5 i (by omega) (ih (i + 4) (by omega) (by omega)) n q c w nX qX cX N R S k1 k2 na Na Ra qa Sa ca nb Nb Rb qb Sb cb rb sb z ev num plc sig pad row dig cfr cby que has img kep far tn ts tq rws lks mks qu hI hT H locs hP hD hS ls (lv_sub hl [0, 1, 2, 3] rfl)
      · skip
        refine lv_tableIn (tgt := 253) (off := 221) gx gb dL_law_32 (by decide) (by decide) (by decide) (by decide) ?_
        exact lB_judge hL C0 D cI cJ cZ A hA hbA hK h fl e1 e2 pd sg mo ma mb mc md me mf mg mh mi mj mk ml mn rt r0 r1 r4 r5 i (by omega) (ih (i + 4) (by omega) (by omega)) n q c w nX qX cX N R S k1 k2 na Na Ra qa Sa ca nb Nb Rb qb Sb cb rb sb z ev num plc sig pad row dig cfr cby que has img kep far tn ts tq rws lks mks qu hI hT H locs hP hD hS ls (lv_sub hl [0, 1, 2, 3] rfl)
      · skip
        refine lv_tableIn (tgt := 266) (off := 234) gx gb dL_law_32 (by decide) (by decide) (by decide) (by decide) ?_
        exact lB_done hL C0 D cI cJ cZ A hA hbA hK h fl e1 e2 pd sg mo ma mb mc md me mf mg mh mi mj mk ml mn rt r0 r1 r4 r5 i (by omega) (ih (i + 4) (by omega) (by omega)) n q c w nX qX cX N R S k1 k2 na Na Ra qa Sa ca nb Nb Rb qb Sb cb rb sb z ev num plc sig pad row dig cfr cby que has img kep far tn ts tq rws lks mks qu hI hT H locs hP hD hS ls (lv_sub hl [0, 1, 2, 3] rfl)
      · skip
        refine lv_tableIn (tgt := 279) (off := 247) gx gb dL_law_32 (by decide) (by decide) (by decide) (by decide) ?_
        exact lB_at hL C0 D cI cJ cZ A hA hbA hK h fl e1 e2 pd sg mo ma mb mc md me mf mg mh mi mj mk ml mn rt r0 r1 r4 r5 i (by omega) (ih (i + 4) (by omega) (by omega)) n q c w nX qX cX N R S k1 k2 na Na Ra qa Sa ca nb Nb Rb qb Sb cb rb sb z ev num plc sig pad row dig cfr cby que has img kep far tn ts tq rws lks mks qu hI hT H locs hP hD hS ls (lv_sub hl [0, 1, 2, 3] rfl)
      · skip
        refine lv_tableIn (tgt := 302) (off := 270) gx gb dL_law_32 (by decide) (by decide) (by decide) (by decide) ?_
        exact lB_behind hL C0 D cI cJ cZ A hA hbA hK h fl e1 e2 pd sg mo ma mb mc md me mf mg mh mi mj mk ml mn rt r0 r1 r4 r5 i (by omega) (ih (i + 4) (by omega) (by omega)) n q c w nX qX cX N R S k1 k2 na Na Ra qa Sa ca nb Nb Rb qb Sb cb rb sb z ev num plc sig pad row dig cfr cby que has img kep far tn ts tq rws lks mks qu hI hT H locs hP hD hS ls (lv_sub hl [0, 1, 2, 3] rfl)
      · skip
        refine lv_tableIn (tgt := 325) (off := 293) gx gb dL_law_32 (by decide) (by decide) (by decide) (by decide) ?_
        exact lB_taught hL C0 D cI cJ cZ A hA hbA hK h fl e1 e2 pd sg mo ma mb mc md me mf mg mh mi mj mk ml mn rt r0 r1 r4 r5 i (by omega) (ih (i + 4) (by omega) (by omega)) n q c w nX qX cX N R S k1 k2 na Na Ra qa Sa ca nb Nb Rb qb Sb cb rb sb z ev num plc sig pad row dig cfr cby que has img kep far tn ts tq rws lks mks qu hI hT H locs hP hD hS ls (lv_sub hl [0, 1, 2, 3] rfl)
      · skip
        refine lv_tableIn (tgt := 348) (off := 316) gx gb dL_law_32 (by decide) (by decide) (by decide) (by decide) ?_
        exact lB_read hL C0 D cI cJ cZ A hA hbA hK h fl e1 e2 pd sg mo ma mb mc md me mf mg mh mi mj mk ml mn rt r0 r1 r4 r5 i (by omega) (ih (i + 4) (by omega) (by omega)) n q c w nX qX cX N R S k1 k2 na Na Ra qa Sa ca nb Nb Rb qb Sb cb rb sb z ev num plc sig pad row dig cfr cby que has img kep far tn ts tq rws lks mks qu hI hT H locs hP hD hS ls (lv_sub hl [0, 1, 2, 3] rfl)
      · skip
        refine lv_tableIn (tgt := 381) (off := 349) gx gb dL_law_32 (by decide) (by decide) (by decide) (by decide) ?_
        exact lB_longest hL C0 D cI cJ cZ A hA hbA hK h fl e1 e2 pd sg mo ma mb mc md me mf mg mh mi mj mk ml mn rt r0 r1 r4 r5 i (by omega) (ih (i + 4) (by omega) (by omega)) n q c w nX qX cX N R S k1 k2 na Na Ra qa Sa ca nb Nb Rb qb Sb cb rb sb z ev num plc sig pad row dig cfr cby que has img kep far tn ts tq rws lks mks qu hI hT H locs hP hD hS ls (lv_sub hl [0, 1, 2, 3] rfl)
      · skip
        refine lv_tableIn (tgt := 394) (off := 362) gx gb dL_law_32 (by decide) (by decide) (by decide) (by decide) ?_
        exact lB_plan hL C0 D cI cJ cZ A hA hbA hK h fl e1 e2 pd sg mo ma mb mc md me mf mg mh mi mj mk ml mn rt r0 r1 r4 r5 i (by omega) (ih (i + 4) (by omega) (by omega)) n q c w nX qX cX N R S k1 k2 na Na Ra qa Sa ca nb Nb Rb qb Sb cb rb sb z ev num plc sig pad row dig cfr cby que has img kep far tn ts tq rws lks mks qu hI hT H locs hP hD hS ls (lv_sub hl [0, 1, 2, 3] rfl)
      · skip
        refine lv_tableIn (tgt := 427) (off := 395) gx gb dL_law_32 (by decide) (by decide) (by decide) (by decide) ?_
        exact lB_week hL C0 D cI cJ cZ A hA hbA hK h fl e1 e2 pd sg mo ma mb mc md me mf mg mh mi mj mk ml mn rt r0 r1 r4 r5 i (by omega) (ih (i + 4) (by omega) (by omega)) n q c w nX qX cX N R S k1 k2 na Na Ra qa Sa ca nb Nb Rb qb Sb cb rb sb z ev num plc sig pad row dig cfr cby que has img kep far tn ts tq rws lks mks qu hI hT H locs hP hD hS ls (lv_sub hl [0, 1, 2, 3] rfl)
      · skip
        refine lv_tableIn (tgt := 460) (off := 428) gx gb dL_law_32 (by decide) (by decide) (by decide) (by decide) ?_
        exact lB_sell hL C0 D cI cJ cZ A hA hbA hK h fl e1 e2 pd sg mo ma mb mc md me mf mg mh mi mj mk ml mn rt r0 r1 r4 r5 i (by omega) (ih (i + 4) (by omega) (by omega)) n q c w nX qX cX N R S k1 k2 na Na Ra qa Sa ca nb Nb Rb qb Sb cb rb sb z ev num plc sig pad row dig cfr cby que has img kep far tn ts tq rws lks mks qu hI hT H locs hP hD hS ls (lv_sub hl [0, 1, 2, 3] rfl)
      · skip
        refine lv_tableIn (tgt := 483) (off := 451) gx gb dL_law_32 (by decide) (by decide) (by decide) (by decide) ?_
        exact lB_worn hL C0 D cI cJ cZ A hA hbA hK h fl e1 e2 pd sg mo ma mb mc md me mf mg mh mi mj mk ml mn rt r0 r1 r4 r5 i (by omega) (ih (i + 4) (by omega) (by omega)) n q c w nX qX cX N R S k1 k2 na Na Ra qa Sa ca nb Nb Rb qb Sb cb rb sb z ev num plc sig pad row dig cfr cby que has img kep far tn ts tq rws lks mks qu hI hT H locs hP hD hS ls (lv_sub hl [0, 1, 2, 3] rfl)
      · skip
        refine lv_tableIn (tgt := 526) (off := 494) gx gb dL_law_32 (by decide) (by decide) (by decide) (by decide) ?_
        exact lB_rivals hL C0 D cI cJ cZ A hA hbA hK h fl e1 e2 pd sg mo ma mb mc md me mf mg mh mi mj mk ml mn rt r0 r1 r4 r5 i (by omega) (ih (i + 4) (by omega) (by omega)) n q c w nX qX cX N R S k1 k2 na Na Ra qa Sa ca nb Nb Rb qb Sb cb rb sb z ev num plc sig pad row dig cfr cby que has img kep far tn ts tq rws lks mks qu hI hT H locs hP hD hS ls (lv_sub hl [0, 1, 2, 3] rfl)
      · skip
        refine lv_tableIn (tgt := 549) (off := 517) gx gb dL_law_32 (by decide) (by decide) (by decide) (by decide) ?_
        exact lB_seen hL C0 D cI cJ cZ A hA hbA hK h fl e1 e2 pd sg mo ma mb mc md me mf mg mh mi mj mk ml mn rt r0 r1 r4 r5 i (by omega) (ih (i + 4) (by omega) (by omega)) n q c w nX qX cX N R S k1 k2 na Na Ra qa Sa ca nb Nb Rb qb Sb cb rb sb z ev num plc sig pad row dig cfr cby que has img kep far tn ts tq rws lks mks qu hI hT H locs hP hD hS ls (lv_sub hl [0, 1, 2, 3] rfl)
      · skip
        refine lv_tableIn (tgt := 582) (off := 550) gx gb dL_law_32 (by decide) (by decide) (by decide) (by decide) ?_
        exact lB_forget hL C0 D cI cJ cZ A hA hbA hK h fl e1 e2 pd sg mo ma mb mc md me mf mg mh mi mj mk ml mn rt r0 r1 r4 r5 i (by omega) (ih (i + 4) (by omega) (by omega)) n q c w nX qX cX N R S k1 k2 na Na Ra qa Sa ca nb Nb Rb qb Sb cb rb sb z ev num plc sig pad row dig cfr cby que has img kep far tn ts tq rws lks mks qu hI hT H locs hP hD hS ls (lv_sub hl [0, 1, 2, 3] rfl)
      · skip
        refine lv_tableIn (tgt := 595) (off := 563) gx gb dL_law_32 (by decide) (by decide) (by decide) (by decide) ?_
        exact lB_filled hL C0 D cI cJ cZ A hA hbA hK h fl e1 e2 pd sg mo ma mb mc md me mf mg mh mi mj mk ml mn rt r0 r1 r4 r5 i (by omega) (ih (i + 4) (by omega) (by omega)) n q c w nX qX cX N R S k1 k2 na Na Ra qa Sa ca nb Nb Rb qb Sb cb rb sb z ev num plc sig pad row dig cfr cby que has img kep far tn ts tq rws lks mks qu hI hT H locs hP hD hS ls (lv_sub hl [0, 1, 2, 3] rfl)
      · skip
        refine lv_tableIn (tgt := 618) (off := 586) gx gb dL_law_32 (by decide) (by decide) (by decide) (by decide) ?_
        exact lB_pikes hL C0 D cI cJ cZ A hA hbA hK h fl e1 e2 pd sg mo ma mb mc md me mf mg mh mi mj mk ml mn rt r0 r1 r4 r5 i (by omega) (ih (i + 4) (by omega) (by omega)) n q c w nX qX cX N R S k1 k2 na Na Ra qa Sa ca nb Nb Rb qb Sb cb rb sb z ev num plc sig pad row dig cfr cby que has img kep far tn ts tq rws lks mks qu hI hT H locs hP hD hS ls (lv_sub hl [0, 1, 2, 3] rfl)
      · skip
        refine lv_tableIn (tgt := 662) (off := 630) gx gb dL_law_32 (by decide) (by decide) (by decide) (by decide) ?_
        exact lB_year hL C0 D cI cJ cZ A hA hbA hK h fl e1 e2 pd sg mo ma mb mc md me mf mg mh mi mj mk ml mn rt r0 r1 r4 r5 i (by omega) (ih (i + 4) (by omega) (by omega)) n q c w nX qX cX N R S k1 k2 na Na Ra qa Sa ca nb Nb Rb qb Sb cb rb sb z ev num plc sig pad row dig cfr cby que has img kep far tn ts tq rws lks mks qu hI hT H locs hP hD hS ls (lv_sub hl [0, 1, 2, 3] rfl)
      · skip
        refine lv_tableIn (tgt := 705) (off := 673) gx gb dL_law_32 (by decide) (by decide) (by decide) (by decide) ?_
        exact lB_image hL C0 D cI cJ cZ A hA hbA hK h fl e1 e2 pd sg mo ma mb mc md me mf mg mh mi mj mk ml mn rt r0 r1 r4 r5 i (by omega) (ih (i + 4) (by omega) (by omega)) n q c w nX qX cX N R S k1 k2 na Na Ra qa Sa ca nb Nb Rb qb Sb cb rb sb z ev num plc sig pad row dig cfr cby que has img kep far tn ts tq rws lks mks qu hI hT H locs hP hD hS ls (lv_sub hl [0, 1, 2, 3] rfl)
      · skip
        refine lv_tableIn (tgt := 728) (off := 696) gx gb dL_law_32 (by decide) (by decide) (by decide) (by decide) ?_
        exact lB_restore hL C0 D cI cJ cZ A hA hbA hK h fl e1 e2 pd sg mo ma mb mc md me mf mg mh mi mj mk ml mn rt r0 r1 r4 r5 i (by omega) (ih (i + 4) (by omega) (by omega)) n q c w nX qX cX N R S k1 k2 na Na Ra qa Sa ca nb Nb Rb qb Sb cb rb sb z ev num plc sig pad row dig cfr cby que has img kep far tn ts tq rws lks mks qu hI hT H locs hP hD hS ls (lv_sub hl [0, 1, 2, 3] rfl)
      · skip
        refine lv_tableIn (tgt := 751) (off := 719) gx gb dL_law_32 (by decide) (by decide) (by decide) (by decide) ?_
        exact lB_told hL C0 D cI cJ cZ A hA hbA hK h fl e1 e2 pd sg mo ma mb mc md me mf mg mh mi mj mk ml mn rt r0 r1 r4 r5 i (by omega) (ih (i + 4) (by omega) (by omega)) n q c w nX qX cX N R S k1 k2 na Na Ra qa Sa ca nb Nb Rb qb Sb cb rb sb z ev num plc sig pad row dig cfr cby que has img kep far tn ts tq rws lks mks qu hI hT H locs hP hD hS ls (lv_sub hl [0, 1, 2, 3] rfl)
      · skip
        refine lv_tableOut (tgt := 774) gx gb dL_law_32 (Or.inr (by rw [nI_toInt (by omega)]; omega)) (by decide) ?_
        refine lv_iinc (v := nI (i + 4)) (lv' := [(3, .int (nI (i + 4))), (0, .ref b), (1, .ref h), (2, .ref mo)]) gx gb dL_law_774 hl (k := 3) rfl (nI_add i 4) (by decide) rfl (fun ls hl => ?_)
        refine lv_goto (tgt := 18) gx gb dL_law_777 (by decide) ?_
        exact ih (i + 4) (by omega) (by omega) n q c w nX qX cX N R S k1 k2 na Na Ra qa Sa ca nb Nb Rb qb Sb cb rb sb z ev num plc sig pad row dig cfr cby que has img kep far tn ts tq rws lks mks qu hI hT H locs hP hD hS ls (lv_sub hl [1, 2, 3, 0] rfl)
set_option maxHeartbeats 4000000 in
set_option maxRecDepth 100000 in
theorem lA_loop {Gp : Program} {Gl : Launch} {Ge : Env} {Gs : State} {Gm : MethodId} {Gw : List Frame} {Gt : Method} {Gc : Code} {b L : Nat} {xs : Nat → Int32} (hL : L ≤ 256) (C0 : lw_At Gp Gs Gm Gt Gc b L xs) (D : va_G) (cI cJ cZ : ClassId) (A : Nat → Prop) (hA : ∀ q : Nat, Gs.heap.size ≤ q → A q) (hbA : ¬ A b) (hA2 : ∀ q : Nat, A q → Gs.heap.size ≤ q) (hK : va_K D vwCl [(cI, .int), (cJ, .long), (cZ, .boolean)] Gs) (h fl e1 e2 pd sg mo ma mb mc md me mf mg mh mi mj mk ml mn : Nat) : ∀ (fu i : Nat), i ≤ L → L + 1 ≤ i + fu → lwHA Gp Gl Ge Gs Gm Gw Gt Gc b D cI cJ cZ A h fl e1 e2 pd sg mo ma mb mc md me mf mg mh mi mj mk ml mn i := by
  obtain ⟨gx, gb, gr, gml, gown0, gts0, hX, hbl, glk, hgv⟩ := id C0
  have gts : ∀ w ∈ wsL_law, w.before #[Value.ref b] Gs = true := fun w h => gts0 w (wsL_law_in w h)
  have gown : Gs.vm.findClass RL = some Gm.cls := gown0
  intro fu
  induction fu with
  | zero => intro i h1 h2; omega
  | succ fu ih =>
    intro i h1 h2
    unfold lwHA
    intro n q c w nX qX cX N R S k1 k2 na Na Ra qa Sa ca nb Nb Rb qb Sb cb rb sb z ev num plc sig pad row dig cfr cby que has img kep far hI H locs hP hD hS ls hl
    have hb0 := sX_bd xs i
    refine lv_iload_n gx gb dL_law_18 rfl (lv_at hl 3 rfl) ?_
    refine lv_aload_n gx gb dL_law_19 rfl (lv_at hl 0 rfl) ?_
    refine va_slen gx gb hX hbl hbA hS dL_law_20 ?_
    refine lv_evi (nI L) rfl ?_
    refine lv_iconst (v := nI 4) gx gb dL_law_21 (by decide) ?_
    refine lv_isub gx gb dL_law_22 ?_
    refine lv_evi (zI (((L : Nat) : Int) - ((4 : Nat) : Int))) (by rw [nI_zc L, nI_zc 4]; exact zI_sub ((L : Nat) : Int) ((4 : Nat) : Int)) ?_
    refine lv_icmp_gt (tgt := 780) gx gb dL_law_23 (by decide) (fun c23 => ?_) (fun c23 => ?_)
    · skip
      rw [zn_lt (by omega) (by omega) (by omega)] at c23
      refine lv_iconst (v := 1) gx gb dL_law_780 (by decide) ?_
      refine va_forget (fun q hq => hA2 _ (hS.2.2 q hq)) ?_
      refine W.widen (k := 196106) (n := 8513930) (Nat.le_of_ble_eq_true rfl) (Nat.le_of_ble_eq_true rfl) ?_
      exact lw_ret gx gb gr glk dL_law_781
    · skip
      rw [zn_lt (by omega) (by omega) (by omega)] at c23
      refine lv_aload_n gx gb dL_law_26 rfl (lv_at hl 0 rfl) ?_
      refine lv_iload_n gx gb dL_law_27 rfl (lv_at hl 3 rfl) ?_
      refine va_sld gx gb hX hbl hbA hS (vp_in_nI (n := i) (by omega) (by omega)) dL_law_28 ?_
      refine lv_evi (zI (sX xs i)) (sX_rd xs (by omega)) ?_
      refine lv_bipush (v := nI 31) gx gb dL_law_29 (by decide) ?_
      obtain ⟨kx, hkx, ekx⟩ := and31 (zI (sX xs i))
      refine lv_iand gx gb dL_law_31 ?_
      refine lv_evi (nI kx) (ekx) ?_
      rcases (show kx = 0 ∨ kx = 1 ∨ kx = 2 ∨ kx = 3 ∨ kx = 4 ∨ kx = 5 ∨ kx = 6 ∨ kx = 7 ∨ kx = 8 ∨ kx = 9 ∨ kx = 10 ∨ kx = 11 ∨ kx = 12 ∨ kx = 13 ∨ kx = 14 ∨ kx = 15 ∨ kx = 16 ∨ kx = 17 ∨ kx = 18 ∨ kx = 19 ∨ kx = 20 ∨ kx = 21 ∨ kx = 22 ∨ kx = 23 ∨ kx = 24 ∨ 25 ≤ kx by omega) with rfl | rfl | rfl | rfl | rfl | rfl | rfl | rfl | rfl | rfl | rfl | rfl | rfl | rfl | rfl | rfl | rfl | rfl | rfl | rfl | rfl | rfl | rfl | rfl | rfl | hout
      · skip
        refine lv_tableIn (tgt := 148) (off := 116) gx gb dL_law_32 (by decide) (by decide) (by decide) (by decide) ?_
        exact lA_swans hL C0 D cI cJ cZ A hA hbA hK h fl e1 e2 pd sg mo ma mb mc md me mf mg mh mi mj mk ml mn i (by omega) (ih (i + 4) (by omega) (by omega)) n q c w nX qX cX N R S k1 k2 na Na Ra qa Sa ca nb Nb Rb qb Sb cb rb sb z ev num plc sig pad row dig cfr cby que has img kep far hI H locs hP hD hS ls (lv_sub hl [0, 1, 2, 3] rfl)
      · skip
        refine lv_tableIn (tgt := 171) (off := 139) gx gb dL_law_32 (by decide) (by decide) (by decide) (by decide) ?_
        exact lA_number hL C0 D cI cJ cZ A hA hbA hK h fl e1 e2 pd sg mo ma mb mc md me mf mg mh mi mj mk ml mn i (by omega) (ih (i + 4) (by omega) (by omega)) n q c w nX qX cX N R S k1 k2 na Na Ra qa Sa ca nb Nb Rb qb Sb cb rb sb z ev num plc sig pad row dig cfr cby que has img kep far hI H locs hP hD hS ls (lv_sub hl [0, 1, 2, 3] rfl)
      · skip
        refine lv_tableIn (tgt := 204) (off := 172) gx gb dL_law_32 (by decide) (by decide) (by decide) (by decide) ?_
        exact lA_say hL C0 D cI cJ cZ A hA hbA hK h fl e1 e2 pd sg mo ma mb mc md me mf mg mh mi mj mk ml mn i (by omega) (ih (i + 4) (by omega) (by omega)) n q c w nX qX cX N R S k1 k2 na Na Ra qa Sa ca nb Nb Rb qb Sb cb rb sb z ev num plc sig pad row dig cfr cby que has img kep far hI H locs hP hD hS ls (lv_sub hl [0, 1, 2, 3] rfl)
      · skip
        refine lv_tableIn (tgt := 227) (off := 195) gx gb dL_law_32 (by decide) (by decide) (by decide) (by decide) ?_
        exact lA_wipe hL C0 D cI cJ cZ A hA hbA hK h fl e1 e2 pd sg mo ma mb mc md me mf mg mh mi mj mk ml mn i (by omega) (ih (i + 4) (by omega) (by omega)) n q c w nX qX cX N R S k1 k2 na Na Ra qa Sa ca nb Nb Rb qb Sb cb rb sb z ev num plc sig pad row dig cfr cby que has img kep far hI H locs hP hD hS ls (lv_sub hl [0, 1, 2, 3] rfl)
      · skip
        refine lv_tableIn (tgt := 240) (off := 208) gx gb dL_law_32 (by decide) (by decide) (by decide) (by decide) ?_
        exact lA_fault hL C0 D cI cJ cZ A hA hbA hK h fl e1 e2 pd sg mo ma mb mc md me mf mg mh mi mj mk ml mn i (by omega) (ih (i + 4) (by omega) (by omega)) n q c w nX qX cX N R S k1 k2 na Na Ra qa Sa ca nb Nb Rb qb Sb cb rb sb z ev num plc sig pad row dig cfr cby que has img kep far hI H locs hP hD hS ls (lv_sub hl [0, 1, 2, 3] rfl)
      · skip
        refine lv_tableIn (tgt := 253) (off := 221) gx gb dL_law_32 (by decide) (by decide) (by decide) (by decide) ?_
        exact lA_judge hL C0 D cI cJ cZ A hA hbA hK h fl e1 e2 pd sg mo ma mb mc md me mf mg mh mi mj mk ml mn i (by omega) (ih (i + 4) (by omega) (by omega)) n q c w nX qX cX N R S k1 k2 na Na Ra qa Sa ca nb Nb Rb qb Sb cb rb sb z ev num plc sig pad row dig cfr cby que has img kep far hI H locs hP hD hS ls (lv_sub hl [0, 1, 2, 3] rfl)
      · skip
        refine lv_tableIn (tgt := 266) (off := 234) gx gb dL_law_32 (by decide) (by decide) (by decide) (by decide) ?_
        exact lA_done hL C0 D cI cJ cZ A hA hbA hK h fl e1 e2 pd sg mo ma mb mc md me mf mg mh mi mj mk ml mn i (by omega) (ih (i + 4) (by omega) (by omega)) n q c w nX qX cX N R S k1 k2 na Na Ra qa Sa ca nb Nb Rb qb Sb cb rb sb z ev num plc sig pad row dig cfr cby que has img kep far hI H locs hP hD hS ls (lv_sub hl [0, 1, 2, 3] rfl)
      · skip
        refine lv_tableIn (tgt := 279) (off := 247) gx gb dL_law_32 (by decide) (by decide) (by decide) (by decide) ?_
        exact lA_at hL C0 D cI cJ cZ A hA hbA hK h fl e1 e2 pd sg mo ma mb mc md me mf mg mh mi mj mk ml mn i (by omega) (ih (i + 4) (by omega) (by omega)) n q c w nX qX cX N R S k1 k2 na Na Ra qa Sa ca nb Nb Rb qb Sb cb rb sb z ev num plc sig pad row dig cfr cby que has img kep far hI H locs hP hD hS ls (lv_sub hl [0, 1, 2, 3] rfl)
      · skip
        refine lv_tableIn (tgt := 302) (off := 270) gx gb dL_law_32 (by decide) (by decide) (by decide) (by decide) ?_
        exact lA_behind hL C0 D cI cJ cZ A hA hbA hK h fl e1 e2 pd sg mo ma mb mc md me mf mg mh mi mj mk ml mn i (by omega) (ih (i + 4) (by omega) (by omega)) n q c w nX qX cX N R S k1 k2 na Na Ra qa Sa ca nb Nb Rb qb Sb cb rb sb z ev num plc sig pad row dig cfr cby que has img kep far hI H locs hP hD hS ls (lv_sub hl [0, 1, 2, 3] rfl)
      · skip
        refine lv_tableIn (tgt := 325) (off := 293) gx gb dL_law_32 (by decide) (by decide) (by decide) (by decide) ?_
        exact lA_taught hL C0 D cI cJ cZ A hA hbA hK h fl e1 e2 pd sg mo ma mb mc md me mf mg mh mi mj mk ml mn i (by omega) (ih (i + 4) (by omega) (by omega)) n q c w nX qX cX N R S k1 k2 na Na Ra qa Sa ca nb Nb Rb qb Sb cb rb sb z ev num plc sig pad row dig cfr cby que has img kep far hI H locs hP hD hS ls (lv_sub hl [0, 1, 2, 3] rfl)
      · skip
        refine lv_tableIn (tgt := 348) (off := 316) gx gb dL_law_32 (by decide) (by decide) (by decide) (by decide) ?_
        exact lA_read hL C0 D cI cJ cZ A hA hbA hK h fl e1 e2 pd sg mo ma mb mc md me mf mg mh mi mj mk ml mn i (by omega) (ih (i + 4) (by omega) (by omega)) n q c w nX qX cX N R S k1 k2 na Na Ra qa Sa ca nb Nb Rb qb Sb cb rb sb z ev num plc sig pad row dig cfr cby que has img kep far hI H locs hP hD hS ls (lv_sub hl [0, 1, 2, 3] rfl)
      · skip
        refine lv_tableIn (tgt := 381) (off := 349) gx gb dL_law_32 (by decide) (by decide) (by decide) (by decide) ?_
        exact lA_longest hL C0 D cI cJ cZ A hA hbA hK h fl e1 e2 pd sg mo ma mb mc md me mf mg mh mi mj mk ml mn i (by omega) (ih (i + 4) (by omega) (by omega)) n q c w nX qX cX N R S k1 k2 na Na Ra qa Sa ca nb Nb Rb qb Sb cb rb sb z ev num plc sig pad row dig cfr cby que has img kep far hI H locs hP hD hS ls (lv_sub hl [0, 1, 2, 3] rfl)
      · skip
        refine lv_tableIn (tgt := 394) (off := 362) gx gb dL_law_32 (by decide) (by decide) (by decide) (by decide) ?_
        by_cases hyes : 0 ≤ sX xs (i + 1) ∧ sX xs (i + 1) < 7
        · exact lA_plan_y hL C0 D cI cJ cZ A hA hbA hK h fl e1 e2 pd sg mo ma mb mc md me mf mg mh mi mj mk ml mn i (by omega) (fun rt r0 r1 r4 r5 => lB_loop hL C0 D cI cJ cZ A hA hbA hA2 hK h fl e1 e2 pd sg mo ma mb mc md me mf mg mh mi mj mk ml mn rt r0 r1 r4 r5 (L + 1) (i + 4) (by omega) (by omega)) hyes n q c w nX qX cX N R S k1 k2 na Na Ra qa Sa ca nb Nb Rb qb Sb cb rb sb z ev num plc sig pad row dig cfr cby que has img kep far hI H locs hP hD hS ls (lv_sub hl [0, 1, 2, 3] rfl)
        · exact lA_plan_n hL C0 D cI cJ cZ A hA hbA hK h fl e1 e2 pd sg mo ma mb mc md me mf mg mh mi mj mk ml mn i (by omega) (ih (i + 4) (by omega) (by omega)) hyes n q c w nX qX cX N R S k1 k2 na Na Ra qa Sa ca nb Nb Rb qb Sb cb rb sb z ev num plc sig pad row dig cfr cby que has img kep far hI H locs hP hD hS ls (lv_sub hl [0, 1, 2, 3] rfl)
      · skip
        refine lv_tableIn (tgt := 427) (off := 395) gx gb dL_law_32 (by decide) (by decide) (by decide) (by decide) ?_
        by_cases hyes : (1 ≤ sX xs (i + 2) ∧ sX xs (i + 2) ≤ 4) ∧ (0 ≤ sX xs (i + 1) ∧ sX xs (i + 1) < ((10 ^ (sX xs (i + 2)).toNat : Nat) : Int)) ∧ (∀ k, k < (sX xs (i + 2)).toNat → dg 10 (sX xs (i + 1)).toNat k ≤ 6)
        · exact lA_week_y hL C0 D cI cJ cZ A hA hbA hK h fl e1 e2 pd sg mo ma mb mc md me mf mg mh mi mj mk ml mn i (by omega) (fun rt r0 r1 r4 r5 => lB_loop hL C0 D cI cJ cZ A hA hbA hA2 hK h fl e1 e2 pd sg mo ma mb mc md me mf mg mh mi mj mk ml mn rt r0 r1 r4 r5 (L + 1) (i + 4) (by omega) (by omega)) hyes n q c w nX qX cX N R S k1 k2 na Na Ra qa Sa ca nb Nb Rb qb Sb cb rb sb z ev num plc sig pad row dig cfr cby que has img kep far hI H locs hP hD hS ls (lv_sub hl [0, 1, 2, 3] rfl)
        · exact lA_week_n hL C0 D cI cJ cZ A hA hbA hK h fl e1 e2 pd sg mo ma mb mc md me mf mg mh mi mj mk ml mn i (by omega) (ih (i + 4) (by omega) (by omega)) hyes n q c w nX qX cX N R S k1 k2 na Na Ra qa Sa ca nb Nb Rb qb Sb cb rb sb z ev num plc sig pad row dig cfr cby que has img kep far hI H locs hP hD hS ls (lv_sub hl [0, 1, 2, 3] rfl)
      · skip
        refine lv_tableIn (tgt := 460) (off := 428) gx gb dL_law_32 (by decide) (by decide) (by decide) (by decide) ?_
        exact lA_sell hL C0 D cI cJ cZ A hA hbA hK h fl e1 e2 pd sg mo ma mb mc md me mf mg mh mi mj mk ml mn i (by omega) (ih (i + 4) (by omega) (by omega)) n q c w nX qX cX N R S k1 k2 na Na Ra qa Sa ca nb Nb Rb qb Sb cb rb sb z ev num plc sig pad row dig cfr cby que has img kep far hI H locs hP hD hS ls (lv_sub hl [0, 1, 2, 3] rfl)
      · skip
        refine lv_tableIn (tgt := 483) (off := 451) gx gb dL_law_32 (by decide) (by decide) (by decide) (by decide) ?_
        exact lA_worn hL C0 D cI cJ cZ A hA hbA hK h fl e1 e2 pd sg mo ma mb mc md me mf mg mh mi mj mk ml mn i (by omega) (ih (i + 4) (by omega) (by omega)) n q c w nX qX cX N R S k1 k2 na Na Ra qa Sa ca nb Nb Rb qb Sb cb rb sb z ev num plc sig pad row dig cfr cby que has img kep far hI H locs hP hD hS ls (lv_sub hl [0, 1, 2, 3] rfl)
      · skip
        refine lv_tableIn (tgt := 526) (off := 494) gx gb dL_law_32 (by decide) (by decide) (by decide) (by decide) ?_
        exact lA_rivals hL C0 D cI cJ cZ A hA hbA hK h fl e1 e2 pd sg mo ma mb mc md me mf mg mh mi mj mk ml mn i (by omega) (ih (i + 4) (by omega) (by omega)) n q c w nX qX cX N R S k1 k2 na Na Ra qa Sa ca nb Nb Rb qb Sb cb rb sb z ev num plc sig pad row dig cfr cby que has img kep far hI H locs hP hD hS ls (lv_sub hl [0, 1, 2, 3] rfl)
      · skip
        refine lv_tableIn (tgt := 549) (off := 517) gx gb dL_law_32 (by decide) (by decide) (by decide) (by decide) ?_
        exact lA_seen hL C0 D cI cJ cZ A hA hbA hK h fl e1 e2 pd sg mo ma mb mc md me mf mg mh mi mj mk ml mn i (by omega) (ih (i + 4) (by omega) (by omega)) n q c w nX qX cX N R S k1 k2 na Na Ra qa Sa ca nb Nb Rb qb Sb cb rb sb z ev num plc sig pad row dig cfr cby que has img kep far hI H locs hP hD hS ls (lv_sub hl [0, 1, 2, 3] rfl)
      · skip
        refine lv_tableIn (tgt := 582) (off := 550) gx gb dL_law_32 (by decide) (by decide) (by decide) (by decide) ?_
        exact lA_forget hL C0 D cI cJ cZ A hA hbA hK h fl e1 e2 pd sg mo ma mb mc md me mf mg mh mi mj mk ml mn i (by omega) (ih (i + 4) (by omega) (by omega)) n q c w nX qX cX N R S k1 k2 na Na Ra qa Sa ca nb Nb Rb qb Sb cb rb sb z ev num plc sig pad row dig cfr cby que has img kep far hI H locs hP hD hS ls (lv_sub hl [0, 1, 2, 3] rfl)
      · skip
        refine lv_tableIn (tgt := 595) (off := 563) gx gb dL_law_32 (by decide) (by decide) (by decide) (by decide) ?_
        exact lA_filled hL C0 D cI cJ cZ A hA hbA hK h fl e1 e2 pd sg mo ma mb mc md me mf mg mh mi mj mk ml mn i (by omega) (ih (i + 4) (by omega) (by omega)) n q c w nX qX cX N R S k1 k2 na Na Ra qa Sa ca nb Nb Rb qb Sb cb rb sb z ev num plc sig pad row dig cfr cby que has img kep far hI H locs hP hD hS ls (lv_sub hl [0, 1, 2, 3] rfl)
      · skip
        refine lv_tableIn (tgt := 618) (off := 586) gx gb dL_law_32 (by decide) (by decide) (by decide) (by decide) ?_
        exact lA_pikes hL C0 D cI cJ cZ A hA hbA hK h fl e1 e2 pd sg mo ma mb mc md me mf mg mh mi mj mk ml mn i (by omega) (ih (i + 4) (by omega) (by omega)) n q c w nX qX cX N R S k1 k2 na Na Ra qa Sa ca nb Nb Rb qb Sb cb rb sb z ev num plc sig pad row dig cfr cby que has img kep far hI H locs hP hD hS ls (lv_sub hl [0, 1, 2, 3] rfl)
      · skip
        refine lv_tableIn (tgt := 662) (off := 630) gx gb dL_law_32 (by decide) (by decide) (by decide) (by decide) ?_
        exact lA_year hL C0 D cI cJ cZ A hA hbA hK h fl e1 e2 pd sg mo ma mb mc md me mf mg mh mi mj mk ml mn i (by omega) (ih (i + 4) (by omega) (by omega)) n q c w nX qX cX N R S k1 k2 na Na Ra qa Sa ca nb Nb Rb qb Sb cb rb sb z ev num plc sig pad row dig cfr cby que has img kep far hI H locs hP hD hS ls (lv_sub hl [0, 1, 2, 3] rfl)
      · skip
        refine lv_tableIn (tgt := 705) (off := 673) gx gb dL_law_32 (by decide) (by decide) (by decide) (by decide) ?_
        exact lA_image hL C0 D cI cJ cZ A hA hbA hK h fl e1 e2 pd sg mo ma mb mc md me mf mg mh mi mj mk ml mn i (by omega) (ih (i + 4) (by omega) (by omega)) n q c w nX qX cX N R S k1 k2 na Na Ra qa Sa ca nb Nb Rb qb Sb cb rb sb z ev num plc sig pad row dig cfr cby que has img kep far hI H locs hP hD hS ls (lv_sub hl [0, 1, 2, 3] rfl)
      · skip
        refine lv_tableIn (tgt := 728) (off := 696) gx gb dL_law_32 (by decide) (by decide) (by decide) (by decide) ?_
        exact lA_restore hL C0 D cI cJ cZ A hA hbA hK h fl e1 e2 pd sg mo ma mb mc md me mf mg mh mi mj mk ml mn i (by omega) (ih (i + 4) (by omega) (by omega)) n q c w nX qX cX N R S k1 k2 na Na Ra qa Sa ca nb Nb Rb qb Sb cb rb sb z ev num plc sig pad row dig cfr cby que has img kep far hI H locs hP hD hS ls (lv_sub hl [0, 1, 2, 3] rfl)
      · skip
        refine lv_tableIn (tgt := 751) (off := 719) gx gb dL_law_32 (by decide) (by decide) (by decide) (by decide) ?_
        exact lA_told hL C0 D cI cJ cZ A hA hbA hK h fl e1 e2 pd sg mo ma mb mc md me mf mg mh mi mj mk ml mn i (by omega) (ih (i + 4) (by omega) (by omega)) n q c w nX qX cX N R S k1 k2 na Na Ra qa Sa ca nb Nb Rb qb Sb cb rb sb z ev num plc sig pad row dig cfr cby que has img kep far hI H locs hP hD hS ls (lv_sub hl [0, 1, 2, 3] rfl)
      · skip
        refine lv_tableOut (tgt := 774) gx gb dL_law_32 (Or.inr (by rw [nI_toInt (by omega)]; omega)) (by decide) ?_
        refine lv_iinc (v := nI (i + 4)) (lv' := [(3, .int (nI (i + 4))), (0, .ref b), (1, .ref h), (2, .ref mo)]) gx gb dL_law_774 hl (k := 3) rfl (nI_add i 4) (by decide) rfl (fun ls hl => ?_)
        refine lv_goto (tgt := 18) gx gb dL_law_777 (by decide) ?_
        exact ih (i + 4) (by omega) (by omega) n q c w nX qX cX N R S k1 k2 na Na Ra qa Sa ca nb Nb Rb qb Sb cb rb sb z ev num plc sig pad row dig cfr cby que has img kep far hI H locs hP hD hS ls (lv_sub hl [1, 2, 3, 0] rfl)
set_option maxHeartbeats 4000000 in
set_option maxRecDepth 100000 in
theorem ws_go {Gp : Program} {Gl : Launch} {Ge : Env} {Gs : State} {Gm : MethodId} {Gw : List Frame} {Gt : Method} {Gc : Code} {b L : Nat} {xs : Nat → Int32} (hL : L ≤ 256) (C0 : lw_At Gp Gs Gm Gt Gc b L xs) : W Gp Gl Ge room_1 Gs Gm #[Value.ref b] Gw Gt Gc Gs.heap [] 0 0 (lw_Z Gw #[Value.ref b] Gs) (entryFrame Gm ([Value.ref b] : List Value).toArray 4) := by
  obtain ⟨gx, gb, gr, gml, gown0, gts0, hX, hbl, glk, hgv⟩ := id C0
  have gts : ∀ w ∈ wsL_law, w.before #[Value.ref b] Gs = true := fun w h => gts0 w (wsL_law_in w h)
  have gown : Gs.vm.findClass RL = some Gm.cls := gown0
  obtain ⟨c0, iS0, hKn0⟩ := u_known (C := RX1) (T := TX1) (N := 6) (n := 6) gts0 in_ws1 (gts (.instantiable RX1 6) (by decide +kernel))
  obtain ⟨c1, iS1, hKn1⟩ := u_known (C := RX4) (T := TX4) (N := 4) (n := 4) gts0 in_ws4 (gts (.instantiable RX4 4) (by decide +kernel))
  obtain ⟨c2, iS2, hKn2⟩ := u_known (C := RX5) (T := TX5) (N := 7) (n := 7) gts0 in_ws5 (gts (.instantiable RX5 7) (by decide +kernel))
  obtain ⟨c3, iS3, hKn3⟩ := u_known (C := RX8) (T := TX8) (N := 7) (n := 7) gts0 in_ws8 (gts (.instantiable RX8 7) (by decide +kernel))
  obtain ⟨c4, iS4, hKn4⟩ := u_known (C := RX9) (T := TX9) (N := 19) (n := 19) gts0 in_ws9 (gts (.instantiable RX9 19) (by decide +kernel))
  obtain ⟨cI, kcI, ocI, ycI1, ycI2, ycI3⟩ := Cond.arrayClass_spec (gts (.arrayClass .int) (by decide +kernel))
  obtain ⟨cJ, kcJ, ocJ, ycJ1, ycJ2, ycJ3⟩ := Cond.arrayClass_spec (gts (.arrayClass .long) (by decide +kernel))
  obtain ⟨cZ, kcZ, ocZ, ycZ1, ycZ2, ycZ3⟩ := Cond.arrayClass_spec (gts (.arrayClass .boolean) (by decide +kernel))
  obtain ⟨D, hKc⟩ : ∃ D : va_G, ∀ (k : Nat) (q : vw_C), vwCl[k]? = some q → u_Kn Gs q.1 q.2.1 q.2.2 (D.1 k) (D.2 k) := by
    refine ⟨(fun k => if k = 0 then c0 else if k = 1 then c1 else if k = 2 then c2 else if k = 3 then c3 else c4, fun k => if k = 0 then iS0 else if k = 1 then iS1 else if k = 2 then iS2 else if k = 3 then iS3 else iS4), ?_⟩
    intro k q hq
    match k, hq with
    | 0, hq => cases hq; exact hKn0
    | 1, hq => cases hq; exact hKn1
    | 2, hq => cases hq; exact hKn2
    | 3, hq => cases hq; exact hKn3
    | 4, hq => cases hq; exact hKn4
    | k + 5, hq => simp [vwCl] at hq
  have hK : va_K D vwCl [(cI, .int), (cJ, .long), (cZ, .boolean)] Gs := by
    refine ⟨hKc, ?_⟩
    intro k q hq
    match k, hq with
    | 0, hq => cases hq; exact ⟨fun n z => ⟨fun k h => (by cases h), kcI, ycI2, ocI, ycI3⟩, ycI1⟩
    | 1, hq => cases hq; exact ⟨fun n z => ⟨fun k h => (by cases h), kcJ, ycJ2, ocJ, ycJ3⟩, ycJ1⟩
    | 2, hq => cases hq; exact ⟨fun n z => ⟨fun k h => (by cases h), kcZ, ycZ2, ocZ, ycZ3⟩, ycZ1⟩
    | k + 3, hq => simp at hq
  have hA0 : ∃ A : Nat → Prop, (∀ q : Nat, Gs.heap.size ≤ q → A q) ∧ (∀ q : Nat, A q → Gs.heap.size ≤ q) := ⟨fun q => Gs.heap.size ≤ q, fun _ h => h, fun _ h => h⟩
  obtain ⟨A, hA, hA2⟩ := hA0
  have hbA : ¬ A b := fun h => absurd (hA2 b h) (Nat.not_le.mpr hbl)
  have hS : va_S A Gs.heap Gs.heap [] := va_S.rf
  have hP : va_P D vwCl [] Gs.heap := fun k q h => by simp at h
  have hD : va_D A [] := ⟨fun i j p q h => by simp at h, fun k q h => by simp at h⟩
  have hNw11 := va_Nw.of rfl (gts0 _ in_n11)
  have hNw31 := va_Nw.of rfl (gts0 _ in_n31)
  have hl := lv_entry ([.ref b]) (n := 4) (Nat.le_of_ble_eq_true rfl)
  rw [lg_entry_eq]
  generalize (lg_sl ([.ref b]) ++ List.replicate (4 - (lg_sl ([.ref b])).length) Slot.unset).toArray = ls at hl ⊢
  have hl : lv_has ls 4 [(0, .ref b)] := hl
  refine va_new (ci := 3) (fs := [.null, .null, .null, .int 0, .int 0, .null, .null]) (C := RX8) (T := TX8) (N := 7) gx gb gts0 in_ws8 tyX8 tyX8_ok gown (gts (.classLink RL 7 RX8) (by decide +kernel)) (gts (.instantiable RX8 7) (by decide +kernel)) (gts (.initialized RX8) (by decide +kernel)) hK hP hD hS hA rfl (fun j hj => by rcases (show j = 0 ∨ j = 1 ∨ j = 2 ∨ j = 3 ∨ j = 4 ∨ j = 5 ∨ j = 6 by omega) with rfl | rfl | rfl | rfl | rfl | rfl | rfl <;> rfl) (Nat.le_of_ble_eq_true rfl) (Nat.le_of_ble_eq_true rfl) dL_law_0 (fun q0 H hP hD hS => ?_)
  have hP : va_P D vwCl (wWX0 q0 .null .null .null 0 0 .null .null) H := hP
  have hD : va_D A (wWX0 q0 .null .null .null 0 0 .null .null) := hD
  refine W.widen (k := 1) (n := 7) (Nat.le_of_ble_eq_true rfl) (Nat.le_of_ble_eq_true rfl) ?_
  refine lv_dup gx gb dL_law_3 rfl ?_
  have hPc := hP.sub (ws' := wX0 q0 .null .null .null 0 0 .null .null) [0] rfl
  have hDc := hD.sub (ws' := wX0 q0 .null .null .null 0 0 .null .null) [0] (by decide) rfl
  have hFc := va_free (wc := wX0 q0 .null .null .null 0 0 .null .null) hD hS hA [0] rfl
  refine va_callv (va_runI (As := []) (rest := [.ref q0]) ⟨gx, gb, gml, gown, gts⟩ (kX8_init Gl D cI cJ cZ q0 .null .null .null 0 0 .null .null _) (cwI 0 gts gL_law_X8_init rfl rfl rfl (gts (.initialized RX8) (by decide +kernel)) (gts (.methodLink RL 9 yX8_init) (by decide +kernel)) (gts (.instanceMethod yX8_init) (by decide +kernel)) rfl (by decide +kernel) ⟨Nat.le_of_ble_eq_true rfl, Nat.le_of_ble_eq_true rfl⟩) ⟨fun a U g mk q => by obtain ⟨q0, q1, qP, qK, qD, qN11, qN31⟩ := q; exact ⟨q0, q1, qP, va_K.moved (u := U) (U := U.calling g mk a) (Vm.Alike.refl U.vm) qK, qD, va_Nw.same rfl rfl qN11, va_Nw.same rfl rfl qN31⟩, fun U hU hW => ⟨rfl, by rw [hU], by rw [hU]; exact hPc, va_K.moved hW.alike hK, hDc.weaken (fun _ _ _ _ => trivial), va_Nw.warmM hW hNw11, va_Nw.warmM hW hNw31⟩⟩ rfl rfl hl.1 rfl (lv_room (Nat.le_of_ble_eq_true rfl)) dL_law_4 ⟨Nat.le_of_ble_eq_true rfl, Nat.le_of_ble_eq_true rfl⟩) hS (fun q _ h => hFc q h) hFc (fun u t H1 locs ht hvm hw hB hz1 hk1 hS => ?_)
  obtain ⟨fl_4, e1_4, e2_4, pd_4, sg_4⟩ := u
  obtain ⟨hP1, hK1, hD1⟩ := hB
  rw [ht] at hP1
  try dsimp only at hw
  try dsimp only at hP1
  try dsimp only at hD1
  have hK := va_K.moved hvm.symm hK1
  obtain ⟨hP, hD⟩ := va_join (wr := []) (w1 := wX q0 fl_4 e1_4 e2_4 pd_4 sg_4 cI 0 0 .null 4 (pk 256 (fun i => i + 1) 4) (pk 8 (fun i => i) 4) 4 0 0 0 0 0 0 0 0 0 0 0 0 0 0 0 0 0 (fun _ => 0)) hP hD [0] [] rfl rfl (by decide) (by decide) hk1 hFc hP1 hD1
  have hP := hP.sub (ws' := wWX q0 fl_4 e1_4 e2_4 pd_4 sg_4 cI 0 0 .null 4 (pk 256 (fun i => i + 1) 4) (pk 8 (fun i => i) 4) 4 0 0 0 0 0 0 0 0 0 0 0 0 0 0 0 0 0 (fun _ => 0)) [0, 1, 2, 3, 4, 5] rfl
  have hD := hD.sub (ws' := wWX q0 fl_4 e1_4 e2_4 pd_4 sg_4 cI 0 0 .null 4 (pk 256 (fun i => i + 1) 4) (pk 8 (fun i => i) 4) 4 0 0 0 0 0 0 0 0 0 0 0 0 0 0 0 0 0 (fun _ => 0)) [0, 1, 2, 3, 4, 5] (by decide) rfl
  have hK := va_K.moved (Vm.Alike.refl Gs.vm) hK
  generalize H1 = H at hP hS ⊢
  refine W.widen (k := 6) (n := 89) (Nat.le_of_ble_eq_true rfl) (Nat.le_of_ble_eq_true rfl) ?_
  refine lv_astore_n (lv' := [(1, .ref q0), (0, .ref b)]) gx gb dL_law_7 rfl hl (by decide) rfl (fun ls hl => ?_)
  refine va_new (ci := 4) (fs := [.int 0, .int 0, .null, .null, .int 0, .null, .int 0, .null, .null, .int 0, .int 0, .null, .null, .null, .null, .null, .null, .null, .null]) (C := RX9) (T := TX9) (N := 19) gx gb gts0 in_ws9 tyX9 tyX9_ok gown (gts (.classLink RL 10 RX9) (by decide +kernel)) (gts (.instantiable RX9 19) (by decide +kernel)) (gts (.initialized RX9) (by decide +kernel)) hK hP hD hS hA rfl (fun j hj => by rcases (show j = 0 ∨ j = 1 ∨ j = 2 ∨ j = 3 ∨ j = 4 ∨ j = 5 ∨ j = 6 ∨ j = 7 ∨ j = 8 ∨ j = 9 ∨ j = 10 ∨ j = 11 ∨ j = 12 ∨ j = 13 ∨ j = 14 ∨ j = 15 ∨ j = 16 ∨ j = 17 ∨ j = 18 by omega) with rfl | rfl | rfl | rfl | rfl | rfl | rfl | rfl | rfl | rfl | rfl | rfl | rfl | rfl | rfl | rfl | rfl | rfl | rfl <;> rfl) (Nat.le_of_ble_eq_true rfl) (Nat.le_of_ble_eq_true rfl) dL_law_8 (fun q8 H hP hD hS => ?_)
  have hP : va_P D vwCl (wWXM q0 fl_4 e1_4 e2_4 pd_4 sg_4 cI 0 0 .null 4 (pk 256 (fun i => i + 1) 4) (pk 8 (fun i => i) 4) 4 0 0 0 0 0 0 0 0 0 0 0 0 0 0 0 0 0 (fun _ => 0) q8 0 0 .null .null 0 .null 0 .null .null 0 0 .null .null .null .null .null .null .null .null) H := hP
  have hD : va_D A (wWXM q0 fl_4 e1_4 e2_4 pd_4 sg_4 cI 0 0 .null 4 (pk 256 (fun i => i + 1) 4) (pk 8 (fun i => i) 4) 4 0 0 0 0 0 0 0 0 0 0 0 0 0 0 0 0 0 (fun _ => 0) q8 0 0 .null .null 0 .null 0 .null .null 0 0 .null .null .null .null .null .null .null .null) := hD
  refine W.widen (k := 7) (n := 108) (Nat.le_of_ble_eq_true rfl) (Nat.le_of_ble_eq_true rfl) ?_
  refine lv_dup gx gb dL_law_11 rfl ?_
  have hPc := hP.sub (ws' := wM0 q8 0 0 .null .null 0 .null 0 .null .null 0 0 .null .null .null .null .null .null .null .null) [6] rfl
  have hDc := hD.sub (ws' := wM0 q8 0 0 .null .null 0 .null 0 .null .null 0 0 .null .null .null .null .null .null .null .null) [6] (by decide) rfl
  have hFc := va_free (wc := wM0 q8 0 0 .null .null 0 .null 0 .null .null 0 0 .null .null .null .null .null .null .null .null) hD hS hA [6] rfl
  refine va_callv (va_runI (As := []) (rest := [.ref q8]) ⟨gx, gb, gml, gown, gts⟩ (kX9_init Gl D cI cJ cZ q8 0 0 .null .null .null .null .null .null .null .null .null .null .null .null .null _) (cwI 0 gts gL_law_X9_init rfl rfl rfl (gts (.initialized RX9) (by decide +kernel)) (gts (.methodLink RL 12 yX9_init) (by decide +kernel)) (gts (.instanceMethod yX9_init) (by decide +kernel)) rfl (by decide +kernel) ⟨Nat.le_of_ble_eq_true rfl, Nat.le_of_ble_eq_true rfl⟩) ⟨fun a U g mk q => by obtain ⟨q0, q1, qP, qK, qD⟩ := q; exact ⟨q0, q1, qP, va_K.moved (u := U) (U := U.calling g mk a) (Vm.Alike.refl U.vm) qK, qD⟩, fun U hU hW => ⟨rfl, by rw [hU], by rw [hU]; exact hPc, va_K.moved hW.alike hK, hDc.weaken (fun _ _ _ _ => trivial)⟩⟩ rfl rfl hl.1 rfl (lv_room (Nat.le_of_ble_eq_true rfl)) dL_law_12 ⟨Nat.le_of_ble_eq_true rfl, Nat.le_of_ble_eq_true rfl⟩) hS (fun q _ h => hFc q h) hFc (fun u t H1 locs ht hvm hw hB hz1 hk1 hS => ?_)
  obtain ⟨ma_12, mb_12, mc_12, md_12, me_12, mf_12, mg_12, mh_12, mi_12, mj_12, mk_12, ml_12, mn_12⟩ := u
  obtain ⟨hP1, hK1, hD1⟩ := hB
  rw [ht] at hP1
  try dsimp only at hw
  try dsimp only at hP1
  try dsimp only at hD1
  have hK := va_K.moved hvm.symm hK1
  obtain ⟨hP, hD⟩ := va_join (wr := [(q0, .inr (3, [.ref fl_4, .ref e1_4, .ref e2_4, .int (nI 0), .int (nI 0), .ref pd_4, .null])), (fl_4, .inr (0, [.int (nI 4), .long (lN (pk 256 (fun i => i + 1) 4)), .int (nI (pk 8 (fun i => i) 4)), .int (nI 4), .long (lN 0), .int (nI 0)])), (e1_4, .inr (0, [.int (nI 0), .long (lN 0), .int (nI 0), .int (nI 0), .long (lN 0), .int (nI 0)])), (e2_4, .inr (0, [.int (nI 0), .long (lN 0), .int (nI 0), .int (nI 0), .long (lN 0), .int (nI 0)])), (pd_4, .inr (1, [.ref sg_4, .int (nI 0), .int (nI 0), .int (nI 0)])), (sg_4, .inl (cI, 60, .inl (aN (fun _ => 0))))]) (w1 := wM q8 ma_12 mb_12 mc_12 md_12 me_12 mf_12 mg_12 mh_12 mi_12 mj_12 mk_12 ml_12 mn_12 cI cZ 4 4 0 0 0 0 (cpy (fun k => k + 1) (fun _ => 0) 7) (cpy (fun k => k) (fun _ => 0) 7) (fun _ => 0) (fun _ => 0) (fun _ => 0) (fun _ => 0) (aN (fun _ => 0)) (fun _ => 0) (fun _ => 0) (fun _ => 0) (fun _ => 0) (fun _ => 0) (fun _ => 0)) hP hD [6] [0, 1, 2, 3, 4, 5] rfl rfl (by decide) (by decide) hk1 hFc hP1 hD1
  have hP := hP.sub (ws' := wLA q0 fl_4 e1_4 e2_4 pd_4 sg_4 cI 0 0 .null 4 (pk 256 (fun i => i + 1) 4) (pk 8 (fun i => i) 4) 4 0 0 0 0 0 0 0 0 0 0 0 0 0 0 0 0 0 (fun _ => 0) q8 ma_12 mb_12 mc_12 md_12 me_12 mf_12 mg_12 mh_12 mi_12 mj_12 mk_12 ml_12 mn_12 cZ 4 4 0 0 0 0 (cpy (fun k => k + 1) (fun _ => 0) 7) (cpy (fun k => k) (fun _ => 0) 7) (fun _ => 0) (fun _ => 0) (fun _ => 0) (fun _ => 0) (aN (fun _ => 0)) (fun _ => 0) (fun _ => 0) (fun _ => 0) (fun _ => 0) (fun _ => 0) (fun _ => 0)) [0, 1, 2, 3, 4, 5, 6, 7, 8, 9, 10, 11, 12, 13, 14, 15, 16, 17, 18, 19] rfl
  have hD := hD.sub (ws' := wLA q0 fl_4 e1_4 e2_4 pd_4 sg_4 cI 0 0 .null 4 (pk 256 (fun i => i + 1) 4) (pk 8 (fun i => i) 4) 4 0 0 0 0 0 0 0 0 0 0 0 0 0 0 0 0 0 (fun _ => 0) q8 ma_12 mb_12 mc_12 md_12 me_12 mf_12 mg_12 mh_12 mi_12 mj_12 mk_12 ml_12 mn_12 cZ 4 4 0 0 0 0 (cpy (fun k => k + 1) (fun _ => 0) 7) (cpy (fun k => k) (fun _ => 0) 7) (fun _ => 0) (fun _ => 0) (fun _ => 0) (fun _ => 0) (aN (fun _ => 0)) (fun _ => 0) (fun _ => 0) (fun _ => 0) (fun _ => 0) (fun _ => 0) (fun _ => 0)) [0, 1, 2, 3, 4, 5, 6, 7, 8, 9, 10, 11, 12, 13, 14, 15, 16, 17, 18, 19] (by decide) rfl
  have hK := va_K.moved (Vm.Alike.refl Gs.vm) hK
  generalize H1 = H at hP hS ⊢
  refine W.widen (k := 20) (n := 20499) (Nat.le_of_ble_eq_true rfl) (Nat.le_of_ble_eq_true rfl) ?_
  refine lv_astore_n (lv' := [(2, .ref q8), (1, .ref q0), (0, .ref b)]) gx gb dL_law_15 rfl hl (by decide) rfl (fun ls hl => ?_)
  refine lv_iconst (v := nI 0) gx gb dL_law_16 (by decide) ?_
  refine lv_istore_n (lv' := [(3, .int (nI 0)), (2, .ref q8), (1, .ref q0), (0, .ref b)]) gx gb dL_law_17 rfl hl (by decide) rfl (fun ls hl => ?_)
  exact lA_loop hL C0 D cI cJ cZ A hA hbA hA2 hK q0 fl_4 e1_4 e2_4 pd_4 sg_4 q8 ma_12 mb_12 mc_12 md_12 me_12 mf_12 mg_12 mh_12 mi_12 mj_12 mk_12 ml_12 mn_12 (L + 1) 0 (Nat.zero_le L) (by omega) 4 4 0 0 4 4 0 (pk 256 (fun i => i + 1) 4) (pk 8 (fun i => i) 4) 0 0 0 0 0 0 0 0 0 0 0 0 0 0 0 0 0 0 0 (cpy (fun k => k + 1) (fun _ => 0) 7) (cpy (fun k => k) (fun _ => 0) 7) (fun _ => 0) (fun _ => 0) (fun _ => 0) (fun _ => 0) (fun _ => 0) (fun _ => 0) (fun _ => 0) (fun _ => 0) (fun _ => 0) (fun _ => 0) (aN (fun _ => 0)) lw_ini H locs hP hD hS ls (lv_sub hl [3, 2, 1, 0] rfl)
set_option maxHeartbeats 4000000 in
set_option maxRecDepth 100000 in
/-- from the entry, for every script of at most 256 ints, the law comes to its end with true -/
theorem whole_start {p : Program} {e : Env} {s : State} {m : MethodId} {below : List Frame} {meth : Method} {c : Code} (l : Launch) (hflags : l.flags = flags0) {b L : Nat} {xs : Nat → Int32} (hL : L ≤ 256) (C0 : lw_At p s m meth c b L xs) : W p l e room_1 s m #[Value.ref b] below meth c s.heap [] 0 0 (lw_Z below #[Value.ref b] s) (entryFrame m ([Value.ref b] : List Value).toArray 4) := by
  exact ws_go (Gl := l) hL C0
set_option maxHeartbeats 4000000 in
theorem lw_walk (l : Launch) (hflags : l.flags = flags0) (b : Addr) (xs : List Int32) : MetFree l x (headSpec (Jvm.Cond.code x code maxLocals ret :: tables_1) room_1) (lw_P b xs) (fun _ _ _ _ _ => True) lw_Q := by
  refine MetFree.of_bodyS (code := code) (maxLocals := maxLocals) (ret := ret) (by decide) ?_ ?_
  · intro args s m h hn
    obtain ⟨meth, c, h1, h2, h3, h4, h5, h6, -, -⟩ := Cond.code_spec hn (atoms_spec (ws := Jvm.Cond.code x code maxLocals ret :: tables_1) h _ List.mem_cons_self)
    exact ⟨meth, c, h1, h2, h3, h4, h5, h6⟩
  · intro p e s m args below meth c s₁ B hml0 hP _
    obtain ⟨rfl, hx, hbd, hgv⟩ := hP
    obtain ⟨scr, harrAt, hlist, hof, hsmall⟩ := hx
    obtain ⟨hcb, hkn, -, -⟩ := State.arrayAt?_spec harrAt
    have hown : s.vm.findClass R_law = some m.cls := findClass_of_methodNamed B.named
    have hts0 : ∀ c ∈ (Jvm.Cond.code x code maxLocals ret :: tables_1), c.before #[Value.ref b] s = true := atoms_spec (ws := Jvm.Cond.code x code maxLocals ret :: tables_1) B.pre
    have hts : ∀ w ∈ lw_tbl, w.before #[Value.ref b] s = true := k2_hts_sels lw_privs (fun w hw => hts0 w (List.mem_cons_of_mem _ hw)) lw_privs_ok
    have hml : c.maxLocals = 4 := B.maxLocals_eq (hts0 _ List.mem_cons_self)
    have X₀ : Stand p l e room_1 s m #[Value.ref b] below meth c s₁ [] 0 0 := Stand.of_body B
    have hh0 : s₁.heap = s.heap := by rw [B.state]; rfl
    have hsz : scr.slots.size = xs.length := by rw [← Array.length_toList, hlist, List.length_map]
    have hval : ∀ j : Nat, j < xs.length → scr.slots[j]? = some (.int (xs.getD j 0)) := fun j hj => by
      rw [← Array.getElem?_toList, hlist]
      simp [hj]
    have hbl : b < s.heap.size := (Array.getElem?_eq_some_iff.mp hcb).1
    have hX : va_X b xs.length (fun j => xs.getD j 0) s s.heap := ⟨scr, hcb, hof, hkn, hsz, hval⟩
    have K : W p l e room_1 s m #[Value.ref b] below meth c s₁.heap [] 0 0 (lw_Z below #[Value.ref b] s) (entryFrame m ([Value.ref b] : List Value).toArray 4) := by
      rw [hh0]
      exact whole_start l hflags hbd ⟨B.exec, B.bytes, B.returns, hml, hown, hts, hX, hbl, B.notSynchronized, hgv⟩
    obtain ⟨t, a1, o, b1, b2, b3⟩ := K s₁ rfl X₀
    exact ⟨t, o, a1, b1, b2, b3⟩
theorem lw_pre_spec {args : Array Value} {s : State} (h : (Jvm.Cond.and given_1 narrow_1).before args s = true) (hr : rest_1_c.before args s = true) : ∃ (b : Addr) (xs : List Int32), lw_P b xs args s := by
  have hs := flat_of_before _ h
  have hq := flat_of_before _ hr
  have hc : (Cond.count 1).before args s = true := hs _ (by decide +kernel)
  have harr : (Cond.arrayOf (.arg 0) .int).before args s = true := hs _ (by decide +kernel)
  have hle : (Cond.le (.length (.arg 0)) (.int 256)).before args s = true := hs _ (by decide +kernel)
  have hlen : (Cond.isInt (.length (.arg 0))).before args s = true := hq _ (by decide +kernel)
  have hall : (Cond.all (.arg 0) (.isInt (.elem (.arg 0) (.index 0)))).before args s = true := hq _ (by decide +kernel)
  obtain ⟨b, xs, hb, hx⟩ := State.ints_of_pre rfl harr hlen hall
  have hsm : xs.length < 2 ^ 31 := hx.choose_spec.2.2.2
  have hev : (Term.length (.arg 0)).eval args s none [] s = some (.int xs.length.toInt32) := hx.length_eval hb
  have hv := Cond.le_ints hev (show (Term.int 256).eval args s none [] s = some (.int 256) from rfl)
  have hd : xs.length.toInt32 ≤ 256 := by
    simpa [Cond.before, Cond.holds, hv] using hle
  have hN : xs.length ≤ 256 := (Int32.ofNat_le_ofNat hsm (by decide)).mp (show Int32.ofNat xs.length ≤ Int32.ofNat 256 from hd)
  exact ⟨b, xs, Cond.one_arg hc (show args[0]? = some (.ref b) from hb), hx, hN, h⟩
theorem lw_comes (l : Launch) (hflags : l.flags = flags0) : Comes l x (Jvm.Cond.code x code maxLocals ret :: tables_1) room_1 (fun tb e args s => Calls_1 tb e args s ∧ rest_1 tb e args s ∧ Pre_1 tb e args s)
    (fun _ _ args s o t => lw_Q args s o t) := by
  intro p e ha hc hk s m args below hf hfit hheap happ hpre
  obtain ⟨b, xs, hP⟩ := lw_pre_spec hpre.2.2 hpre.2.1
  obtain ⟨k, o, h1, h2, h3, hQ⟩ := lw_walk l hflags b xs p e ha hc hk s m args below hf ((Spec.applies_iff_loose hf).mp happ).1 hP trivial
  exact ⟨k, o, h1, h2, h3, hQ⟩
theorem lw_frame {s t : State} {o : Outcome} {args : Array Value} (h : Framed s o t [] 196106 8513930) :
    Framed s o t (fieldLocs frame_1_writes args s ++ arrayLocs frame_1_arrays args s ++ staticLocs frame_1_statics s) 196106 8513930 := h
theorem lw_limb (L : Cond) (hL : ∀ (args : Array Value) (s t : State), L.after args s (.returned (some (.int 1))) t = true) :
    ArmFor flags0 classFile x code maxLocals ret World_1 tables_1 room_1 Calls_1 rest_1 Pre_1
      (fun tb e a s o t => postC L tb e a s o t ∧ Framed s o t (fieldLocs frame_1_writes a s ++ arrayLocs frame_1_arrays a s ++ staticLocs frame_1_statics s) 196106 8513930) := by
  intro l hflags _ _ p e ha hc hk s m args below hf hfit hheap happ hpre
  obtain ⟨k, o, h1, h2, h3, rfl, hF⟩ := lw_comes l hflags p e ha hc hk s m args below hf hfit hheap happ hpre
  exact ⟨k, _, h1, h2, h3, hL args s _, lw_frame hF⟩
theorem i_vc : Claimed_1_1 ∧ Claimed_1_2 := ⟨lw_limb limb_1_1 (fun args s t => by simp [limb_1_1, Cond.after, Cond.holds, Cond.value]), lw_limb limb_1_2 (fun args s t => Cond.after_iff.mpr (by
  first | (rw [show limb_1_2 = Cond.eq .result (.int 1) from rfl, Cond.eq_ints (x := 1) (y := 1) rfl rfl]; simp; done) | (simp [limb_1_2, Cond.value, Term.eval]; done)))⟩

