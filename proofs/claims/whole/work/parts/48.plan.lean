/-! the reference's search for a plan -/
def upI (f : Nat → Int) (k : Nat) (v : Int) : Nat → Int := fun j => if j = k then v else f j
theorem upI_s (f : Nat → Int) (k : Nat) (v : Int) : upI f k v k = v := if_pos rfl
theorem upI_n (f : Nat → Int) {k j : Nat} (v : Int) (h : j ≠ k) : upI f k v j = f j := if_neg h
def lpR (plc : Nat → Nat) (q : Nat) (S : BS) (cnt : Nat) (que cfr cby : Nat → Nat) (fv : Nat → Int) : Prop :=
  cnt = bN S ∧ (∀ i, i < bN S → que i = rkC plc q (bR S i) ∧ fv (rkC plc q (bR S i)) = (bD S i : Int) ∧ (0 < i → cby (rkC plc q (bR S i)) = bE S i ∧ cfr (rkC plc q (bR S i)) = rkC plc q (bR S (bP S i)))) ∧
  ∀ r, r < 5040 → (∀ i, i < bN S → rkC plc q (bR S i) ≠ r) → fv r = -6
theorem lp_in {plc : Nat → Nat} {q cnt C : Nat} {S : BS} {que cfr cby : Nat → Nat} {fv : Nat → Int} (hq : q ≤ 7) (hg : ij q plc) (hS : bOK q S) (hL : lpR plc q S cnt que cfr cby fv) (aC : arr q C) : (bIn S C → 0 ≤ fv (rkC plc q C)) ∧ (¬ bIn S C → fv (rkC plc q C) = -6) := by
  obtain ⟨h1, h2, h3⟩ := hL
  refine ⟨fun ⟨i, a, b⟩ => ?_, fun hn => ?_⟩
  · have := (h2 i a).2.1
    rw [b] at this
    omega
  · have hlt := rkC_lt plc hq C
    exact h3 _ (by omega) fun i hi e => hn ⟨i, hi, rkC_inj hq hg (hS.2.2.2.1 i hi) aC e⟩
theorem lp_new {plc : Nat → Nat} {q cnt C h e : Nat} {S : BS} {que cfr cby : Nat → Nat} {fv : Nat → Int} (hq : q ≤ 7) (hg : ij q plc) (hS : bOK q S) (hL : lpR plc q S cnt que cfr cby fv) (aC : arr q C) (hh : h < bN S) (hn : ¬ bIn S C) :
    lpR plc q (bAdd S C h e) (cnt + 1) (up que cnt (rkC plc q C)) (up cfr (rkC plc q C) (que h)) (up cby (rkC plc q C) e) (upI fv (rkC plc q C) (fv (que h) + 1)) := by
  obtain ⟨rfl, h2, h3⟩ := hL
  have ne : ∀ i, i < bN S → rkC plc q (bR S i) ≠ rkC plc q C := fun i hi e => hn ⟨i, hi, rkC_inj hq hg (hS.2.2.2.1 i hi) aC e⟩
  have hqh := (h2 h hh).1
  have hfh := (h2 h hh).2.1
  rw [bAdd_f hn]
  have eR : ∀ i, i < bN S → up (bR S) (bN S) C i = bR S i := fun i hi => up_n _ _ (by omega)
  refine ⟨rfl, fun i hi => ?_, fun r hr hx => ?_⟩
  · have hi2 : i < bN S + 1 := hi
    show up que (bN S) (rkC plc q C) i = rkC plc q (up (bR S) (bN S) C i) ∧ upI fv (rkC plc q C) (fv (que h) + 1) (rkC plc q (up (bR S) (bN S) C i)) = (up (bD S) (bN S) (bD S h + 1) i : Int) ∧ (0 < i → up cby (rkC plc q C) e (rkC plc q (up (bR S) (bN S) C i)) = up (bE S) (bN S) e i ∧ up cfr (rkC plc q C) (que h) (rkC plc q (up (bR S) (bN S) C i)) = rkC plc q (up (bR S) (bN S) C (up (bP S) (bN S) h i)))
    rcases Nat.lt_or_ge i (bN S) with x | x
    · obtain ⟨a, b, c⟩ := h2 i x
      rw [eR i x, up_n _ _ (show i ≠ bN S by omega), upI_n _ _ (ne i x), up_n _ _ (show i ≠ bN S by omega), up_n _ _ (ne i x), up_n _ _ (show i ≠ bN S by omega), up_n _ _ (ne i x), up_n _ _ (show i ≠ bN S by omega)]
      refine ⟨a, b, fun h0 => ?_⟩
      have hp := (hS.2.2.2.2.2 i h0 x).1
      rw [eR _ (by omega)]
      exact c h0
    · obtain rfl : i = bN S := by omega
      rw [up_s, up_s, up_s, upI_s, up_s, up_s, up_s, up_s, eR h hh]
      refine ⟨rfl, ?_, fun _ => ⟨rfl, hqh⟩⟩
      rw [hqh, hfh]; omega
  · have hx0 : rkC plc q C ≠ r := by
      have := hx (bN S) (Nat.lt_succ_self _)
      have e2 : bR (bN S + 1, up (bR S) (bN S) C, up (bP S) (bN S) h, up (bE S) (bN S) e, up (bD S) (bN S) (bD S h + 1)) (bN S) = C := up_s _ _ _
      rwa [e2] at this
    rw [upI_n _ _ (fun h9 => hx0 h9.symm)]
    refine h3 r hr fun i hi => ?_
    have := hx i (Nat.lt_succ_of_lt hi)
    have e2 : bR (bN S + 1, up (bR S) (bN S) C, up (bP S) (bN S) h, up (bE S) (bN S) e, up (bD S) (bN S) (bD S h + 1)) i = bR S i := eR i hi
    rwa [e2] at this
/-! rows of whole numbers with a sign, in an array -/
def aZ (g : Nat → Int) : Nat → Int32 := fun k => zI (g k)
theorem aZ_rd (g : Nat → Int) {k : Nat} (h : k < 2147483648) : aZ g (nI k).toNatClampNeg = zI (g k) := by rw [nI_clamp h]; rfl
theorem aZ_st (g : Nat → Int) {k : Nat} (v : Int) (h : k < 2147483648) : upd (aZ g) (nI k).toNatClampNeg (zI v) = aZ (upI g k v) := by
  rw [nI_clamp h]
  funext j
  unfold upd aZ upI
  by_cases hj : j = k
  · simp [hj]
  · simp [hj]
theorem aZ_stN (g : Nat → Int) {k : Nat} (v : Nat) (h : k < 2147483648) : upd (aZ g) (nI k).toNatClampNeg (nI v) = aZ (upI g k (v : Int)) := by
  rw [nI_zc v]; exact aZ_st g _ h
theorem aZ_of (f : Nat → Int32) : f = aZ (fun x => (f x).toInt) := by
  funext k
  exact (Int32.ofInt_toInt (f k)).symm
theorem aN_of (f : Nat → Int32) : f = aN (fun x => (f x).toBitVec.toNat) := by
  funext k
  apply Int32.toBitVec_inj.mp
  show (f k).toBitVec = (Int32.ofNat (f k).toBitVec.toNat).toBitVec
  rw [Int32.toBitVec_ofNat', BitVec.ofNat_toNat, BitVec.setWidth_eq]
theorem lp_bd {plc : Nat → Nat} {q cnt : Nat} {S : BS} {que cfr cby : Nat → Nat} {fv : Nat → Int} (hq : q ≤ 7) (hS : bOK q S) (hL : lpR plc q S cnt que cfr cby fv) : ∀ r, r < 5040 → -6 ≤ fv r ∧ fv r ≤ 5040 := by
  intro r hr
  obtain ⟨-, h2, h3⟩ := hL
  by_cases h : ∃ i, i < bN S ∧ rkC plc q (bR S i) = r
  · obtain ⟨i, hi, e⟩ := h
    have h1 := (h2 i hi).2.1
    have h4 := bD_le hS i hi
    have h5 := bOK_n7 hq hS
    rw [e] at h1
    omega
  · have := h3 r hr (fun i hi e => h ⟨i, hi, e⟩)
    omega
theorem lp_ini {plc que cfr cby : Nat → Nat} {fv : Nat → Int} {q : Nat} (h : ∀ x, x < 5040 → fv x = -6) : lpR plc q (bfs q 0) 1 (up que 0 (rkC plc q (cod q idn))) cfr cby (upI fv (rkC plc q (cod q idn)) ((0 : Nat) : Int)) := by
  refine ⟨rfl, fun i hi => ?_, fun r hr hx => ?_⟩
  · have hi2 : i < 1 := hi
    obtain rfl : i = 0 := by omega
    exact ⟨up_s _ _ _, upI_s _ _ _, fun h => absurd h (Nat.lt_irrefl _)⟩
  · have h9 : rkC plc q (cod q idn) ≠ r := hx 0 Nat.zero_lt_one
    rw [upI_n _ _ (fun h8 => h9 h8.symm)]
    exact h r hr
def lpA (num plc : Nat → Nat) (k q : Nat) (zz : Int) (fv : Nat → Int) (cf cb : Nat → Nat) : Prop :=
  (plnF num plc k q = none ∧ zz = -6) ∨ ∃ (x : Nat) (S : BS) (n_ : Nat) (qu_ : Nat → Nat), plnF num plc k q = some x ∧ x < bN S ∧ bOK q S ∧ bLe S (bAll q) ∧ zz = (rkC plc q (bR S x) : Int) ∧ lpR plc q S n_ qu_ cf cb fv
theorem lpA_y {num plc qu cf cb : Nat → Nat} {k q hd n_ : Nat} {S : BS} {fv : Nat → Int} (hok : bOK q S) (hle : bLe S (bAll q)) (hL : lpR plc q S n_ qu cf cb fv) (hh : hd < bN S) (h0 : ∀ x, x < hd → tkC num plc k q (bR (bAll q) x) = false) (hT : tkC num plc k q (bR S hd) = true) : lpA num plc k q (rkC plc q (bR S hd) : Int) fv cf cb :=
  Or.inr ⟨hd, S, n_, qu, fstT_k (T := fun i => tkC num plc k q (bR (bAll q) i)) h0 (by show tkC num plc k q (bR (bAll q) hd) = true; rw [(hle.2 hd hh).1]; exact hT) _ (Nat.lt_of_lt_of_le hh hle.1), hh, hok, hle, rfl, hL⟩
theorem lpA_n {num plc cf cb : Nat → Nat} {k q hd : Nat} {fv : Nat → Int} (hq : q ≤ 7) (hh : bN (bfs q hd) ≤ hd) (h0 : ∀ x, x < hd → tkC num plc k q (bR (bAll q) x) = false) : lpA num plc k q (-6) fv cf cb :=
  Or.inl ⟨fstT_n (fun i hi => h0 i (by rw [← bAll_at hq (Or.inl hh)] at hi; omega)), rfl⟩
theorem lpA_bd {num plc cf cb : Nat → Nat} {k q : Nat} {zz : Int} {fv : Nat → Int} (hq : q ≤ 7) (h : lpA num plc k q zz fv cf cb) : -6 ≤ zz ∧ zz < 5040 := by
  rcases h with ⟨-, h⟩ | ⟨x, S, n_, qu_, -, -, -, -, h, -⟩
  · omega
  · have := rkC_lt plc hq (bR S x)
    omega
theorem lpA_s {num plc cf cb : Nat → Nat} {k q : Nat} {zz : Int} {fv : Nat → Int} (h : lpA num plc k q zz fv cf cb) (h0 : 0 ≤ zz) : ∃ (x : Nat) (S : BS) (n_ : Nat) (qu_ : Nat → Nat), plnF num plc k q = some x ∧ x < bN S ∧ bOK q S ∧ bLe S (bAll q) ∧ zz = (rkC plc q (bR S x) : Int) ∧ lpR plc q S n_ qu_ cf cb fv := by
  rcases h with ⟨-, h⟩ | h
  · omega
  · exact h
theorem lpA_ng {num plc cf cb : Nat → Nat} {k q : Nat} {zz : Int} {fv : Nat → Int} (h : lpA num plc k q zz fv cf cb) (h0 : zz < 0) : plnF num plc k q = none := by
  rcases h with ⟨h, -⟩ | ⟨x, S, n_, qu_, -, -, -, -, h, -⟩
  · exact h
  · omega
theorem plnZ_0 {num plc : Nat → Nat} {k q : Nat} {b : Int} (hk : k ≤ 6) (h : plnF num plc k q = none) : plnZ num plc q (k : Int) b = -6 := by
  have h2 : plnF num plc (k : Int).toNat q = none := h
  rw [plnZ, if_pos (by omega), h2]
theorem plnZ_1 {num plc : Nat → Nat} {k q x : Nat} {b : Int} (hk : k ≤ 6) (h : plnF num plc k q = some x) : plnZ num plc q (k : Int) b = if b = -1 then (bD (bAll q) x : Int) else if 0 ≤ b ∧ b < bD (bAll q) x then (evN q (bE (bAll q) (bAnc (bP (bAll q)) x (bD (bAll q) x - 1 - b.toNat))) : Int) else -6 := by
  have h2 : plnF num plc (k : Int).toNat q = some x := h
  rw [plnZ, if_pos (by omega), h2]
theorem bAnc_le {q x : Nat} {S T : BS} (hok : bOK q S) (hle : bLe S T) (hx : x < bN S) : ∀ m, m ≤ bD S x → bAnc (bP T) x m = bAnc (bP S) x m
  | 0, _ => rfl
  | m + 1, hm => by
    have ih := bAnc_le hok hle hx m (by omega)
    have h1 := (bAnc_D hok hx m (by omega)).1
    show bP T (bAnc (bP T) x m) = bP S (bAnc (bP S) x m)
    rw [ih, (hle.2 _ h1).2.1]
theorem plnZ_2 {num plc : Nat → Nat} {k q x i : Nat} {S : BS} (hk : k ≤ 6) (h : plnF num plc k q = some x) (hok : bOK q S) (hle : bLe S (bAll q)) (hx : x < bN S) (hi : i < bD S x) : plnZ num plc q (k : Int) (i : Int) = (evN q (bE S (bAnc (bP S) x (bD S x - 1 - i))) : Int) := by
  have e1 := (hle.2 x hx).2.2.2
  have h1 := (bAnc_D hok hx (bD S x - 1 - i) (by omega)).1
  rw [plnZ_1 hk h, if_neg (by omega), if_pos (by omega), e1]
  show (evN q (bE (bAll q) (bAnc (bP (bAll q)) x (bD S x - 1 - i))) : Int) = _
  rw [bAnc_le hok hle hx _ (by omega), (hle.2 _ h1).2.2.1]

set_option maxHeartbeats 4000000 in
set_option maxRecDepth 100000 in
theorem kX9_layPlan (Gl : Launch) (D : va_G) (cI cJ cZ : ClassId) (mo : Nat) (ma : Nat) (mb : Nat) (mc : Nat) (md : Nat) (me : Nat) (mf : Nat) (mg : Nat) (mh : Nat) (mi : Nat) (mj : Nat) (mk : Nat) (ml : Nat) (mn : Nat) (n : Nat) (q : Nat) (c : Nat) (w : Nat) (z : Nat) (ev : Nat) (num : Nat → Nat) (plc : Nat → Nat) (sig : Nat → Nat) (pad : Nat → Nat) (row : Nat → Nat) (dig : Nat → Nat) (far : Nat → Int32) (cfr : Nat → Nat) (cby : Nat → Nat) (que : Nat → Nat) (has : Nat → Nat) (img : Nat → Nat) (kep : Nat → Nat) (sz : Nat) (k : Nat) (hk : k ≤ 6) (hq1 : 1 ≤ q) (hq7 : q ≤ 7) (hpl : ∀ x, x < q → plc x ≤ 6) (hij : ij q plc) (hnv : ∀ x, x < q → num (plc x) ≤ 99) : Met Gl yX9_layPlan wsX9_layPlan ({ frames := 3, cells := 0, slots := 0, locals := 71 } : Room) (va_Pc [.ref mo, .int (nI k)] (fun U => U.heap.size = sz ∧ va_P D vwCl (wM mo ma mb mc md me mf mg mh mi mj mk ml mn cI cZ n q c w z ev num plc sig pad row dig far cfr cby que has img kep) U.heap ∧ va_K D vwCl [(cI, .int), (cJ, .long), (cZ, .boolean)] U ∧ va_D (fun _ => True) (wM mo ma mb mc md me mf mg mh mi mj mk ml mn cI cZ n q c w z ev num plc sig pad row dig far cfr cby que has img kep))) (va_Qi (fun (r : Int32) (u : (Nat → Int) × (Nat → Nat) × (Nat → Nat) × (Nat → Nat) × (Nat → Nat) × (Nat → Nat)) => ∃ zz : Int, r = zI zz ∧ lpA num plc k q zz u.1 u.2.2.1 u.2.2.2.1) (fun (u : (Nat → Int) × (Nat → Nat) × (Nat → Nat) × (Nat → Nat) × (Nat → Nat) × (Nat → Nat)) t => va_P D vwCl (wM mo ma mb mc md me mf mg mh mi mj mk ml mn cI cZ n q c w q ev num plc sig pad u.2.2.2.2.1 u.2.2.2.2.2 (aZ u.1) u.2.2.1 u.2.2.2.1 u.2.1 has img kep) t.heap ∧ va_K D vwCl [(cI, .int), (cJ, .long), (cZ, .boolean)] t ∧ va_D (va_A (wM mo ma mb mc md me mf mg mh mi mj mk ml mn cI cZ n q c w z ev num plc sig pad row dig far cfr cby que has img kep) sz) (wM mo ma mb mc md me mf mg mh mi mj mk ml mn cI cZ n q c w q ev num plc sig pad u.2.2.2.2.1 u.2.2.2.2.2 (aZ u.1) u.2.2.1 u.2.2.2.1 u.2.1 has img kep)) (va_A (wM mo ma mb mc md me mf mg mh mi mj mk ml mn cI cZ n q c w z ev num plc sig pad row dig far cfr cby que has img kep) sz)) 0 0 (va_A (wM mo ma mb mc md me mf mg mh mi mj mk ml mn cI cZ n q c w z ev num plc sig pad row dig far cfr cby que has img kep) sz) := by
  refine Met.ofW (cc := cX9_layPlan) (maxL := 6) (ret := (some .int)) (by decide +kernel) rfl ?_
  intro Gp Ge Gs Gm Ga Gw Gt Gc G1 Bd gml gv
  obtain ⟨rfl, hsz, hP, hK, hD0⟩ := gv
  have gx := Bd.exec
  have gb := Bd.bytes
  have gr := Bd.returns
  have gts := atoms_spec (ws := wsX9_layPlan) Bd.pre
  have gown : Gs.vm.findClass RX9 = some Gm.cls := findClass_of_methodNamed Bd.named
  have glk := Bd.notSynchronized
  subst hsz
  have hD := hD0.self (sz := Gs.heap.size)
  generalize hAe : va_A (wM mo ma mb mc md me mf mg mh mi mj mk ml mn cI cZ n q c w z ev num plc sig pad row dig far cfr cby que has img kep) Gs.heap.size = A at hD ⊢
  have hA : ∀ q : Nat, Gs.heap.size ≤ q → A q := fun q h => by rw [← hAe]; exact Or.inr h
  have hS : va_S A Gs.heap Gs.heap [] := va_S.rf
  have hP : va_P D vwCl (wM mo ma mb mc md me mf mg mh mi mj mk ml mn cI cZ n q c w z ev num plc sig pad row dig far cfr cby que has img kep) Gs.heap := hP
  have hl := lv_entry ([.ref mo, .int (nI k)]) (n := 6) (Nat.le_of_ble_eq_true rfl)
  rw [lg_entry_eq]
  generalize (lg_sl ([.ref mo, .int (nI k)]) ++ List.replicate (6 - (lg_sl ([.ref mo, .int (nI k)])).length) Slot.unset).toArray = ls at hl ⊢
  have hl : lv_has ls 6 [(0, .ref mo), (1, .int (nI k))] := hl
  have i9 : ∀ w ∈ wsX90, w ∈ wsX9_layPlan := by decide +kernel
  have e_far : far = (aZ (fun x_ => (far x_).toInt)) := by exact aZ_of far
  have hP : va_P D vwCl (wM mo ma mb mc md me mf mg mh mi mj mk ml mn cI cZ n q c w z ev num plc sig pad row dig (aZ (fun x_ => (far x_).toInt)) cfr cby que has img kep) Gs.heap := by rw [← e_far]; exact hP
  have hD : va_D A (wM mo ma mb mc md me mf mg mh mi mj mk ml mn cI cZ n q c w z ev num plc sig pad row dig (aZ (fun x_ => (far x_).toInt)) cfr cby que has img kep) := by rw [← e_far]; exact hD
  refine lv_iconst (v := nI 0) gx gb dX9_layPlan_0 (by decide) ?_
  refine lv_istore_n (lv' := [(2, .int (nI 0)), (0, .ref mo), (1, .int (nI k))]) gx gb dX9_layPlan_1 rfl hl (by decide) rfl (fun ls hl => ?_)
  have L2 : ∀ fu : Nat, ∀ (i : Nat) (fv : Nat → Int) (hi : i ≤ 5040) (h6 : ∀ x, x < i → fv x = -6), (5040 - i) < fu → ∀ (H : Heap) (locs : List Loc), va_P D vwCl (wM mo ma mb mc md me mf mg mh mi mj mk ml mn cI cZ n q c w z ev num plc sig pad row dig (aZ fv) cfr cby que has img kep) H → va_D A (wM mo ma mb mc md me mf mg mh mi mj mk ml mn cI cZ n q c w z ev num plc sig pad row dig (aZ fv) cfr cby que has img kep) → va_S A Gs.heap H locs → ∀ ls : Array Slot, lv_has ls 6 [(2, .int (nI i)), (0, .ref mo), (1, .int (nI k))] → W Gp Gl Ge (headSpec wsX9_layPlan ({ frames := 3, cells := 0, slots := 0, locals := 71 } : Room)).room Gs Gm ([.ref mo, .int (nI k)] : List Value).toArray Gw Gt Gc H locs 0 0 (MQ Gw (va_Qi (fun (r : Int32) (u : (Nat → Int) × (Nat → Nat) × (Nat → Nat) × (Nat → Nat) × (Nat → Nat) × (Nat → Nat)) => ∃ zz : Int, r = zI zz ∧ lpA num plc k q zz u.1 u.2.2.1 u.2.2.2.1) (fun (u : (Nat → Int) × (Nat → Nat) × (Nat → Nat) × (Nat → Nat) × (Nat → Nat) × (Nat → Nat)) t => va_P D vwCl (wM mo ma mb mc md me mf mg mh mi mj mk ml mn cI cZ n q c w q ev num plc sig pad u.2.2.2.2.1 u.2.2.2.2.2 (aZ u.1) u.2.2.1 u.2.2.2.1 u.2.1 has img kep) t.heap ∧ va_K D vwCl [(cI, .int), (cJ, .long), (cZ, .boolean)] t ∧ va_D A (wM mo ma mb mc md me mf mg mh mi mj mk ml mn cI cZ n q c w q ev num plc sig pad u.2.2.2.2.1 u.2.2.2.2.2 (aZ u.1) u.2.2.1 u.2.2.2.1 u.2.1 has img kep)) A) ([.ref mo, .int (nI k)] : List Value).toArray Gs 0 0 A) (F0 Gm 2 ls []) := by
    intro fu
    induction fu with
    | zero => intro i fv hi h6 hfu; exact absurd hfu (Nat.not_lt_zero _)
    | succ fu ih2 =>
      intro i fv hi h6 hfu H locs hP hD hS ls hl
      refine lv_iload_n gx gb dX9_layPlan_2 rfl (lv_at hl 0 rfl) ?_
      refine lv_sipush (v := nI 5040) gx gb dX9_layPlan_3 (by decide) ?_
      refine lv_icmp_ge (tgt := 23) gx gb dX9_layPlan_6 (by decide) (fun c6 => ?_) (fun c6 => ?_)
      · skip
        rw [nI_leI (by omega) (by omega)] at c6
        refine lv_aload_n gx gb dX9_layPlan_23 rfl (lv_at hl 1 rfl) ?_
        have hPc := hP.sub (ws' := wM mo ma mb mc md me mf mg mh mi mj mk ml mn cI cZ n q c w z ev num plc sig pad row dig (aZ fv) cfr cby que has img kep) [0, 1, 2, 3, 4, 5, 6, 7, 8, 9, 10, 11, 12, 13] rfl
        have hDc := hD.sub (ws' := wM mo ma mb mc md me mf mg mh mi mj mk ml mn cI cZ n q c w z ev num plc sig pad row dig (aZ fv) cfr cby que has img kep) [0, 1, 2, 3, 4, 5, 6, 7, 8, 9, 10, 11, 12, 13] (by decide) rfl
        have hFc := va_free (wc := wM mo ma mb mc md me mf mg mh mi mj mk ml mn cI cZ n q c w z ev num plc sig pad row dig (aZ fv) cfr cby que has img kep) hD hS hA [0, 1, 2, 3, 4, 5, 6, 7, 8, 9, 10, 11, 12, 13] rfl
        refine va_callv (va_runV (As := []) (rest := []) ⟨gx, gb, gml, gown, gts⟩ (kX9_asNow Gl D cI cJ cZ mo ma mb mc md me mf mg mh mi mj mk ml mn n q c w z ev num plc sig pad row dig (aZ fv) cfr cby que has img kep _  ) (cwV 0 gts gX9_layPlan_X9_asNow rfl rfl rfl (by decide +kernel) ⟨Nat.le_of_ble_eq_true rfl, Nat.le_of_ble_eq_true rfl⟩) ⟨fun a U g mk q => by obtain ⟨q0, q1, qP, qK, qD⟩ := q; exact ⟨q0, q1, qP, va_K.moved (u := U) (U := U.calling g mk a) (Vm.Alike.refl U.vm) qK, qD⟩, va_recv hK hPc (ci := 4) (q0 := 0) rfl rfl, fun U hU hW => ⟨rfl, by rw [hU], by rw [hU]; exact hPc, va_K.moved hW.alike hK, hDc.weaken (fun _ _ _ _ => trivial)⟩⟩ rfl rfl hl.1 rfl (lv_room (Nat.le_of_ble_eq_true rfl)) dX9_layPlan_24 ⟨Nat.le_of_ble_eq_true rfl, Nat.le_of_ble_eq_true rfl⟩) hS (fun q _ h => hFc q h) hFc (fun u t H1 locs ht hvm hw hB hz1 hk1 hS => ?_)
        obtain ⟨hP1, hK1, hD1⟩ := hB
        rw [ht] at hP1
        try dsimp only at hw
        try dsimp only at hP1
        try dsimp only at hD1
        have hK := va_K.moved hvm.symm hK1
        obtain ⟨hP, hD⟩ := va_join (wr := []) (w1 := wM mo ma mb mc md me mf mg mh mi mj mk ml mn cI cZ n q c w q ev num plc sig pad (cpy plc row 7) dig (aZ fv) cfr cby que has img kep) hP hD [0, 1, 2, 3, 4, 5, 6, 7, 8, 9, 10, 11, 12, 13] [] rfl rfl (by decide) (by decide) hk1 hFc hP1 hD1
        have hP := hP.sub (ws' := wM mo ma mb mc md me mf mg mh mi mj mk ml mn cI cZ n q c w q ev num plc sig pad (cpy plc row 7) dig (aZ fv) cfr cby que has img kep) [0, 1, 2, 3, 4, 5, 6, 7, 8, 9, 10, 11, 12, 13] rfl
        have hD := hD.sub (ws' := wM mo ma mb mc md me mf mg mh mi mj mk ml mn cI cZ n q c w q ev num plc sig pad (cpy plc row 7) dig (aZ fv) cfr cby que has img kep) [0, 1, 2, 3, 4, 5, 6, 7, 8, 9, 10, 11, 12, 13] (by decide) rfl
        have hK := va_K.moved (Vm.Alike.refl Gs.vm) hK
        generalize H1 = H at hP hS ⊢
        refine lv_iconst (v := nI 1) gx gb dX9_layPlan_27 (by decide) ?_
        refine lv_istore_n (lv' := [(2, .int (nI 1)), (0, .ref mo), (1, .int (nI k))]) gx gb dX9_layPlan_28 rfl hl (by decide) rfl (fun ls hl => ?_)
        refine lv_aload_n gx gb dX9_layPlan_29 rfl (lv_at hl 1 rfl) ?_
        refine va_get (D := D) (ci := 4) (v := .ref mj) (C := RX9) (T := TX9) (N := 19) gx gb gts i9 gown hK hP 0 rfl rfl 15 (by decide) (gts (.fieldLink RX9 44 "SwanSumsModel" "queue" "[I") (by decide +kernel)) (fun _ h9 => h9) rfl dX9_layPlan_30 ?_
        refine lv_iconst (v := nI 0) gx gb dX9_layPlan_33 (by decide) ?_
        refine lv_aload_n gx gb dX9_layPlan_34 rfl (lv_at hl 1 rfl) ?_
        have hPc := hP.sub (ws' := wM mo ma mb mc md me mf mg mh mi mj mk ml mn cI cZ n q c w q ev num plc sig pad (cpy plc row 7) dig (aZ fv) cfr cby que has img kep) [0, 1, 2, 3, 4, 5, 6, 7, 8, 9, 10, 11, 12, 13] rfl
        refine vp_callSi (W.runV (As := []) (rest := [.int (nI 0), .ref mj]) ⟨gx, gb, gml, gown, gts⟩ (kX9_rank Gl D cI cJ cZ mo ma mb mc md me mf mg mh mi mj mk ml mn n q c w q ev num plc sig pad (cpy plc row 7) dig (aZ fv) cfr cby que has img kep  (by omega) (by intro x hx; rw [cpy7 _ _ (by omega)]; exact hpl x hx)) (cwV 0 gts gX9_layPlan_X9_rank rfl rfl rfl (by decide +kernel) ⟨Nat.le_of_ble_eq_true rfl, Nat.le_of_ble_eq_true rfl⟩) ⟨fun a U g mk q => ⟨q.1, q.2.1, va_K.moved (u := U) (U := U.calling g mk a) (Vm.Alike.refl U.vm) q.2.2⟩, va_recv hK hPc (ci := 4) (q0 := 0) rfl rfl, fun U hU hW => ⟨rfl, by rw [hU]; exact hPc, va_K.moved hW.alike hK⟩⟩ rfl rfl hl.1 rfl (lv_room (Nat.le_of_ble_eq_true rfl)) dX9_layPlan_35 ⟨Nat.le_of_ble_eq_true rfl, Nat.le_of_ble_eq_true rfl⟩) (fun r hw => ?_)
        have hr35 := hw
        subst hr35
        refine lv_evi (nI (rkC plc q (cod q idn))) (congrArg nI ((rk_cong (fun i_ hi_ => cpy7 _ _ (by omega))).trans (rkC_id hq7).symm)) ?_
        have hr0 := rkC_lt plc hq7 (cod q idn)
        refine va_iast gx gb hK hP hD hS 10 0 rfl rfl (vp_in_nI (n := 0) (by omega) (by decide)) dX9_layPlan_38 (fun H locs hP hD hS => ?_)
        rw [aN_st que (rkC plc q (cod q idn)) (by omega)] at hP hD
        have hP : va_P D vwCl (wM mo ma mb mc md me mf mg mh mi mj mk ml mn cI cZ n q c w q ev num plc sig pad (cpy plc row 7) dig (aZ fv) cfr cby (up que 0 (rkC plc q (cod q idn))) has img kep) H := hP
        have hD : va_D A (wM mo ma mb mc md me mf mg mh mi mj mk ml mn cI cZ n q c w q ev num plc sig pad (cpy plc row 7) dig (aZ fv) cfr cby (up que 0 (rkC plc q (cod q idn))) has img kep) := hD
        refine lv_aload_n gx gb dX9_layPlan_39 rfl (lv_at hl 1 rfl) ?_
        refine va_get (D := D) (ci := 4) (v := .ref mg) (C := RX9) (T := TX9) (N := 19) gx gb gts i9 gown hK hP 0 rfl rfl 12 (by decide) (gts (.fieldLink RX9 35 "SwanSumsModel" "far" "[I") (by decide +kernel)) (fun _ h9 => h9) rfl dX9_layPlan_40 ?_
        refine lv_aload_n gx gb dX9_layPlan_43 rfl (lv_at hl 1 rfl) ?_
        refine va_get (D := D) (ci := 4) (v := .ref mj) (C := RX9) (T := TX9) (N := 19) gx gb gts i9 gown hK hP 0 rfl rfl 15 (by decide) (gts (.fieldLink RX9 44 "SwanSumsModel" "queue" "[I") (by decide +kernel)) (fun _ h9 => h9) rfl dX9_layPlan_44 ?_
        refine lv_iconst (v := nI 0) gx gb dX9_layPlan_47 (by decide) ?_
        refine va_iald gx gb hK hP 10 0 rfl rfl (vp_in_nI (n := 0) (by omega) (by decide)) dX9_layPlan_48 ?_
        refine lv_evi (nI ((up que 0 (rkC plc q (cod q idn))) 0)) (aN_rd (up que 0 (rkC plc q (cod q idn))) (by omega)) ?_
        refine lv_evi (nI (rkC plc q (cod q idn))) (congrArg nI (up_s _ _ _)) ?_
        refine lv_iconst (v := nI 0) gx gb dX9_layPlan_49 (by decide) ?_
        refine va_iast gx gb hK hP hD hS 7 0 rfl rfl (vp_in_nI (n := rkC plc q (cod q idn)) (by omega) (by decide)) dX9_layPlan_50 (fun H locs hP hD hS => ?_)
        rw [aZ_stN fv 0 (by omega)] at hP hD
        have hP : va_P D vwCl (wM mo ma mb mc md me mf mg mh mi mj mk ml mn cI cZ n q c w q ev num plc sig pad (cpy plc row 7) dig (aZ (upI fv (rkC plc q (cod q idn)) ((0 : Nat) : Int))) cfr cby (up que 0 (rkC plc q (cod q idn))) has img kep) H := hP
        have hD : va_D A (wM mo ma mb mc md me mf mg mh mi mj mk ml mn cI cZ n q c w q ev num plc sig pad (cpy plc row 7) dig (aZ (upI fv (rkC plc q (cod q idn)) ((0 : Nat) : Int))) cfr cby (up que 0 (rkC plc q (cod q idn))) has img kep) := hD
        refine lv_iconst (v := nI 0) gx gb dX9_layPlan_51 (by decide) ?_
        refine lv_istore_n (lv' := [(3, .int (nI 0)), (2, .int (nI 1)), (0, .ref mo), (1, .int (nI k))]) gx gb dX9_layPlan_52 rfl hl (by decide) rfl (fun ls hl => ?_)
        have L53 : ∀ fu : Nat, ∀ (hd n_ : Nat) (qu_ cf_ cb_ rw_ dg_ : Nat → Nat) (fv : Nat → Int) (hhn : hd ≤ n_) (hL : lpR plc q (bfs q hd) n_ qu_ cf_ cb_ fv) (h0 : ∀ x, x < hd → tkC num plc k q (bR (bAll q) x) = false), (5041 - hd) < fu → ∀ (H : Heap) (locs : List Loc), va_P D vwCl (wM mo ma mb mc md me mf mg mh mi mj mk ml mn cI cZ n q c w q ev num plc sig pad rw_ dg_ (aZ fv) cf_ cb_ qu_ has img kep) H → va_D A (wM mo ma mb mc md me mf mg mh mi mj mk ml mn cI cZ n q c w q ev num plc sig pad rw_ dg_ (aZ fv) cf_ cb_ qu_ has img kep) → va_S A Gs.heap H locs → ∀ ls : Array Slot, lv_has ls 6 [(2, .int (nI n_)), (3, .int (nI hd)), (0, .ref mo), (1, .int (nI k))] → W Gp Gl Ge (headSpec wsX9_layPlan ({ frames := 3, cells := 0, slots := 0, locals := 71 } : Room)).room Gs Gm ([.ref mo, .int (nI k)] : List Value).toArray Gw Gt Gc H locs 0 0 (MQ Gw (va_Qi (fun (r : Int32) (u : (Nat → Int) × (Nat → Nat) × (Nat → Nat) × (Nat → Nat) × (Nat → Nat) × (Nat → Nat)) => ∃ zz : Int, r = zI zz ∧ lpA num plc k q zz u.1 u.2.2.1 u.2.2.2.1) (fun (u : (Nat → Int) × (Nat → Nat) × (Nat → Nat) × (Nat → Nat) × (Nat → Nat) × (Nat → Nat)) t => va_P D vwCl (wM mo ma mb mc md me mf mg mh mi mj mk ml mn cI cZ n q c w q ev num plc sig pad u.2.2.2.2.1 u.2.2.2.2.2 (aZ u.1) u.2.2.1 u.2.2.2.1 u.2.1 has img kep) t.heap ∧ va_K D vwCl [(cI, .int), (cJ, .long), (cZ, .boolean)] t ∧ va_D A (wM mo ma mb mc md me mf mg mh mi mj mk ml mn cI cZ n q c w q ev num plc sig pad u.2.2.2.2.1 u.2.2.2.2.2 (aZ u.1) u.2.2.1 u.2.2.2.1 u.2.1 has img kep)) A) ([.ref mo, .int (nI k)] : List Value).toArray Gs 0 0 A) (F0 Gm 53 ls []) := by
          intro fu
          induction fu with
          | zero => intro hd n_ qu_ cf_ cb_ rw_ dg_ fv hhn hL h0 hfu; exact absurd hfu (Nat.not_lt_zero _)
          | succ fu ih53 =>
            intro hd n_ qu_ cf_ cb_ rw_ dg_ fv hhn hL h0 hfu H locs hP hD hS ls hl
            have hok := bfs_ok hq7 hd
            have hpre := bfs_pre (q := q) (h := hd) hq7
            have hbn := bOK_n7 hq7 hok
            have hLn := hL.1
            refine lv_iload_n gx gb dX9_layPlan_53 rfl (lv_at hl 1 rfl) ?_
            refine lv_iload_n gx gb dX9_layPlan_54 rfl (lv_at hl 0 rfl) ?_
            refine lv_icmp_ge (tgt := 192) gx gb dX9_layPlan_55 (by decide) (fun c55 => ?_) (fun c55 => ?_)
            · skip
              rw [nI_leI (by omega) (by omega)] at c55
              refine lv_bipush (v := zI (-6)) gx gb dX9_layPlan_192 (by decide) ?_
              exact W.iret (v := zI (-6)) gx gb gr (fun t ht hW => ⟨⟨zI (-6), (fv, qu_, cf_, cb_, rw_, dg_), rfl, (by first | (dsimp only; done) | ((try dsimp only); exact ⟨-6, rfl, lpA_n hq7 (by omega) h0⟩)), by rw [ht]; exact hP, va_K.moved hW.alike hK, hD⟩, hS.F ht⟩) hS.2.2 dX9_layPlan_194
            · skip
              rw [nI_leI (by omega) (by omega)] at c55
              have hlt : hd < bN (bfs q hd) := by omega
              have haH := hok.2.2.2.1 hd hlt
              have hqh := (hL.2.1 hd hlt).1
              have hrl := rkC_lt plc hq7 (bR (bfs q hd) hd)
              refine lv_aload_n gx gb dX9_layPlan_58 rfl (lv_at hl 2 rfl) ?_
              refine lv_aload_n gx gb dX9_layPlan_59 rfl (lv_at hl 2 rfl) ?_
              refine va_get (D := D) (ci := 4) (v := .ref mj) (C := RX9) (T := TX9) (N := 19) gx gb gts i9 gown hK hP 0 rfl rfl 15 (by decide) (gts (.fieldLink RX9 44 "SwanSumsModel" "queue" "[I") (by decide +kernel)) (fun _ h9 => h9) rfl dX9_layPlan_60 ?_
              refine lv_iload_n gx gb dX9_layPlan_63 rfl (lv_at hl 1 rfl) ?_
              refine va_iald gx gb hK hP 10 0 rfl rfl (vp_in_nI (n := hd) (by omega) (by decide)) dX9_layPlan_64 ?_
              refine lv_evi (nI (qu_ hd)) (aN_rd qu_ (by omega)) ?_
              refine lv_evi (nI (rkC plc q (bR (bfs q hd) hd))) (congrArg nI hqh) ?_
              have hPc := hP.sub (ws' := wM mo ma mb mc md me mf mg mh mi mj mk ml mn cI cZ n q c w q ev num plc sig pad rw_ dg_ (aZ fv) cf_ cb_ qu_ has img kep) [0, 1, 2, 3, 4, 5, 6, 7, 8, 9, 10, 11, 12, 13] rfl
              have hDc := hD.sub (ws' := wM mo ma mb mc md me mf mg mh mi mj mk ml mn cI cZ n q c w q ev num plc sig pad rw_ dg_ (aZ fv) cf_ cb_ qu_ has img kep) [0, 1, 2, 3, 4, 5, 6, 7, 8, 9, 10, 11, 12, 13] (by decide) rfl
              have hFc := va_free (wc := wM mo ma mb mc md me mf mg mh mi mj mk ml mn cI cZ n q c w q ev num plc sig pad rw_ dg_ (aZ fv) cf_ cb_ qu_ has img kep) hD hS hA [0, 1, 2, 3, 4, 5, 6, 7, 8, 9, 10, 11, 12, 13] rfl
              refine va_callv (va_runV (As := [.int (nI (rkC plc q (bR (bfs q hd) hd)))]) (rest := []) ⟨gx, gb, gml, gown, gts⟩ (kX9_layRow Gl D cI cJ cZ mo ma mb mc md me mf mg mh mi mj mk ml mn n q c w q ev num plc sig pad rw_ dg_ (aZ fv) cf_ cb_ qu_ has img kep _ (rkC plc q (bR (bfs q hd) hd)) (by omega) (by omega) (by omega) (by exact hpl) (by exact hij)) (cwV 1 gts gX9_layPlan_X9_layRow rfl rfl rfl (by decide +kernel) ⟨Nat.le_of_ble_eq_true rfl, Nat.le_of_ble_eq_true rfl⟩) ⟨fun a U g mk q => by obtain ⟨q0, q1, qP, qK, qD⟩ := q; exact ⟨q0, q1, qP, va_K.moved (u := U) (U := U.calling g mk a) (Vm.Alike.refl U.vm) qK, qD⟩, va_recv hK hPc (ci := 4) (q0 := 0) rfl rfl, fun U hU hW => ⟨rfl, by rw [hU], by rw [hU]; exact hPc, va_K.moved hW.alike hK, hDc.weaken (fun _ _ _ _ => trivial)⟩⟩ rfl rfl hl.1 rfl (lv_room (Nat.le_of_ble_eq_true rfl)) dX9_layPlan_65 ⟨Nat.le_of_ble_eq_true rfl, Nat.le_of_ble_eq_true rfl⟩) hS (fun q _ h => hFc q h) hFc (fun u t H1 locs ht hvm hw hB hz1 hk1 hS => ?_)
              obtain ⟨row_65, dig_65⟩ := u
              obtain ⟨hP1, hK1, hD1⟩ := hB
              rw [ht] at hP1
              try dsimp only at hw
              try dsimp only at hP1
              try dsimp only at hD1
              have hK := va_K.moved hvm.symm hK1
              obtain ⟨hP, hD⟩ := va_join (wr := []) (w1 := wM mo ma mb mc md me mf mg mh mi mj mk ml mn cI cZ n q c w q ev num plc sig pad row_65 dig_65 (aZ fv) cf_ cb_ qu_ has img kep) hP hD [0, 1, 2, 3, 4, 5, 6, 7, 8, 9, 10, 11, 12, 13] [] rfl rfl (by decide) (by decide) hk1 hFc hP1 hD1
              have hP := hP.sub (ws' := wM mo ma mb mc md me mf mg mh mi mj mk ml mn cI cZ n q c w q ev num plc sig pad row_65 dig_65 (aZ fv) cf_ cb_ qu_ has img kep) [0, 1, 2, 3, 4, 5, 6, 7, 8, 9, 10, 11, 12, 13] rfl
              have hD := hD.sub (ws' := wM mo ma mb mc md me mf mg mh mi mj mk ml mn cI cZ n q c w q ev num plc sig pad row_65 dig_65 (aZ fv) cf_ cb_ qu_ has img kep) [0, 1, 2, 3, 4, 5, 6, 7, 8, 9, 10, 11, 12, 13] (by decide) rfl
              have hK := va_K.moved (Vm.Alike.refl Gs.vm) hK
              generalize H1 = H at hP hS ⊢
              have hlr := lay_rk hij (rw_pr (plc := plc) hq7 haH) hw
              refine lv_aload_n gx gb dX9_layPlan_68 rfl (lv_at hl 2 rfl) ?_
              refine lv_iload_n gx gb dX9_layPlan_69 rfl (lv_at hl 3 rfl) ?_
              have hPc := hP.sub (ws' := wM mo ma mb mc md me mf mg mh mi mj mk ml mn cI cZ n q c w q ev num plc sig pad row_65 dig_65 (aZ fv) cf_ cb_ qu_ has img kep) [0, 1, 2, 3, 4, 5, 6, 7, 8, 9, 10, 11, 12, 13] rfl
              refine vp_callSi (W.runV (As := [.int (nI k)]) (rest := []) ⟨gx, gb, gml, gown, gts⟩ (kX9_isTaught Gl D cI cJ cZ mo ma mb mc md me mf mg mh mi mj mk ml mn n q c w q ev num plc sig pad row_65 dig_65 (aZ fv) cf_ cb_ qu_ has img kep k (by omega) (by omega) (by omega) (by intro p hp; rw [hlr p hp]; exact hpl _ (arr_lt haH hq7 p hp)) (by intro p hp; rw [hlr p hp]; exact hnv _ (arr_lt haH hq7 p hp))) (cwV 1 gts gX9_layPlan_X9_isTaught rfl rfl rfl (by decide +kernel) ⟨Nat.le_of_ble_eq_true rfl, Nat.le_of_ble_eq_true rfl⟩) ⟨fun a U g mk q => ⟨q.1, q.2.1, va_K.moved (u := U) (U := U.calling g mk a) (Vm.Alike.refl U.vm) q.2.2⟩, va_recv hK hPc (ci := 4) (q0 := 0) rfl rfl, fun U hU hW => ⟨rfl, by rw [hU]; exact hPc, va_K.moved hW.alike hK⟩⟩ rfl rfl hl.1 rfl (lv_room (Nat.le_of_ble_eq_true rfl)) dX9_layPlan_70 ⟨Nat.le_of_ble_eq_true rfl, Nat.le_of_ble_eq_true rfl⟩) (fun r hw => ?_)
              have hr70 := hw
              subst hr70
              refine lv_evi (bI (tkC num plc k q (bR (bfs q hd) hd))) (congrArg bI (tau_cong hq1 (fun x hx => congrArg num (hlr x hx)))) ?_
              refine lv_if_eq (tgt := 83) gx gb dX9_layPlan_73 (by decide) (fun c73 => ?_) (fun c73 => ?_)
              · skip
                rw [b0_eq] at c73
                refine lv_iconst (v := nI 0) gx gb dX9_layPlan_83 (by decide) ?_
                refine lv_istore (lv' := [(4, .int (nI 0)), (2, .int (nI n_)), (3, .int (nI hd)), (0, .ref mo), (1, .int (nI k))]) gx gb dX9_layPlan_84 hl (by decide) rfl (fun ls hl => ?_)
                have L86 : ∀ fu : Nat, ∀ (e n2 : Nat) (qu2 cf2 cb2 rw2 dg2 : Nat → Nat) (fv2 : Nat → Int) (he : e ≤ 3 * q) (hL2 : lpR plc q (bRow q hd (bfs q hd) e) n2 qu2 cf2 cb2 fv2), (3 * q - e) < fu → ∀ (H : Heap) (locs : List Loc), va_P D vwCl (wM mo ma mb mc md me mf mg mh mi mj mk ml mn cI cZ n q c w q ev num plc sig pad rw2 dg2 (aZ fv2) cf2 cb2 qu2 has img kep) H → va_D A (wM mo ma mb mc md me mf mg mh mi mj mk ml mn cI cZ n q c w q ev num plc sig pad rw2 dg2 (aZ fv2) cf2 cb2 qu2 has img kep) → va_S A Gs.heap H locs → ∀ ls : Array Slot, lv_has ls 6 [(2, .int (nI n2)), (4, .int (nI e)), (3, .int (nI hd)), (0, .ref mo), (1, .int (nI k))] → W Gp Gl Ge (headSpec wsX9_layPlan ({ frames := 3, cells := 0, slots := 0, locals := 71 } : Room)).room Gs Gm ([.ref mo, .int (nI k)] : List Value).toArray Gw Gt Gc H locs 0 0 (MQ Gw (va_Qi (fun (r : Int32) (u : (Nat → Int) × (Nat → Nat) × (Nat → Nat) × (Nat → Nat) × (Nat → Nat) × (Nat → Nat)) => ∃ zz : Int, r = zI zz ∧ lpA num plc k q zz u.1 u.2.2.1 u.2.2.2.1) (fun (u : (Nat → Int) × (Nat → Nat) × (Nat → Nat) × (Nat → Nat) × (Nat → Nat) × (Nat → Nat)) t => va_P D vwCl (wM mo ma mb mc md me mf mg mh mi mj mk ml mn cI cZ n q c w q ev num plc sig pad u.2.2.2.2.1 u.2.2.2.2.2 (aZ u.1) u.2.2.1 u.2.2.2.1 u.2.1 has img kep) t.heap ∧ va_K D vwCl [(cI, .int), (cJ, .long), (cZ, .boolean)] t ∧ va_D A (wM mo ma mb mc md me mf mg mh mi mj mk ml mn cI cZ n q c w q ev num plc sig pad u.2.2.2.2.1 u.2.2.2.2.2 (aZ u.1) u.2.2.1 u.2.2.2.1 u.2.1 has img kep)) A) ([.ref mo, .int (nI k)] : List Value).toArray Gs 0 0 A) (F0 Gm 86 ls []) := by
                  intro fu
                  induction fu with
                  | zero => intro e n2 qu2 cf2 cb2 rw2 dg2 fv2 he hL2 hfu; exact absurd hfu (Nat.not_lt_zero _)
                  | succ fu ih86 =>
                    intro e n2 qu2 cf2 cb2 rw2 dg2 fv2 he hL2 hfu H locs hP hD hS ls hl
                    have hn2 := hL2.1
                    have hle2 := bRow_le q hd (bfs q hd) e
                    have hle21 := hle2.1
                    refine lv_iload gx gb dX9_layPlan_86 (lv_at hl 1 rfl) ?_
                    refine lv_aload_n gx gb dX9_layPlan_88 rfl (lv_at hl 3 rfl) ?_
                    have hPc := hP.sub (ws' := wM mo ma mb mc md me mf mg mh mi mj mk ml mn cI cZ n q c w q ev num plc sig pad rw2 dg2 (aZ fv2) cf2 cb2 qu2 has img kep) [0, 1, 2, 3, 4, 5, 6, 7, 8, 9, 10, 11, 12, 13] rfl
                    refine vp_callSi (W.runV (As := []) (rest := [.int (nI e)]) ⟨gx, gb, gml, gown, gts⟩ (kX9_kinds Gl D cI cJ cZ mo ma mb mc md me mf mg mh mi mj mk ml mn n q c w q ev num plc sig pad rw2 dg2 (aZ fv2) cf2 cb2 qu2 has img kep  ) (cwV 0 gts gX9_layPlan_X9_kinds rfl rfl rfl (by decide +kernel) ⟨Nat.le_of_ble_eq_true rfl, Nat.le_of_ble_eq_true rfl⟩) ⟨fun a U g mk q => ⟨q.1, q.2.1, va_K.moved (u := U) (U := U.calling g mk a) (Vm.Alike.refl U.vm) q.2.2⟩, va_recv hK hPc (ci := 4) (q0 := 0) rfl rfl, fun U hU hW => ⟨rfl, by rw [hU]; exact hPc, va_K.moved hW.alike hK⟩⟩ rfl rfl hl.1 rfl (lv_room (Nat.le_of_ble_eq_true rfl)) dX9_layPlan_89 ⟨Nat.le_of_ble_eq_true rfl, Nat.le_of_ble_eq_true rfl⟩) (fun r hw => ?_)
                    have hr89 := hw
                    subst hr89
                    refine lv_icmp_ge (tgt := 186) gx gb dX9_layPlan_92 (by decide) (fun c92 => ?_) (fun c92 => ?_)
                    · skip
                      rw [nI_leI (by omega) (by omega)] at c92
                      refine lv_iinc (v := nI (hd + 1)) (lv' := [(3, .int (nI (hd + 1))), (2, .int (nI n2)), (4, .int (nI e)), (0, .ref mo), (1, .int (nI k))]) gx gb dX9_layPlan_186 hl (k := 2) rfl (nI_add hd 1) (by decide) rfl (fun ls hl => ?_)
                      refine lv_goto (tgt := 53) gx gb dX9_layPlan_189 (by decide) ?_
                      exact ih53 (hd + 1) n2 qu2 cf2 cb2 rw2 dg2 fv2 (by omega) (by rw [bfs, if_pos hlt, show 3 * q = e by omega]; exact hL2) (by intro x hx; rcases Nat.lt_or_ge x hd with h9 | h9; exact h0 x h9; rw [show x = hd by omega, (hpre.2 hd hlt).1]; exact c73) (by omega) _ _ hP hD hS ls (lv_sub hl [1, 0, 3, 4] rfl)
                    · skip
                      rw [nI_leI (by omega) (by omega)] at c92
                      have he3 : e < 3 * q := by omega
                      have hok2 := bRow_ok hok hq7 hlt e (by omega)
                      have hh2 : hd < bN (bRow q hd (bfs q hd) e) := Nat.lt_of_lt_of_le hlt hle21
                      have hqh2 : qu2 hd = rkC plc q (bR (bfs q hd) hd) := by rw [← (hle2.2 hd hlt).1]; exact (hL2.2.1 hd hh2).1
                      have haE := arr_ev haH hq7 he3
                      have hrE := rkC_lt plc hq7 (evX q e (bR (bfs q hd) hd))
                      have hbd2 := lp_bd hq7 hok2 hL2
                      have hbdE := hbd2 (rkC plc q (evX q e (bR (bfs q hd) hd))) (by omega)
                      have hbdH := hbd2 (qu2 hd) (by omega)
                      have hlin := lp_in hq7 hij hok2 hL2 haE
                      have hbn2 := bOK_n7 hq7 hok2
                      refine lv_aload_n gx gb dX9_layPlan_95 rfl (lv_at hl 3 rfl) ?_
                      refine lv_aload_n gx gb dX9_layPlan_96 rfl (lv_at hl 3 rfl) ?_
                      refine va_get (D := D) (ci := 4) (v := .ref mj) (C := RX9) (T := TX9) (N := 19) gx gb gts i9 gown hK hP 0 rfl rfl 15 (by decide) (gts (.fieldLink RX9 44 "SwanSumsModel" "queue" "[I") (by decide +kernel)) (fun _ h9 => h9) rfl dX9_layPlan_97 ?_
                      refine lv_iload_n gx gb dX9_layPlan_100 rfl (lv_at hl 2 rfl) ?_
                      refine va_iald gx gb hK hP 10 0 rfl rfl (vp_in_nI (n := hd) (by omega) (by decide)) dX9_layPlan_101 ?_
                      refine lv_evi (nI (qu2 hd)) (aN_rd qu2 (by omega)) ?_
                      refine lv_evi (nI (rkC plc q (bR (bfs q hd) hd))) (congrArg nI hqh2) ?_
                      have hPc := hP.sub (ws' := wM mo ma mb mc md me mf mg mh mi mj mk ml mn cI cZ n q c w q ev num plc sig pad rw2 dg2 (aZ fv2) cf2 cb2 qu2 has img kep) [0, 1, 2, 3, 4, 5, 6, 7, 8, 9, 10, 11, 12, 13] rfl
                      have hDc := hD.sub (ws' := wM mo ma mb mc md me mf mg mh mi mj mk ml mn cI cZ n q c w q ev num plc sig pad rw2 dg2 (aZ fv2) cf2 cb2 qu2 has img kep) [0, 1, 2, 3, 4, 5, 6, 7, 8, 9, 10, 11, 12, 13] (by decide) rfl
                      have hFc := va_free (wc := wM mo ma mb mc md me mf mg mh mi mj mk ml mn cI cZ n q c w q ev num plc sig pad rw2 dg2 (aZ fv2) cf2 cb2 qu2 has img kep) hD hS hA [0, 1, 2, 3, 4, 5, 6, 7, 8, 9, 10, 11, 12, 13] rfl
                      refine va_callv (va_runV (As := [.int (nI (rkC plc q (bR (bfs q hd) hd)))]) (rest := []) ⟨gx, gb, gml, gown, gts⟩ (kX9_layRow Gl D cI cJ cZ mo ma mb mc md me mf mg mh mi mj mk ml mn n q c w q ev num plc sig pad rw2 dg2 (aZ fv2) cf2 cb2 qu2 has img kep _ (rkC plc q (bR (bfs q hd) hd)) (by omega) (by omega) (by omega) (by exact hpl) (by exact hij)) (cwV 1 gts gX9_layPlan_X9_layRow rfl rfl rfl (by decide +kernel) ⟨Nat.le_of_ble_eq_true rfl, Nat.le_of_ble_eq_true rfl⟩) ⟨fun a U g mk q => by obtain ⟨q0, q1, qP, qK, qD⟩ := q; exact ⟨q0, q1, qP, va_K.moved (u := U) (U := U.calling g mk a) (Vm.Alike.refl U.vm) qK, qD⟩, va_recv hK hPc (ci := 4) (q0 := 0) rfl rfl, fun U hU hW => ⟨rfl, by rw [hU], by rw [hU]; exact hPc, va_K.moved hW.alike hK, hDc.weaken (fun _ _ _ _ => trivial)⟩⟩ rfl rfl hl.1 rfl (lv_room (Nat.le_of_ble_eq_true rfl)) dX9_layPlan_102 ⟨Nat.le_of_ble_eq_true rfl, Nat.le_of_ble_eq_true rfl⟩) hS (fun q _ h => hFc q h) hFc (fun u t H1 locs ht hvm hw hB hz1 hk1 hS => ?_)
                      obtain ⟨row_102, dig_102⟩ := u
                      obtain ⟨hP1, hK1, hD1⟩ := hB
                      rw [ht] at hP1
                      try dsimp only at hw
                      try dsimp only at hP1
                      try dsimp only at hD1
                      have hK := va_K.moved hvm.symm hK1
                      obtain ⟨hP, hD⟩ := va_join (wr := []) (w1 := wM mo ma mb mc md me mf mg mh mi mj mk ml mn cI cZ n q c w q ev num plc sig pad row_102 dig_102 (aZ fv2) cf2 cb2 qu2 has img kep) hP hD [0, 1, 2, 3, 4, 5, 6, 7, 8, 9, 10, 11, 12, 13] [] rfl rfl (by decide) (by decide) hk1 hFc hP1 hD1
                      have hP := hP.sub (ws' := wM mo ma mb mc md me mf mg mh mi mj mk ml mn cI cZ n q c w q ev num plc sig pad row_102 dig_102 (aZ fv2) cf2 cb2 qu2 has img kep) [0, 1, 2, 3, 4, 5, 6, 7, 8, 9, 10, 11, 12, 13] rfl
                      have hD := hD.sub (ws' := wM mo ma mb mc md me mf mg mh mi mj mk ml mn cI cZ n q c w q ev num plc sig pad row_102 dig_102 (aZ fv2) cf2 cb2 qu2 has img kep) [0, 1, 2, 3, 4, 5, 6, 7, 8, 9, 10, 11, 12, 13] (by decide) rfl
                      have hK := va_K.moved (Vm.Alike.refl Gs.vm) hK
                      generalize H1 = H at hP hS ⊢
                      have hlr2 := lay_rk hij (rw_pr (plc := plc) hq7 haH) hw
                      refine lv_aload_n gx gb dX9_layPlan_105 rfl (lv_at hl 3 rfl) ?_
                      refine lv_iload gx gb dX9_layPlan_106 (lv_at hl 1 rfl) ?_
                      have hPc := hP.sub (ws' := wM mo ma mb mc md me mf mg mh mi mj mk ml mn cI cZ n q c w q ev num plc sig pad row_102 dig_102 (aZ fv2) cf2 cb2 qu2 has img kep) [0, 1, 2, 3, 4, 5, 6, 7, 8, 9, 10, 11, 12, 13] rfl
                      have hDc := hD.sub (ws' := wM mo ma mb mc md me mf mg mh mi mj mk ml mn cI cZ n q c w q ev num plc sig pad row_102 dig_102 (aZ fv2) cf2 cb2 qu2 has img kep) [0, 1, 2, 3, 4, 5, 6, 7, 8, 9, 10, 11, 12, 13] (by decide) rfl
                      have hFc := va_free (wc := wM mo ma mb mc md me mf mg mh mi mj mk ml mn cI cZ n q c w q ev num plc sig pad row_102 dig_102 (aZ fv2) cf2 cb2 qu2 has img kep) hD hS hA [0, 1, 2, 3, 4, 5, 6, 7, 8, 9, 10, 11, 12, 13] rfl
                      refine va_callv (va_runV (As := [.int (nI e)]) (rest := []) ⟨gx, gb, gml, gown, gts⟩ (kX9_goEvent Gl D cI cJ cZ mo ma mb mc md me mf mg mh mi mj mk ml mn n q c w ev num plc sig pad row_102 dig_102 (aZ fv2) cf2 cb2 qu2 has img kep _ e (by omega) (by omega) (by omega)) (cwV 1 gts gX9_layPlan_X9_goEvent rfl rfl rfl (by decide +kernel) ⟨Nat.le_of_ble_eq_true rfl, Nat.le_of_ble_eq_true rfl⟩) ⟨fun a U g mk q => by obtain ⟨q0, q1, qP, qK, qD⟩ := q; exact ⟨q0, q1, qP, va_K.moved (u := U) (U := U.calling g mk a) (Vm.Alike.refl U.vm) qK, qD⟩, va_recv hK hPc (ci := 4) (q0 := 0) rfl rfl, fun U hU hW => ⟨rfl, by rw [hU], by rw [hU]; exact hPc, va_K.moved hW.alike hK, hDc.weaken (fun _ _ _ _ => trivial)⟩⟩ rfl rfl hl.1 rfl (lv_room (Nat.le_of_ble_eq_true rfl)) dX9_layPlan_108 ⟨Nat.le_of_ble_eq_true rfl, Nat.le_of_ble_eq_true rfl⟩) hS (fun q _ h => hFc q h) hFc (fun u t H1 locs ht hvm hw hB hz1 hk1 hS => ?_)
                      obtain ⟨hP1, hK1, hD1⟩ := hB
                      rw [ht] at hP1
                      try dsimp only at hw
                      try dsimp only at hP1
                      try dsimp only at hD1
                      have hK := va_K.moved hvm.symm hK1
                      obtain ⟨hP, hD⟩ := va_join (wr := []) (w1 := wM mo ma mb mc md me mf mg mh mi mj mk ml mn cI cZ n q c w q ev num plc sig pad (evF q e row_102) dig_102 (aZ fv2) cf2 cb2 qu2 has img kep) hP hD [0, 1, 2, 3, 4, 5, 6, 7, 8, 9, 10, 11, 12, 13] [] rfl rfl (by decide) (by decide) hk1 hFc hP1 hD1
                      have hP := hP.sub (ws' := wM mo ma mb mc md me mf mg mh mi mj mk ml mn cI cZ n q c w q ev num plc sig pad (evF q e row_102) dig_102 (aZ fv2) cf2 cb2 qu2 has img kep) [0, 1, 2, 3, 4, 5, 6, 7, 8, 9, 10, 11, 12, 13] rfl
                      have hD := hD.sub (ws' := wM mo ma mb mc md me mf mg mh mi mj mk ml mn cI cZ n q c w q ev num plc sig pad (evF q e row_102) dig_102 (aZ fv2) cf2 cb2 qu2 has img kep) [0, 1, 2, 3, 4, 5, 6, 7, 8, 9, 10, 11, 12, 13] (by decide) rfl
                      have hK := va_K.moved (Vm.Alike.refl Gs.vm) hK
                      generalize H1 = H at hP hS ⊢
                      refine lv_aload_n gx gb dX9_layPlan_111 rfl (lv_at hl 3 rfl) ?_
                      have hPc := hP.sub (ws' := wM mo ma mb mc md me mf mg mh mi mj mk ml mn cI cZ n q c w q ev num plc sig pad (evF q e row_102) dig_102 (aZ fv2) cf2 cb2 qu2 has img kep) [0, 1, 2, 3, 4, 5, 6, 7, 8, 9, 10, 11, 12, 13] rfl
                      refine vp_callSi (W.runV (As := []) (rest := []) ⟨gx, gb, gml, gown, gts⟩ (kX9_rank Gl D cI cJ cZ mo ma mb mc md me mf mg mh mi mj mk ml mn n q c w q ev num plc sig pad (evF q e row_102) dig_102 (aZ fv2) cf2 cb2 qu2 has img kep  (by omega) (by exact pr_al (R := fun x => x ≤ 6) (pr_tr (pr_ev _ he3) (pr_tr (pr_cg hlr2) (rw_pr hq7 haH))) hpl)) (cwV 0 gts gX9_layPlan_X9_rank rfl rfl rfl (by decide +kernel) ⟨Nat.le_of_ble_eq_true rfl, Nat.le_of_ble_eq_true rfl⟩) ⟨fun a U g mk q => ⟨q.1, q.2.1, va_K.moved (u := U) (U := U.calling g mk a) (Vm.Alike.refl U.vm) q.2.2⟩, va_recv hK hPc (ci := 4) (q0 := 0) rfl rfl, fun U hU hW => ⟨rfl, by rw [hU]; exact hPc, va_K.moved hW.alike hK⟩⟩ rfl rfl hl.1 rfl (lv_room (Nat.le_of_ble_eq_true rfl)) dX9_layPlan_112 ⟨Nat.le_of_ble_eq_true rfl, Nat.le_of_ble_eq_true rfl⟩) (fun r hw => ?_)
                      have hr112 := hw
                      subst hr112
                      refine lv_evi (nI (rkC plc q (evX q e (bR (bfs q hd) hd)))) (congrArg nI (rk_cong (fun i_ hi_ => (evF_cong he3 hlr2 i_ hi_).trans (rw_ev hq7 haH he3 i_ hi_).symm))) ?_
                      refine lv_istore (lv' := [(5, .int (nI (rkC plc q (evX q e (bR (bfs q hd) hd))))), (2, .int (nI n2)), (4, .int (nI e)), (3, .int (nI hd)), (0, .ref mo), (1, .int (nI k))]) gx gb dX9_layPlan_115 hl (by decide) rfl (fun ls hl => ?_)
                      refine lv_aload_n gx gb dX9_layPlan_117 rfl (lv_at hl 4 rfl) ?_
                      refine va_get (D := D) (ci := 4) (v := .ref mg) (C := RX9) (T := TX9) (N := 19) gx gb gts i9 gown hK hP 0 rfl rfl 12 (by decide) (gts (.fieldLink RX9 35 "SwanSumsModel" "far" "[I") (by decide +kernel)) (fun _ h9 => h9) rfl dX9_layPlan_118 ?_
                      refine lv_iload gx gb dX9_layPlan_121 (lv_at hl 0 rfl) ?_
                      refine va_iald gx gb hK hP 7 0 rfl rfl (vp_in_nI (n := rkC plc q (evX q e (bR (bfs q hd) hd))) (by omega) (by decide)) dX9_layPlan_123 ?_
                      refine lv_evi (zI (fv2 (rkC plc q (evX q e (bR (bfs q hd) hd))))) (aZ_rd fv2 (by omega)) ?_
                      refine lv_if_ge (tgt := 180) gx gb dX9_layPlan_124 (by decide) (fun c124 => ?_) (fun c124 => ?_)
                      · skip
                        rw [z0_ge (by omega) (by omega)] at c124
                        have hin : bIn (bRow q hd (bfs q hd) e) (evX q e (bR (bfs q hd) hd)) := Classical.byContradiction fun h9 => by have := hlin.2 h9; omega
                        refine lv_iinc (v := nI (e + 1)) (lv' := [(4, .int (nI (e + 1))), (5, .int (nI (rkC plc q (evX q e (bR (bfs q hd) hd))))), (2, .int (nI n2)), (3, .int (nI hd)), (0, .ref mo), (1, .int (nI k))]) gx gb dX9_layPlan_180 hl (k := 2) rfl (nI_add e 1) (by decide) rfl (fun ls hl => ?_)
                        refine lv_goto (tgt := 86) gx gb dX9_layPlan_183 (by decide) ?_
                        exact ih86 (e + 1) n2 qu2 cf2 cb2 (evF q e row_102) dig_102 fv2 (by omega) (by first | (rw [bRow, bAdd_t hin]; exact hL2) | (rw [bRow]; exact hnew)) (by omega) _ _ hP hD hS ls (lv_sub hl [2, 0, 3, 4, 5] rfl)
                      · skip
                        rw [z0_ge (by omega) (by omega)] at c124
                        have hin : ¬ bIn (bRow q hd (bfs q hd) e) (evX q e (bR (bfs q hd) hd)) := fun h9 => by have := hlin.1 h9; omega
                        have h8 := bAdd_ok hok2 hq7 hh2 he3 (show evX q e (bR (bfs q hd) hd) = evX q e (bR (bRow q hd (bfs q hd) e) hd) by rw [(hle2.2 hd hlt).1])
                        rw [bAdd_f hin] at h8
                        have hroom : bN (bRow q hd (bfs q hd) e) + 1 ≤ 5040 := bOK_n7 hq7 h8
                        have hnew := lp_new (e := e) hq7 hij hok2 hL2 haE hh2 hin
                        refine lv_aload_n gx gb dX9_layPlan_127 rfl (lv_at hl 4 rfl) ?_
                        refine va_get (D := D) (ci := 4) (v := .ref mg) (C := RX9) (T := TX9) (N := 19) gx gb gts i9 gown hK hP 0 rfl rfl 12 (by decide) (gts (.fieldLink RX9 35 "SwanSumsModel" "far" "[I") (by decide +kernel)) (fun _ h9 => h9) rfl dX9_layPlan_128 ?_
                        refine lv_iload gx gb dX9_layPlan_131 (lv_at hl 0 rfl) ?_
                        refine lv_aload_n gx gb dX9_layPlan_133 rfl (lv_at hl 4 rfl) ?_
                        refine va_get (D := D) (ci := 4) (v := .ref mg) (C := RX9) (T := TX9) (N := 19) gx gb gts i9 gown hK hP 0 rfl rfl 12 (by decide) (gts (.fieldLink RX9 35 "SwanSumsModel" "far" "[I") (by decide +kernel)) (fun _ h9 => h9) rfl dX9_layPlan_134 ?_
                        refine lv_aload_n gx gb dX9_layPlan_137 rfl (lv_at hl 4 rfl) ?_
                        refine va_get (D := D) (ci := 4) (v := .ref mj) (C := RX9) (T := TX9) (N := 19) gx gb gts i9 gown hK hP 0 rfl rfl 15 (by decide) (gts (.fieldLink RX9 44 "SwanSumsModel" "queue" "[I") (by decide +kernel)) (fun _ h9 => h9) rfl dX9_layPlan_138 ?_
                        refine lv_iload_n gx gb dX9_layPlan_141 rfl (lv_at hl 3 rfl) ?_
                        refine va_iald gx gb hK hP 10 0 rfl rfl (vp_in_nI (n := hd) (by omega) (by decide)) dX9_layPlan_142 ?_
                        refine lv_evi (nI (qu2 hd)) (aN_rd qu2 (by omega)) ?_
                        refine va_iald gx gb hK hP 7 0 rfl rfl (vp_in_nI (n := qu2 hd) (by omega) (by decide)) dX9_layPlan_143 ?_
                        refine lv_evi (zI (fv2 (qu2 hd))) (aZ_rd fv2 (by omega)) ?_
                        refine lv_iconst (v := nI 1) gx gb dX9_layPlan_144 (by decide) ?_
                        refine lv_iadd gx gb dX9_layPlan_145 ?_
                        refine lv_evi (zI ((fv2 (qu2 hd)) + ((1 : Nat) : Int))) (by rw [nI_zc 1]; exact zI_add (fv2 (qu2 hd)) ((1 : Nat) : Int)) ?_
                        refine va_iast gx gb hK hP hD hS 7 0 rfl rfl (vp_in_nI (n := rkC plc q (evX q e (bR (bfs q hd) hd))) (by omega) (by decide)) dX9_layPlan_146 (fun H locs hP hD hS => ?_)
                        rw [aZ_st fv2 ((fv2 (qu2 hd)) + ((1 : Nat) : Int)) (by omega)] at hP hD
                        have hP : va_P D vwCl (wM mo ma mb mc md me mf mg mh mi mj mk ml mn cI cZ n q c w q ev num plc sig pad (evF q e row_102) dig_102 (aZ (upI fv2 (rkC plc q (evX q e (bR (bfs q hd) hd))) ((fv2 (qu2 hd)) + ((1 : Nat) : Int)))) cf2 cb2 qu2 has img kep) H := hP
                        have hD : va_D A (wM mo ma mb mc md me mf mg mh mi mj mk ml mn cI cZ n q c w q ev num plc sig pad (evF q e row_102) dig_102 (aZ (upI fv2 (rkC plc q (evX q e (bR (bfs q hd) hd))) ((fv2 (qu2 hd)) + ((1 : Nat) : Int)))) cf2 cb2 qu2 has img kep) := hD
                        refine lv_aload_n gx gb dX9_layPlan_147 rfl (lv_at hl 4 rfl) ?_
                        refine va_get (D := D) (ci := 4) (v := .ref mh) (C := RX9) (T := TX9) (N := 19) gx gb gts i9 gown hK hP 0 rfl rfl 13 (by decide) (gts (.fieldLink RX9 38 "SwanSumsModel" "cameFrom" "[I") (by decide +kernel)) (fun _ h9 => h9) rfl dX9_layPlan_148 ?_
                        refine lv_iload gx gb dX9_layPlan_151 (lv_at hl 0 rfl) ?_
                        refine lv_aload_n gx gb dX9_layPlan_153 rfl (lv_at hl 4 rfl) ?_
                        refine va_get (D := D) (ci := 4) (v := .ref mj) (C := RX9) (T := TX9) (N := 19) gx gb gts i9 gown hK hP 0 rfl rfl 15 (by decide) (gts (.fieldLink RX9 44 "SwanSumsModel" "queue" "[I") (by decide +kernel)) (fun _ h9 => h9) rfl dX9_layPlan_154 ?_
                        refine lv_iload_n gx gb dX9_layPlan_157 rfl (lv_at hl 3 rfl) ?_
                        refine va_iald gx gb hK hP 10 0 rfl rfl (vp_in_nI (n := hd) (by omega) (by decide)) dX9_layPlan_158 ?_
                        refine lv_evi (nI (qu2 hd)) (aN_rd qu2 (by omega)) ?_
                        refine va_iast gx gb hK hP hD hS 8 0 rfl rfl (vp_in_nI (n := rkC plc q (evX q e (bR (bfs q hd) hd))) (by omega) (by decide)) dX9_layPlan_159 (fun H locs hP hD hS => ?_)
                        rw [aN_st cf2 (qu2 hd) (by omega)] at hP hD
                        have hP : va_P D vwCl (wM mo ma mb mc md me mf mg mh mi mj mk ml mn cI cZ n q c w q ev num plc sig pad (evF q e row_102) dig_102 (aZ (upI fv2 (rkC plc q (evX q e (bR (bfs q hd) hd))) ((fv2 (qu2 hd)) + ((1 : Nat) : Int)))) (up cf2 (rkC plc q (evX q e (bR (bfs q hd) hd))) (qu2 hd)) cb2 qu2 has img kep) H := hP
                        have hD : va_D A (wM mo ma mb mc md me mf mg mh mi mj mk ml mn cI cZ n q c w q ev num plc sig pad (evF q e row_102) dig_102 (aZ (upI fv2 (rkC plc q (evX q e (bR (bfs q hd) hd))) ((fv2 (qu2 hd)) + ((1 : Nat) : Int)))) (up cf2 (rkC plc q (evX q e (bR (bfs q hd) hd))) (qu2 hd)) cb2 qu2 has img kep) := hD
                        refine lv_aload_n gx gb dX9_layPlan_160 rfl (lv_at hl 4 rfl) ?_
                        refine va_get (D := D) (ci := 4) (v := .ref mi) (C := RX9) (T := TX9) (N := 19) gx gb gts i9 gown hK hP 0 rfl rfl 14 (by decide) (gts (.fieldLink RX9 41 "SwanSumsModel" "cameBy" "[I") (by decide +kernel)) (fun _ h9 => h9) rfl dX9_layPlan_161 ?_
                        refine lv_iload gx gb dX9_layPlan_164 (lv_at hl 0 rfl) ?_
                        refine lv_iload gx gb dX9_layPlan_166 (lv_at hl 2 rfl) ?_
                        refine va_iast gx gb hK hP hD hS 9 0 rfl rfl (vp_in_nI (n := rkC plc q (evX q e (bR (bfs q hd) hd))) (by omega) (by decide)) dX9_layPlan_168 (fun H locs hP hD hS => ?_)
                        rw [aN_st cb2 e (by omega)] at hP hD
                        have hP : va_P D vwCl (wM mo ma mb mc md me mf mg mh mi mj mk ml mn cI cZ n q c w q ev num plc sig pad (evF q e row_102) dig_102 (aZ (upI fv2 (rkC plc q (evX q e (bR (bfs q hd) hd))) ((fv2 (qu2 hd)) + ((1 : Nat) : Int)))) (up cf2 (rkC plc q (evX q e (bR (bfs q hd) hd))) (qu2 hd)) (up cb2 (rkC plc q (evX q e (bR (bfs q hd) hd))) e) qu2 has img kep) H := hP
                        have hD : va_D A (wM mo ma mb mc md me mf mg mh mi mj mk ml mn cI cZ n q c w q ev num plc sig pad (evF q e row_102) dig_102 (aZ (upI fv2 (rkC plc q (evX q e (bR (bfs q hd) hd))) ((fv2 (qu2 hd)) + ((1 : Nat) : Int)))) (up cf2 (rkC plc q (evX q e (bR (bfs q hd) hd))) (qu2 hd)) (up cb2 (rkC plc q (evX q e (bR (bfs q hd) hd))) e) qu2 has img kep) := hD
                        refine lv_aload_n gx gb dX9_layPlan_169 rfl (lv_at hl 4 rfl) ?_
                        refine va_get (D := D) (ci := 4) (v := .ref mj) (C := RX9) (T := TX9) (N := 19) gx gb gts i9 gown hK hP 0 rfl rfl 15 (by decide) (gts (.fieldLink RX9 44 "SwanSumsModel" "queue" "[I") (by decide +kernel)) (fun _ h9 => h9) rfl dX9_layPlan_170 ?_
                        refine lv_iload_n gx gb dX9_layPlan_173 rfl (lv_at hl 1 rfl) ?_
                        refine lv_iload gx gb dX9_layPlan_174 (lv_at hl 0 rfl) ?_
                        refine va_iast gx gb hK hP hD hS 10 0 rfl rfl (vp_in_nI (n := n2) (by omega) (by decide)) dX9_layPlan_176 (fun H locs hP hD hS => ?_)
                        rw [aN_st qu2 (rkC plc q (evX q e (bR (bfs q hd) hd))) (by omega)] at hP hD
                        have hP : va_P D vwCl (wM mo ma mb mc md me mf mg mh mi mj mk ml mn cI cZ n q c w q ev num plc sig pad (evF q e row_102) dig_102 (aZ (upI fv2 (rkC plc q (evX q e (bR (bfs q hd) hd))) ((fv2 (qu2 hd)) + ((1 : Nat) : Int)))) (up cf2 (rkC plc q (evX q e (bR (bfs q hd) hd))) (qu2 hd)) (up cb2 (rkC plc q (evX q e (bR (bfs q hd) hd))) e) (up qu2 n2 (rkC plc q (evX q e (bR (bfs q hd) hd)))) has img kep) H := hP
                        have hD : va_D A (wM mo ma mb mc md me mf mg mh mi mj mk ml mn cI cZ n q c w q ev num plc sig pad (evF q e row_102) dig_102 (aZ (upI fv2 (rkC plc q (evX q e (bR (bfs q hd) hd))) ((fv2 (qu2 hd)) + ((1 : Nat) : Int)))) (up cf2 (rkC plc q (evX q e (bR (bfs q hd) hd))) (qu2 hd)) (up cb2 (rkC plc q (evX q e (bR (bfs q hd) hd))) e) (up qu2 n2 (rkC plc q (evX q e (bR (bfs q hd) hd)))) has img kep) := hD
                        refine lv_iinc (v := nI (n2 + 1)) (lv' := [(2, .int (nI (n2 + 1))), (5, .int (nI (rkC plc q (evX q e (bR (bfs q hd) hd))))), (4, .int (nI e)), (3, .int (nI hd)), (0, .ref mo), (1, .int (nI k))]) gx gb dX9_layPlan_177 hl (k := 1) rfl (nI_add n2 1) (by decide) rfl (fun ls hl => ?_)
                        refine lv_iinc (v := nI (e + 1)) (lv' := [(4, .int (nI (e + 1))), (2, .int (nI (n2 + 1))), (5, .int (nI (rkC plc q (evX q e (bR (bfs q hd) hd))))), (3, .int (nI hd)), (0, .ref mo), (1, .int (nI k))]) gx gb dX9_layPlan_180 hl (k := 2) rfl (nI_add e 1) (by decide) rfl (fun ls hl => ?_)
                        refine lv_goto (tgt := 86) gx gb dX9_layPlan_183 (by decide) ?_
                        exact ih86 (e + 1) (n2 + 1) (up qu2 n2 (rkC plc q (evX q e (bR (bfs q hd) hd)))) (up cf2 (rkC plc q (evX q e (bR (bfs q hd) hd))) (qu2 hd)) (up cb2 (rkC plc q (evX q e (bR (bfs q hd) hd))) e) (evF q e row_102) dig_102 (upI fv2 (rkC plc q (evX q e (bR (bfs q hd) hd))) ((fv2 (qu2 hd)) + ((1 : Nat) : Int))) (by omega) (by first | (rw [bRow, bAdd_t hin]; exact hL2) | (rw [bRow]; exact hnew)) (by omega) _ _ hP hD hS ls (lv_sub hl [1, 0, 3, 4, 5] rfl)
                exact L86 _ 0 n_ qu_ cf_ cb_ row_65 dig_65 fv (by omega) (by exact hL) (Nat.lt_succ_self _) _ _ hP hD hS ls (lv_sub hl [1, 0, 2, 3, 4] rfl)
              · skip
                rw [b0_eq] at c73
                have c73 := nf_t c73
                refine lv_aload_n gx gb dX9_layPlan_76 rfl (lv_at hl 2 rfl) ?_
                refine va_get (D := D) (ci := 4) (v := .ref mj) (C := RX9) (T := TX9) (N := 19) gx gb gts i9 gown hK hP 0 rfl rfl 15 (by decide) (gts (.fieldLink RX9 44 "SwanSumsModel" "queue" "[I") (by decide +kernel)) (fun _ h9 => h9) rfl dX9_layPlan_77 ?_
                refine lv_iload_n gx gb dX9_layPlan_80 rfl (lv_at hl 1 rfl) ?_
                refine va_iald gx gb hK hP 10 0 rfl rfl (vp_in_nI (n := hd) (by omega) (by decide)) dX9_layPlan_81 ?_
                refine lv_evi (nI (qu_ hd)) (aN_rd qu_ (by omega)) ?_
                refine lv_evi (nI (rkC plc q (bR (bfs q hd) hd))) (congrArg nI hqh) ?_
                exact W.iret (v := nI (rkC plc q (bR (bfs q hd) hd))) gx gb gr (fun t ht hW => ⟨⟨nI (rkC plc q (bR (bfs q hd) hd)), (fv, qu_, cf_, cb_, row_65, dig_65), rfl, (by first | (dsimp only; done) | ((try dsimp only); exact ⟨_, (zI_nat _).symm, lpA_y hok hpre hL hlt h0 c73⟩)), by rw [ht]; exact hP, va_K.moved hW.alike hK, hD⟩, hS.F ht⟩) hS.2.2 dX9_layPlan_82
        exact L53 _ 0 1 (up que 0 (rkC plc q (cod q idn))) cfr cby (cpy plc row 7) dig (upI fv (rkC plc q (cod q idn)) ((0 : Nat) : Int)) (by omega) (by exact lp_ini (fun x hx => h6 x (by omega))) (by intro x hx; exact absurd hx (Nat.not_lt_zero _)) (Nat.lt_succ_self _) _ _ hP hD hS ls (lv_sub hl [1, 0, 2, 3] rfl)
      · skip
        rw [nI_leI (by omega) (by omega)] at c6
        refine lv_aload_n gx gb dX9_layPlan_9 rfl (lv_at hl 1 rfl) ?_
        refine va_get (D := D) (ci := 4) (v := .ref mg) (C := RX9) (T := TX9) (N := 19) gx gb gts i9 gown hK hP 0 rfl rfl 12 (by decide) (gts (.fieldLink RX9 35 "SwanSumsModel" "far" "[I") (by decide +kernel)) (fun _ h9 => h9) rfl dX9_layPlan_10 ?_
        refine lv_iload_n gx gb dX9_layPlan_13 rfl (lv_at hl 0 rfl) ?_
        refine lv_bipush (v := zI (-6)) gx gb dX9_layPlan_14 (by decide) ?_
        refine va_iast gx gb hK hP hD hS 7 0 rfl rfl (vp_in_nI (n := i) (by omega) (by decide)) dX9_layPlan_16 (fun H locs hP hD hS => ?_)
        rw [aZ_st fv (-6) (by omega)] at hP hD
        have hP : va_P D vwCl (wM mo ma mb mc md me mf mg mh mi mj mk ml mn cI cZ n q c w z ev num plc sig pad row dig (aZ (upI fv i (-6))) cfr cby que has img kep) H := hP
        have hD : va_D A (wM mo ma mb mc md me mf mg mh mi mj mk ml mn cI cZ n q c w z ev num plc sig pad row dig (aZ (upI fv i (-6))) cfr cby que has img kep) := hD
        refine lv_iinc (v := nI (i + 1)) (lv' := [(2, .int (nI (i + 1))), (0, .ref mo), (1, .int (nI k))]) gx gb dX9_layPlan_17 hl (k := 0) rfl (nI_add i 1) (by decide) rfl (fun ls hl => ?_)
        refine lv_goto (tgt := 2) gx gb dX9_layPlan_20 (by decide) ?_
        exact ih2 (i + 1) (upI fv i (-6)) (by omega) (by intro x hx; simp only [upI]; split; rfl; exact h6 x (by omega)) (by omega) _ _ hP hD hS ls (lv_sub hl [0, 1, 2] rfl)
  exact L2 _ 0 (fun x_ => (far x_).toInt) (by omega) (by intro x hx; exact absurd hx (Nat.not_lt_zero _)) (Nat.lt_succ_self _) _ _ hP hD hS ls (lv_sub hl [0, 1, 2] rfl)

set_option maxHeartbeats 4000000 in
set_option maxRecDepth 100000 in
theorem kX9_plan (Gl : Launch) (D : va_G) (cI cJ cZ : ClassId) (mo : Nat) (ma : Nat) (mb : Nat) (mc : Nat) (md : Nat) (me : Nat) (mf : Nat) (mg : Nat) (mh : Nat) (mi : Nat) (mj : Nat) (mk : Nat) (ml : Nat) (mn : Nat) (n : Nat) (q : Nat) (c : Nat) (w : Nat) (z : Nat) (ev : Nat) (num : Nat → Nat) (plc : Nat → Nat) (sig : Nat → Nat) (pad : Nat → Nat) (row : Nat → Nat) (dig : Nat → Nat) (far : Nat → Int32) (cfr : Nat → Nat) (cby : Nat → Nat) (que : Nat → Nat) (has : Nat → Nat) (img : Nat → Nat) (kep : Nat → Nat) (sz : Nat) (a b : Int) (hl_a : -2147483648 ≤ a) (hu_a : a < 2147483648) (hl_b : -2147483648 ≤ b) (hu_b : b < 2147483648) (hq1 : 1 ≤ q) (hq7 : q ≤ 7) (hpl : ∀ x, x < q → plc x ≤ 6) (hij : ij q plc) (hnv : ∀ x, x < q → num (plc x) ≤ 99) : Met Gl yX9_plan wsX9_plan ({ frames := 4, cells := 0, slots := 0, locals := 96 } : Room) (va_Pc [.ref mo, .int (zI a), .int (zI b)] (fun U => U.heap.size = sz ∧ va_P D vwCl (wM mo ma mb mc md me mf mg mh mi mj mk ml mn cI cZ n q c w z ev num plc sig pad row dig far cfr cby que has img kep) U.heap ∧ va_K D vwCl [(cI, .int), (cJ, .long), (cZ, .boolean)] U ∧ va_D (fun _ => True) (wM mo ma mb mc md me mf mg mh mi mj mk ml mn cI cZ n q c w z ev num plc sig pad row dig far cfr cby que has img kep))) (va_Qi (fun (r : Int32) (u : (Nat → Int32) × (Nat → Nat) × (Nat → Nat) × (Nat → Nat) × (Nat → Nat) × (Nat → Nat) × (Nat)) => r = zI (plnZ num plc q a b)) (fun (u : (Nat → Int32) × (Nat → Nat) × (Nat → Nat) × (Nat → Nat) × (Nat → Nat) × (Nat → Nat) × (Nat)) t => va_P D vwCl (wM mo ma mb mc md me mf mg mh mi mj mk ml mn cI cZ n q c w u.2.2.2.2.2.2 ev num plc sig pad u.2.2.2.2.1 u.2.2.2.2.2.1 u.1 u.2.2.1 u.2.2.2.1 u.2.1 has img kep) t.heap ∧ va_K D vwCl [(cI, .int), (cJ, .long), (cZ, .boolean)] t ∧ va_D (va_A (wM mo ma mb mc md me mf mg mh mi mj mk ml mn cI cZ n q c w z ev num plc sig pad row dig far cfr cby que has img kep) sz) (wM mo ma mb mc md me mf mg mh mi mj mk ml mn cI cZ n q c w u.2.2.2.2.2.2 ev num plc sig pad u.2.2.2.2.1 u.2.2.2.2.2.1 u.1 u.2.2.1 u.2.2.2.1 u.2.1 has img kep)) (va_A (wM mo ma mb mc md me mf mg mh mi mj mk ml mn cI cZ n q c w z ev num plc sig pad row dig far cfr cby que has img kep) sz)) 0 0 (va_A (wM mo ma mb mc md me mf mg mh mi mj mk ml mn cI cZ n q c w z ev num plc sig pad row dig far cfr cby que has img kep) sz) := by
  refine Met.ofW (cc := cX9_plan) (maxL := 6) (ret := (some .int)) (by decide +kernel) rfl ?_
  intro Gp Ge Gs Gm Ga Gw Gt Gc G1 Bd gml gv
  obtain ⟨rfl, hsz, hP, hK, hD0⟩ := gv
  have gx := Bd.exec
  have gb := Bd.bytes
  have gr := Bd.returns
  have gts := atoms_spec (ws := wsX9_plan) Bd.pre
  have gown : Gs.vm.findClass RX9 = some Gm.cls := findClass_of_methodNamed Bd.named
  have glk := Bd.notSynchronized
  subst hsz
  have hD := hD0.self (sz := Gs.heap.size)
  generalize hAe : va_A (wM mo ma mb mc md me mf mg mh mi mj mk ml mn cI cZ n q c w z ev num plc sig pad row dig far cfr cby que has img kep) Gs.heap.size = A at hD ⊢
  have hA : ∀ q : Nat, Gs.heap.size ≤ q → A q := fun q h => by rw [← hAe]; exact Or.inr h
  have hS : va_S A Gs.heap Gs.heap [] := va_S.rf
  have hP : va_P D vwCl (wM mo ma mb mc md me mf mg mh mi mj mk ml mn cI cZ n q c w z ev num plc sig pad row dig far cfr cby que has img kep) Gs.heap := hP
  have hl := lv_entry ([.ref mo, .int (zI a), .int (zI b)]) (n := 6) (Nat.le_of_ble_eq_true rfl)
  rw [lg_entry_eq]
  generalize (lg_sl ([.ref mo, .int (zI a), .int (zI b)]) ++ List.replicate (6 - (lg_sl ([.ref mo, .int (zI a), .int (zI b)])).length) Slot.unset).toArray = ls at hl ⊢
  have hl : lv_has ls 6 [(0, .ref mo), (1, .int (zI a)), (2, .int (zI b))] := hl
  have i9 : ∀ w ∈ wsX90, w ∈ wsX9_plan := by decide +kernel
  refine lv_iload_n gx gb dX9_plan_0 rfl (lv_at hl 1 rfl) ?_
  refine vp_callSi (W.runS (As := [.int (zI a)]) (rest := []) ⟨gx, gb, gml, gown, gts⟩ (kX9_isLesson Gl a (by omega) (by omega)) (va_cwS 1 gts gX9_plan_X9_isLesson rfl rfl rfl (by decide +kernel) ⟨Nat.le_of_ble_eq_true rfl, Nat.le_of_ble_eq_true rfl⟩) ⟨fun _ _ _ _ h => h, fun U hU hW => ⟨rfl, trivial⟩⟩ rfl rfl hl.1 rfl (lv_room (Nat.le_of_ble_eq_true rfl)) dX9_plan_1 ⟨Nat.le_of_ble_eq_true rfl, Nat.le_of_ble_eq_true rfl⟩) (fun r hw => ?_)
  have hr1 := hw
  subst hr1
  refine lv_if_ne (tgt := 10) gx gb dX9_plan_4 (by decide) (fun c4 => ?_) (fun c4 => ?_)
  · skip
    rw [b0_eq] at c4
    simp only [decide_eq_false_iff_not, Decidable.not_not] at c4
    obtain ⟨k, hk⟩ : ∃ k : Nat, a = (k : Int) := ⟨a.toNat, by omega⟩
    rw [show zI a = nI k from by rw [hk, zI_nat]] at hl
    have hl : lv_has ls 6 [(0, .ref mo), (1, .int (nI k)), (2, .int (zI b))] := hl
    refine lv_aload_n gx gb dX9_plan_10 rfl (lv_at hl 0 rfl) ?_
    refine lv_iload_n gx gb dX9_plan_11 rfl (lv_at hl 1 rfl) ?_
    have hPc := hP.sub (ws' := wM mo ma mb mc md me mf mg mh mi mj mk ml mn cI cZ n q c w z ev num plc sig pad row dig far cfr cby que has img kep) [0, 1, 2, 3, 4, 5, 6, 7, 8, 9, 10, 11, 12, 13] rfl
    have hDc := hD.sub (ws' := wM mo ma mb mc md me mf mg mh mi mj mk ml mn cI cZ n q c w z ev num plc sig pad row dig far cfr cby que has img kep) [0, 1, 2, 3, 4, 5, 6, 7, 8, 9, 10, 11, 12, 13] (by decide) rfl
    have hFc := va_free (wc := wM mo ma mb mc md me mf mg mh mi mj mk ml mn cI cZ n q c w z ev num plc sig pad row dig far cfr cby que has img kep) hD hS hA [0, 1, 2, 3, 4, 5, 6, 7, 8, 9, 10, 11, 12, 13] rfl
    refine va_calli (va_runV (As := [.int (nI k)]) (rest := []) ⟨gx, gb, gml, gown, gts⟩ (kX9_layPlan Gl D cI cJ cZ mo ma mb mc md me mf mg mh mi mj mk ml mn n q c w z ev num plc sig pad row dig far cfr cby que has img kep _ k (by omega) (by omega) (by omega) (by exact hpl) (by exact hij) (by exact hnv)) (cwV 1 gts gX9_plan_X9_layPlan rfl rfl rfl (by decide +kernel) ⟨Nat.le_of_ble_eq_true rfl, Nat.le_of_ble_eq_true rfl⟩) ⟨fun a U g mk q => by obtain ⟨q0, q1, qP, qK, qD⟩ := q; exact ⟨q0, q1, qP, va_K.moved (u := U) (U := U.calling g mk a) (Vm.Alike.refl U.vm) qK, qD⟩, va_recv hK hPc (ci := 4) (q0 := 0) rfl rfl, fun U hU hW => ⟨rfl, by rw [hU], by rw [hU]; exact hPc, va_K.moved hW.alike hK, hDc.weaken (fun _ _ _ _ => trivial)⟩⟩ rfl rfl hl.1 rfl (lv_room (Nat.le_of_ble_eq_true rfl)) dX9_plan_12 ⟨Nat.le_of_ble_eq_true rfl, Nat.le_of_ble_eq_true rfl⟩) hS (fun q _ h => hFc q h) hFc (fun r u t H1 locs ht hvm hw hB hz1 hk1 hS => ?_)
    obtain ⟨fv_12, qu_12, cf_12, cb_12, row_12, dig_12⟩ := u
    obtain ⟨hP1, hK1, hD1⟩ := hB
    rw [ht] at hP1
    try dsimp only at hw
    try dsimp only at hP1
    try dsimp only at hD1
    have hK := va_K.moved hvm.symm hK1
    obtain ⟨hP, hD⟩ := va_join (wr := []) (w1 := wM mo ma mb mc md me mf mg mh mi mj mk ml mn cI cZ n q c w q ev num plc sig pad row_12 dig_12 (aZ fv_12) cf_12 cb_12 qu_12 has img kep) hP hD [0, 1, 2, 3, 4, 5, 6, 7, 8, 9, 10, 11, 12, 13] [] rfl rfl (by decide) (by decide) hk1 hFc hP1 hD1
    have hP := hP.sub (ws' := wM mo ma mb mc md me mf mg mh mi mj mk ml mn cI cZ n q c w q ev num plc sig pad row_12 dig_12 (aZ fv_12) cf_12 cb_12 qu_12 has img kep) [0, 1, 2, 3, 4, 5, 6, 7, 8, 9, 10, 11, 12, 13] rfl
    have hD := hD.sub (ws' := wM mo ma mb mc md me mf mg mh mi mj mk ml mn cI cZ n q c w q ev num plc sig pad row_12 dig_12 (aZ fv_12) cf_12 cb_12 qu_12 has img kep) [0, 1, 2, 3, 4, 5, 6, 7, 8, 9, 10, 11, 12, 13] (by decide) rfl
    have hK := va_K.moved (Vm.Alike.refl Gs.vm) hK
    generalize H1 = H at hP hS ⊢
    obtain ⟨r12, rfl⟩ : ∃ z, z = r := ⟨_, rfl⟩
    obtain ⟨zz, rfl, hA⟩ := hw
    have hzb := lpA_bd hq7 hA
    refine lv_istore_n (lv' := [(3, .int (zI zz)), (0, .ref mo), (1, .int (nI k)), (2, .int (zI b))]) gx gb dX9_plan_15 rfl hl (by decide) rfl (fun ls hl => ?_)
    refine lv_iload_n gx gb dX9_plan_16 rfl (lv_at hl 0 rfl) ?_
    refine lv_if_lt (tgt := 25) gx gb dX9_plan_17 (by decide) (fun c17 => ?_) (fun c17 => ?_)
    · skip
      rw [z0_lt (by omega) (by omega)] at c17
      refine lv_iload_n gx gb dX9_plan_25 rfl (lv_at hl 0 rfl) ?_
      refine lv_if_ge (tgt := 34) gx gb dX9_plan_26 (by decide) (fun c26 => ?_) (fun c26 => ?_)
      · skip
        rw [z0_ge (by omega) (by omega)] at c26
        obtain ⟨fo, hfo⟩ : ∃ fo : Nat, zz = (fo : Int) := ⟨zz.toNat, by omega⟩
        rw [show zI zz = nI fo from by rw [hfo, zI_nat]] at hl
        obtain ⟨x, S, n_, qu_, hA1, hx, hok, hle, hzz, hL⟩ := lpA_s hA (by omega)
        have hfo2 : fo = rkC plc q (bR S x) := by omega
        have hrl := rkC_lt plc hq7 (bR S x)
        have hfv : fv_12 fo = (bD S x : Int) := by rw [hfo2]; exact (hL.2.1 x hx).2.1
        have hDA := (hle.2 x hx).2.2.2
        have hdle := bD_le hok x hx
        have hbn := bOK_n7 hq7 hok
        have hl : lv_has ls 6 [(3, .int (nI fo)), (0, .ref mo), (1, .int (nI k)), (2, .int (zI b))] := hl
        refine lv_aload_n gx gb dX9_plan_34 rfl (lv_at hl 1 rfl) ?_
        refine va_get (D := D) (ci := 4) (v := .ref mg) (C := RX9) (T := TX9) (N := 19) gx gb gts i9 gown hK hP 0 rfl rfl 12 (by decide) (gts (.fieldLink RX9 35 "SwanSumsModel" "far" "[I") (by decide +kernel)) (fun _ h9 => h9) rfl dX9_plan_35 ?_
        refine lv_iload_n gx gb dX9_plan_38 rfl (lv_at hl 0 rfl) ?_
        refine va_iald gx gb hK hP 7 0 rfl rfl (vp_in_nI (n := fo) (by omega) (by decide)) dX9_plan_39 ?_
        refine lv_evi (zI (fv_12 fo)) (aZ_rd fv_12 (by omega)) ?_
        exact W.iret (v := zI (fv_12 fo)) gx gb gr (fun t ht hW => ⟨⟨zI (fv_12 fo), (aZ fv_12, qu_12, cf_12, cb_12, row_12, dig_12, q), rfl, (by first | (dsimp only; done) | ((try dsimp only); first | (exfalso; omega) | (rw [hk, plnZ_0 (by omega) (lpA_ng hA (by omega))]; done) | (rw [hk, plnZ_1 (by omega) hA1, if_pos (by omega), hfv, hDA]))), by rw [ht]; exact hP, va_K.moved hW.alike hK, hD⟩, hS.F ht⟩) hS.2.2 dX9_plan_40
      · skip
        rw [z0_ge (by omega) (by omega)] at c26
        refine lv_bipush (v := zI (-6)) gx gb dX9_plan_29 (by decide) ?_
        refine lv_goto (tgt := 40) gx gb dX9_plan_31 (by decide) ?_
        exact W.iret (v := zI (-6)) gx gb gr (fun t ht hW => ⟨⟨zI (-6), (aZ fv_12, qu_12, cf_12, cb_12, row_12, dig_12, q), rfl, (by first | (dsimp only; done) | ((try dsimp only); first | (exfalso; omega) | (rw [hk, plnZ_0 (by omega) (lpA_ng hA (by omega))]; done) | (rw [hk, plnZ_1 (by omega) hA1, if_pos (by omega), hfv, hDA]))), by rw [ht]; exact hP, va_K.moved hW.alike hK, hD⟩, hS.F ht⟩) hS.2.2 dX9_plan_40
    · skip
      rw [z0_lt (by omega) (by omega)] at c17
      refine lv_iload_n gx gb dX9_plan_20 rfl (lv_at hl 3 rfl) ?_
      refine lv_iconst (v := zI (-1)) gx gb dX9_plan_21 (by decide) ?_
      refine lv_icmp_ne (tgt := 41) gx gb dX9_plan_22 (by decide) (fun c22 => ?_) (fun c22 => ?_)
      · skip
        rw [zI_eq (by omega) (by omega) (by omega) (by omega)] at c22
        obtain ⟨fo, hfo⟩ : ∃ fo : Nat, zz = (fo : Int) := ⟨zz.toNat, by omega⟩
        rw [show zI zz = nI fo from by rw [hfo, zI_nat]] at hl
        obtain ⟨x, S, n_, qu_, hA1, hx, hok, hle, hzz, hL⟩ := lpA_s hA (by omega)
        have hfo2 : fo = rkC plc q (bR S x) := by omega
        have hrl := rkC_lt plc hq7 (bR S x)
        have hfv : fv_12 fo = (bD S x : Int) := by rw [hfo2]; exact (hL.2.1 x hx).2.1
        have hDA := (hle.2 x hx).2.2.2
        have hdle := bD_le hok x hx
        have hbn := bOK_n7 hq7 hok
        have hl : lv_has ls 6 [(3, .int (nI fo)), (0, .ref mo), (1, .int (nI k)), (2, .int (zI b))] := hl
        refine lv_iload_n gx gb dX9_plan_41 rfl (lv_at hl 3 rfl) ?_
        refine lv_iconst (v := nI 0) gx gb dX9_plan_42 (by decide) ?_
        refine lv_aload_n gx gb dX9_plan_43 rfl (lv_at hl 1 rfl) ?_
        refine va_get (D := D) (ci := 4) (v := .ref mg) (C := RX9) (T := TX9) (N := 19) gx gb gts i9 gown hK hP 0 rfl rfl 12 (by decide) (gts (.fieldLink RX9 35 "SwanSumsModel" "far" "[I") (by decide +kernel)) (fun _ h9 => h9) rfl dX9_plan_44 ?_
        refine lv_iload_n gx gb dX9_plan_47 rfl (lv_at hl 0 rfl) ?_
        refine va_iald gx gb hK hP 7 0 rfl rfl (vp_in_nI (n := fo) (by omega) (by decide)) dX9_plan_48 ?_
        refine lv_evi (zI (fv_12 fo)) (aZ_rd fv_12 (by omega)) ?_
        refine lv_iconst (v := nI 1) gx gb dX9_plan_49 (by decide) ?_
        refine lv_isub gx gb dX9_plan_50 ?_
        refine lv_evi (zI ((fv_12 fo) - ((1 : Nat) : Int))) (by rw [nI_zc 1]; exact zI_sub (fv_12 fo) ((1 : Nat) : Int)) ?_
        refine lv_evs [.int (zI ((fv_12 fo) - ((1 : Nat) : Int))), .int (zI ((0 : Nat) : Int)), .int (zI b)] (by simp only [nI_zc]) ?_
        refine vp_callSi (W.runS (As := [.int (zI b), .int (zI ((0 : Nat) : Int)), .int (zI ((fv_12 fo) - ((1 : Nat) : Int)))]) (rest := []) ⟨gx, gb, gml, gown, gts⟩ (kX9_in Gl b ((0 : Nat) : Int) ((fv_12 fo) - ((1 : Nat) : Int)) (by omega) (by omega) (by omega) (by omega) (by omega) (by omega)) (va_cwS 3 gts gX9_plan_X9_in rfl rfl rfl (by decide +kernel) ⟨Nat.le_of_ble_eq_true rfl, Nat.le_of_ble_eq_true rfl⟩) ⟨fun _ _ _ _ h => h, fun U hU hW => ⟨rfl, trivial⟩⟩ rfl rfl hl.1 rfl (lv_room (Nat.le_of_ble_eq_true rfl)) dX9_plan_51 ⟨Nat.le_of_ble_eq_true rfl, Nat.le_of_ble_eq_true rfl⟩) (fun r hw => ?_)
        have hr51 := hw
        subst hr51
        refine lv_if_ne (tgt := 60) gx gb dX9_plan_54 (by decide) (fun c54 => ?_) (fun c54 => ?_)
        · skip
          rw [b0_eq] at c54
          simp only [decide_eq_false_iff_not, Decidable.not_not] at c54
          obtain ⟨i, hi⟩ : ∃ i : Nat, b = (i : Int) := ⟨b.toNat, by omega⟩
          rw [show zI b = nI i from by rw [hi, zI_nat]] at hl
          have hl : lv_has ls 6 [(3, .int (nI fo)), (0, .ref mo), (1, .int (nI k)), (2, .int (nI i))] := hl
          refine lv_iload_n gx gb dX9_plan_60 rfl (lv_at hl 0 rfl) ?_
          refine lv_evi (nI (rkC plc q (bR S (bAnc (bP S) x 0)))) (congrArg nI hfo2) ?_
          refine lv_istore (lv' := [(4, .int (nI (rkC plc q (bR S (bAnc (bP S) x 0))))), (3, .int (nI fo)), (0, .ref mo), (1, .int (nI k)), (2, .int (nI i))]) gx gb dX9_plan_61 hl (by decide) rfl (fun ls hl => ?_)
          have L63 : ∀ fu : Nat, ∀ (m : Nat) (hm : m + i + 1 ≤ bD S x), (bD S x - m) < fu → ∀ (H : Heap) (locs : List Loc), va_P D vwCl (wM mo ma mb mc md me mf mg mh mi mj mk ml mn cI cZ n q c w q ev num plc sig pad row_12 dig_12 (aZ fv_12) cf_12 cb_12 qu_12 has img kep) H → va_D A (wM mo ma mb mc md me mf mg mh mi mj mk ml mn cI cZ n q c w q ev num plc sig pad row_12 dig_12 (aZ fv_12) cf_12 cb_12 qu_12 has img kep) → va_S A Gs.heap H locs → ∀ ls : Array Slot, lv_has ls 6 [(4, .int (nI (rkC plc q (bR S (bAnc (bP S) x m))))), (3, .int (nI fo)), (0, .ref mo), (1, .int (nI k)), (2, .int (nI i))] → W Gp Gl Ge (headSpec wsX9_plan ({ frames := 4, cells := 0, slots := 0, locals := 96 } : Room)).room Gs Gm ([.ref mo, .int (zI a), .int (zI b)] : List Value).toArray Gw Gt Gc H locs 0 0 (MQ Gw (va_Qi (fun (r : Int32) (u : (Nat → Int32) × (Nat → Nat) × (Nat → Nat) × (Nat → Nat) × (Nat → Nat) × (Nat → Nat) × (Nat)) => r = zI (plnZ num plc q a b)) (fun (u : (Nat → Int32) × (Nat → Nat) × (Nat → Nat) × (Nat → Nat) × (Nat → Nat) × (Nat → Nat) × (Nat)) t => va_P D vwCl (wM mo ma mb mc md me mf mg mh mi mj mk ml mn cI cZ n q c w u.2.2.2.2.2.2 ev num plc sig pad u.2.2.2.2.1 u.2.2.2.2.2.1 u.1 u.2.2.1 u.2.2.2.1 u.2.1 has img kep) t.heap ∧ va_K D vwCl [(cI, .int), (cJ, .long), (cZ, .boolean)] t ∧ va_D A (wM mo ma mb mc md me mf mg mh mi mj mk ml mn cI cZ n q c w u.2.2.2.2.2.2 ev num plc sig pad u.2.2.2.2.1 u.2.2.2.2.2.1 u.1 u.2.2.1 u.2.2.2.1 u.2.1 has img kep)) A) ([.ref mo, .int (zI a), .int (zI b)] : List Value).toArray Gs 0 0 A) (F0 Gm 63 ls []) := by
            intro fu
            induction fu with
            | zero => intro m hm hfu; exact absurd hfu (Nat.not_lt_zero _)
            | succ fu ih63 =>
              intro m hm hfu H locs hP hD hS ls hl
              have hac := bAnc_D hok hx m (by omega)
              have hLa := hL.2.1 _ hac.1
              have hrm := rkC_lt plc hq7 (bR S (bAnc (bP S) x m))
              have hpos := (bD_0 hok hac.1).mpr (by omega)
              have hcc := hLa.2.2 hpos
              have hfa := hLa.2.1
              have hEa := (hok.2.2.2.2.2 _ hpos hac.1).2.1
              refine lv_aload_n gx gb dX9_plan_63 rfl (lv_at hl 2 rfl) ?_
              refine va_get (D := D) (ci := 4) (v := .ref mg) (C := RX9) (T := TX9) (N := 19) gx gb gts i9 gown hK hP 0 rfl rfl 12 (by decide) (gts (.fieldLink RX9 35 "SwanSumsModel" "far" "[I") (by decide +kernel)) (fun _ h9 => h9) rfl dX9_plan_64 ?_
              refine lv_iload gx gb dX9_plan_67 (lv_at hl 0 rfl) ?_
              refine va_iald gx gb hK hP 7 0 rfl rfl (vp_in_nI (n := rkC plc q (bR S (bAnc (bP S) x m))) (by omega) (by decide)) dX9_plan_69 ?_
              refine lv_evi (zI (fv_12 (rkC plc q (bR S (bAnc (bP S) x m))))) (aZ_rd fv_12 (by omega)) ?_
              refine lv_iload_n gx gb dX9_plan_70 rfl (lv_at hl 4 rfl) ?_
              refine lv_iconst (v := nI 1) gx gb dX9_plan_71 (by decide) ?_
              refine lv_iadd gx gb dX9_plan_72 ?_
              refine lv_evi (nI (i + 1)) (nI_add i 1) ?_
              refine lv_icmp_le (tgt := 88) gx gb dX9_plan_73 (by decide) (fun c73 => ?_) (fun c73 => ?_)
              · skip
                rw [zn_le (by omega) (by omega) (by omega)] at c73
                have hm2 : m = bD S x - 1 - i := by omega
                refine lv_aload_n gx gb dX9_plan_88 rfl (lv_at hl 2 rfl) ?_
                refine va_get (D := D) (ci := 4) (v := .ref mi) (C := RX9) (T := TX9) (N := 19) gx gb gts i9 gown hK hP 0 rfl rfl 14 (by decide) (gts (.fieldLink RX9 41 "SwanSumsModel" "cameBy" "[I") (by decide +kernel)) (fun _ h9 => h9) rfl dX9_plan_89 ?_
                refine lv_iload gx gb dX9_plan_92 (lv_at hl 0 rfl) ?_
                refine va_iald gx gb hK hP 9 0 rfl rfl (vp_in_nI (n := rkC plc q (bR S (bAnc (bP S) x m))) (by omega) (by decide)) dX9_plan_94 ?_
                refine lv_evi (nI (cb_12 (rkC plc q (bR S (bAnc (bP S) x m))))) (aN_rd cb_12 (by omega)) ?_
                refine lv_evi (nI (bE S (bAnc (bP S) x m))) (congrArg nI hcc.1) ?_
                refine lv_istore (lv' := [(5, .int (nI (bE S (bAnc (bP S) x m)))), (4, .int (nI (rkC plc q (bR S (bAnc (bP S) x m))))), (3, .int (nI fo)), (0, .ref mo), (1, .int (nI k)), (2, .int (nI i))]) gx gb dX9_plan_95 hl (by decide) rfl (fun ls hl => ?_)
                refine lv_iload gx gb dX9_plan_97 (lv_at hl 0 rfl) ?_
                refine lv_aload_n gx gb dX9_plan_99 rfl (lv_at hl 3 rfl) ?_
                refine va_get (D := D) (ci := 4) (v := .int (nI q)) (C := RX9) (T := TX9) (N := 19) gx gb gts i9 gown hK hP 0 rfl rfl 1 (by decide) (gts (.fieldLink RX9 13 "SwanSumsModel" "many" "I") (by decide +kernel)) (fun _ h9 => h9) rfl dX9_plan_100 ?_
                refine lv_icmp_ge (tgt := 111) gx gb dX9_plan_103 (by decide) (fun c103 => ?_) (fun c103 => ?_)
                · skip
                  rw [nI_leI (by omega) (by omega)] at c103
                  refine lv_iload gx gb dX9_plan_111 (lv_at hl 0 rfl) ?_
                  refine lv_iconst (v := nI 2) gx gb dX9_plan_113 (by decide) ?_
                  refine lv_aload_n gx gb dX9_plan_114 rfl (lv_at hl 3 rfl) ?_
                  refine va_get (D := D) (ci := 4) (v := .int (nI q)) (C := RX9) (T := TX9) (N := 19) gx gb gts i9 gown hK hP 0 rfl rfl 1 (by decide) (gts (.fieldLink RX9 13 "SwanSumsModel" "many" "I") (by decide +kernel)) (fun _ h9 => h9) rfl dX9_plan_115 ?_
                  refine lv_imul gx gb dX9_plan_118 ?_
                  refine lv_evi (nI (2 * q)) (pk_mul 2 q) ?_
                  refine lv_icmp_ge (tgt := 135) gx gb dX9_plan_119 (by decide) (fun c119 => ?_) (fun c119 => ?_)
                  · skip
                    rw [nI_leI (by omega) (by omega)] at c119
                    refine lv_iload gx gb dX9_plan_135 (lv_at hl 0 rfl) ?_
                    refine lv_iconst (v := nI 2) gx gb dX9_plan_137 (by decide) ?_
                    refine lv_aload_n gx gb dX9_plan_138 rfl (lv_at hl 3 rfl) ?_
                    refine va_get (D := D) (ci := 4) (v := .int (nI q)) (C := RX9) (T := TX9) (N := 19) gx gb gts i9 gown hK hP 0 rfl rfl 1 (by decide) (gts (.fieldLink RX9 13 "SwanSumsModel" "many" "I") (by decide +kernel)) (fun _ h9 => h9) rfl dX9_plan_139 ?_
                    refine lv_imul gx gb dX9_plan_142 ?_
                    refine lv_evi (nI (2 * q)) (pk_mul 2 q) ?_
                    refine lv_icmp_ne (tgt := 151) gx gb dX9_plan_143 (by decide) (fun c143 => ?_) (fun c143 => ?_)
                    · skip
                      rw [nI_eq (by omega) (by omega)] at c143
                      refine lv_bipush (v := nI 30) gx gb dX9_plan_151 (by decide) ?_
                      refine lv_iload gx gb dX9_plan_153 (lv_at hl 0 rfl) ?_
                      refine lv_iadd gx gb dX9_plan_155 ?_
                      refine lv_evi (nI (30 + (bE S (bAnc (bP S) x m)))) (nI_add 30 (bE S (bAnc (bP S) x m))) ?_
                      refine lv_iconst (v := nI 2) gx gb dX9_plan_156 (by decide) ?_
                      refine lv_aload_n gx gb dX9_plan_157 rfl (lv_at hl 3 rfl) ?_
                      refine va_get (D := D) (ci := 4) (v := .int (nI q)) (C := RX9) (T := TX9) (N := 19) gx gb gts i9 gown hK hP 0 rfl rfl 1 (by decide) (gts (.fieldLink RX9 13 "SwanSumsModel" "many" "I") (by decide +kernel)) (fun _ h9 => h9) rfl dX9_plan_158 ?_
                      refine lv_imul gx gb dX9_plan_161 ?_
                      refine lv_evi (nI (2 * q)) (pk_mul 2 q) ?_
                      refine lv_isub gx gb dX9_plan_162 ?_
                      refine lv_evi (nI ((30 + (bE S (bAnc (bP S) x m))) - (2 * q))) (e_sub (by omega)) ?_
                      refine lv_iconst (v := nI 1) gx gb dX9_plan_163 (by decide) ?_
                      refine lv_isub gx gb dX9_plan_164 ?_
                      refine lv_evi (nI (((30 + (bE S (bAnc (bP S) x m))) - (2 * q)) - 1)) (e_sub (by omega)) ?_
                      exact W.iret (v := nI (((30 + (bE S (bAnc (bP S) x m))) - (2 * q)) - 1)) gx gb gr (fun t ht hW => ⟨⟨nI (((30 + (bE S (bAnc (bP S) x m))) - (2 * q)) - 1), (aZ fv_12, qu_12, cf_12, cb_12, row_12, dig_12, q), rfl, (by first | (dsimp only; done) | ((try dsimp only); rw [hk, hi, plnZ_2 (by omega) hA1 hok hle hx (by omega), ← hm2, zI_nat]; refine congrArg nI ?_; unfold evN; repeat' (first | omega | split))), by rw [ht]; exact hP, va_K.moved hW.alike hK, hD⟩, hS.F ht⟩) hS.2.2 dX9_plan_165
                    · skip
                      rw [nI_eq (by omega) (by omega)] at c143
                      refine lv_bipush (v := nI 20) gx gb dX9_plan_146 (by decide) ?_
                      refine lv_goto (tgt := 165) gx gb dX9_plan_148 (by decide) ?_
                      exact W.iret (v := nI 20) gx gb gr (fun t ht hW => ⟨⟨nI 20, (aZ fv_12, qu_12, cf_12, cb_12, row_12, dig_12, q), rfl, (by first | (dsimp only; done) | ((try dsimp only); rw [hk, hi, plnZ_2 (by omega) hA1 hok hle hx (by omega), ← hm2, zI_nat]; refine congrArg nI ?_; unfold evN; repeat' (first | omega | split))), by rw [ht]; exact hP, va_K.moved hW.alike hK, hD⟩, hS.F ht⟩) hS.2.2 dX9_plan_165
                  · skip
                    rw [nI_leI (by omega) (by omega)] at c119
                    refine lv_bipush (v := nI 10) gx gb dX9_plan_122 (by decide) ?_
                    refine lv_iload gx gb dX9_plan_124 (lv_at hl 0 rfl) ?_
                    refine lv_iadd gx gb dX9_plan_126 ?_
                    refine lv_evi (nI (10 + (bE S (bAnc (bP S) x m)))) (nI_add 10 (bE S (bAnc (bP S) x m))) ?_
                    refine lv_aload_n gx gb dX9_plan_127 rfl (lv_at hl 3 rfl) ?_
                    refine va_get (D := D) (ci := 4) (v := .int (nI q)) (C := RX9) (T := TX9) (N := 19) gx gb gts i9 gown hK hP 0 rfl rfl 1 (by decide) (gts (.fieldLink RX9 13 "SwanSumsModel" "many" "I") (by decide +kernel)) (fun _ h9 => h9) rfl dX9_plan_128 ?_
                    refine lv_isub gx gb dX9_plan_131 ?_
                    refine lv_evi (nI ((10 + (bE S (bAnc (bP S) x m))) - q)) (e_sub (by omega)) ?_
                    refine lv_goto (tgt := 165) gx gb dX9_plan_132 (by decide) ?_
                    exact W.iret (v := nI ((10 + (bE S (bAnc (bP S) x m))) - q)) gx gb gr (fun t ht hW => ⟨⟨nI ((10 + (bE S (bAnc (bP S) x m))) - q), (aZ fv_12, qu_12, cf_12, cb_12, row_12, dig_12, q), rfl, (by first | (dsimp only; done) | ((try dsimp only); rw [hk, hi, plnZ_2 (by omega) hA1 hok hle hx (by omega), ← hm2, zI_nat]; refine congrArg nI ?_; unfold evN; repeat' (first | omega | split))), by rw [ht]; exact hP, va_K.moved hW.alike hK, hD⟩, hS.F ht⟩) hS.2.2 dX9_plan_165
                · skip
                  rw [nI_leI (by omega) (by omega)] at c103
                  refine lv_iload gx gb dX9_plan_106 (lv_at hl 0 rfl) ?_
                  refine lv_goto (tgt := 165) gx gb dX9_plan_108 (by decide) ?_
                  exact W.iret (v := nI (bE S (bAnc (bP S) x m))) gx gb gr (fun t ht hW => ⟨⟨nI (bE S (bAnc (bP S) x m)), (aZ fv_12, qu_12, cf_12, cb_12, row_12, dig_12, q), rfl, (by first | (dsimp only; done) | ((try dsimp only); rw [hk, hi, plnZ_2 (by omega) hA1 hok hle hx (by omega), ← hm2, zI_nat]; refine congrArg nI ?_; unfold evN; repeat' (first | omega | split))), by rw [ht]; exact hP, va_K.moved hW.alike hK, hD⟩, hS.F ht⟩) hS.2.2 dX9_plan_165
              · skip
                rw [zn_le (by omega) (by omega) (by omega)] at c73
                refine lv_aload_n gx gb dX9_plan_76 rfl (lv_at hl 2 rfl) ?_
                refine va_get (D := D) (ci := 4) (v := .ref mh) (C := RX9) (T := TX9) (N := 19) gx gb gts i9 gown hK hP 0 rfl rfl 13 (by decide) (gts (.fieldLink RX9 38 "SwanSumsModel" "cameFrom" "[I") (by decide +kernel)) (fun _ h9 => h9) rfl dX9_plan_77 ?_
                refine lv_iload gx gb dX9_plan_80 (lv_at hl 0 rfl) ?_
                refine va_iald gx gb hK hP 8 0 rfl rfl (vp_in_nI (n := rkC plc q (bR S (bAnc (bP S) x m))) (by omega) (by decide)) dX9_plan_82 ?_
                refine lv_evi (nI (cf_12 (rkC plc q (bR S (bAnc (bP S) x m))))) (aN_rd cf_12 (by omega)) ?_
                refine lv_evi (nI (rkC plc q (bR S (bAnc (bP S) x (m + 1))))) (congrArg nI hcc.2) ?_
                refine lv_istore (lv' := [(4, .int (nI (rkC plc q (bR S (bAnc (bP S) x (m + 1)))))), (3, .int (nI fo)), (0, .ref mo), (1, .int (nI k)), (2, .int (nI i))]) gx gb dX9_plan_83 hl (by decide) rfl (fun ls hl => ?_)
                refine lv_goto (tgt := 63) gx gb dX9_plan_85 (by decide) ?_
                exact ih63 (m + 1) (by omega) (by omega) _ _ hP hD hS ls (lv_sub hl [0, 1, 2, 3, 4] rfl)
          exact L63 _ 0 (by omega) (Nat.lt_succ_self _) _ _ hP hD hS ls (lv_sub hl [0, 1, 2, 3, 4] rfl)
        · skip
          rw [b0_eq] at c54
          simp only [decide_eq_false_iff_not, Decidable.not_not] at c54
          refine lv_bipush (v := zI (-6)) gx gb dX9_plan_57 (by decide) ?_
          exact W.iret (v := zI (-6)) gx gb gr (fun t ht hW => ⟨⟨zI (-6), (aZ fv_12, qu_12, cf_12, cb_12, row_12, dig_12, q), rfl, (by first | (dsimp only; done) | ((try dsimp only); rw [hk, plnZ_1 (by omega) hA1, if_neg (by omega), if_neg (by omega)])), by rw [ht]; exact hP, va_K.moved hW.alike hK, hD⟩, hS.F ht⟩) hS.2.2 dX9_plan_59
      · skip
        rw [zI_eq (by omega) (by omega) (by omega) (by omega)] at c22
        refine lv_iload_n gx gb dX9_plan_25 rfl (lv_at hl 0 rfl) ?_
        refine lv_if_ge (tgt := 34) gx gb dX9_plan_26 (by decide) (fun c26 => ?_) (fun c26 => ?_)
        · skip
          rw [z0_ge (by omega) (by omega)] at c26
          obtain ⟨fo, hfo⟩ : ∃ fo : Nat, zz = (fo : Int) := ⟨zz.toNat, by omega⟩
          rw [show zI zz = nI fo from by rw [hfo, zI_nat]] at hl
          obtain ⟨x, S, n_, qu_, hA1, hx, hok, hle, hzz, hL⟩ := lpA_s hA (by omega)
          have hfo2 : fo = rkC plc q (bR S x) := by omega
          have hrl := rkC_lt plc hq7 (bR S x)
          have hfv : fv_12 fo = (bD S x : Int) := by rw [hfo2]; exact (hL.2.1 x hx).2.1
          have hDA := (hle.2 x hx).2.2.2
          have hdle := bD_le hok x hx
          have hbn := bOK_n7 hq7 hok
          have hl : lv_has ls 6 [(3, .int (nI fo)), (0, .ref mo), (1, .int (nI k)), (2, .int (zI b))] := hl
          refine lv_aload_n gx gb dX9_plan_34 rfl (lv_at hl 1 rfl) ?_
          refine va_get (D := D) (ci := 4) (v := .ref mg) (C := RX9) (T := TX9) (N := 19) gx gb gts i9 gown hK hP 0 rfl rfl 12 (by decide) (gts (.fieldLink RX9 35 "SwanSumsModel" "far" "[I") (by decide +kernel)) (fun _ h9 => h9) rfl dX9_plan_35 ?_
          refine lv_iload_n gx gb dX9_plan_38 rfl (lv_at hl 0 rfl) ?_
          refine va_iald gx gb hK hP 7 0 rfl rfl (vp_in_nI (n := fo) (by omega) (by decide)) dX9_plan_39 ?_
          refine lv_evi (zI (fv_12 fo)) (aZ_rd fv_12 (by omega)) ?_
          exact W.iret (v := zI (fv_12 fo)) gx gb gr (fun t ht hW => ⟨⟨zI (fv_12 fo), (aZ fv_12, qu_12, cf_12, cb_12, row_12, dig_12, q), rfl, (by first | (dsimp only; done) | ((try dsimp only); first | (exfalso; omega) | (rw [hk, plnZ_0 (by omega) (lpA_ng hA (by omega))]; done) | (rw [hk, plnZ_1 (by omega) hA1, if_pos (by omega), hfv, hDA]))), by rw [ht]; exact hP, va_K.moved hW.alike hK, hD⟩, hS.F ht⟩) hS.2.2 dX9_plan_40
        · skip
          rw [z0_ge (by omega) (by omega)] at c26
          refine lv_bipush (v := zI (-6)) gx gb dX9_plan_29 (by decide) ?_
          refine lv_goto (tgt := 40) gx gb dX9_plan_31 (by decide) ?_
          exact W.iret (v := zI (-6)) gx gb gr (fun t ht hW => ⟨⟨zI (-6), (aZ fv_12, qu_12, cf_12, cb_12, row_12, dig_12, q), rfl, (by first | (dsimp only; done) | ((try dsimp only); first | (exfalso; omega) | (rw [hk, plnZ_0 (by omega) (lpA_ng hA (by omega))]; done) | (rw [hk, plnZ_1 (by omega) hA1, if_pos (by omega), hfv, hDA]))), by rw [ht]; exact hP, va_K.moved hW.alike hK, hD⟩, hS.F ht⟩) hS.2.2 dX9_plan_40
  · skip
    rw [b0_eq] at c4
    simp only [decide_eq_false_iff_not, Decidable.not_not] at c4
    refine lv_bipush (v := zI (-2)) gx gb dX9_plan_7 (by decide) ?_
    exact W.iret (v := zI (-2)) gx gb gr (fun t ht hW => ⟨⟨zI (-2), (far, que, cfr, cby, row, dig, z), rfl, (by first | (dsimp only; done) | ((try dsimp only); rw [plnZ, if_neg (by omega)])), by rw [ht]; exact hP, va_K.moved hW.alike hK, hD⟩, hS.F ht⟩) hS.2.2 dX9_plan_9

