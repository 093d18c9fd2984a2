/-! what is made: rows of numbers, of the class that the tables name -/
theorem va_newQ {p : Program} {l : Launch} {e : Env} {R : Room} {s : State} {m : MethodId} {args : Array Value} {below : List Frame} {meth : Method} {c : Code} {H H0 : Heap} {locs : List Loc} {cells slots : Nat} {Q : State → Prop} {pc : Nat} {ls : Array Slot} {rest : List Value} {cc : ByteArray} {D : va_G} {cl : List vw_C} {tys : List (ClassId × FieldType)} {ws : va_W} {A : Nat → Prop}
    (hexec : p.tables.exec = Jvm.exec) (hb : c.code = cc) {atype : ArrayType} (harr : (Cond.arrayClass (newarray.typeOf atype)).before args s = true) {ty : FieldType} (hty : newarray.typeOf atype = ty) (hK : va_K D cl tys s) (hP : va_P D cl ws H) (hD : va_D A ws) (hS : va_S A H0 H locs) (hA : ∀ q, H0.size ≤ q → A q)
    {n : Int32} {N' : Nat} {a0 : vp_A} (ha : ∀ cA : ClassId, vp_cell cA a0 = arrV cA N' (fun _ => defaultValue ty)) (hn : ¬ n < 0) (hN : n.toNatClampNeg = N') (hbytes : N' * componentBytes ty ≤ 536870912) (hcells : cells + 1 ≤ R.cells) (hslots : slots + N' ≤ R.slots) (hdg : decode cc pc = .ok (.newarray atype, 2))
    {t0 : Nat} {cB : ClassId} (ht : tys[t0]? = some (cB, ty)) (hob : ∀ C, ty ≠ .object C)
    (kk : ∀ (q : Nat) (H1 : Heap), va_P D cl (ws ++ [(q, .inl (cB, a0))]) H1 → va_D A (ws ++ [(q, .inl (cB, a0))]) → va_S A H0 H1 locs →
      W p l e R s m args below meth c H1 locs (cells + 1) (slots + N') Q (F0 m (pc + 2) ls (.ref q :: rest))) : W p l e R s m args below meth c H locs cells slots Q (F0 m pc ls (.int n :: rest)) := by
  refine va_newa hexec hb harr hty hK hP hD hS hA ha hn hN hbytes hcells hslots hdg (fun q cA H1 hK2 hP2 hD2 hS2 => ?_)
  have e : cA = cB := by
    have h1 := (hK.2 t0 _ ht).2
    have h2 := (hK2.2 tys.length (cA, ty) (by rw [List.getElem?_append_right (Nat.le_refl _), Nat.sub_self]; rfl)).2
    cases ty with
    | object C => exact absurd rfl (hob C)
    | _ => exact Option.some.inj (h2.symm.trans h1)
  subst e
  exact kk q H1 hP2 hD2 hS2
theorem c0_I (n : Nat) (cA : ClassId) : vp_cell cA (n, .inl (aN fun _ => 0)) = arrV cA n (fun _ => defaultValue .int) := rfl
theorem c0_J (n : Nat) (cA : ClassId) : vp_cell cA (n, .inr (.inl (aL fun _ => 0))) = arrV cA n (fun _ => defaultValue .long) := rfl
theorem c0_Z (n : Nat) (cA : ClassId) : vp_cell cA (n, .inl (aN fun _ => 0)) = arrV cA n (fun _ => defaultValue .boolean) := rfl
theorem va_newI {p : Program} {l : Launch} {e : Env} {R : Room} {s : State} {m : MethodId} {args : Array Value} {below : List Frame} {meth : Method} {c : Code} {H H0 : Heap} {locs : List Loc} {cells slots : Nat} {Q : State → Prop} {pc : Nat} {ls : Array Slot} {rest : List Value} {cc : ByteArray} {D : va_G} {cl : List vw_C} {tys : List (ClassId × FieldType)} {ws : va_W} {A : Nat → Prop}
    (hexec : p.tables.exec = Jvm.exec) (hb : c.code = cc) (harr : (Cond.arrayClass .int).before args s = true) (hK : va_K D cl tys s) (hP : va_P D cl ws H) (hD : va_D A ws) (hS : va_S A H0 H locs) (hA : ∀ q, H0.size ≤ q → A q)
    {n : Nat} (hn : n < 100000) (hcells : cells + 1 ≤ R.cells) (hslots : slots + n ≤ R.slots) (hdg : decode cc pc = .ok (.newarray .int, 2)) {t0 : Nat} {cB : ClassId} (ht : tys[t0]? = some (cB, .int))
    (kk : ∀ (q : Nat) (H1 : Heap), va_P D cl (ws ++ [(q, .inl (cB, n, .inl (aN fun _ => 0)))]) H1 → va_D A (ws ++ [(q, .inl (cB, n, .inl (aN fun _ => 0)))]) → va_S A H0 H1 locs →
      W p l e R s m args below meth c H1 locs (cells + 1) (slots + n) Q (F0 m (pc + 2) ls (.ref q :: rest))) : W p l e R s m args below meth c H locs cells slots Q (F0 m pc ls (.int (nI n) :: rest)) :=
  va_newQ (atype := .int) (ty := .int) (a0 := (n, .inl (aN fun _ => 0))) hexec hb harr rfl hK hP hD hS hA (c0_I n) (by rw [n0_lt (by omega)]; omega) (nI_clamp (by omega)) (by show n * 4 ≤ 536870912; omega) hcells hslots hdg ht (fun _ h => by cases h) kk
theorem va_newJ {p : Program} {l : Launch} {e : Env} {R : Room} {s : State} {m : MethodId} {args : Array Value} {below : List Frame} {meth : Method} {c : Code} {H H0 : Heap} {locs : List Loc} {cells slots : Nat} {Q : State → Prop} {pc : Nat} {ls : Array Slot} {rest : List Value} {cc : ByteArray} {D : va_G} {cl : List vw_C} {tys : List (ClassId × FieldType)} {ws : va_W} {A : Nat → Prop}
    (hexec : p.tables.exec = Jvm.exec) (hb : c.code = cc) (harr : (Cond.arrayClass .long).before args s = true) (hK : va_K D cl tys s) (hP : va_P D cl ws H) (hD : va_D A ws) (hS : va_S A H0 H locs) (hA : ∀ q, H0.size ≤ q → A q)
    {n : Nat} (hn : n < 100000) (hcells : cells + 1 ≤ R.cells) (hslots : slots + n ≤ R.slots) (hdg : decode cc pc = .ok (.newarray .long, 2)) {t0 : Nat} {cB : ClassId} (ht : tys[t0]? = some (cB, .long))
    (kk : ∀ (q : Nat) (H1 : Heap), va_P D cl (ws ++ [(q, .inl (cB, n, .inr (.inl (aL fun _ => 0))))]) H1 → va_D A (ws ++ [(q, .inl (cB, n, .inr (.inl (aL fun _ => 0))))]) → va_S A H0 H1 locs →
      W p l e R s m args below meth c H1 locs (cells + 1) (slots + n) Q (F0 m (pc + 2) ls (.ref q :: rest))) : W p l e R s m args below meth c H locs cells slots Q (F0 m pc ls (.int (nI n) :: rest)) :=
  va_newQ (atype := .long) (ty := .long) (a0 := (n, .inr (.inl (aL fun _ => 0)))) hexec hb harr rfl hK hP hD hS hA (c0_J n) (by rw [n0_lt (by omega)]; omega) (nI_clamp (by omega)) (by show n * 8 ≤ 536870912; omega) hcells hslots hdg ht (fun _ h => by cases h) kk
theorem va_newZ {p : Program} {l : Launch} {e : Env} {R : Room} {s : State} {m : MethodId} {args : Array Value} {below : List Frame} {meth : Method} {c : Code} {H H0 : Heap} {locs : List Loc} {cells slots : Nat} {Q : State → Prop} {pc : Nat} {ls : Array Slot} {rest : List Value} {cc : ByteArray} {D : va_G} {cl : List vw_C} {tys : List (ClassId × FieldType)} {ws : va_W} {A : Nat → Prop}
    (hexec : p.tables.exec = Jvm.exec) (hb : c.code = cc) (harr : (Cond.arrayClass .boolean).before args s = true) (hK : va_K D cl tys s) (hP : va_P D cl ws H) (hD : va_D A ws) (hS : va_S A H0 H locs) (hA : ∀ q, H0.size ≤ q → A q)
    {n : Nat} (hn : n < 100000) (hcells : cells + 1 ≤ R.cells) (hslots : slots + n ≤ R.slots) (hdg : decode cc pc = .ok (.newarray .boolean, 2)) {t0 : Nat} {cB : ClassId} (ht : tys[t0]? = some (cB, .boolean))
    (kk : ∀ (q : Nat) (H1 : Heap), va_P D cl (ws ++ [(q, .inl (cB, n, .inl (aN fun _ => 0)))]) H1 → va_D A (ws ++ [(q, .inl (cB, n, .inl (aN fun _ => 0)))]) → va_S A H0 H1 locs →
      W p l e R s m args below meth c H1 locs (cells + 1) (slots + n) Q (F0 m (pc + 2) ls (.ref q :: rest))) : W p l e R s m args below meth c H locs cells slots Q (F0 m pc ls (.int (nI n) :: rest)) :=
  va_newQ (atype := .boolean) (ty := .boolean) (a0 := (n, .inl (aN fun _ => 0))) hexec hb harr rfl hK hP hD hS hA (c0_Z n) (by rw [n0_lt (by omega)]; omega) (nI_clamp (by omega)) (by show n * 1 ≤ 536870912; omega) hcells hslots hdg ht (fun _ h => by cases h) kk
def tOK (ts tn : Nat) (rws lks : Nat → Nat) : Prop := ts ≤ 7 ∧ (0 < ts → simR ts (bAll ts) tn rws lks)
theorem tOK_p {ts tn k : Nat} {rws lks : Nat → Nat} (h : tOK ts tn rws lks) (hk : 1 ≤ k) (e : ts = k) : simR k (bAll k) tn rws lks := by
  subst e; exact h.2 hk
theorem tOK_y {k tn : Nat} {rws lks : Nat → Nat} (hk : k ≤ 7) (h : simR k (bAll k) tn rws lks) : tOK k tn rws lks := ⟨hk, fun _ => h⟩
theorem tOK_0 (tn : Nat) (rws lks : Nat → Nat) : tOK 0 tn rws lks := ⟨Nat.zero_le _, fun h => absurd h (Nat.lt_irrefl _)⟩
theorem ftZ_s {o : Option Nat} (h : 0 ≤ ftZ o) : ∃ x : Nat, o = some x ∧ ftZ o = (x : Int) := by
  cases o with
  | none => exact absurd h (by decide)
  | some x => exact ⟨x, rfl, rfl⟩
abbrev wP0 (pd : Nat) (vs : Value) (cnt : Nat) (rb : Nat) (sb : Nat) : va_W := [(pd, .inr (1, [vs, .int (nI cnt), .int (nI rb), .int (nI sb)]))]
abbrev wP1 (pd : Nat) (vs : Value) (cnt : Nat) (rb : Nat) (sb : Nat) (sg : Nat) (cI : ClassId) (g : Nat → Nat) : va_W := [(pd, .inr (1, [vs, .int (nI cnt), .int (nI rb), .int (nI sb)])), (sg, .inl (cI, 60, .inl (aN g)))]
abbrev wT0 (rt : Nat) (v0 : Value) (v1 : Value) (tn : Nat) (ts : Nat) (v4 : Value) (v5 : Value) (tq : Nat) : va_W := [(rt, .inr (2, [v0, v1, .int (nI tn), .int (nI ts), v4, v5, .int (nI tq)]))]
abbrev wT01 (rt : Nat) (v0 : Value) (v1 : Value) (tn : Nat) (ts : Nat) (v4 : Value) (v5 : Value) (tq : Nat) (r0 : Nat) (cI : ClassId) (rws : Nat → Nat) : va_W := [(rt, .inr (2, [v0, v1, .int (nI tn), .int (nI ts), v4, v5, .int (nI tq)])), (r0, .inl (cI, 5040, .inl (aN rws)))]
abbrev wT02 (rt : Nat) (v0 : Value) (v1 : Value) (tn : Nat) (ts : Nat) (v4 : Value) (v5 : Value) (tq : Nat) (r0 : Nat) (cI : ClassId) (rws : Nat → Nat) (r1 : Nat) (lks : Nat → Nat) : va_W := [(rt, .inr (2, [v0, v1, .int (nI tn), .int (nI ts), v4, v5, .int (nI tq)])), (r0, .inl (cI, 5040, .inl (aN rws))), (r1, .inl (cI, 5040, .inl (aN lks)))]
abbrev wT03 (rt : Nat) (v0 : Value) (v1 : Value) (tn : Nat) (ts : Nat) (v4 : Value) (v5 : Value) (tq : Nat) (r0 : Nat) (cI : ClassId) (rws : Nat → Nat) (r1 : Nat) (lks : Nat → Nat) (r4 : Nat) (cJ : ClassId) (mks : Nat → Nat) : va_W := [(rt, .inr (2, [v0, v1, .int (nI tn), .int (nI ts), v4, v5, .int (nI tq)])), (r0, .inl (cI, 5040, .inl (aN rws))), (r1, .inl (cI, 5040, .inl (aN lks))), (r4, .inl (cJ, 16384, .inr (.inl (aL mks))))]
abbrev wT04 (rt : Nat) (v0 : Value) (v1 : Value) (tn : Nat) (ts : Nat) (v4 : Value) (v5 : Value) (tq : Nat) (r0 : Nat) (cI : ClassId) (rws : Nat → Nat) (r1 : Nat) (lks : Nat → Nat) (r4 : Nat) (cJ : ClassId) (mks : Nat → Nat) (r5 : Nat) (qu : Nat → Nat) : va_W := [(rt, .inr (2, [v0, v1, .int (nI tn), .int (nI ts), v4, v5, .int (nI tq)])), (r0, .inl (cI, 5040, .inl (aN rws))), (r1, .inl (cI, 5040, .inl (aN lks))), (r4, .inl (cJ, 16384, .inr (.inl (aL mks)))), (r5, .inl (cI, 20160, .inl (aN qu)))]
abbrev wX0 (h : Nat) (f0 : Value) (f1 : Value) (f2 : Value) (k1 : Nat) (k2 : Nat) (f5 : Value) (rv : Value) : va_W := [(h, .inr (3, [f0, f1, f2, .int (nI k1), .int (nI k2), f5, rv]))]
abbrev wX01 (h : Nat) (f0 : Value) (f1 : Value) (f2 : Value) (k1 : Nat) (k2 : Nat) (f5 : Value) (rv : Value) (fl : Nat) (n : Nat) (N : Nat) (R : Nat) (q : Nat) (S : Nat) (c : Nat) : va_W := [(h, .inr (3, [f0, f1, f2, .int (nI k1), .int (nI k2), f5, rv])), (fl, .inr (0, [.int (nI n), .long (lN N), .int (nI R), .int (nI q), .long (lN S), .int (nI c)]))]
abbrev wX02 (h : Nat) (f0 : Value) (f1 : Value) (f2 : Value) (k1 : Nat) (k2 : Nat) (f5 : Value) (rv : Value) (fl : Nat) (n : Nat) (N : Nat) (R : Nat) (q : Nat) (S : Nat) (c : Nat) (e1 : Nat) (na : Nat) (Na : Nat) (Ra : Nat) (qa : Nat) (Sa : Nat) (ca : Nat) : va_W := [(h, .inr (3, [f0, f1, f2, .int (nI k1), .int (nI k2), f5, rv])), (fl, .inr (0, [.int (nI n), .long (lN N), .int (nI R), .int (nI q), .long (lN S), .int (nI c)])), (e1, .inr (0, [.int (nI na), .long (lN Na), .int (nI Ra), .int (nI qa), .long (lN Sa), .int (nI ca)]))]
abbrev wX03 (h : Nat) (f0 : Value) (f1 : Value) (f2 : Value) (k1 : Nat) (k2 : Nat) (f5 : Value) (rv : Value) (fl : Nat) (n : Nat) (N : Nat) (R : Nat) (q : Nat) (S : Nat) (c : Nat) (e1 : Nat) (na : Nat) (Na : Nat) (Ra : Nat) (qa : Nat) (Sa : Nat) (ca : Nat) (e2 : Nat) (nb : Nat) (Nb : Nat) (Rb : Nat) (qb : Nat) (Sb : Nat) (cb : Nat) : va_W := [(h, .inr (3, [f0, f1, f2, .int (nI k1), .int (nI k2), f5, rv])), (fl, .inr (0, [.int (nI n), .long (lN N), .int (nI R), .int (nI q), .long (lN S), .int (nI c)])), (e1, .inr (0, [.int (nI na), .long (lN Na), .int (nI Ra), .int (nI qa), .long (lN Sa), .int (nI ca)])), (e2, .inr (0, [.int (nI nb), .long (lN Nb), .int (nI Rb), .int (nI qb), .long (lN Sb), .int (nI cb)]))]
abbrev wX04 (h : Nat) (f0 : Value) (f1 : Value) (f2 : Value) (k1 : Nat) (k2 : Nat) (f5 : Value) (rv : Value) (fl : Nat) (n : Nat) (N : Nat) (R : Nat) (q : Nat) (S : Nat) (c : Nat) (e1 : Nat) (na : Nat) (Na : Nat) (Ra : Nat) (qa : Nat) (Sa : Nat) (ca : Nat) (e2 : Nat) (nb : Nat) (Nb : Nat) (Rb : Nat) (qb : Nat) (Sb : Nat) (cb : Nat) (pd : Nat) (vs : Value) (cnt : Nat) (rb : Nat) (sb : Nat) : va_W := [(h, .inr (3, [f0, f1, f2, .int (nI k1), .int (nI k2), f5, rv])), (fl, .inr (0, [.int (nI n), .long (lN N), .int (nI R), .int (nI q), .long (lN S), .int (nI c)])), (e1, .inr (0, [.int (nI na), .long (lN Na), .int (nI Ra), .int (nI qa), .long (lN Sa), .int (nI ca)])), (e2, .inr (0, [.int (nI nb), .long (lN Nb), .int (nI Rb), .int (nI qb), .long (lN Sb), .int (nI cb)])), (pd, .inr (1, [vs, .int (nI cnt), .int (nI rb), .int (nI sb)]))]
abbrev wX05 (h : Nat) (f0 : Value) (f1 : Value) (f2 : Value) (k1 : Nat) (k2 : Nat) (f5 : Value) (rv : Value) (fl : Nat) (n : Nat) (N : Nat) (R : Nat) (q : Nat) (S : Nat) (c : Nat) (e1 : Nat) (na : Nat) (Na : Nat) (Ra : Nat) (qa : Nat) (Sa : Nat) (ca : Nat) (e2 : Nat) (nb : Nat) (Nb : Nat) (Rb : Nat) (qb : Nat) (Sb : Nat) (cb : Nat) (pd : Nat) (cnt : Nat) (rb : Nat) (sb : Nat) (sg : Nat) (cI : ClassId) (g : Nat → Nat) : va_W := [(h, .inr (3, [f0, f1, f2, .int (nI k1), .int (nI k2), f5, rv])), (fl, .inr (0, [.int (nI n), .long (lN N), .int (nI R), .int (nI q), .long (lN S), .int (nI c)])), (e1, .inr (0, [.int (nI na), .long (lN Na), .int (nI Ra), .int (nI qa), .long (lN Sa), .int (nI ca)])), (e2, .inr (0, [.int (nI nb), .long (lN Nb), .int (nI Rb), .int (nI qb), .long (lN Sb), .int (nI cb)])), (pd, .inr (1, [.ref sg, .int (nI cnt), .int (nI rb), .int (nI sb)])), (sg, .inl (cI, 60, .inl (aN g)))]
abbrev wM0 (mo : Nat) (n : Nat) (q : Nat) (u0 : Value) (u1 : Value) (c : Nat) (u2 : Value) (w : Nat) (u3 : Value) (u4 : Value) (z : Nat) (ev : Nat) (u5 : Value) (u6 : Value) (u7 : Value) (u8 : Value) (u9 : Value) (u10 : Value) (u11 : Value) (u12 : Value) : va_W := [(mo, .inr (4, [.int (nI n), .int (nI q), u0, u1, .int (nI c), u2, .int (nI w), u3, u4, .int (nI z), .int (nI ev), u5, u6, u7, u8, u9, u10, u11, u12]))]
abbrev wM01 (mo : Nat) (n : Nat) (q : Nat) (u0 : Value) (u1 : Value) (c : Nat) (u2 : Value) (w : Nat) (u3 : Value) (u4 : Value) (z : Nat) (ev : Nat) (u5 : Value) (u6 : Value) (u7 : Value) (u8 : Value) (u9 : Value) (u10 : Value) (u11 : Value) (u12 : Value) (ma : Nat) (cI : ClassId) (num : Nat → Nat) : va_W := [(mo, .inr (4, [.int (nI n), .int (nI q), u0, u1, .int (nI c), u2, .int (nI w), u3, u4, .int (nI z), .int (nI ev), u5, u6, u7, u8, u9, u10, u11, u12])), (ma, .inl (cI, 7, .inl (aN num)))]
abbrev wM02 (mo : Nat) (n : Nat) (q : Nat) (u0 : Value) (u1 : Value) (c : Nat) (u2 : Value) (w : Nat) (u3 : Value) (u4 : Value) (z : Nat) (ev : Nat) (u5 : Value) (u6 : Value) (u7 : Value) (u8 : Value) (u9 : Value) (u10 : Value) (u11 : Value) (u12 : Value) (ma : Nat) (cI : ClassId) (num : Nat → Nat) (mb : Nat) (plc : Nat → Nat) : va_W := [(mo, .inr (4, [.int (nI n), .int (nI q), u0, u1, .int (nI c), u2, .int (nI w), u3, u4, .int (nI z), .int (nI ev), u5, u6, u7, u8, u9, u10, u11, u12])), (ma, .inl (cI, 7, .inl (aN num))), (mb, .inl (cI, 7, .inl (aN plc)))]
abbrev wM03 (mo : Nat) (n : Nat) (q : Nat) (u0 : Value) (u1 : Value) (c : Nat) (u2 : Value) (w : Nat) (u3 : Value) (u4 : Value) (z : Nat) (ev : Nat) (u5 : Value) (u6 : Value) (u7 : Value) (u8 : Value) (u9 : Value) (u10 : Value) (u11 : Value) (u12 : Value) (ma : Nat) (cI : ClassId) (num : Nat → Nat) (mb : Nat) (plc : Nat → Nat) (mc : Nat) (sig : Nat → Nat) : va_W := [(mo, .inr (4, [.int (nI n), .int (nI q), u0, u1, .int (nI c), u2, .int (nI w), u3, u4, .int (nI z), .int (nI ev), u5, u6, u7, u8, u9, u10, u11, u12])), (ma, .inl (cI, 7, .inl (aN num))), (mb, .inl (cI, 7, .inl (aN plc))), (mc, .inl (cI, 12, .inl (aN sig)))]
abbrev wM04 (mo : Nat) (n : Nat) (q : Nat) (u0 : Value) (u1 : Value) (c : Nat) (u2 : Value) (w : Nat) (u3 : Value) (u4 : Value) (z : Nat) (ev : Nat) (u5 : Value) (u6 : Value) (u7 : Value) (u8 : Value) (u9 : Value) (u10 : Value) (u11 : Value) (u12 : Value) (ma : Nat) (cI : ClassId) (num : Nat → Nat) (mb : Nat) (plc : Nat → Nat) (mc : Nat) (sig : Nat → Nat) (md : Nat) (pad : Nat → Nat) : va_W := [(mo, .inr (4, [.int (nI n), .int (nI q), u0, u1, .int (nI c), u2, .int (nI w), u3, u4, .int (nI z), .int (nI ev), u5, u6, u7, u8, u9, u10, u11, u12])), (ma, .inl (cI, 7, .inl (aN num))), (mb, .inl (cI, 7, .inl (aN plc))), (mc, .inl (cI, 12, .inl (aN sig))), (md, .inl (cI, 60, .inl (aN pad)))]
abbrev wM05 (mo : Nat) (n : Nat) (q : Nat) (u0 : Value) (u1 : Value) (c : Nat) (u2 : Value) (w : Nat) (u3 : Value) (u4 : Value) (z : Nat) (ev : Nat) (u5 : Value) (u6 : Value) (u7 : Value) (u8 : Value) (u9 : Value) (u10 : Value) (u11 : Value) (u12 : Value) (ma : Nat) (cI : ClassId) (num : Nat → Nat) (mb : Nat) (plc : Nat → Nat) (mc : Nat) (sig : Nat → Nat) (md : Nat) (pad : Nat → Nat) (me : Nat) (row : Nat → Nat) : va_W := [(mo, .inr (4, [.int (nI n), .int (nI q), u0, u1, .int (nI c), u2, .int (nI w), u3, u4, .int (nI z), .int (nI ev), u5, u6, u7, u8, u9, u10, u11, u12])), (ma, .inl (cI, 7, .inl (aN num))), (mb, .inl (cI, 7, .inl (aN plc))), (mc, .inl (cI, 12, .inl (aN sig))), (md, .inl (cI, 60, .inl (aN pad))), (me, .inl (cI, 8, .inl (aN row)))]
abbrev wM06 (mo : Nat) (n : Nat) (q : Nat) (u0 : Value) (u1 : Value) (c : Nat) (u2 : Value) (w : Nat) (u3 : Value) (u4 : Value) (z : Nat) (ev : Nat) (u5 : Value) (u6 : Value) (u7 : Value) (u8 : Value) (u9 : Value) (u10 : Value) (u11 : Value) (u12 : Value) (ma : Nat) (cI : ClassId) (num : Nat → Nat) (mb : Nat) (plc : Nat → Nat) (mc : Nat) (sig : Nat → Nat) (md : Nat) (pad : Nat → Nat) (me : Nat) (row : Nat → Nat) (mf : Nat) (dig : Nat → Nat) : va_W := [(mo, .inr (4, [.int (nI n), .int (nI q), u0, u1, .int (nI c), u2, .int (nI w), u3, u4, .int (nI z), .int (nI ev), u5, u6, u7, u8, u9, u10, u11, u12])), (ma, .inl (cI, 7, .inl (aN num))), (mb, .inl (cI, 7, .inl (aN plc))), (mc, .inl (cI, 12, .inl (aN sig))), (md, .inl (cI, 60, .inl (aN pad))), (me, .inl (cI, 8, .inl (aN row))), (mf, .inl (cI, 7, .inl (aN dig)))]
abbrev wM07 (mo : Nat) (n : Nat) (q : Nat) (u0 : Value) (u1 : Value) (c : Nat) (u2 : Value) (w : Nat) (u3 : Value) (u4 : Value) (z : Nat) (ev : Nat) (u5 : Value) (u6 : Value) (u7 : Value) (u8 : Value) (u9 : Value) (u10 : Value) (u11 : Value) (u12 : Value) (ma : Nat) (cI : ClassId) (num : Nat → Nat) (mb : Nat) (plc : Nat → Nat) (mc : Nat) (sig : Nat → Nat) (md : Nat) (pad : Nat → Nat) (me : Nat) (row : Nat → Nat) (mf : Nat) (dig : Nat → Nat) (mg : Nat) (far : Nat → Int32) : va_W := [(mo, .inr (4, [.int (nI n), .int (nI q), u0, u1, .int (nI c), u2, .int (nI w), u3, u4, .int (nI z), .int (nI ev), u5, u6, u7, u8, u9, u10, u11, u12])), (ma, .inl (cI, 7, .inl (aN num))), (mb, .inl (cI, 7, .inl (aN plc))), (mc, .inl (cI, 12, .inl (aN sig))), (md, .inl (cI, 60, .inl (aN pad))), (me, .inl (cI, 8, .inl (aN row))), (mf, .inl (cI, 7, .inl (aN dig))), (mg, .inl (cI, 5040, .inl far))]
abbrev wM08 (mo : Nat) (n : Nat) (q : Nat) (u0 : Value) (u1 : Value) (c : Nat) (u2 : Value) (w : Nat) (u3 : Value) (u4 : Value) (z : Nat) (ev : Nat) (u5 : Value) (u6 : Value) (u7 : Value) (u8 : Value) (u9 : Value) (u10 : Value) (u11 : Value) (u12 : Value) (ma : Nat) (cI : ClassId) (num : Nat → Nat) (mb : Nat) (plc : Nat → Nat) (mc : Nat) (sig : Nat → Nat) (md : Nat) (pad : Nat → Nat) (me : Nat) (row : Nat → Nat) (mf : Nat) (dig : Nat → Nat) (mg : Nat) (far : Nat → Int32) (mh : Nat) (cfr : Nat → Nat) : va_W := [(mo, .inr (4, [.int (nI n), .int (nI q), u0, u1, .int (nI c), u2, .int (nI w), u3, u4, .int (nI z), .int (nI ev), u5, u6, u7, u8, u9, u10, u11, u12])), (ma, .inl (cI, 7, .inl (aN num))), (mb, .inl (cI, 7, .inl (aN plc))), (mc, .inl (cI, 12, .inl (aN sig))), (md, .inl (cI, 60, .inl (aN pad))), (me, .inl (cI, 8, .inl (aN row))), (mf, .inl (cI, 7, .inl (aN dig))), (mg, .inl (cI, 5040, .inl far)), (mh, .inl (cI, 5040, .inl (aN cfr)))]
abbrev wM09 (mo : Nat) (n : Nat) (q : Nat) (u0 : Value) (u1 : Value) (c : Nat) (u2 : Value) (w : Nat) (u3 : Value) (u4 : Value) (z : Nat) (ev : Nat) (u5 : Value) (u6 : Value) (u7 : Value) (u8 : Value) (u9 : Value) (u10 : Value) (u11 : Value) (u12 : Value) (ma : Nat) (cI : ClassId) (num : Nat → Nat) (mb : Nat) (plc : Nat → Nat) (mc : Nat) (sig : Nat → Nat) (md : Nat) (pad : Nat → Nat) (me : Nat) (row : Nat → Nat) (mf : Nat) (dig : Nat → Nat) (mg : Nat) (far : Nat → Int32) (mh : Nat) (cfr : Nat → Nat) (mi : Nat) (cby : Nat → Nat) : va_W := [(mo, .inr (4, [.int (nI n), .int (nI q), u0, u1, .int (nI c), u2, .int (nI w), u3, u4, .int (nI z), .int (nI ev), u5, u6, u7, u8, u9, u10, u11, u12])), (ma, .inl (cI, 7, .inl (aN num))), (mb, .inl (cI, 7, .inl (aN plc))), (mc, .inl (cI, 12, .inl (aN sig))), (md, .inl (cI, 60, .inl (aN pad))), (me, .inl (cI, 8, .inl (aN row))), (mf, .inl (cI, 7, .inl (aN dig))), (mg, .inl (cI, 5040, .inl far)), (mh, .inl (cI, 5040, .inl (aN cfr))), (mi, .inl (cI, 5040, .inl (aN cby)))]
abbrev wM010 (mo : Nat) (n : Nat) (q : Nat) (u0 : Value) (u1 : Value) (c : Nat) (u2 : Value) (w : Nat) (u3 : Value) (u4 : Value) (z : Nat) (ev : Nat) (u5 : Value) (u6 : Value) (u7 : Value) (u8 : Value) (u9 : Value) (u10 : Value) (u11 : Value) (u12 : Value) (ma : Nat) (cI : ClassId) (num : Nat → Nat) (mb : Nat) (plc : Nat → Nat) (mc : Nat) (sig : Nat → Nat) (md : Nat) (pad : Nat → Nat) (me : Nat) (row : Nat → Nat) (mf : Nat) (dig : Nat → Nat) (mg : Nat) (far : Nat → Int32) (mh : Nat) (cfr : Nat → Nat) (mi : Nat) (cby : Nat → Nat) (mj : Nat) (que : Nat → Nat) : va_W := [(mo, .inr (4, [.int (nI n), .int (nI q), u0, u1, .int (nI c), u2, .int (nI w), u3, u4, .int (nI z), .int (nI ev), u5, u6, u7, u8, u9, u10, u11, u12])), (ma, .inl (cI, 7, .inl (aN num))), (mb, .inl (cI, 7, .inl (aN plc))), (mc, .inl (cI, 12, .inl (aN sig))), (md, .inl (cI, 60, .inl (aN pad))), (me, .inl (cI, 8, .inl (aN row))), (mf, .inl (cI, 7, .inl (aN dig))), (mg, .inl (cI, 5040, .inl far)), (mh, .inl (cI, 5040, .inl (aN cfr))), (mi, .inl (cI, 5040, .inl (aN cby))), (mj, .inl (cI, 5040, .inl (aN que)))]
abbrev wM011 (mo : Nat) (n : Nat) (q : Nat) (u0 : Value) (u1 : Value) (c : Nat) (u2 : Value) (w : Nat) (u3 : Value) (u4 : Value) (z : Nat) (ev : Nat) (u5 : Value) (u6 : Value) (u7 : Value) (u8 : Value) (u9 : Value) (u10 : Value) (u11 : Value) (u12 : Value) (ma : Nat) (cI : ClassId) (num : Nat → Nat) (mb : Nat) (plc : Nat → Nat) (mc : Nat) (sig : Nat → Nat) (md : Nat) (pad : Nat → Nat) (me : Nat) (row : Nat → Nat) (mf : Nat) (dig : Nat → Nat) (mg : Nat) (far : Nat → Int32) (mh : Nat) (cfr : Nat → Nat) (mi : Nat) (cby : Nat → Nat) (mj : Nat) (que : Nat → Nat) (mk : Nat) (has : Nat → Nat) : va_W := [(mo, .inr (4, [.int (nI n), .int (nI q), u0, u1, .int (nI c), u2, .int (nI w), u3, u4, .int (nI z), .int (nI ev), u5, u6, u7, u8, u9, u10, u11, u12])), (ma, .inl (cI, 7, .inl (aN num))), (mb, .inl (cI, 7, .inl (aN plc))), (mc, .inl (cI, 12, .inl (aN sig))), (md, .inl (cI, 60, .inl (aN pad))), (me, .inl (cI, 8, .inl (aN row))), (mf, .inl (cI, 7, .inl (aN dig))), (mg, .inl (cI, 5040, .inl far)), (mh, .inl (cI, 5040, .inl (aN cfr))), (mi, .inl (cI, 5040, .inl (aN cby))), (mj, .inl (cI, 5040, .inl (aN que))), (mk, .inl (cI, 64, .inl (aN has)))]
abbrev wM012 (mo : Nat) (n : Nat) (q : Nat) (u0 : Value) (u1 : Value) (c : Nat) (u2 : Value) (w : Nat) (u3 : Value) (u4 : Value) (z : Nat) (ev : Nat) (u5 : Value) (u6 : Value) (u7 : Value) (u8 : Value) (u9 : Value) (u10 : Value) (u11 : Value) (u12 : Value) (ma : Nat) (cI : ClassId) (num : Nat → Nat) (mb : Nat) (plc : Nat → Nat) (mc : Nat) (sig : Nat → Nat) (md : Nat) (pad : Nat → Nat) (me : Nat) (row : Nat → Nat) (mf : Nat) (dig : Nat → Nat) (mg : Nat) (far : Nat → Int32) (mh : Nat) (cfr : Nat → Nat) (mi : Nat) (cby : Nat → Nat) (mj : Nat) (que : Nat → Nat) (mk : Nat) (has : Nat → Nat) (ml : Nat) (img : Nat → Nat) : va_W := [(mo, .inr (4, [.int (nI n), .int (nI q), u0, u1, .int (nI c), u2, .int (nI w), u3, u4, .int (nI z), .int (nI ev), u5, u6, u7, u8, u9, u10, u11, u12])), (ma, .inl (cI, 7, .inl (aN num))), (mb, .inl (cI, 7, .inl (aN plc))), (mc, .inl (cI, 12, .inl (aN sig))), (md, .inl (cI, 60, .inl (aN pad))), (me, .inl (cI, 8, .inl (aN row))), (mf, .inl (cI, 7, .inl (aN dig))), (mg, .inl (cI, 5040, .inl far)), (mh, .inl (cI, 5040, .inl (aN cfr))), (mi, .inl (cI, 5040, .inl (aN cby))), (mj, .inl (cI, 5040, .inl (aN que))), (mk, .inl (cI, 64, .inl (aN has))), (ml, .inl (cI, 64, .inl (aN img)))]
abbrev wM013 (mo : Nat) (n : Nat) (q : Nat) (u0 : Value) (u1 : Value) (c : Nat) (u2 : Value) (w : Nat) (u3 : Value) (u4 : Value) (z : Nat) (ev : Nat) (u5 : Value) (u6 : Value) (u7 : Value) (u8 : Value) (u9 : Value) (u10 : Value) (u11 : Value) (u12 : Value) (ma : Nat) (cI : ClassId) (num : Nat → Nat) (mb : Nat) (plc : Nat → Nat) (mc : Nat) (sig : Nat → Nat) (md : Nat) (pad : Nat → Nat) (me : Nat) (row : Nat → Nat) (mf : Nat) (dig : Nat → Nat) (mg : Nat) (far : Nat → Int32) (mh : Nat) (cfr : Nat → Nat) (mi : Nat) (cby : Nat → Nat) (mj : Nat) (que : Nat → Nat) (mk : Nat) (has : Nat → Nat) (ml : Nat) (img : Nat → Nat) (mn : Nat) (cZ : ClassId) (kep : Nat → Nat) : va_W := [(mo, .inr (4, [.int (nI n), .int (nI q), u0, u1, .int (nI c), u2, .int (nI w), u3, u4, .int (nI z), .int (nI ev), u5, u6, u7, u8, u9, u10, u11, u12])), (ma, .inl (cI, 7, .inl (aN num))), (mb, .inl (cI, 7, .inl (aN plc))), (mc, .inl (cI, 12, .inl (aN sig))), (md, .inl (cI, 60, .inl (aN pad))), (me, .inl (cI, 8, .inl (aN row))), (mf, .inl (cI, 7, .inl (aN dig))), (mg, .inl (cI, 5040, .inl far)), (mh, .inl (cI, 5040, .inl (aN cfr))), (mi, .inl (cI, 5040, .inl (aN cby))), (mj, .inl (cI, 5040, .inl (aN que))), (mk, .inl (cI, 64, .inl (aN has))), (ml, .inl (cI, 64, .inl (aN img))), (mn, .inl (cZ, 2, .inl (aN kep)))]
abbrev wY (h : Nat) (fl : Nat) (e1 : Nat) (e2 : Nat) (pd : Nat) (sg : Nat) (cI : ClassId) (k1 : Nat) (k2 : Nat) (rv : Value) (n : Nat) (N : Nat) (R : Nat) (q : Nat) (S : Nat) (c : Nat) (na : Nat) (Na : Nat) (Ra : Nat) (qa : Nat) (Sa : Nat) (ca : Nat) (nb : Nat) (Nb : Nat) (Rb : Nat) (qb : Nat) (Sb : Nat) (cb : Nat) (cnt : Nat) (rb : Nat) (sb : Nat) (g : Nat → Nat) (rt : Nat) (r0 : Nat) (r1 : Nat) (r4 : Nat) (r5 : Nat) (cJ : ClassId) (tn : Nat) (ts : Nat) (tq : Nat) (rws : Nat → Nat) (lks : Nat → Nat) (mks : Nat → Nat) (qu : Nat → Nat) : va_W := [(h, .inr (3, [.ref fl, .ref e1, .ref e2, .int (nI k1), .int (nI k2), .ref pd, rv])), (fl, .inr (0, [.int (nI n), .long (lN N), .int (nI R), .int (nI q), .long (lN S), .int (nI c)])), (e1, .inr (0, [.int (nI na), .long (lN Na), .int (nI Ra), .int (nI qa), .long (lN Sa), .int (nI ca)])), (e2, .inr (0, [.int (nI nb), .long (lN Nb), .int (nI Rb), .int (nI qb), .long (lN Sb), .int (nI cb)])), (pd, .inr (1, [.ref sg, .int (nI cnt), .int (nI rb), .int (nI sb)])), (sg, .inl (cI, 60, .inl (aN g))), (rt, .inr (2, [.ref r0, .ref r1, .int (nI tn), .int (nI ts), .ref r4, .ref r5, .int (nI tq)])), (r0, .inl (cI, 5040, .inl (aN rws))), (r1, .inl (cI, 5040, .inl (aN lks))), (r4, .inl (cJ, 16384, .inr (.inl (aL mks)))), (r5, .inl (cI, 20160, .inl (aN qu)))]
abbrev wY0 (h : Nat) (fl : Nat) (e1 : Nat) (e2 : Nat) (pd : Nat) (sg : Nat) (cI : ClassId) (k1 : Nat) (k2 : Nat) (rv : Value) (n : Nat) (N : Nat) (R : Nat) (q : Nat) (S : Nat) (c : Nat) (na : Nat) (Na : Nat) (Ra : Nat) (qa : Nat) (Sa : Nat) (ca : Nat) (nb : Nat) (Nb : Nat) (Rb : Nat) (qb : Nat) (Sb : Nat) (cb : Nat) (cnt : Nat) (rb : Nat) (sb : Nat) (g : Nat → Nat) (rt : Nat) (v0 : Value) (v1 : Value) (tn : Nat) (ts : Nat) (v4 : Value) (v5 : Value) (tq : Nat) : va_W := [(h, .inr (3, [.ref fl, .ref e1, .ref e2, .int (nI k1), .int (nI k2), .ref pd, rv])), (fl, .inr (0, [.int (nI n), .long (lN N), .int (nI R), .int (nI q), .long (lN S), .int (nI c)])), (e1, .inr (0, [.int (nI na), .long (lN Na), .int (nI Ra), .int (nI qa), .long (lN Sa), .int (nI ca)])), (e2, .inr (0, [.int (nI nb), .long (lN Nb), .int (nI Rb), .int (nI qb), .long (lN Sb), .int (nI cb)])), (pd, .inr (1, [.ref sg, .int (nI cnt), .int (nI rb), .int (nI sb)])), (sg, .inl (cI, 60, .inl (aN g))), (rt, .inr (2, [v0, v1, .int (nI tn), .int (nI ts), v4, v5, .int (nI tq)]))]
set_option maxHeartbeats 4000000 in
set_option maxRecDepth 100000 in
theorem kX1_init (Gl : Launch) (D : va_G) (cI cJ cZ : ClassId) (fl : Nat) (n : Nat) (N : Nat) (R : Nat) (q : Nat) (S : Nat) (c : Nat) (sz : Nat) : Met Gl yX1_init wsX1_init ({ frames := 1, cells := 0, slots := 0, locals := 20 } : Room) (va_Pc [.ref fl] (fun U => U.heap.size = sz ∧ va_P D vwCl (wF fl n N R q S c) U.heap ∧ va_K D vwCl [(cI, .int), (cJ, .long), (cZ, .boolean)] U ∧ va_D (fun _ => True) (wF fl n N R q S c))) (va_Qv (fun u : Unit => True) (fun (u : Unit) t => va_P D vwCl (wF fl 0 0 0 0 0 0) t.heap ∧ va_K D vwCl [(cI, .int), (cJ, .long), (cZ, .boolean)] t ∧ va_D (va_A (wF fl n N R q S c) sz) (wF fl 0 0 0 0 0 0)) (va_A (wF fl n N R q S c) sz)) 0 0 (va_A (wF fl n N R q S c) sz) := by
  refine Met.ofW (cc := cX1_init) (maxL := 1) (ret := none) (by decide +kernel) rfl ?_
  intro Gp Ge Gs Gm Ga Gw Gt Gc G1 Bd gml gv
  obtain ⟨rfl, hsz, hP, hK, hD0⟩ := gv
  have gx := Bd.exec
  have gb := Bd.bytes
  have gr := Bd.returns
  have gts := atoms_spec (ws := wsX1_init) Bd.pre
  have gown : Gs.vm.findClass RX1 = some Gm.cls := findClass_of_methodNamed Bd.named
  have glk := Bd.notSynchronized
  have gin : Gt.name = "<init>" := (name_of_methodNamed Bd.named Bd.method).1
  subst hsz
  have hD := hD0.self (sz := Gs.heap.size)
  generalize hAe : va_A (wF fl n N R q S c) Gs.heap.size = A at hD ⊢
  have hA : ∀ q : Nat, Gs.heap.size ≤ q → A q := fun q h => by rw [← hAe]; exact Or.inr h
  have hS : va_S A Gs.heap Gs.heap [] := va_S.rf
  have hP : va_P D vwCl (wF fl n N R q S c) Gs.heap := hP
  have hl := lv_entry ([.ref fl]) (n := 1) (Nat.le_of_ble_eq_true rfl)
  rw [lg_entry_eq]
  generalize (lg_sl ([.ref fl]) ++ List.replicate (1 - (lg_sl ([.ref fl])).length) Slot.unset).toArray = ls at hl ⊢
  have hl : lv_has ls 1 [(0, .ref fl)] := hl
  have i1 : ∀ w ∈ wsX10, w ∈ wsX1_init := by decide +kernel
  refine lv_aload_n gx gb dX1_init_0 rfl (lv_at hl 0 rfl) ?_
  refine W.objInit gx gb gown (gts (.methodLink RX1 1 objectInit) (by decide +kernel)) (gts (.instanceMethod objectInit) (by decide +kernel)) (gts (.code objectInit ⟨#[0xb1]⟩ 1 none) (by decide +kernel)) rfl (by rw [gml]; exact hl.1) rfl dX1_init_1 (Nat.le_of_ble_eq_true rfl) (Nat.le_of_ble_eq_true rfl) ?_
  refine W.eq (g2 := F0 Gm 4 ls []) rfl ?_
  refine lv_aload_n gx gb dX1_init_4 rfl (lv_at hl 0 rfl) ?_
  refine lv_iconst (v := nI 0) gx gb dX1_init_5 (by decide) ?_
  refine va_put (D := D) (ci := 0) (v := .int (nI 0)) (ty := .int) (C := RX1) (T := TX1) (N := 6) gx gb gts i1 tyX1 tyX1_ok nmX1 gown hK hP hD hS 0 rfl rfl 0 (by decide) (gts (.fieldLink RX1 7 "SwanSums$Flock" "all" "I") (by decide +kernel)) (fun _ h9 => h9) rfl (by decide +kernel) rfl rfl (Nat.le_of_ble_eq_true rfl) dX1_init_6 (fun H locs hP hD hS => ?_)
  have hP : va_P D vwCl (wF fl 0 N R q S c) H := hP
  have hD : va_D A (wF fl 0 N R q S c) := hD
  refine lv_aload_n gx gb dX1_init_9 rfl (lv_at hl 0 rfl) ?_
  refine lv_lconst (v := lN 0) gx gb dX1_init_10 rfl ?_
  refine va_put (D := D) (ci := 0) (v := .long (lN 0)) (ty := .long) (C := RX1) (T := TX1) (N := 6) gx gb gts i1 tyX1 tyX1_ok nmX1 gown hK hP hD hS 0 rfl rfl 1 (by decide) (gts (.fieldLink RX1 13 "SwanSums$Flock" "numbers" "J") (by decide +kernel)) (fun _ h9 => h9) rfl (by decide +kernel) rfl rfl (Nat.le_of_ble_eq_true rfl) dX1_init_11 (fun H locs hP hD hS => ?_)
  have hP : va_P D vwCl (wF fl 0 0 R q S c) H := hP
  have hD : va_D A (wF fl 0 0 R q S c) := hD
  refine lv_aload_n gx gb dX1_init_14 rfl (lv_at hl 0 rfl) ?_
  refine lv_iconst (v := nI 0) gx gb dX1_init_15 (by decide) ?_
  refine va_put (D := D) (ci := 0) (v := .int (nI 0)) (ty := .int) (C := RX1) (T := TX1) (N := 6) gx gb gts i1 tyX1 tyX1_ok nmX1 gown hK hP hD hS 0 rfl rfl 2 (by decide) (gts (.fieldLink RX1 17 "SwanSums$Flock" "row" "I") (by decide +kernel)) (fun _ h9 => h9) rfl (by decide +kernel) rfl rfl (Nat.le_of_ble_eq_true rfl) dX1_init_16 (fun H locs hP hD hS => ?_)
  have hP : va_P D vwCl (wF fl 0 0 0 q S c) H := hP
  have hD : va_D A (wF fl 0 0 0 q S c) := hD
  refine lv_aload_n gx gb dX1_init_19 rfl (lv_at hl 0 rfl) ?_
  refine lv_iconst (v := nI 0) gx gb dX1_init_20 (by decide) ?_
  refine va_put (D := D) (ci := 0) (v := .int (nI 0)) (ty := .int) (C := RX1) (T := TX1) (N := 6) gx gb gts i1 tyX1 tyX1_ok nmX1 gown hK hP hD hS 0 rfl rfl 3 (by decide) (gts (.fieldLink RX1 20 "SwanSums$Flock" "size" "I") (by decide +kernel)) (fun _ h9 => h9) rfl (by decide +kernel) rfl rfl (Nat.le_of_ble_eq_true rfl) dX1_init_21 (fun H locs hP hD hS => ?_)
  have hP : va_P D vwCl (wF fl 0 0 0 0 S c) H := hP
  have hD : va_D A (wF fl 0 0 0 0 S c) := hD
  refine lv_aload_n gx gb dX1_init_24 rfl (lv_at hl 0 rfl) ?_
  refine lv_lconst (v := lN 0) gx gb dX1_init_25 rfl ?_
  refine va_put (D := D) (ci := 0) (v := .long (lN 0)) (ty := .long) (C := RX1) (T := TX1) (N := 6) gx gb gts i1 tyX1 tyX1_ok nmX1 gown hK hP hD hS 0 rfl rfl 4 (by decide) (gts (.fieldLink RX1 23 "SwanSums$Flock" "sights" "J") (by decide +kernel)) (fun _ h9 => h9) rfl (by decide +kernel) rfl rfl (Nat.le_of_ble_eq_true rfl) dX1_init_26 (fun H locs hP hD hS => ?_)
  have hP : va_P D vwCl (wF fl 0 0 0 0 0 c) H := hP
  have hD : va_D A (wF fl 0 0 0 0 0 c) := hD
  refine lv_aload_n gx gb dX1_init_29 rfl (lv_at hl 0 rfl) ?_
  refine lv_iconst (v := nI 0) gx gb dX1_init_30 (by decide) ?_
  refine va_put (D := D) (ci := 0) (v := .int (nI 0)) (ty := .int) (C := RX1) (T := TX1) (N := 6) gx gb gts i1 tyX1 tyX1_ok nmX1 gown hK hP hD hS 0 rfl rfl 5 (by decide) (gts (.fieldLink RX1 26 "SwanSums$Flock" "sightCount" "I") (by decide +kernel)) (fun _ h9 => h9) rfl (by decide +kernel) rfl rfl (Nat.le_of_ble_eq_true rfl) dX1_init_31 (fun H locs hP hD hS => ?_)
  have hP : va_P D vwCl (wF fl 0 0 0 0 0 0) H := hP
  have hD : va_D A (wF fl 0 0 0 0 0 0) := hD
  exact W.vret gx gb gr (fun t ht hW => ⟨⟨(), rfl, (by first | (dsimp only; done) | ((try dsimp only); trivial)), by rw [ht]; exact hP, va_K.moved hW.alike hK, hD⟩, hS.F ht⟩) hS.2.2 dX1_init_34

set_option maxHeartbeats 4000000 in
set_option maxRecDepth 100000 in
theorem kX4_init (Gl : Launch) (D : va_G) (cI cJ cZ : ClassId) (pd : Nat) (vs : Value) (cnt : Nat) (rb : Nat) (sb : Nat) (sz : Nat) : Met Gl yX4_init wsX4_init ({ frames := 1, cells := 1, slots := 60, locals := 20 } : Room) (va_Pc [.ref pd] (fun U => U.heap.size = sz ∧ va_P D vwCl (wP0 pd vs cnt rb sb) U.heap ∧ va_K D vwCl [(cI, .int), (cJ, .long), (cZ, .boolean)] U ∧ va_D (fun _ => True) (wP0 pd vs cnt rb sb))) (va_Qv (fun u : (Nat) => True) (fun (u : (Nat)) t => va_P D vwCl (wP pd u cI 0 0 0 (fun _ => 0)) t.heap ∧ va_K D vwCl [(cI, .int), (cJ, .long), (cZ, .boolean)] t ∧ va_D (va_A (wP0 pd vs cnt rb sb) sz) (wP pd u cI 0 0 0 (fun _ => 0))) (va_A (wP0 pd vs cnt rb sb) sz)) 1 60 (va_A (wP0 pd vs cnt rb sb) sz) := by
  refine Met.ofW (cc := cX4_init) (maxL := 1) (ret := none) (by decide +kernel) rfl ?_
  intro Gp Ge Gs Gm Ga Gw Gt Gc G1 Bd gml gv
  obtain ⟨rfl, hsz, hP, hK, hD0⟩ := gv
  have gx := Bd.exec
  have gb := Bd.bytes
  have gr := Bd.returns
  have gts := atoms_spec (ws := wsX4_init) Bd.pre
  have gown : Gs.vm.findClass RX4 = some Gm.cls := findClass_of_methodNamed Bd.named
  have glk := Bd.notSynchronized
  have gin : Gt.name = "<init>" := (name_of_methodNamed Bd.named Bd.method).1
  subst hsz
  have hD := hD0.self (sz := Gs.heap.size)
  generalize hAe : va_A (wP0 pd vs cnt rb sb) Gs.heap.size = A at hD ⊢
  have hA : ∀ q : Nat, Gs.heap.size ≤ q → A q := fun q h => by rw [← hAe]; exact Or.inr h
  have hS : va_S A Gs.heap Gs.heap [] := va_S.rf
  have hP : va_P D vwCl (wP0 pd vs cnt rb sb) Gs.heap := hP
  have hl := lv_entry ([.ref pd]) (n := 1) (Nat.le_of_ble_eq_true rfl)
  rw [lg_entry_eq]
  generalize (lg_sl ([.ref pd]) ++ List.replicate (1 - (lg_sl ([.ref pd])).length) Slot.unset).toArray = ls at hl ⊢
  have hl : lv_has ls 1 [(0, .ref pd)] := hl
  have i4 : ∀ w ∈ wsX40, w ∈ wsX4_init := by decide +kernel
  refine lv_aload_n gx gb dX4_init_0 rfl (lv_at hl 0 rfl) ?_
  refine W.objInit gx gb gown (gts (.methodLink RX4 3 objectInit) (by decide +kernel)) (gts (.instanceMethod objectInit) (by decide +kernel)) (gts (.code objectInit ⟨#[0xb1]⟩ 1 none) (by decide +kernel)) rfl (by rw [gml]; exact hl.1) rfl dX4_init_1 (Nat.le_of_ble_eq_true rfl) (Nat.le_of_ble_eq_true rfl) ?_
  refine W.eq (g2 := F0 Gm 4 ls []) rfl ?_
  refine lv_aload_n gx gb dX4_init_4 rfl (lv_at hl 0 rfl) ?_
  refine lv_bipush (v := nI 60) gx gb dX4_init_5 (by decide) ?_
  refine va_newI gx gb (gts (.arrayClass .int) (by decide +kernel)) hK hP hD hS hA (n := 60) (by decide) (Nat.le_of_ble_eq_true rfl) (Nat.le_of_ble_eq_true rfl) dX4_init_7 (t0 := 0) (cB := cI) rfl (fun q7 H hP hD hS => ?_)
  have hP : va_P D vwCl (wP1 pd vs cnt rb sb q7 cI (fun _ => 0)) H := hP
  have hD : va_D A (wP1 pd vs cnt rb sb q7 cI (fun _ => 0)) := hD
  refine W.widen (k := 1) (n := 60) (Nat.le_of_ble_eq_true rfl) (Nat.le_of_ble_eq_true rfl) ?_
  refine va_putF (D := D) (ci := 1) (v := .ref q7) (ty := (.array .int)) (C := RX4) (T := TX4) (N := 4) gx gb gts i4 tyX4 tyX4_ok nmX4 gown hK hP hD hS 0 rfl rfl 0 (by decide) (gts (.fieldLink RX4 11 "SwanSums$Pad" "signs" "[I") (by decide +kernel)) (fun _ h9 => h9) rfl gin rfl (by decide +kernel) rfl rfl (Nat.le_of_ble_eq_true rfl) dX4_init_9 (fun H locs hP hD hS => ?_)
  have hP : va_P D vwCl (wP1 pd (.ref q7) cnt rb sb q7 cI (fun _ => 0)) H := hP
  have hD : va_D A (wP1 pd (.ref q7) cnt rb sb q7 cI (fun _ => 0)) := hD
  refine lv_aload_n gx gb dX4_init_12 rfl (lv_at hl 0 rfl) ?_
  refine lv_iconst (v := nI 0) gx gb dX4_init_13 (by decide) ?_
  refine va_put (D := D) (ci := 1) (v := .int (nI 0)) (ty := .int) (C := RX4) (T := TX4) (N := 4) gx gb gts i4 tyX4 tyX4_ok nmX4 gown hK hP hD hS 0 rfl rfl 1 (by decide) (gts (.fieldLink RX4 15 "SwanSums$Pad" "count" "I") (by decide +kernel)) (fun _ h9 => h9) rfl (by decide +kernel) rfl rfl (Nat.le_of_ble_eq_true rfl) dX4_init_14 (fun H locs hP hD hS => ?_)
  have hP : va_P D vwCl (wP1 pd (.ref q7) 0 rb sb q7 cI (fun _ => 0)) H := hP
  have hD : va_D A (wP1 pd (.ref q7) 0 rb sb q7 cI (fun _ => 0)) := hD
  refine lv_aload_n gx gb dX4_init_17 rfl (lv_at hl 0 rfl) ?_
  refine lv_iconst (v := nI 0) gx gb dX4_init_18 (by decide) ?_
  refine va_put (D := D) (ci := 1) (v := .int (nI 0)) (ty := .int) (C := RX4) (T := TX4) (N := 4) gx gb gts i4 tyX4 tyX4_ok nmX4 gown hK hP hD hS 0 rfl rfl 2 (by decide) (gts (.fieldLink RX4 19 "SwanSums$Pad" "rowBehind" "I") (by decide +kernel)) (fun _ h9 => h9) rfl (by decide +kernel) rfl rfl (Nat.le_of_ble_eq_true rfl) dX4_init_19 (fun H locs hP hD hS => ?_)
  have hP : va_P D vwCl (wP1 pd (.ref q7) 0 0 sb q7 cI (fun _ => 0)) H := hP
  have hD : va_D A (wP1 pd (.ref q7) 0 0 sb q7 cI (fun _ => 0)) := hD
  refine lv_aload_n gx gb dX4_init_22 rfl (lv_at hl 0 rfl) ?_
  refine lv_iconst (v := nI 0) gx gb dX4_init_23 (by decide) ?_
  refine va_put (D := D) (ci := 1) (v := .int (nI 0)) (ty := .int) (C := RX4) (T := TX4) (N := 4) gx gb gts i4 tyX4 tyX4_ok nmX4 gown hK hP hD hS 0 rfl rfl 3 (by decide) (gts (.fieldLink RX4 22 "SwanSums$Pad" "sizeBehind" "I") (by decide +kernel)) (fun _ h9 => h9) rfl (by decide +kernel) rfl rfl (Nat.le_of_ble_eq_true rfl) dX4_init_24 (fun H locs hP hD hS => ?_)
  have hP : va_P D vwCl (wP1 pd (.ref q7) 0 0 0 q7 cI (fun _ => 0)) H := hP
  have hD : va_D A (wP1 pd (.ref q7) 0 0 0 q7 cI (fun _ => 0)) := hD
  exact W.vret gx gb gr (fun t ht hW => ⟨⟨(q7), rfl, (by first | (dsimp only; done) | ((try dsimp only); trivial)), by rw [ht]; exact hP, va_K.moved hW.alike hK, hD⟩, hS.F ht⟩) hS.2.2 dX4_init_27

set_option maxHeartbeats 4000000 in
set_option maxRecDepth 100000 in
theorem kX5_init (Gl : Launch) (D : va_G) (cI cJ cZ : ClassId) (rt : Nat) (v0 : Value) (v1 : Value) (tn : Nat) (ts : Nat) (v4 : Value) (v5 : Value) (tq : Nat) (sz : Nat) : Met Gl yX5_init wsX5_init ({ frames := 1, cells := 4, slots := 46624, locals := 20 } : Room) (va_Pc [.ref rt] (fun U => U.heap.size = sz ∧ va_P D vwCl (wT0 rt v0 v1 tn ts v4 v5 tq) U.heap ∧ va_K D vwCl [(cI, .int), (cJ, .long), (cZ, .boolean)] U ∧ va_D (fun _ => True) (wT0 rt v0 v1 tn ts v4 v5 tq))) (va_Qv (fun u : (Nat) × (Nat) × (Nat) × (Nat) => True) (fun (u : (Nat) × (Nat) × (Nat) × (Nat)) t => va_P D vwCl (wT rt u.1 u.2.1 u.2.2.1 u.2.2.2 cI cJ 0 0 0 (fun _ => 0) (fun _ => 0) (fun _ => 0) (fun _ => 0)) t.heap ∧ va_K D vwCl [(cI, .int), (cJ, .long), (cZ, .boolean)] t ∧ va_D (va_A (wT0 rt v0 v1 tn ts v4 v5 tq) sz) (wT rt u.1 u.2.1 u.2.2.1 u.2.2.2 cI cJ 0 0 0 (fun _ => 0) (fun _ => 0) (fun _ => 0) (fun _ => 0))) (va_A (wT0 rt v0 v1 tn ts v4 v5 tq) sz)) 4 46624 (va_A (wT0 rt v0 v1 tn ts v4 v5 tq) sz) := by
  refine Met.ofW (cc := cX5_init) (maxL := 1) (ret := none) (by decide +kernel) rfl ?_
  intro Gp Ge Gs Gm Ga Gw Gt Gc G1 Bd gml gv
  obtain ⟨rfl, hsz, hP, hK, hD0⟩ := gv
  have gx := Bd.exec
  have gb := Bd.bytes
  have gr := Bd.returns
  have gts := atoms_spec (ws := wsX5_init) Bd.pre
  have gown : Gs.vm.findClass RX5 = some Gm.cls := findClass_of_methodNamed Bd.named
  have glk := Bd.notSynchronized
  have gin : Gt.name = "<init>" := (name_of_methodNamed Bd.named Bd.method).1
  subst hsz
  have hD := hD0.self (sz := Gs.heap.size)
  generalize hAe : va_A (wT0 rt v0 v1 tn ts v4 v5 tq) Gs.heap.size = A at hD ⊢
  have hA : ∀ q : Nat, Gs.heap.size ≤ q → A q := fun q h => by rw [← hAe]; exact Or.inr h
  have hS : va_S A Gs.heap Gs.heap [] := va_S.rf
  have hP : va_P D vwCl (wT0 rt v0 v1 tn ts v4 v5 tq) Gs.heap := hP
  have hl := lv_entry ([.ref rt]) (n := 1) (Nat.le_of_ble_eq_true rfl)
  rw [lg_entry_eq]
  generalize (lg_sl ([.ref rt]) ++ List.replicate (1 - (lg_sl ([.ref rt])).length) Slot.unset).toArray = ls at hl ⊢
  have hl : lv_has ls 1 [(0, .ref rt)] := hl
  have i5 : ∀ w ∈ wsX50, w ∈ wsX5_init := by decide +kernel
  refine lv_aload_n gx gb dX5_init_0 rfl (lv_at hl 0 rfl) ?_
  refine W.objInit gx gb gown (gts (.methodLink RX5 3 objectInit) (by decide +kernel)) (gts (.instanceMethod objectInit) (by decide +kernel)) (gts (.code objectInit ⟨#[0xb1]⟩ 1 none) (by decide +kernel)) rfl (by rw [gml]; exact hl.1) rfl dX5_init_1 (Nat.le_of_ble_eq_true rfl) (Nat.le_of_ble_eq_true rfl) ?_
  refine W.eq (g2 := F0 Gm 4 ls []) rfl ?_
  refine lv_aload_n gx gb dX5_init_4 rfl (lv_at hl 0 rfl) ?_
  refine lv_sipush (v := nI 5040) gx gb dX5_init_5 (by decide) ?_
  refine va_newI gx gb (gts (.arrayClass .int) (by decide +kernel)) hK hP hD hS hA (n := 5040) (by decide) (Nat.le_of_ble_eq_true rfl) (Nat.le_of_ble_eq_true rfl) dX5_init_8 (t0 := 0) (cB := cI) rfl (fun q8 H hP hD hS => ?_)
  have hP : va_P D vwCl (wT01 rt v0 v1 tn ts v4 v5 tq q8 cI (fun _ => 0)) H := hP
  have hD : va_D A (wT01 rt v0 v1 tn ts v4 v5 tq q8 cI (fun _ => 0)) := hD
  refine W.widen (k := 1) (n := 5040) (Nat.le_of_ble_eq_true rfl) (Nat.le_of_ble_eq_true rfl) ?_
  refine va_putF (D := D) (ci := 2) (v := .ref q8) (ty := (.array .int)) (C := RX5) (T := TX5) (N := 7) gx gb gts i5 tyX5 tyX5_ok nmX5 gown hK hP hD hS 0 rfl rfl 0 (by decide) (gts (.fieldLink RX5 11 "SwanSums$Routes" "rows" "[I") (by decide +kernel)) (fun _ h9 => h9) rfl gin rfl (by decide +kernel) rfl rfl (Nat.le_of_ble_eq_true rfl) dX5_init_10 (fun H locs hP hD hS => ?_)
  have hP : va_P D vwCl (wT01 rt (.ref q8) v1 tn ts v4 v5 tq q8 cI (fun _ => 0)) H := hP
  have hD : va_D A (wT01 rt (.ref q8) v1 tn ts v4 v5 tq q8 cI (fun _ => 0)) := hD
  refine lv_aload_n gx gb dX5_init_13 rfl (lv_at hl 0 rfl) ?_
  refine lv_sipush (v := nI 5040) gx gb dX5_init_14 (by decide) ?_
  refine va_newI gx gb (gts (.arrayClass .int) (by decide +kernel)) hK hP hD hS hA (n := 5040) (by decide) (Nat.le_of_ble_eq_true rfl) (Nat.le_of_ble_eq_true rfl) dX5_init_17 (t0 := 0) (cB := cI) rfl (fun q17 H hP hD hS => ?_)
  have hP : va_P D vwCl (wT02 rt (.ref q8) v1 tn ts v4 v5 tq q8 cI (fun _ => 0) q17 (fun _ => 0)) H := hP
  have hD : va_D A (wT02 rt (.ref q8) v1 tn ts v4 v5 tq q8 cI (fun _ => 0) q17 (fun _ => 0)) := hD
  refine W.widen (k := 2) (n := 10080) (Nat.le_of_ble_eq_true rfl) (Nat.le_of_ble_eq_true rfl) ?_
  refine va_putF (D := D) (ci := 2) (v := .ref q17) (ty := (.array .int)) (C := RX5) (T := TX5) (N := 7) gx gb gts i5 tyX5 tyX5_ok nmX5 gown hK hP hD hS 0 rfl rfl 1 (by decide) (gts (.fieldLink RX5 15 "SwanSums$Routes" "links" "[I") (by decide +kernel)) (fun _ h9 => h9) rfl gin rfl (by decide +kernel) rfl rfl (Nat.le_of_ble_eq_true rfl) dX5_init_19 (fun H locs hP hD hS => ?_)
  have hP : va_P D vwCl (wT02 rt (.ref q8) (.ref q17) tn ts v4 v5 tq q8 cI (fun _ => 0) q17 (fun _ => 0)) H := hP
  have hD : va_D A (wT02 rt (.ref q8) (.ref q17) tn ts v4 v5 tq q8 cI (fun _ => 0) q17 (fun _ => 0)) := hD
  refine lv_aload_n gx gb dX5_init_22 rfl (lv_at hl 0 rfl) ?_
  refine lv_iconst (v := nI 0) gx gb dX5_init_23 (by decide) ?_
  refine va_put (D := D) (ci := 2) (v := .int (nI 0)) (ty := .int) (C := RX5) (T := TX5) (N := 7) gx gb gts i5 tyX5 tyX5_ok nmX5 gown hK hP hD hS 0 rfl rfl 2 (by decide) (gts (.fieldLink RX5 18 "SwanSums$Routes" "count" "I") (by decide +kernel)) (fun _ h9 => h9) rfl (by decide +kernel) rfl rfl (Nat.le_of_ble_eq_true rfl) dX5_init_24 (fun H locs hP hD hS => ?_)
  have hP : va_P D vwCl (wT02 rt (.ref q8) (.ref q17) 0 ts v4 v5 tq q8 cI (fun _ => 0) q17 (fun _ => 0)) H := hP
  have hD : va_D A (wT02 rt (.ref q8) (.ref q17) 0 ts v4 v5 tq q8 cI (fun _ => 0) q17 (fun _ => 0)) := hD
  refine lv_aload_n gx gb dX5_init_27 rfl (lv_at hl 0 rfl) ?_
  refine lv_iconst (v := nI 0) gx gb dX5_init_28 (by decide) ?_
  refine va_put (D := D) (ci := 2) (v := .int (nI 0)) (ty := .int) (C := RX5) (T := TX5) (N := 7) gx gb gts i5 tyX5 tyX5_ok nmX5 gown hK hP hD hS 0 rfl rfl 3 (by decide) (gts (.fieldLink RX5 22 "SwanSums$Routes" "size" "I") (by decide +kernel)) (fun _ h9 => h9) rfl (by decide +kernel) rfl rfl (Nat.le_of_ble_eq_true rfl) dX5_init_29 (fun H locs hP hD hS => ?_)
  have hP : va_P D vwCl (wT02 rt (.ref q8) (.ref q17) 0 0 v4 v5 tq q8 cI (fun _ => 0) q17 (fun _ => 0)) H := hP
  have hD : va_D A (wT02 rt (.ref q8) (.ref q17) 0 0 v4 v5 tq q8 cI (fun _ => 0) q17 (fun _ => 0)) := hD
  refine lv_aload_n gx gb dX5_init_32 rfl (lv_at hl 0 rfl) ?_
  refine lv_sipush (v := nI 16384) gx gb dX5_init_33 (by decide) ?_
  refine va_newJ gx gb (gts (.arrayClass .long) (by decide +kernel)) hK hP hD hS hA (n := 16384) (by decide) (Nat.le_of_ble_eq_true rfl) (Nat.le_of_ble_eq_true rfl) dX5_init_36 (t0 := 1) (cB := cJ) rfl (fun q36 H hP hD hS => ?_)
  have hP : va_P D vwCl (wT03 rt (.ref q8) (.ref q17) 0 0 v4 v5 tq q8 cI (fun _ => 0) q17 (fun _ => 0) q36 cJ (fun _ => 0)) H := hP
  have hD : va_D A (wT03 rt (.ref q8) (.ref q17) 0 0 v4 v5 tq q8 cI (fun _ => 0) q17 (fun _ => 0) q36 cJ (fun _ => 0)) := hD
  refine W.widen (k := 3) (n := 26464) (Nat.le_of_ble_eq_true rfl) (Nat.le_of_ble_eq_true rfl) ?_
  refine va_putF (D := D) (ci := 2) (v := .ref q36) (ty := (.array .long)) (C := RX5) (T := TX5) (N := 7) gx gb gts i5 tyX5 tyX5_ok nmX5 gown hK hP hD hS 0 rfl rfl 4 (by decide) (gts (.fieldLink RX5 25 "SwanSums$Routes" "marks" "[J") (by decide +kernel)) (fun _ h9 => h9) rfl gin rfl (by decide +kernel) rfl rfl (Nat.le_of_ble_eq_true rfl) dX5_init_38 (fun H locs hP hD hS => ?_)
  have hP : va_P D vwCl (wT03 rt (.ref q8) (.ref q17) 0 0 (.ref q36) v5 tq q8 cI (fun _ => 0) q17 (fun _ => 0) q36 cJ (fun _ => 0)) H := hP
  have hD : va_D A (wT03 rt (.ref q8) (.ref q17) 0 0 (.ref q36) v5 tq q8 cI (fun _ => 0) q17 (fun _ => 0) q36 cJ (fun _ => 0)) := hD
  refine lv_aload_n gx gb dX5_init_41 rfl (lv_at hl 0 rfl) ?_
  refine lv_sipush (v := nI 20160) gx gb dX5_init_42 (by decide) ?_
  refine va_newI gx gb (gts (.arrayClass .int) (by decide +kernel)) hK hP hD hS hA (n := 20160) (by decide) (Nat.le_of_ble_eq_true rfl) (Nat.le_of_ble_eq_true rfl) dX5_init_45 (t0 := 0) (cB := cI) rfl (fun q45 H hP hD hS => ?_)
  have hP : va_P D vwCl (wT04 rt (.ref q8) (.ref q17) 0 0 (.ref q36) v5 tq q8 cI (fun _ => 0) q17 (fun _ => 0) q36 cJ (fun _ => 0) q45 (fun _ => 0)) H := hP
  have hD : va_D A (wT04 rt (.ref q8) (.ref q17) 0 0 (.ref q36) v5 tq q8 cI (fun _ => 0) q17 (fun _ => 0) q36 cJ (fun _ => 0) q45 (fun _ => 0)) := hD
  refine W.widen (k := 4) (n := 46624) (Nat.le_of_ble_eq_true rfl) (Nat.le_of_ble_eq_true rfl) ?_
  refine va_putF (D := D) (ci := 2) (v := .ref q45) (ty := (.array .int)) (C := RX5) (T := TX5) (N := 7) gx gb gts i5 tyX5 tyX5_ok nmX5 gown hK hP hD hS 0 rfl rfl 5 (by decide) (gts (.fieldLink RX5 29 "SwanSums$Routes" "queue" "[I") (by decide +kernel)) (fun _ h9 => h9) rfl gin rfl (by decide +kernel) rfl rfl (Nat.le_of_ble_eq_true rfl) dX5_init_47 (fun H locs hP hD hS => ?_)
  have hP : va_P D vwCl (wT04 rt (.ref q8) (.ref q17) 0 0 (.ref q36) (.ref q45) tq q8 cI (fun _ => 0) q17 (fun _ => 0) q36 cJ (fun _ => 0) q45 (fun _ => 0)) H := hP
  have hD : va_D A (wT04 rt (.ref q8) (.ref q17) 0 0 (.ref q36) (.ref q45) tq q8 cI (fun _ => 0) q17 (fun _ => 0) q36 cJ (fun _ => 0) q45 (fun _ => 0)) := hD
  refine lv_aload_n gx gb dX5_init_50 rfl (lv_at hl 0 rfl) ?_
  refine lv_iconst (v := nI 0) gx gb dX5_init_51 (by decide) ?_
  refine va_put (D := D) (ci := 2) (v := .int (nI 0)) (ty := .int) (C := RX5) (T := TX5) (N := 7) gx gb gts i5 tyX5 tyX5_ok nmX5 gown hK hP hD hS 0 rfl rfl 6 (by decide) (gts (.fieldLink RX5 32 "SwanSums$Routes" "queued" "I") (by decide +kernel)) (fun _ h9 => h9) rfl (by decide +kernel) rfl rfl (Nat.le_of_ble_eq_true rfl) dX5_init_52 (fun H locs hP hD hS => ?_)
  have hP : va_P D vwCl (wT04 rt (.ref q8) (.ref q17) 0 0 (.ref q36) (.ref q45) 0 q8 cI (fun _ => 0) q17 (fun _ => 0) q36 cJ (fun _ => 0) q45 (fun _ => 0)) H := hP
  have hD : va_D A (wT04 rt (.ref q8) (.ref q17) 0 0 (.ref q36) (.ref q45) 0 q8 cI (fun _ => 0) q17 (fun _ => 0) q36 cJ (fun _ => 0) q45 (fun _ => 0)) := hD
  exact W.vret gx gb gr (fun t ht hW => ⟨⟨(q8, q17, q36, q45), rfl, (by first | (dsimp only; done) | ((try dsimp only); trivial)), by rw [ht]; exact hP, va_K.moved hW.alike hK, hD⟩, hS.F ht⟩) hS.2.2 dX5_init_55

set_option maxHeartbeats 4000000 in
set_option maxRecDepth 100000 in
theorem kX8_init (Gl : Launch) (D : va_G) (cI cJ cZ : ClassId) (h : Nat) (f0 : Value) (f1 : Value) (f2 : Value) (k1 : Nat) (k2 : Nat) (f5 : Value) (rv : Value) (sz : Nat) : Met Gl yX8_init wsX8_init ({ frames := 2, cells := 5, slots := 82, locals := 44 } : Room) (va_Pc [.ref h] (fun U => U.heap.size = sz ∧ va_P D vwCl (wX0 h f0 f1 f2 k1 k2 f5 rv) U.heap ∧ va_K D vwCl [(cI, .int), (cJ, .long), (cZ, .boolean)] U ∧ va_D (fun _ => True) (wX0 h f0 f1 f2 k1 k2 f5 rv) ∧ va_Nw (.methodLinkNest RX8 11 yX1_init "SwanSums") U ∧ va_Nw (.methodLinkNest RX8 31 yX4_init "SwanSums") U)) (va_Qv (fun u : (Nat) × (Nat) × (Nat) × (Nat) × (Nat) => True) (fun (u : (Nat) × (Nat) × (Nat) × (Nat) × (Nat)) t => va_P D vwCl (wX h u.1 u.2.1 u.2.2.1 u.2.2.2.1 u.2.2.2.2 cI 0 0 .null 4 (pk 256 (fun i => i + 1) 4) (pk 8 (fun i => i) 4) 4 0 0 0 0 0 0 0 0 0 0 0 0 0 0 0 0 0 (fun _ => 0)) t.heap ∧ va_K D vwCl [(cI, .int), (cJ, .long), (cZ, .boolean)] t ∧ va_D (va_A (wX0 h f0 f1 f2 k1 k2 f5 rv) sz) (wX h u.1 u.2.1 u.2.2.1 u.2.2.2.1 u.2.2.2.2 cI 0 0 .null 4 (pk 256 (fun i => i + 1) 4) (pk 8 (fun i => i) 4) 4 0 0 0 0 0 0 0 0 0 0 0 0 0 0 0 0 0 (fun _ => 0))) (va_A (wX0 h f0 f1 f2 k1 k2 f5 rv) sz)) 5 82 (va_A (wX0 h f0 f1 f2 k1 k2 f5 rv) sz) := by
  refine Met.ofW (cc := cX8_init) (maxL := 1) (ret := none) (by decide +kernel) rfl ?_
  intro Gp Ge Gs Gm Ga Gw Gt Gc G1 Bd gml gv
  obtain ⟨rfl, hsz, hP, hK, hD0, hNw11, hNw31⟩ := gv
  have gx := Bd.exec
  have gb := Bd.bytes
  have gr := Bd.returns
  have gts := atoms_spec (ws := wsX8_init) Bd.pre
  have gown : Gs.vm.findClass RX8 = some Gm.cls := findClass_of_methodNamed Bd.named
  have glk := Bd.notSynchronized
  have gin : Gt.name = "<init>" := (name_of_methodNamed Bd.named Bd.method).1
  subst hsz
  have hD := hD0.self (sz := Gs.heap.size)
  generalize hAe : va_A (wX0 h f0 f1 f2 k1 k2 f5 rv) Gs.heap.size = A at hD ⊢
  have hA : ∀ q : Nat, Gs.heap.size ≤ q → A q := fun q h => by rw [← hAe]; exact Or.inr h
  have hS : va_S A Gs.heap Gs.heap [] := va_S.rf
  have hP : va_P D vwCl (wX0 h f0 f1 f2 k1 k2 f5 rv) Gs.heap := hP
  have hl := lv_entry ([.ref h]) (n := 1) (Nat.le_of_ble_eq_true rfl)
  rw [lg_entry_eq]
  generalize (lg_sl ([.ref h]) ++ List.replicate (1 - (lg_sl ([.ref h])).length) Slot.unset).toArray = ls at hl ⊢
  have hl : lv_has ls 1 [(0, .ref h)] := hl
  have i1 : ∀ w ∈ wsX10, w ∈ wsX8_init := by decide +kernel
  have i4 : ∀ w ∈ wsX40, w ∈ wsX8_init := by decide +kernel
  have i8 : ∀ w ∈ wsX80, w ∈ wsX8_init := by decide +kernel
  refine lv_aload_n gx gb dX8_init_0 rfl (lv_at hl 0 rfl) ?_
  refine W.objInit gx gb gown (gts (.methodLink RX8 3 objectInit) (by decide +kernel)) (gts (.instanceMethod objectInit) (by decide +kernel)) (gts (.code objectInit ⟨#[0xb1]⟩ 1 none) (by decide +kernel)) rfl (by rw [gml]; exact hl.1) rfl dX8_init_1 (Nat.le_of_ble_eq_true rfl) (Nat.le_of_ble_eq_true rfl) ?_
  refine W.eq (g2 := F0 Gm 4 ls []) rfl ?_
  refine lv_aload_n gx gb dX8_init_4 rfl (lv_at hl 0 rfl) ?_
  refine va_new (ci := 0) (fs := [.int 0, .long 0, .int 0, .int 0, .long 0, .int 0]) (C := RX1) (T := TX1) (N := 6) gx gb gts i1 tyX1 tyX1_ok gown (gts (.classLink RX8 9 RX1) (by decide +kernel)) (gts (.instantiable RX1 6) (by decide +kernel)) (gts (.initialized RX1) (by decide +kernel)) hK hP hD hS hA rfl (fun j hj => by rcases (show j = 0 ∨ j = 1 ∨ j = 2 ∨ j = 3 ∨ j = 4 ∨ j = 5 by omega) with rfl | rfl | rfl | rfl | rfl | rfl <;> rfl) (Nat.le_of_ble_eq_true rfl) (Nat.le_of_ble_eq_true rfl) dX8_init_5 (fun q5 H hP hD hS => ?_)
  have hP : va_P D vwCl (wX01 h f0 f1 f2 k1 k2 f5 rv q5 0 0 0 0 0 0) H := hP
  have hD : va_D A (wX01 h f0 f1 f2 k1 k2 f5 rv q5 0 0 0 0 0 0) := hD
  refine W.widen (k := 1) (n := 6) (Nat.le_of_ble_eq_true rfl) (Nat.le_of_ble_eq_true rfl) ?_
  refine lv_dup gx gb dX8_init_8 rfl ?_
  have hPc := hP.sub (ws' := wF q5 0 0 0 0 0 0) [1] rfl
  have hDc := hD.sub (ws' := wF q5 0 0 0 0 0 0) [1] (by decide) rfl
  have hFc := va_free (wc := wF q5 0 0 0 0 0 0) hD hS hA [1] rfl
  refine va_callv (va_runIN (As := []) (rest := [.ref q5, .ref h]) ⟨gx, gb, gml, gown, gts⟩ (kX1_init Gl D cI cJ cZ q5 0 0 0 0 0 0 _) ⟨va_cnB 0 gts gX8_init_X1_init_n11 rfl rfl rfl hNw11 (gts (.initialized RX1) (by decide +kernel)) (by decide +kernel) ⟨Nat.le_of_ble_eq_true rfl, Nat.le_of_ble_eq_true rfl⟩, rfl, gts (.instanceMethod yX1_init) (by decide +kernel)⟩ ⟨fun a U g mk q => by obtain ⟨q0, q1, qP, qK, qD⟩ := q; exact ⟨q0, q1, qP, va_K.moved (u := U) (U := U.calling g mk a) (Vm.Alike.refl U.vm) qK, qD⟩, fun U hU hW => ⟨rfl, by rw [hU], by rw [hU]; exact hPc, va_K.moved hW.alike hK, hDc.weaken (fun _ _ _ _ => trivial)⟩⟩ rfl rfl hl.1 rfl (lv_room (Nat.le_of_ble_eq_true rfl)) dX8_init_9 ⟨Nat.le_of_ble_eq_true rfl, Nat.le_of_ble_eq_true rfl⟩) hS (fun q _ h => hFc q h) hFc (fun u t H1 locs ht hvm hw hB hz1 hk1 hS => ?_)
  obtain ⟨hP1, hK1, hD1⟩ := hB
  rw [ht] at hP1
  try dsimp only at hw
  try dsimp only at hP1
  try dsimp only at hD1
  have hK := va_K.moved hvm.symm hK1
  obtain ⟨hP, hD⟩ := va_join (wr := [(h, .inr (3, [f0, f1, f2, .int (nI k1), .int (nI k2), f5, rv]))]) (w1 := wF q5 0 0 0 0 0 0) hP hD [1] [0] rfl rfl (by decide) (by decide) hk1 hFc hP1 hD1
  have hP := hP.sub (ws' := wX01 h f0 f1 f2 k1 k2 f5 rv q5 0 0 0 0 0 0) [0, 1] rfl
  have hD := hD.sub (ws' := wX01 h f0 f1 f2 k1 k2 f5 rv q5 0 0 0 0 0 0) [0, 1] (by decide) rfl
  have hK := va_K.moved (Vm.Alike.refl Gs.vm) hK
  generalize H1 = H at hP hS ⊢
  refine va_putF (D := D) (ci := 3) (v := .ref q5) (ty := (.object "SwanSums$Flock")) (C := RX8) (T := TX8) (N := 7) gx gb gts i8 tyX8 tyX8_ok nmX8 gown hK hP hD hS 0 rfl rfl 0 (by decide) (gts (.fieldLink RX8 12 "SwanSums" "flock" "LSwanSums$Flock;") (by decide +kernel)) (fun _ h9 => h9) rfl gin rfl (by decide +kernel) rfl rfl (Nat.le_of_ble_eq_true rfl) dX8_init_12 (fun H locs hP hD hS => ?_)
  have hP : va_P D vwCl (wX01 h (.ref q5) f1 f2 k1 k2 f5 rv q5 0 0 0 0 0 0) H := hP
  have hD : va_D A (wX01 h (.ref q5) f1 f2 k1 k2 f5 rv q5 0 0 0 0 0 0) := hD
  refine lv_aload_n gx gb dX8_init_15 rfl (lv_at hl 0 rfl) ?_
  refine va_new (ci := 0) (fs := [.int 0, .long 0, .int 0, .int 0, .long 0, .int 0]) (C := RX1) (T := TX1) (N := 6) gx gb gts i1 tyX1 tyX1_ok gown (gts (.classLink RX8 9 RX1) (by decide +kernel)) (gts (.instantiable RX1 6) (by decide +kernel)) (gts (.initialized RX1) (by decide +kernel)) hK hP hD hS hA rfl (fun j hj => by rcases (show j = 0 ∨ j = 1 ∨ j = 2 ∨ j = 3 ∨ j = 4 ∨ j = 5 by omega) with rfl | rfl | rfl | rfl | rfl | rfl <;> rfl) (Nat.le_of_ble_eq_true rfl) (Nat.le_of_ble_eq_true rfl) dX8_init_16 (fun q16 H hP hD hS => ?_)
  have hP : va_P D vwCl (wX02 h (.ref q5) f1 f2 k1 k2 f5 rv q5 0 0 0 0 0 0 q16 0 0 0 0 0 0) H := hP
  have hD : va_D A (wX02 h (.ref q5) f1 f2 k1 k2 f5 rv q5 0 0 0 0 0 0 q16 0 0 0 0 0 0) := hD
  refine W.widen (k := 2) (n := 12) (Nat.le_of_ble_eq_true rfl) (Nat.le_of_ble_eq_true rfl) ?_
  refine lv_dup gx gb dX8_init_19 rfl ?_
  have hPc := hP.sub (ws' := wF q16 0 0 0 0 0 0) [2] rfl
  have hDc := hD.sub (ws' := wF q16 0 0 0 0 0 0) [2] (by decide) rfl
  have hFc := va_free (wc := wF q16 0 0 0 0 0 0) hD hS hA [2] rfl
  refine va_callv (va_runIN (As := []) (rest := [.ref q16, .ref h]) ⟨gx, gb, gml, gown, gts⟩ (kX1_init Gl D cI cJ cZ q16 0 0 0 0 0 0 _) ⟨va_cnB 0 gts gX8_init_X1_init_n11 rfl rfl rfl hNw11 (gts (.initialized RX1) (by decide +kernel)) (by decide +kernel) ⟨Nat.le_of_ble_eq_true rfl, Nat.le_of_ble_eq_true rfl⟩, rfl, gts (.instanceMethod yX1_init) (by decide +kernel)⟩ ⟨fun a U g mk q => by obtain ⟨q0, q1, qP, qK, qD⟩ := q; exact ⟨q0, q1, qP, va_K.moved (u := U) (U := U.calling g mk a) (Vm.Alike.refl U.vm) qK, qD⟩, fun U hU hW => ⟨rfl, by rw [hU], by rw [hU]; exact hPc, va_K.moved hW.alike hK, hDc.weaken (fun _ _ _ _ => trivial)⟩⟩ rfl rfl hl.1 rfl (lv_room (Nat.le_of_ble_eq_true rfl)) dX8_init_20 ⟨Nat.le_of_ble_eq_true rfl, Nat.le_of_ble_eq_true rfl⟩) hS (fun q _ h => hFc q h) hFc (fun u t H1 locs ht hvm hw hB hz1 hk1 hS => ?_)
  obtain ⟨hP1, hK1, hD1⟩ := hB
  rw [ht] at hP1
  try dsimp only at hw
  try dsimp only at hP1
  try dsimp only at hD1
  have hK := va_K.moved hvm.symm hK1
  obtain ⟨hP, hD⟩ := va_join (wr := [(h, .inr (3, [.ref q5, f1, f2, .int (nI k1), .int (nI k2), f5, rv])), (q5, .inr (0, [.int (nI 0), .long (lN 0), .int (nI 0), .int (nI 0), .long (lN 0), .int (nI 0)]))]) (w1 := wF q16 0 0 0 0 0 0) hP hD [2] [0, 1] rfl rfl (by decide) (by decide) hk1 hFc hP1 hD1
  have hP := hP.sub (ws' := wX02 h (.ref q5) f1 f2 k1 k2 f5 rv q5 0 0 0 0 0 0 q16 0 0 0 0 0 0) [0, 1, 2] rfl
  have hD := hD.sub (ws' := wX02 h (.ref q5) f1 f2 k1 k2 f5 rv q5 0 0 0 0 0 0 q16 0 0 0 0 0 0) [0, 1, 2] (by decide) rfl
  have hK := va_K.moved (Vm.Alike.refl Gs.vm) hK
  generalize H1 = H at hP hS ⊢
  refine va_putF (D := D) (ci := 3) (v := .ref q16) (ty := (.object "SwanSums$Flock")) (C := RX8) (T := TX8) (N := 7) gx gb gts i8 tyX8 tyX8_ok nmX8 gown hK hP hD hS 0 rfl rfl 1 (by decide) (gts (.fieldLink RX8 16 "SwanSums" "firstImage" "LSwanSums$Flock;") (by decide +kernel)) (fun _ h9 => h9) rfl gin rfl (by decide +kernel) rfl rfl (Nat.le_of_ble_eq_true rfl) dX8_init_23 (fun H locs hP hD hS => ?_)
  have hP : va_P D vwCl (wX02 h (.ref q5) (.ref q16) f2 k1 k2 f5 rv q5 0 0 0 0 0 0 q16 0 0 0 0 0 0) H := hP
  have hD : va_D A (wX02 h (.ref q5) (.ref q16) f2 k1 k2 f5 rv q5 0 0 0 0 0 0 q16 0 0 0 0 0 0) := hD
  refine lv_aload_n gx gb dX8_init_26 rfl (lv_at hl 0 rfl) ?_
  refine va_new (ci := 0) (fs := [.int 0, .long 0, .int 0, .int 0, .long 0, .int 0]) (C := RX1) (T := TX1) (N := 6) gx gb gts i1 tyX1 tyX1_ok gown (gts (.classLink RX8 9 RX1) (by decide +kernel)) (gts (.instantiable RX1 6) (by decide +kernel)) (gts (.initialized RX1) (by decide +kernel)) hK hP hD hS hA rfl (fun j hj => by rcases (show j = 0 ∨ j = 1 ∨ j = 2 ∨ j = 3 ∨ j = 4 ∨ j = 5 by omega) with rfl | rfl | rfl | rfl | rfl | rfl <;> rfl) (Nat.le_of_ble_eq_true rfl) (Nat.le_of_ble_eq_true rfl) dX8_init_27 (fun q27 H hP hD hS => ?_)
  have hP : va_P D vwCl (wX03 h (.ref q5) (.ref q16) f2 k1 k2 f5 rv q5 0 0 0 0 0 0 q16 0 0 0 0 0 0 q27 0 0 0 0 0 0) H := hP
  have hD : va_D A (wX03 h (.ref q5) (.ref q16) f2 k1 k2 f5 rv q5 0 0 0 0 0 0 q16 0 0 0 0 0 0 q27 0 0 0 0 0 0) := hD
  refine W.widen (k := 3) (n := 18) (Nat.le_of_ble_eq_true rfl) (Nat.le_of_ble_eq_true rfl) ?_
  refine lv_dup gx gb dX8_init_30 rfl ?_
  have hPc := hP.sub (ws' := wF q27 0 0 0 0 0 0) [3] rfl
  have hDc := hD.sub (ws' := wF q27 0 0 0 0 0 0) [3] (by decide) rfl
  have hFc := va_free (wc := wF q27 0 0 0 0 0 0) hD hS hA [3] rfl
  refine va_callv (va_runIN (As := []) (rest := [.ref q27, .ref h]) ⟨gx, gb, gml, gown, gts⟩ (kX1_init Gl D cI cJ cZ q27 0 0 0 0 0 0 _) ⟨va_cnB 0 gts gX8_init_X1_init_n11 rfl rfl rfl hNw11 (gts (.initialized RX1) (by decide +kernel)) (by decide +kernel) ⟨Nat.le_of_ble_eq_true rfl, Nat.le_of_ble_eq_true rfl⟩, rfl, gts (.instanceMethod yX1_init) (by decide +kernel)⟩ ⟨fun a U g mk q => by obtain ⟨q0, q1, qP, qK, qD⟩ := q; exact ⟨q0, q1, qP, va_K.moved (u := U) (U := U.calling g mk a) (Vm.Alike.refl U.vm) qK, qD⟩, fun U hU hW => ⟨rfl, by rw [hU], by rw [hU]; exact hPc, va_K.moved hW.alike hK, hDc.weaken (fun _ _ _ _ => trivial)⟩⟩ rfl rfl hl.1 rfl (lv_room (Nat.le_of_ble_eq_true rfl)) dX8_init_31 ⟨Nat.le_of_ble_eq_true rfl, Nat.le_of_ble_eq_true rfl⟩) hS (fun q _ h => hFc q h) hFc (fun u t H1 locs ht hvm hw hB hz1 hk1 hS => ?_)
  obtain ⟨hP1, hK1, hD1⟩ := hB
  rw [ht] at hP1
  try dsimp only at hw
  try dsimp only at hP1
  try dsimp only at hD1
  have hK := va_K.moved hvm.symm hK1
  obtain ⟨hP, hD⟩ := va_join (wr := [(h, .inr (3, [.ref q5, .ref q16, f2, .int (nI k1), .int (nI k2), f5, rv])), (q5, .inr (0, [.int (nI 0), .long (lN 0), .int (nI 0), .int (nI 0), .long (lN 0), .int (nI 0)])), (q16, .inr (0, [.int (nI 0), .long (lN 0), .int (nI 0), .int (nI 0), .long (lN 0), .int (nI 0)]))]) (w1 := wF q27 0 0 0 0 0 0) hP hD [3] [0, 1, 2] rfl rfl (by decide) (by decide) hk1 hFc hP1 hD1
  have hP := hP.sub (ws' := wX03 h (.ref q5) (.ref q16) f2 k1 k2 f5 rv q5 0 0 0 0 0 0 q16 0 0 0 0 0 0 q27 0 0 0 0 0 0) [0, 1, 2, 3] rfl
  have hD := hD.sub (ws' := wX03 h (.ref q5) (.ref q16) f2 k1 k2 f5 rv q5 0 0 0 0 0 0 q16 0 0 0 0 0 0 q27 0 0 0 0 0 0) [0, 1, 2, 3] (by decide) rfl
  have hK := va_K.moved (Vm.Alike.refl Gs.vm) hK
  generalize H1 = H at hP hS ⊢
  refine va_putF (D := D) (ci := 3) (v := .ref q27) (ty := (.object "SwanSums$Flock")) (C := RX8) (T := TX8) (N := 7) gx gb gts i8 tyX8 tyX8_ok nmX8 gown hK hP hD hS 0 rfl rfl 2 (by decide) (gts (.fieldLink RX8 19 "SwanSums" "secondImage" "LSwanSums$Flock;") (by decide +kernel)) (fun _ h9 => h9) rfl gin rfl (by decide +kernel) rfl rfl (Nat.le_of_ble_eq_true rfl) dX8_init_34 (fun H locs hP hD hS => ?_)
  have hP : va_P D vwCl (wX03 h (.ref q5) (.ref q16) (.ref q27) k1 k2 f5 rv q5 0 0 0 0 0 0 q16 0 0 0 0 0 0 q27 0 0 0 0 0 0) H := hP
  have hD : va_D A (wX03 h (.ref q5) (.ref q16) (.ref q27) k1 k2 f5 rv q5 0 0 0 0 0 0 q16 0 0 0 0 0 0 q27 0 0 0 0 0 0) := hD
  refine lv_aload_n gx gb dX8_init_37 rfl (lv_at hl 0 rfl) ?_
  refine lv_iconst (v := nI 0) gx gb dX8_init_38 (by decide) ?_
  refine va_put (D := D) (ci := 3) (v := .int (nI 0)) (ty := .boolean) (C := RX8) (T := TX8) (N := 7) gx gb gts i8 tyX8 tyX8_ok nmX8 gown hK hP hD hS 0 rfl rfl 3 (by decide) (gts (.fieldLink RX8 22 "SwanSums" "firstKept" "Z") (by decide +kernel)) (fun _ h9 => h9) rfl (by decide +kernel) (by decide) (by decide) (Nat.le_of_ble_eq_true rfl) dX8_init_39 (fun H locs hP hD hS => ?_)
  have hP : va_P D vwCl (wX03 h (.ref q5) (.ref q16) (.ref q27) 0 k2 f5 rv q5 0 0 0 0 0 0 q16 0 0 0 0 0 0 q27 0 0 0 0 0 0) H := hP
  have hD : va_D A (wX03 h (.ref q5) (.ref q16) (.ref q27) 0 k2 f5 rv q5 0 0 0 0 0 0 q16 0 0 0 0 0 0 q27 0 0 0 0 0 0) := hD
  refine lv_aload_n gx gb dX8_init_42 rfl (lv_at hl 0 rfl) ?_
  refine lv_iconst (v := nI 0) gx gb dX8_init_43 (by decide) ?_
  refine va_put (D := D) (ci := 3) (v := .int (nI 0)) (ty := .boolean) (C := RX8) (T := TX8) (N := 7) gx gb gts i8 tyX8 tyX8_ok nmX8 gown hK hP hD hS 0 rfl rfl 4 (by decide) (gts (.fieldLink RX8 26 "SwanSums" "secondKept" "Z") (by decide +kernel)) (fun _ h9 => h9) rfl (by decide +kernel) (by decide) (by decide) (Nat.le_of_ble_eq_true rfl) dX8_init_44 (fun H locs hP hD hS => ?_)
  have hP : va_P D vwCl (wX03 h (.ref q5) (.ref q16) (.ref q27) 0 0 f5 rv q5 0 0 0 0 0 0 q16 0 0 0 0 0 0 q27 0 0 0 0 0 0) H := hP
  have hD : va_D A (wX03 h (.ref q5) (.ref q16) (.ref q27) 0 0 f5 rv q5 0 0 0 0 0 0 q16 0 0 0 0 0 0 q27 0 0 0 0 0 0) := hD
  refine lv_aload_n gx gb dX8_init_47 rfl (lv_at hl 0 rfl) ?_
  refine va_new (ci := 1) (fs := [.null, .int 0, .int 0, .int 0]) (C := RX4) (T := TX4) (N := 4) gx gb gts i4 tyX4 tyX4_ok gown (gts (.classLink RX8 29 RX4) (by decide +kernel)) (gts (.instantiable RX4 4) (by decide +kernel)) (gts (.initialized RX4) (by decide +kernel)) hK hP hD hS hA rfl (fun j hj => by rcases (show j = 0 ∨ j = 1 ∨ j = 2 ∨ j = 3 by omega) with rfl | rfl | rfl | rfl <;> rfl) (Nat.le_of_ble_eq_true rfl) (Nat.le_of_ble_eq_true rfl) dX8_init_48 (fun q48 H hP hD hS => ?_)
  have hP : va_P D vwCl (wX04 h (.ref q5) (.ref q16) (.ref q27) 0 0 f5 rv q5 0 0 0 0 0 0 q16 0 0 0 0 0 0 q27 0 0 0 0 0 0 q48 .null 0 0 0) H := hP
  have hD : va_D A (wX04 h (.ref q5) (.ref q16) (.ref q27) 0 0 f5 rv q5 0 0 0 0 0 0 q16 0 0 0 0 0 0 q27 0 0 0 0 0 0 q48 .null 0 0 0) := hD
  refine W.widen (k := 4) (n := 22) (Nat.le_of_ble_eq_true rfl) (Nat.le_of_ble_eq_true rfl) ?_
  refine lv_dup gx gb dX8_init_51 rfl ?_
  have hPc := hP.sub (ws' := wP0 q48 .null 0 0 0) [4] rfl
  have hDc := hD.sub (ws' := wP0 q48 .null 0 0 0) [4] (by decide) rfl
  have hFc := va_free (wc := wP0 q48 .null 0 0 0) hD hS hA [4] rfl
  refine va_callv (va_runIN (As := []) (rest := [.ref q48, .ref h]) ⟨gx, gb, gml, gown, gts⟩ (kX4_init Gl D cI cJ cZ q48 .null 0 0 0 _) ⟨va_cnB 0 gts gX8_init_X4_init_n31 rfl rfl rfl hNw31 (gts (.initialized RX4) (by decide +kernel)) (by decide +kernel) ⟨Nat.le_of_ble_eq_true rfl, Nat.le_of_ble_eq_true rfl⟩, rfl, gts (.instanceMethod yX4_init) (by decide +kernel)⟩ ⟨fun a U g mk q => by obtain ⟨q0, q1, qP, qK, qD⟩ := q; exact ⟨q0, q1, qP, va_K.moved (u := U) (U := U.calling g mk a) (Vm.Alike.refl U.vm) qK, qD⟩, fun U hU hW => ⟨rfl, by rw [hU], by rw [hU]; exact hPc, va_K.moved hW.alike hK, hDc.weaken (fun _ _ _ _ => trivial)⟩⟩ rfl rfl hl.1 rfl (lv_room (Nat.le_of_ble_eq_true rfl)) dX8_init_52 ⟨Nat.le_of_ble_eq_true rfl, Nat.le_of_ble_eq_true rfl⟩) hS (fun q _ h => hFc q h) hFc (fun u t H1 locs ht hvm hw hB hz1 hk1 hS => ?_)
  obtain ⟨sg_52, rfl⟩ : ∃ z, z = u := ⟨_, rfl⟩
  obtain ⟨hP1, hK1, hD1⟩ := hB
  rw [ht] at hP1
  try dsimp only at hw
  try dsimp only at hP1
  try dsimp only at hD1
  have hK := va_K.moved hvm.symm hK1
  obtain ⟨hP, hD⟩ := va_join (wr := [(h, .inr (3, [.ref q5, .ref q16, .ref q27, .int (nI 0), .int (nI 0), f5, rv])), (q5, .inr (0, [.int (nI 0), .long (lN 0), .int (nI 0), .int (nI 0), .long (lN 0), .int (nI 0)])), (q16, .inr (0, [.int (nI 0), .long (lN 0), .int (nI 0), .int (nI 0), .long (lN 0), .int (nI 0)])), (q27, .inr (0, [.int (nI 0), .long (lN 0), .int (nI 0), .int (nI 0), .long (lN 0), .int (nI 0)]))]) (w1 := wP q48 sg_52 cI 0 0 0 (fun _ => 0)) hP hD [4] [0, 1, 2, 3] rfl rfl (by decide) (by decide) hk1 hFc hP1 hD1
  have hP := hP.sub (ws' := wX05 h (.ref q5) (.ref q16) (.ref q27) 0 0 f5 rv q5 0 0 0 0 0 0 q16 0 0 0 0 0 0 q27 0 0 0 0 0 0 q48 0 0 0 sg_52 cI (fun _ => 0)) [0, 1, 2, 3, 4, 5] rfl
  have hD := hD.sub (ws' := wX05 h (.ref q5) (.ref q16) (.ref q27) 0 0 f5 rv q5 0 0 0 0 0 0 q16 0 0 0 0 0 0 q27 0 0 0 0 0 0 q48 0 0 0 sg_52 cI (fun _ => 0)) [0, 1, 2, 3, 4, 5] (by decide) rfl
  have hK := va_K.moved (Vm.Alike.refl Gs.vm) hK
  generalize H1 = H at hP hS ⊢
  refine W.widen (k := 5) (n := 82) (Nat.le_of_ble_eq_true rfl) (Nat.le_of_ble_eq_true rfl) ?_
  refine va_putF (D := D) (ci := 3) (v := .ref q48) (ty := (.object "SwanSums$Pad")) (C := RX8) (T := TX8) (N := 7) gx gb gts i8 tyX8 tyX8_ok nmX8 gown hK hP hD hS 0 rfl rfl 5 (by decide) (gts (.fieldLink RX8 32 "SwanSums" "pad" "LSwanSums$Pad;") (by decide +kernel)) (fun _ h9 => h9) rfl gin rfl (by decide +kernel) rfl rfl (Nat.le_of_ble_eq_true rfl) dX8_init_55 (fun H locs hP hD hS => ?_)
  have hP : va_P D vwCl (wX05 h (.ref q5) (.ref q16) (.ref q27) 0 0 (.ref q48) rv q5 0 0 0 0 0 0 q16 0 0 0 0 0 0 q27 0 0 0 0 0 0 q48 0 0 0 sg_52 cI (fun _ => 0)) H := hP
  have hD : va_D A (wX05 h (.ref q5) (.ref q16) (.ref q27) 0 0 (.ref q48) rv q5 0 0 0 0 0 0 q16 0 0 0 0 0 0 q27 0 0 0 0 0 0 q48 0 0 0 sg_52 cI (fun _ => 0)) := hD
  refine lv_aload_n gx gb dX8_init_58 rfl (lv_at hl 0 rfl) ?_
  refine lv_null gx gb dX8_init_59 ?_
  refine va_put (D := D) (ci := 3) (v := .null) (ty := (.object "SwanSums$Routes")) (C := RX8) (T := TX8) (N := 7) gx gb gts i8 tyX8 tyX8_ok nmX8 gown hK hP hD hS 0 rfl rfl 6 (by decide) (gts (.fieldLink RX8 36 "SwanSums" "routes" "LSwanSums$Routes;") (by decide +kernel)) (fun _ h9 => h9) rfl (by decide +kernel) rfl rfl (Nat.le_of_ble_eq_true rfl) dX8_init_60 (fun H locs hP hD hS => ?_)
  have hP : va_P D vwCl (wX05 h (.ref q5) (.ref q16) (.ref q27) 0 0 (.ref q48) .null q5 0 0 0 0 0 0 q16 0 0 0 0 0 0 q27 0 0 0 0 0 0 q48 0 0 0 sg_52 cI (fun _ => 0)) H := hP
  have hD : va_D A (wX05 h (.ref q5) (.ref q16) (.ref q27) 0 0 (.ref q48) .null q5 0 0 0 0 0 0 q16 0 0 0 0 0 0 q27 0 0 0 0 0 0 q48 0 0 0 sg_52 cI (fun _ => 0)) := hD
  refine lv_aload_n gx gb dX8_init_63 rfl (lv_at hl 0 rfl) ?_
  refine va_get (D := D) (ci := 3) (v := .ref q5) (C := RX8) (T := TX8) (N := 7) gx gb gts i8 gown hK hP 0 rfl rfl 0 (by decide) (gts (.fieldLink RX8 12 "SwanSums" "flock" "LSwanSums$Flock;") (by decide +kernel)) (fun _ h9 => h9) rfl dX8_init_64 ?_
  refine lv_iconst (v := nI 4) gx gb dX8_init_67 (by decide) ?_
  have hPc := hP.sub (ws' := wF q5 0 0 0 0 0 0) [1] rfl
  have hDc := hD.sub (ws' := wF q5 0 0 0 0 0 0) [1] (by decide) rfl
  have hFc := va_free (wc := wF q5 0 0 0 0 0 0) hD hS hA [1] rfl
  refine va_callv (va_runV (As := [.int (nI 4)]) (rest := []) ⟨gx, gb, gml, gown, gts⟩ (kX1_begin Gl D cI cJ cZ q5 0 0 0 0 0 0 _ 4 (by omega)) (cwV 1 gts gX8_init_X1_begin rfl rfl rfl (by decide +kernel) ⟨Nat.le_of_ble_eq_true rfl, Nat.le_of_ble_eq_true rfl⟩) ⟨fun a U g mk q => by obtain ⟨q0, q1, qP, qK, qD⟩ := q; exact ⟨q0, q1, qP, va_K.moved (u := U) (U := U.calling g mk a) (Vm.Alike.refl U.vm) qK, qD⟩, va_recv hK hPc (ci := 0) (q0 := 0) rfl rfl, fun U hU hW => ⟨rfl, by rw [hU], by rw [hU]; exact hPc, va_K.moved hW.alike hK, hDc.weaken (fun _ _ _ _ => trivial)⟩⟩ rfl rfl hl.1 rfl (lv_room (Nat.le_of_ble_eq_true rfl)) dX8_init_68 ⟨Nat.le_of_ble_eq_true rfl, Nat.le_of_ble_eq_true rfl⟩) hS (fun q _ h => hFc q h) hFc (fun u t H1 locs ht hvm hw hB hz1 hk1 hS => ?_)
  obtain ⟨hP1, hK1, hD1⟩ := hB
  rw [ht] at hP1
  try dsimp only at hw
  try dsimp only at hP1
  try dsimp only at hD1
  have hK := va_K.moved hvm.symm hK1
  obtain ⟨hP, hD⟩ := va_join (wr := [(h, .inr (3, [.ref q5, .ref q16, .ref q27, .int (nI 0), .int (nI 0), .ref q48, .null])), (q16, .inr (0, [.int (nI 0), .long (lN 0), .int (nI 0), .int (nI 0), .long (lN 0), .int (nI 0)])), (q27, .inr (0, [.int (nI 0), .long (lN 0), .int (nI 0), .int (nI 0), .long (lN 0), .int (nI 0)])), (q48, .inr (1, [.ref sg_52, .int (nI 0), .int (nI 0), .int (nI 0)])), (sg_52, .inl (cI, 60, .inl (aN (fun _ => 0))))]) (w1 := wF q5 4 (pk 256 (fun i => i + 1) 4) (pk 8 (fun i => i) 4) 4 0 0) hP hD [1] [0, 2, 3, 4, 5] rfl rfl (by decide) (by decide) hk1 hFc hP1 hD1
  have hP := hP.sub (ws' := wX05 h (.ref q5) (.ref q16) (.ref q27) 0 0 (.ref q48) .null q5 4 (pk 256 (fun i => i + 1) 4) (pk 8 (fun i => i) 4) 4 0 0 q16 0 0 0 0 0 0 q27 0 0 0 0 0 0 q48 0 0 0 sg_52 cI (fun _ => 0)) [0, 5, 1, 2, 3, 4] rfl
  have hD := hD.sub (ws' := wX05 h (.ref q5) (.ref q16) (.ref q27) 0 0 (.ref q48) .null q5 4 (pk 256 (fun i => i + 1) 4) (pk 8 (fun i => i) 4) 4 0 0 q16 0 0 0 0 0 0 q27 0 0 0 0 0 0 q48 0 0 0 sg_52 cI (fun _ => 0)) [0, 5, 1, 2, 3, 4] (by decide) rfl
  have hK := va_K.moved (Vm.Alike.refl Gs.vm) hK
  generalize H1 = H at hP hS ⊢
  exact W.vret gx gb gr (fun t ht hW => ⟨⟨(q5, q16, q27, q48, sg_52), rfl, (by first | (dsimp only; done) | ((try dsimp only); trivial)), by rw [ht]; exact hP, va_K.moved hW.alike hK, hD⟩, hS.F ht⟩) hS.2.2 dX8_init_71

set_option maxHeartbeats 4000000 in
set_option maxRecDepth 100000 in
theorem kX9_init (Gl : Launch) (D : va_G) (cI cJ cZ : ClassId) (mo : Nat) (n : Nat) (q : Nat) (u0 : Value) (u1 : Value) (u2 : Value) (u3 : Value) (u4 : Value) (u5 : Value) (u6 : Value) (u7 : Value) (u8 : Value) (u9 : Value) (u10 : Value) (u11 : Value) (u12 : Value) (sz : Nat) : Met Gl yX9_init wsX9_init ({ frames := 1, cells := 13, slots := 20391, locals := 21 } : Room) (va_Pc [.ref mo] (fun U => U.heap.size = sz ∧ va_P D vwCl (wM0 mo n q u0 u1 0 u2 0 u3 u4 0 0 u5 u6 u7 u8 u9 u10 u11 u12) U.heap ∧ va_K D vwCl [(cI, .int), (cJ, .long), (cZ, .boolean)] U ∧ va_D (fun _ => True) (wM0 mo n q u0 u1 0 u2 0 u3 u4 0 0 u5 u6 u7 u8 u9 u10 u11 u12))) (va_Qv (fun u : (Nat) × (Nat) × (Nat) × (Nat) × (Nat) × (Nat) × (Nat) × (Nat) × (Nat) × (Nat) × (Nat) × (Nat) × (Nat) => True) (fun (u : (Nat) × (Nat) × (Nat) × (Nat) × (Nat) × (Nat) × (Nat) × (Nat) × (Nat) × (Nat) × (Nat) × (Nat) × (Nat)) t => va_P D vwCl (wM mo u.1 u.2.1 u.2.2.1 u.2.2.2.1 u.2.2.2.2.1 u.2.2.2.2.2.1 u.2.2.2.2.2.2.1 u.2.2.2.2.2.2.2.1 u.2.2.2.2.2.2.2.2.1 u.2.2.2.2.2.2.2.2.2.1 u.2.2.2.2.2.2.2.2.2.2.1 u.2.2.2.2.2.2.2.2.2.2.2.1 u.2.2.2.2.2.2.2.2.2.2.2.2 cI cZ 4 4 0 0 0 0 (cpy (fun k => k + 1) (fun _ => 0) 7) (cpy (fun k => k) (fun _ => 0) 7) (fun _ => 0) (fun _ => 0) (fun _ => 0) (fun _ => 0) (aN (fun _ => 0)) (fun _ => 0) (fun _ => 0) (fun _ => 0) (fun _ => 0) (fun _ => 0) (fun _ => 0)) t.heap ∧ va_K D vwCl [(cI, .int), (cJ, .long), (cZ, .boolean)] t ∧ va_D (va_A (wM0 mo n q u0 u1 0 u2 0 u3 u4 0 0 u5 u6 u7 u8 u9 u10 u11 u12) sz) (wM mo u.1 u.2.1 u.2.2.1 u.2.2.2.1 u.2.2.2.2.1 u.2.2.2.2.2.1 u.2.2.2.2.2.2.1 u.2.2.2.2.2.2.2.1 u.2.2.2.2.2.2.2.2.1 u.2.2.2.2.2.2.2.2.2.1 u.2.2.2.2.2.2.2.2.2.2.1 u.2.2.2.2.2.2.2.2.2.2.2.1 u.2.2.2.2.2.2.2.2.2.2.2.2 cI cZ 4 4 0 0 0 0 (cpy (fun k => k + 1) (fun _ => 0) 7) (cpy (fun k => k) (fun _ => 0) 7) (fun _ => 0) (fun _ => 0) (fun _ => 0) (fun _ => 0) (aN (fun _ => 0)) (fun _ => 0) (fun _ => 0) (fun _ => 0) (fun _ => 0) (fun _ => 0) (fun _ => 0))) (va_A (wM0 mo n q u0 u1 0 u2 0 u3 u4 0 0 u5 u6 u7 u8 u9 u10 u11 u12) sz)) 13 20391 (va_A (wM0 mo n q u0 u1 0 u2 0 u3 u4 0 0 u5 u6 u7 u8 u9 u10 u11 u12) sz) := by
  refine Met.ofW (cc := cX9_init) (maxL := 1) (ret := none) (by decide +kernel) rfl ?_
  intro Gp Ge Gs Gm Ga Gw Gt Gc G1 Bd gml gv
  obtain ⟨rfl, hsz, hP, hK, hD0⟩ := gv
  have gx := Bd.exec
  have gb := Bd.bytes
  have gr := Bd.returns
  have gts := atoms_spec (ws := wsX9_init) Bd.pre
  have gown : Gs.vm.findClass RX9 = some Gm.cls := findClass_of_methodNamed Bd.named
  have glk := Bd.notSynchronized
  have gin : Gt.name = "<init>" := (name_of_methodNamed Bd.named Bd.method).1
  subst hsz
  have hD := hD0.self (sz := Gs.heap.size)
  generalize hAe : va_A (wM0 mo n q u0 u1 0 u2 0 u3 u4 0 0 u5 u6 u7 u8 u9 u10 u11 u12) Gs.heap.size = A at hD ⊢
  have hA : ∀ q : Nat, Gs.heap.size ≤ q → A q := fun q h => by rw [← hAe]; exact Or.inr h
  have hS : va_S A Gs.heap Gs.heap [] := va_S.rf
  have hP : va_P D vwCl (wM0 mo n q u0 u1 0 u2 0 u3 u4 0 0 u5 u6 u7 u8 u9 u10 u11 u12) Gs.heap := hP
  have hl := lv_entry ([.ref mo]) (n := 1) (Nat.le_of_ble_eq_true rfl)
  rw [lg_entry_eq]
  generalize (lg_sl ([.ref mo]) ++ List.replicate (1 - (lg_sl ([.ref mo])).length) Slot.unset).toArray = ls at hl ⊢
  have hl : lv_has ls 1 [(0, .ref mo)] := hl
  have i9 : ∀ w ∈ wsX90, w ∈ wsX9_init := by decide +kernel
  refine lv_aload_n gx gb dX9_init_0 rfl (lv_at hl 0 rfl) ?_
  refine W.objInit gx gb gown (gts (.methodLink RX9 1 objectInit) (by decide +kernel)) (gts (.instanceMethod objectInit) (by decide +kernel)) (gts (.code objectInit ⟨#[0xb1]⟩ 1 none) (by decide +kernel)) rfl (by rw [gml]; exact hl.1) rfl dX9_init_1 (Nat.le_of_ble_eq_true rfl) (Nat.le_of_ble_eq_true rfl) ?_
  refine W.eq (g2 := F0 Gm 4 ls []) rfl ?_
  refine lv_aload_n gx gb dX9_init_4 rfl (lv_at hl 0 rfl) ?_
  refine lv_iconst (v := nI 4) gx gb dX9_init_5 (by decide) ?_
  refine va_put (D := D) (ci := 4) (v := .int (nI 4)) (ty := .int) (C := RX9) (T := TX9) (N := 19) gx gb gts i9 tyX9 tyX9_ok nmX9 gown hK hP hD hS 0 rfl rfl 0 (by decide) (gts (.fieldLink RX9 7 "SwanSumsModel" "all" "I") (by decide +kernel)) (fun _ h9 => h9) rfl (by decide +kernel) rfl rfl (Nat.le_of_ble_eq_true rfl) dX9_init_6 (fun H locs hP hD hS => ?_)
  have hP : va_P D vwCl (wM0 mo 4 q u0 u1 0 u2 0 u3 u4 0 0 u5 u6 u7 u8 u9 u10 u11 u12) H := hP
  have hD : va_D A (wM0 mo 4 q u0 u1 0 u2 0 u3 u4 0 0 u5 u6 u7 u8 u9 u10 u11 u12) := hD
  refine lv_aload_n gx gb dX9_init_9 rfl (lv_at hl 0 rfl) ?_
  refine lv_iconst (v := nI 4) gx gb dX9_init_10 (by decide) ?_
  refine va_put (D := D) (ci := 4) (v := .int (nI 4)) (ty := .int) (C := RX9) (T := TX9) (N := 19) gx gb gts i9 tyX9 tyX9_ok nmX9 gown hK hP hD hS 0 rfl rfl 1 (by decide) (gts (.fieldLink RX9 13 "SwanSumsModel" "many" "I") (by decide +kernel)) (fun _ h9 => h9) rfl (by decide +kernel) rfl rfl (Nat.le_of_ble_eq_true rfl) dX9_init_11 (fun H locs hP hD hS => ?_)
  have hP : va_P D vwCl (wM0 mo 4 4 u0 u1 0 u2 0 u3 u4 0 0 u5 u6 u7 u8 u9 u10 u11 u12) H := hP
  have hD : va_D A (wM0 mo 4 4 u0 u1 0 u2 0 u3 u4 0 0 u5 u6 u7 u8 u9 u10 u11 u12) := hD
  refine lv_aload_n gx gb dX9_init_14 rfl (lv_at hl 0 rfl) ?_
  refine lv_bipush (v := nI 7) gx gb dX9_init_15 (by decide) ?_
  refine va_newI gx gb (gts (.arrayClass .int) (by decide +kernel)) hK hP hD hS hA (n := 7) (by decide) (Nat.le_of_ble_eq_true rfl) (Nat.le_of_ble_eq_true rfl) dX9_init_17 (t0 := 0) (cB := cI) rfl (fun q17 H hP hD hS => ?_)
  have hP : va_P D vwCl (wM01 mo 4 4 u0 u1 0 u2 0 u3 u4 0 0 u5 u6 u7 u8 u9 u10 u11 u12 q17 cI (fun _ => 0)) H := hP
  have hD : va_D A (wM01 mo 4 4 u0 u1 0 u2 0 u3 u4 0 0 u5 u6 u7 u8 u9 u10 u11 u12 q17 cI (fun _ => 0)) := hD
  refine W.widen (k := 1) (n := 7) (Nat.le_of_ble_eq_true rfl) (Nat.le_of_ble_eq_true rfl) ?_
  refine va_putF (D := D) (ci := 4) (v := .ref q17) (ty := (.array .int)) (C := RX9) (T := TX9) (N := 19) gx gb gts i9 tyX9 tyX9_ok nmX9 gown hK hP hD hS 0 rfl rfl 2 (by decide) (gts (.fieldLink RX9 16 "SwanSumsModel" "numbers" "[I") (by decide +kernel)) (fun _ h9 => h9) rfl gin rfl (by decide +kernel) rfl rfl (Nat.le_of_ble_eq_true rfl) dX9_init_19 (fun H locs hP hD hS => ?_)
  have hP : va_P D vwCl (wM01 mo 4 4 (.ref q17) u1 0 u2 0 u3 u4 0 0 u5 u6 u7 u8 u9 u10 u11 u12 q17 cI (fun _ => 0)) H := hP
  have hD : va_D A (wM01 mo 4 4 (.ref q17) u1 0 u2 0 u3 u4 0 0 u5 u6 u7 u8 u9 u10 u11 u12 q17 cI (fun _ => 0)) := hD
  refine lv_aload_n gx gb dX9_init_22 rfl (lv_at hl 0 rfl) ?_
  refine lv_bipush (v := nI 7) gx gb dX9_init_23 (by decide) ?_
  refine va_newI gx gb (gts (.arrayClass .int) (by decide +kernel)) hK hP hD hS hA (n := 7) (by decide) (Nat.le_of_ble_eq_true rfl) (Nat.le_of_ble_eq_true rfl) dX9_init_25 (t0 := 0) (cB := cI) rfl (fun q25 H hP hD hS => ?_)
  have hP : va_P D vwCl (wM02 mo 4 4 (.ref q17) u1 0 u2 0 u3 u4 0 0 u5 u6 u7 u8 u9 u10 u11 u12 q17 cI (fun _ => 0) q25 (fun _ => 0)) H := hP
  have hD : va_D A (wM02 mo 4 4 (.ref q17) u1 0 u2 0 u3 u4 0 0 u5 u6 u7 u8 u9 u10 u11 u12 q17 cI (fun _ => 0) q25 (fun _ => 0)) := hD
  refine W.widen (k := 2) (n := 14) (Nat.le_of_ble_eq_true rfl) (Nat.le_of_ble_eq_true rfl) ?_
  refine va_putF (D := D) (ci := 4) (v := .ref q25) (ty := (.array .int)) (C := RX9) (T := TX9) (N := 19) gx gb gts i9 tyX9 tyX9_ok nmX9 gown hK hP hD hS 0 rfl rfl 3 (by decide) (gts (.fieldLink RX9 20 "SwanSumsModel" "place" "[I") (by decide +kernel)) (fun _ h9 => h9) rfl gin rfl (by decide +kernel) rfl rfl (Nat.le_of_ble_eq_true rfl) dX9_init_27 (fun H locs hP hD hS => ?_)
  have hP : va_P D vwCl (wM02 mo 4 4 (.ref q17) (.ref q25) 0 u2 0 u3 u4 0 0 u5 u6 u7 u8 u9 u10 u11 u12 q17 cI (fun _ => 0) q25 (fun _ => 0)) H := hP
  have hD : va_D A (wM02 mo 4 4 (.ref q17) (.ref q25) 0 u2 0 u3 u4 0 0 u5 u6 u7 u8 u9 u10 u11 u12 q17 cI (fun _ => 0) q25 (fun _ => 0)) := hD
  refine lv_aload_n gx gb dX9_init_30 rfl (lv_at hl 0 rfl) ?_
  refine lv_bipush (v := nI 12) gx gb dX9_init_31 (by decide) ?_
  refine va_newI gx gb (gts (.arrayClass .int) (by decide +kernel)) hK hP hD hS hA (n := 12) (by decide) (Nat.le_of_ble_eq_true rfl) (Nat.le_of_ble_eq_true rfl) dX9_init_33 (t0 := 0) (cB := cI) rfl (fun q33 H hP hD hS => ?_)
  have hP : va_P D vwCl (wM03 mo 4 4 (.ref q17) (.ref q25) 0 u2 0 u3 u4 0 0 u5 u6 u7 u8 u9 u10 u11 u12 q17 cI (fun _ => 0) q25 (fun _ => 0) q33 (fun _ => 0)) H := hP
  have hD : va_D A (wM03 mo 4 4 (.ref q17) (.ref q25) 0 u2 0 u3 u4 0 0 u5 u6 u7 u8 u9 u10 u11 u12 q17 cI (fun _ => 0) q25 (fun _ => 0) q33 (fun _ => 0)) := hD
  refine W.widen (k := 3) (n := 26) (Nat.le_of_ble_eq_true rfl) (Nat.le_of_ble_eq_true rfl) ?_
  refine va_putF (D := D) (ci := 4) (v := .ref q33) (ty := (.array .int)) (C := RX9) (T := TX9) (N := 19) gx gb gts i9 tyX9 tyX9_ok nmX9 gown hK hP hD hS 0 rfl rfl 5 (by decide) (gts (.fieldLink RX9 23 "SwanSumsModel" "sight" "[I") (by decide +kernel)) (fun _ h9 => h9) rfl gin rfl (by decide +kernel) rfl rfl (Nat.le_of_ble_eq_true rfl) dX9_init_35 (fun H locs hP hD hS => ?_)
  have hP : va_P D vwCl (wM03 mo 4 4 (.ref q17) (.ref q25) 0 (.ref q33) 0 u3 u4 0 0 u5 u6 u7 u8 u9 u10 u11 u12 q17 cI (fun _ => 0) q25 (fun _ => 0) q33 (fun _ => 0)) H := hP
  have hD : va_D A (wM03 mo 4 4 (.ref q17) (.ref q25) 0 (.ref q33) 0 u3 u4 0 0 u5 u6 u7 u8 u9 u10 u11 u12 q17 cI (fun _ => 0) q25 (fun _ => 0) q33 (fun _ => 0)) := hD
  refine lv_aload_n gx gb dX9_init_38 rfl (lv_at hl 0 rfl) ?_
  refine lv_bipush (v := nI 60) gx gb dX9_init_39 (by decide) ?_
  refine va_newI gx gb (gts (.arrayClass .int) (by decide +kernel)) hK hP hD hS hA (n := 60) (by decide) (Nat.le_of_ble_eq_true rfl) (Nat.le_of_ble_eq_true rfl) dX9_init_41 (t0 := 0) (cB := cI) rfl (fun q41 H hP hD hS => ?_)
  have hP : va_P D vwCl (wM04 mo 4 4 (.ref q17) (.ref q25) 0 (.ref q33) 0 u3 u4 0 0 u5 u6 u7 u8 u9 u10 u11 u12 q17 cI (fun _ => 0) q25 (fun _ => 0) q33 (fun _ => 0) q41 (fun _ => 0)) H := hP
  have hD : va_D A (wM04 mo 4 4 (.ref q17) (.ref q25) 0 (.ref q33) 0 u3 u4 0 0 u5 u6 u7 u8 u9 u10 u11 u12 q17 cI (fun _ => 0) q25 (fun _ => 0) q33 (fun _ => 0) q41 (fun _ => 0)) := hD
  refine W.widen (k := 4) (n := 86) (Nat.le_of_ble_eq_true rfl) (Nat.le_of_ble_eq_true rfl) ?_
  refine va_putF (D := D) (ci := 4) (v := .ref q41) (ty := (.array .int)) (C := RX9) (T := TX9) (N := 19) gx gb gts i9 tyX9 tyX9_ok nmX9 gown hK hP hD hS 0 rfl rfl 7 (by decide) (gts (.fieldLink RX9 26 "SwanSumsModel" "pad" "[I") (by decide +kernel)) (fun _ h9 => h9) rfl gin rfl (by decide +kernel) rfl rfl (Nat.le_of_ble_eq_true rfl) dX9_init_43 (fun H locs hP hD hS => ?_)
  have hP : va_P D vwCl (wM04 mo 4 4 (.ref q17) (.ref q25) 0 (.ref q33) 0 (.ref q41) u4 0 0 u5 u6 u7 u8 u9 u10 u11 u12 q17 cI (fun _ => 0) q25 (fun _ => 0) q33 (fun _ => 0) q41 (fun _ => 0)) H := hP
  have hD : va_D A (wM04 mo 4 4 (.ref q17) (.ref q25) 0 (.ref q33) 0 (.ref q41) u4 0 0 u5 u6 u7 u8 u9 u10 u11 u12 q17 cI (fun _ => 0) q25 (fun _ => 0) q33 (fun _ => 0) q41 (fun _ => 0)) := hD
  refine lv_aload_n gx gb dX9_init_46 rfl (lv_at hl 0 rfl) ?_
  refine lv_bipush (v := nI 8) gx gb dX9_init_47 (by decide) ?_
  refine va_newI gx gb (gts (.arrayClass .int) (by decide +kernel)) hK hP hD hS hA (n := 8) (by decide) (Nat.le_of_ble_eq_true rfl) (Nat.le_of_ble_eq_true rfl) dX9_init_49 (t0 := 0) (cB := cI) rfl (fun q49 H hP hD hS => ?_)
  have hP : va_P D vwCl (wM05 mo 4 4 (.ref q17) (.ref q25) 0 (.ref q33) 0 (.ref q41) u4 0 0 u5 u6 u7 u8 u9 u10 u11 u12 q17 cI (fun _ => 0) q25 (fun _ => 0) q33 (fun _ => 0) q41 (fun _ => 0) q49 (fun _ => 0)) H := hP
  have hD : va_D A (wM05 mo 4 4 (.ref q17) (.ref q25) 0 (.ref q33) 0 (.ref q41) u4 0 0 u5 u6 u7 u8 u9 u10 u11 u12 q17 cI (fun _ => 0) q25 (fun _ => 0) q33 (fun _ => 0) q41 (fun _ => 0) q49 (fun _ => 0)) := hD
  refine W.widen (k := 5) (n := 94) (Nat.le_of_ble_eq_true rfl) (Nat.le_of_ble_eq_true rfl) ?_
  refine va_putF (D := D) (ci := 4) (v := .ref q49) (ty := (.array .int)) (C := RX9) (T := TX9) (N := 19) gx gb gts i9 tyX9 tyX9_ok nmX9 gown hK hP hD hS 0 rfl rfl 8 (by decide) (gts (.fieldLink RX9 29 "SwanSumsModel" "row" "[I") (by decide +kernel)) (fun _ h9 => h9) rfl gin rfl (by decide +kernel) rfl rfl (Nat.le_of_ble_eq_true rfl) dX9_init_51 (fun H locs hP hD hS => ?_)
  have hP : va_P D vwCl (wM05 mo 4 4 (.ref q17) (.ref q25) 0 (.ref q33) 0 (.ref q41) (.ref q49) 0 0 u5 u6 u7 u8 u9 u10 u11 u12 q17 cI (fun _ => 0) q25 (fun _ => 0) q33 (fun _ => 0) q41 (fun _ => 0) q49 (fun _ => 0)) H := hP
  have hD : va_D A (wM05 mo 4 4 (.ref q17) (.ref q25) 0 (.ref q33) 0 (.ref q41) (.ref q49) 0 0 u5 u6 u7 u8 u9 u10 u11 u12 q17 cI (fun _ => 0) q25 (fun _ => 0) q33 (fun _ => 0) q41 (fun _ => 0) q49 (fun _ => 0)) := hD
  refine lv_aload_n gx gb dX9_init_54 rfl (lv_at hl 0 rfl) ?_
  refine lv_bipush (v := nI 7) gx gb dX9_init_55 (by decide) ?_
  refine va_newI gx gb (gts (.arrayClass .int) (by decide +kernel)) hK hP hD hS hA (n := 7) (by decide) (Nat.le_of_ble_eq_true rfl) (Nat.le_of_ble_eq_true rfl) dX9_init_57 (t0 := 0) (cB := cI) rfl (fun q57 H hP hD hS => ?_)
  have hP : va_P D vwCl (wM06 mo 4 4 (.ref q17) (.ref q25) 0 (.ref q33) 0 (.ref q41) (.ref q49) 0 0 u5 u6 u7 u8 u9 u10 u11 u12 q17 cI (fun _ => 0) q25 (fun _ => 0) q33 (fun _ => 0) q41 (fun _ => 0) q49 (fun _ => 0) q57 (fun _ => 0)) H := hP
  have hD : va_D A (wM06 mo 4 4 (.ref q17) (.ref q25) 0 (.ref q33) 0 (.ref q41) (.ref q49) 0 0 u5 u6 u7 u8 u9 u10 u11 u12 q17 cI (fun _ => 0) q25 (fun _ => 0) q33 (fun _ => 0) q41 (fun _ => 0) q49 (fun _ => 0) q57 (fun _ => 0)) := hD
  refine W.widen (k := 6) (n := 101) (Nat.le_of_ble_eq_true rfl) (Nat.le_of_ble_eq_true rfl) ?_
  refine va_putF (D := D) (ci := 4) (v := .ref q57) (ty := (.array .int)) (C := RX9) (T := TX9) (N := 19) gx gb gts i9 tyX9 tyX9_ok nmX9 gown hK hP hD hS 0 rfl rfl 11 (by decide) (gts (.fieldLink RX9 32 "SwanSumsModel" "digits" "[I") (by decide +kernel)) (fun _ h9 => h9) rfl gin rfl (by decide +kernel) rfl rfl (Nat.le_of_ble_eq_true rfl) dX9_init_59 (fun H locs hP hD hS => ?_)
  have hP : va_P D vwCl (wM06 mo 4 4 (.ref q17) (.ref q25) 0 (.ref q33) 0 (.ref q41) (.ref q49) 0 0 (.ref q57) u6 u7 u8 u9 u10 u11 u12 q17 cI (fun _ => 0) q25 (fun _ => 0) q33 (fun _ => 0) q41 (fun _ => 0) q49 (fun _ => 0) q57 (fun _ => 0)) H := hP
  have hD : va_D A (wM06 mo 4 4 (.ref q17) (.ref q25) 0 (.ref q33) 0 (.ref q41) (.ref q49) 0 0 (.ref q57) u6 u7 u8 u9 u10 u11 u12 q17 cI (fun _ => 0) q25 (fun _ => 0) q33 (fun _ => 0) q41 (fun _ => 0) q49 (fun _ => 0) q57 (fun _ => 0)) := hD
  refine lv_aload_n gx gb dX9_init_62 rfl (lv_at hl 0 rfl) ?_
  refine lv_sipush (v := nI 5040) gx gb dX9_init_63 (by decide) ?_
  refine va_newI gx gb (gts (.arrayClass .int) (by decide +kernel)) hK hP hD hS hA (n := 5040) (by decide) (Nat.le_of_ble_eq_true rfl) (Nat.le_of_ble_eq_true rfl) dX9_init_66 (t0 := 0) (cB := cI) rfl (fun q66 H hP hD hS => ?_)
  have hP : va_P D vwCl (wM07 mo 4 4 (.ref q17) (.ref q25) 0 (.ref q33) 0 (.ref q41) (.ref q49) 0 0 (.ref q57) u6 u7 u8 u9 u10 u11 u12 q17 cI (fun _ => 0) q25 (fun _ => 0) q33 (fun _ => 0) q41 (fun _ => 0) q49 (fun _ => 0) q57 (fun _ => 0) q66 (aN (fun _ => 0))) H := hP
  have hD : va_D A (wM07 mo 4 4 (.ref q17) (.ref q25) 0 (.ref q33) 0 (.ref q41) (.ref q49) 0 0 (.ref q57) u6 u7 u8 u9 u10 u11 u12 q17 cI (fun _ => 0) q25 (fun _ => 0) q33 (fun _ => 0) q41 (fun _ => 0) q49 (fun _ => 0) q57 (fun _ => 0) q66 (aN (fun _ => 0))) := hD
  refine W.widen (k := 7) (n := 5141) (Nat.le_of_ble_eq_true rfl) (Nat.le_of_ble_eq_true rfl) ?_
  refine va_putF (D := D) (ci := 4) (v := .ref q66) (ty := (.array .int)) (C := RX9) (T := TX9) (N := 19) gx gb gts i9 tyX9 tyX9_ok nmX9 gown hK hP hD hS 0 rfl rfl 12 (by decide) (gts (.fieldLink RX9 35 "SwanSumsModel" "far" "[I") (by decide +kernel)) (fun _ h9 => h9) rfl gin rfl (by decide +kernel) rfl rfl (Nat.le_of_ble_eq_true rfl) dX9_init_68 (fun H locs hP hD hS => ?_)
  have hP : va_P D vwCl (wM07 mo 4 4 (.ref q17) (.ref q25) 0 (.ref q33) 0 (.ref q41) (.ref q49) 0 0 (.ref q57) (.ref q66) u7 u8 u9 u10 u11 u12 q17 cI (fun _ => 0) q25 (fun _ => 0) q33 (fun _ => 0) q41 (fun _ => 0) q49 (fun _ => 0) q57 (fun _ => 0) q66 (aN (fun _ => 0))) H := hP
  have hD : va_D A (wM07 mo 4 4 (.ref q17) (.ref q25) 0 (.ref q33) 0 (.ref q41) (.ref q49) 0 0 (.ref q57) (.ref q66) u7 u8 u9 u10 u11 u12 q17 cI (fun _ => 0) q25 (fun _ => 0) q33 (fun _ => 0) q41 (fun _ => 0) q49 (fun _ => 0) q57 (fun _ => 0) q66 (aN (fun _ => 0))) := hD
  refine lv_aload_n gx gb dX9_init_71 rfl (lv_at hl 0 rfl) ?_
  refine lv_sipush (v := nI 5040) gx gb dX9_init_72 (by decide) ?_
  refine va_newI gx gb (gts (.arrayClass .int) (by decide +kernel)) hK hP hD hS hA (n := 5040) (by decide) (Nat.le_of_ble_eq_true rfl) (Nat.le_of_ble_eq_true rfl) dX9_init_75 (t0 := 0) (cB := cI) rfl (fun q75 H hP hD hS => ?_)
  have hP : va_P D vwCl (wM08 mo 4 4 (.ref q17) (.ref q25) 0 (.ref q33) 0 (.ref q41) (.ref q49) 0 0 (.ref q57) (.ref q66) u7 u8 u9 u10 u11 u12 q17 cI (fun _ => 0) q25 (fun _ => 0) q33 (fun _ => 0) q41 (fun _ => 0) q49 (fun _ => 0) q57 (fun _ => 0) q66 (aN (fun _ => 0)) q75 (fun _ => 0)) H := hP
  have hD : va_D A (wM08 mo 4 4 (.ref q17) (.ref q25) 0 (.ref q33) 0 (.ref q41) (.ref q49) 0 0 (.ref q57) (.ref q66) u7 u8 u9 u10 u11 u12 q17 cI (fun _ => 0) q25 (fun _ => 0) q33 (fun _ => 0) q41 (fun _ => 0) q49 (fun _ => 0) q57 (fun _ => 0) q66 (aN (fun _ => 0)) q75 (fun _ => 0)) := hD
  refine W.widen (k := 8) (n := 10181) (Nat.le_of_ble_eq_true rfl) (Nat.le_of_ble_eq_true rfl) ?_
  refine va_putF (D := D) (ci := 4) (v := .ref q75) (ty := (.array .int)) (C := RX9) (T := TX9) (N := 19) gx gb gts i9 tyX9 tyX9_ok nmX9 gown hK hP hD hS 0 rfl rfl 13 (by decide) (gts (.fieldLink RX9 38 "SwanSumsModel" "cameFrom" "[I") (by decide +kernel)) (fun _ h9 => h9) rfl gin rfl (by decide +kernel) rfl rfl (Nat.le_of_ble_eq_true rfl) dX9_init_77 (fun H locs hP hD hS => ?_)
  have hP : va_P D vwCl (wM08 mo 4 4 (.ref q17) (.ref q25) 0 (.ref q33) 0 (.ref q41) (.ref q49) 0 0 (.ref q57) (.ref q66) (.ref q75) u8 u9 u10 u11 u12 q17 cI (fun _ => 0) q25 (fun _ => 0) q33 (fun _ => 0) q41 (fun _ => 0) q49 (fun _ => 0) q57 (fun _ => 0) q66 (aN (fun _ => 0)) q75 (fun _ => 0)) H := hP
  have hD : va_D A (wM08 mo 4 4 (.ref q17) (.ref q25) 0 (.ref q33) 0 (.ref q41) (.ref q49) 0 0 (.ref q57) (.ref q66) (.ref q75) u8 u9 u10 u11 u12 q17 cI (fun _ => 0) q25 (fun _ => 0) q33 (fun _ => 0) q41 (fun _ => 0) q49 (fun _ => 0) q57 (fun _ => 0) q66 (aN (fun _ => 0)) q75 (fun _ => 0)) := hD
  refine lv_aload_n gx gb dX9_init_80 rfl (lv_at hl 0 rfl) ?_
  refine lv_sipush (v := nI 5040) gx gb dX9_init_81 (by decide) ?_
  refine va_newI gx gb (gts (.arrayClass .int) (by decide +kernel)) hK hP hD hS hA (n := 5040) (by decide) (Nat.le_of_ble_eq_true rfl) (Nat.le_of_ble_eq_true rfl) dX9_init_84 (t0 := 0) (cB := cI) rfl (fun q84 H hP hD hS => ?_)
  have hP : va_P D vwCl (wM09 mo 4 4 (.ref q17) (.ref q25) 0 (.ref q33) 0 (.ref q41) (.ref q49) 0 0 (.ref q57) (.ref q66) (.ref q75) u8 u9 u10 u11 u12 q17 cI (fun _ => 0) q25 (fun _ => 0) q33 (fun _ => 0) q41 (fun _ => 0) q49 (fun _ => 0) q57 (fun _ => 0) q66 (aN (fun _ => 0)) q75 (fun _ => 0) q84 (fun _ => 0)) H := hP
  have hD : va_D A (wM09 mo 4 4 (.ref q17) (.ref q25) 0 (.ref q33) 0 (.ref q41) (.ref q49) 0 0 (.ref q57) (.ref q66) (.ref q75) u8 u9 u10 u11 u12 q17 cI (fun _ => 0) q25 (fun _ => 0) q33 (fun _ => 0) q41 (fun _ => 0) q49 (fun _ => 0) q57 (fun _ => 0) q66 (aN (fun _ => 0)) q75 (fun _ => 0) q84 (fun _ => 0)) := hD
  refine W.widen (k := 9) (n := 15221) (Nat.le_of_ble_eq_true rfl) (Nat.le_of_ble_eq_true rfl) ?_
  refine va_putF (D := D) (ci := 4) (v := .ref q84) (ty := (.array .int)) (C := RX9) (T := TX9) (N := 19) gx gb gts i9 tyX9 tyX9_ok nmX9 gown hK hP hD hS 0 rfl rfl 14 (by decide) (gts (.fieldLink RX9 41 "SwanSumsModel" "cameBy" "[I") (by decide +kernel)) (fun _ h9 => h9) rfl gin rfl (by decide +kernel) rfl rfl (Nat.le_of_ble_eq_true rfl) dX9_init_86 (fun H locs hP hD hS => ?_)
  have hP : va_P D vwCl (wM09 mo 4 4 (.ref q17) (.ref q25) 0 (.ref q33) 0 (.ref q41) (.ref q49) 0 0 (.ref q57) (.ref q66) (.ref q75) (.ref q84) u9 u10 u11 u12 q17 cI (fun _ => 0) q25 (fun _ => 0) q33 (fun _ => 0) q41 (fun _ => 0) q49 (fun _ => 0) q57 (fun _ => 0) q66 (aN (fun _ => 0)) q75 (fun _ => 0) q84 (fun _ => 0)) H := hP
  have hD : va_D A (wM09 mo 4 4 (.ref q17) (.ref q25) 0 (.ref q33) 0 (.ref q41) (.ref q49) 0 0 (.ref q57) (.ref q66) (.ref q75) (.ref q84) u9 u10 u11 u12 q17 cI (fun _ => 0) q25 (fun _ => 0) q33 (fun _ => 0) q41 (fun _ => 0) q49 (fun _ => 0) q57 (fun _ => 0) q66 (aN (fun _ => 0)) q75 (fun _ => 0) q84 (fun _ => 0)) := hD
  refine lv_aload_n gx gb dX9_init_89 rfl (lv_at hl 0 rfl) ?_
  refine lv_sipush (v := nI 5040) gx gb dX9_init_90 (by decide) ?_
  refine va_newI gx gb (gts (.arrayClass .int) (by decide +kernel)) hK hP hD hS hA (n := 5040) (by decide) (Nat.le_of_ble_eq_true rfl) (Nat.le_of_ble_eq_true rfl) dX9_init_93 (t0 := 0) (cB := cI) rfl (fun q93 H hP hD hS => ?_)
  have hP : va_P D vwCl (wM010 mo 4 4 (.ref q17) (.ref q25) 0 (.ref q33) 0 (.ref q41) (.ref q49) 0 0 (.ref q57) (.ref q66) (.ref q75) (.ref q84) u9 u10 u11 u12 q17 cI (fun _ => 0) q25 (fun _ => 0) q33 (fun _ => 0) q41 (fun _ => 0) q49 (fun _ => 0) q57 (fun _ => 0) q66 (aN (fun _ => 0)) q75 (fun _ => 0) q84 (fun _ => 0) q93 (fun _ => 0)) H := hP
  have hD : va_D A (wM010 mo 4 4 (.ref q17) (.ref q25) 0 (.ref q33) 0 (.ref q41) (.ref q49) 0 0 (.ref q57) (.ref q66) (.ref q75) (.ref q84) u9 u10 u11 u12 q17 cI (fun _ => 0) q25 (fun _ => 0) q33 (fun _ => 0) q41 (fun _ => 0) q49 (fun _ => 0) q57 (fun _ => 0) q66 (aN (fun _ => 0)) q75 (fun _ => 0) q84 (fun _ => 0) q93 (fun _ => 0)) := hD
  refine W.widen (k := 10) (n := 20261) (Nat.le_of_ble_eq_true rfl) (Nat.le_of_ble_eq_true rfl) ?_
  refine va_putF (D := D) (ci := 4) (v := .ref q93) (ty := (.array .int)) (C := RX9) (T := TX9) (N := 19) gx gb gts i9 tyX9 tyX9_ok nmX9 gown hK hP hD hS 0 rfl rfl 15 (by decide) (gts (.fieldLink RX9 44 "SwanSumsModel" "queue" "[I") (by decide +kernel)) (fun _ h9 => h9) rfl gin rfl (by decide +kernel) rfl rfl (Nat.le_of_ble_eq_true rfl) dX9_init_95 (fun H locs hP hD hS => ?_)
  have hP : va_P D vwCl (wM010 mo 4 4 (.ref q17) (.ref q25) 0 (.ref q33) 0 (.ref q41) (.ref q49) 0 0 (.ref q57) (.ref q66) (.ref q75) (.ref q84) (.ref q93) u10 u11 u12 q17 cI (fun _ => 0) q25 (fun _ => 0) q33 (fun _ => 0) q41 (fun _ => 0) q49 (fun _ => 0) q57 (fun _ => 0) q66 (aN (fun _ => 0)) q75 (fun _ => 0) q84 (fun _ => 0) q93 (fun _ => 0)) H := hP
  have hD : va_D A (wM010 mo 4 4 (.ref q17) (.ref q25) 0 (.ref q33) 0 (.ref q41) (.ref q49) 0 0 (.ref q57) (.ref q66) (.ref q75) (.ref q84) (.ref q93) u10 u11 u12 q17 cI (fun _ => 0) q25 (fun _ => 0) q33 (fun _ => 0) q41 (fun _ => 0) q49 (fun _ => 0) q57 (fun _ => 0) q66 (aN (fun _ => 0)) q75 (fun _ => 0) q84 (fun _ => 0) q93 (fun _ => 0)) := hD
  refine lv_aload_n gx gb dX9_init_98 rfl (lv_at hl 0 rfl) ?_
  refine lv_bipush (v := nI 64) gx gb dX9_init_99 (by decide) ?_
  refine va_newI gx gb (gts (.arrayClass .int) (by decide +kernel)) hK hP hD hS hA (n := 64) (by decide) (Nat.le_of_ble_eq_true rfl) (Nat.le_of_ble_eq_true rfl) dX9_init_101 (t0 := 0) (cB := cI) rfl (fun q101 H hP hD hS => ?_)
  have hP : va_P D vwCl (wM011 mo 4 4 (.ref q17) (.ref q25) 0 (.ref q33) 0 (.ref q41) (.ref q49) 0 0 (.ref q57) (.ref q66) (.ref q75) (.ref q84) (.ref q93) u10 u11 u12 q17 cI (fun _ => 0) q25 (fun _ => 0) q33 (fun _ => 0) q41 (fun _ => 0) q49 (fun _ => 0) q57 (fun _ => 0) q66 (aN (fun _ => 0)) q75 (fun _ => 0) q84 (fun _ => 0) q93 (fun _ => 0) q101 (fun _ => 0)) H := hP
  have hD : va_D A (wM011 mo 4 4 (.ref q17) (.ref q25) 0 (.ref q33) 0 (.ref q41) (.ref q49) 0 0 (.ref q57) (.ref q66) (.ref q75) (.ref q84) (.ref q93) u10 u11 u12 q17 cI (fun _ => 0) q25 (fun _ => 0) q33 (fun _ => 0) q41 (fun _ => 0) q49 (fun _ => 0) q57 (fun _ => 0) q66 (aN (fun _ => 0)) q75 (fun _ => 0) q84 (fun _ => 0) q93 (fun _ => 0) q101 (fun _ => 0)) := hD
  refine W.widen (k := 11) (n := 20325) (Nat.le_of_ble_eq_true rfl) (Nat.le_of_ble_eq_true rfl) ?_
  refine va_putF (D := D) (ci := 4) (v := .ref q101) (ty := (.array .int)) (C := RX9) (T := TX9) (N := 19) gx gb gts i9 tyX9 tyX9_ok nmX9 gown hK hP hD hS 0 rfl rfl 16 (by decide) (gts (.fieldLink RX9 47 "SwanSumsModel" "has" "[I") (by decide +kernel)) (fun _ h9 => h9) rfl gin rfl (by decide +kernel) rfl rfl (Nat.le_of_ble_eq_true rfl) dX9_init_103 (fun H locs hP hD hS => ?_)
  have hP : va_P D vwCl (wM011 mo 4 4 (.ref q17) (.ref q25) 0 (.ref q33) 0 (.ref q41) (.ref q49) 0 0 (.ref q57) (.ref q66) (.ref q75) (.ref q84) (.ref q93) (.ref q101) u11 u12 q17 cI (fun _ => 0) q25 (fun _ => 0) q33 (fun _ => 0) q41 (fun _ => 0) q49 (fun _ => 0) q57 (fun _ => 0) q66 (aN (fun _ => 0)) q75 (fun _ => 0) q84 (fun _ => 0) q93 (fun _ => 0) q101 (fun _ => 0)) H := hP
  have hD : va_D A (wM011 mo 4 4 (.ref q17) (.ref q25) 0 (.ref q33) 0 (.ref q41) (.ref q49) 0 0 (.ref q57) (.ref q66) (.ref q75) (.ref q84) (.ref q93) (.ref q101) u11 u12 q17 cI (fun _ => 0) q25 (fun _ => 0) q33 (fun _ => 0) q41 (fun _ => 0) q49 (fun _ => 0) q57 (fun _ => 0) q66 (aN (fun _ => 0)) q75 (fun _ => 0) q84 (fun _ => 0) q93 (fun _ => 0) q101 (fun _ => 0)) := hD
  refine lv_aload_n gx gb dX9_init_106 rfl (lv_at hl 0 rfl) ?_
  refine lv_bipush (v := nI 64) gx gb dX9_init_107 (by decide) ?_
  refine va_newI gx gb (gts (.arrayClass .int) (by decide +kernel)) hK hP hD hS hA (n := 64) (by decide) (Nat.le_of_ble_eq_true rfl) (Nat.le_of_ble_eq_true rfl) dX9_init_109 (t0 := 0) (cB := cI) rfl (fun q109 H hP hD hS => ?_)
  have hP : va_P D vwCl (wM012 mo 4 4 (.ref q17) (.ref q25) 0 (.ref q33) 0 (.ref q41) (.ref q49) 0 0 (.ref q57) (.ref q66) (.ref q75) (.ref q84) (.ref q93) (.ref q101) u11 u12 q17 cI (fun _ => 0) q25 (fun _ => 0) q33 (fun _ => 0) q41 (fun _ => 0) q49 (fun _ => 0) q57 (fun _ => 0) q66 (aN (fun _ => 0)) q75 (fun _ => 0) q84 (fun _ => 0) q93 (fun _ => 0) q101 (fun _ => 0) q109 (fun _ => 0)) H := hP
  have hD : va_D A (wM012 mo 4 4 (.ref q17) (.ref q25) 0 (.ref q33) 0 (.ref q41) (.ref q49) 0 0 (.ref q57) (.ref q66) (.ref q75) (.ref q84) (.ref q93) (.ref q101) u11 u12 q17 cI (fun _ => 0) q25 (fun _ => 0) q33 (fun _ => 0) q41 (fun _ => 0) q49 (fun _ => 0) q57 (fun _ => 0) q66 (aN (fun _ => 0)) q75 (fun _ => 0) q84 (fun _ => 0) q93 (fun _ => 0) q101 (fun _ => 0) q109 (fun _ => 0)) := hD
  refine W.widen (k := 12) (n := 20389) (Nat.le_of_ble_eq_true rfl) (Nat.le_of_ble_eq_true rfl) ?_
  refine va_putF (D := D) (ci := 4) (v := .ref q109) (ty := (.array .int)) (C := RX9) (T := TX9) (N := 19) gx gb gts i9 tyX9 tyX9_ok nmX9 gown hK hP hD hS 0 rfl rfl 17 (by decide) (gts (.fieldLink RX9 50 "SwanSumsModel" "image" "[I") (by decide +kernel)) (fun _ h9 => h9) rfl gin rfl (by decide +kernel) rfl rfl (Nat.le_of_ble_eq_true rfl) dX9_init_111 (fun H locs hP hD hS => ?_)
  have hP : va_P D vwCl (wM012 mo 4 4 (.ref q17) (.ref q25) 0 (.ref q33) 0 (.ref q41) (.ref q49) 0 0 (.ref q57) (.ref q66) (.ref q75) (.ref q84) (.ref q93) (.ref q101) (.ref q109) u12 q17 cI (fun _ => 0) q25 (fun _ => 0) q33 (fun _ => 0) q41 (fun _ => 0) q49 (fun _ => 0) q57 (fun _ => 0) q66 (aN (fun _ => 0)) q75 (fun _ => 0) q84 (fun _ => 0) q93 (fun _ => 0) q101 (fun _ => 0) q109 (fun _ => 0)) H := hP
  have hD : va_D A (wM012 mo 4 4 (.ref q17) (.ref q25) 0 (.ref q33) 0 (.ref q41) (.ref q49) 0 0 (.ref q57) (.ref q66) (.ref q75) (.ref q84) (.ref q93) (.ref q101) (.ref q109) u12 q17 cI (fun _ => 0) q25 (fun _ => 0) q33 (fun _ => 0) q41 (fun _ => 0) q49 (fun _ => 0) q57 (fun _ => 0) q66 (aN (fun _ => 0)) q75 (fun _ => 0) q84 (fun _ => 0) q93 (fun _ => 0) q101 (fun _ => 0) q109 (fun _ => 0)) := hD
  refine lv_aload_n gx gb dX9_init_114 rfl (lv_at hl 0 rfl) ?_
  refine lv_iconst (v := nI 2) gx gb dX9_init_115 (by decide) ?_
  refine va_newZ gx gb (gts (.arrayClass .boolean) (by decide +kernel)) hK hP hD hS hA (n := 2) (by decide) (Nat.le_of_ble_eq_true rfl) (Nat.le_of_ble_eq_true rfl) dX9_init_116 (t0 := 2) (cB := cZ) rfl (fun q116 H hP hD hS => ?_)
  have hP : va_P D vwCl (wM013 mo 4 4 (.ref q17) (.ref q25) 0 (.ref q33) 0 (.ref q41) (.ref q49) 0 0 (.ref q57) (.ref q66) (.ref q75) (.ref q84) (.ref q93) (.ref q101) (.ref q109) u12 q17 cI (fun _ => 0) q25 (fun _ => 0) q33 (fun _ => 0) q41 (fun _ => 0) q49 (fun _ => 0) q57 (fun _ => 0) q66 (aN (fun _ => 0)) q75 (fun _ => 0) q84 (fun _ => 0) q93 (fun _ => 0) q101 (fun _ => 0) q109 (fun _ => 0) q116 cZ (fun _ => 0)) H := hP
  have hD : va_D A (wM013 mo 4 4 (.ref q17) (.ref q25) 0 (.ref q33) 0 (.ref q41) (.ref q49) 0 0 (.ref q57) (.ref q66) (.ref q75) (.ref q84) (.ref q93) (.ref q101) (.ref q109) u12 q17 cI (fun _ => 0) q25 (fun _ => 0) q33 (fun _ => 0) q41 (fun _ => 0) q49 (fun _ => 0) q57 (fun _ => 0) q66 (aN (fun _ => 0)) q75 (fun _ => 0) q84 (fun _ => 0) q93 (fun _ => 0) q101 (fun _ => 0) q109 (fun _ => 0) q116 cZ (fun _ => 0)) := hD
  refine W.widen (k := 13) (n := 20391) (Nat.le_of_ble_eq_true rfl) (Nat.le_of_ble_eq_true rfl) ?_
  refine va_putF (D := D) (ci := 4) (v := .ref q116) (ty := (.array .boolean)) (C := RX9) (T := TX9) (N := 19) gx gb gts i9 tyX9 tyX9_ok nmX9 gown hK hP hD hS 0 rfl rfl 18 (by decide) (gts (.fieldLink RX9 53 "SwanSumsModel" "isKept" "[Z") (by decide +kernel)) (fun _ h9 => h9) rfl gin rfl (by decide +kernel) rfl rfl (Nat.le_of_ble_eq_true rfl) dX9_init_118 (fun H locs hP hD hS => ?_)
  have hP : va_P D vwCl (wM013 mo 4 4 (.ref q17) (.ref q25) 0 (.ref q33) 0 (.ref q41) (.ref q49) 0 0 (.ref q57) (.ref q66) (.ref q75) (.ref q84) (.ref q93) (.ref q101) (.ref q109) (.ref q116) q17 cI (fun _ => 0) q25 (fun _ => 0) q33 (fun _ => 0) q41 (fun _ => 0) q49 (fun _ => 0) q57 (fun _ => 0) q66 (aN (fun _ => 0)) q75 (fun _ => 0) q84 (fun _ => 0) q93 (fun _ => 0) q101 (fun _ => 0) q109 (fun _ => 0) q116 cZ (fun _ => 0)) H := hP
  have hD : va_D A (wM013 mo 4 4 (.ref q17) (.ref q25) 0 (.ref q33) 0 (.ref q41) (.ref q49) 0 0 (.ref q57) (.ref q66) (.ref q75) (.ref q84) (.ref q93) (.ref q101) (.ref q109) (.ref q116) q17 cI (fun _ => 0) q25 (fun _ => 0) q33 (fun _ => 0) q41 (fun _ => 0) q49 (fun _ => 0) q57 (fun _ => 0) q66 (aN (fun _ => 0)) q75 (fun _ => 0) q84 (fun _ => 0) q93 (fun _ => 0) q101 (fun _ => 0) q109 (fun _ => 0) q116 cZ (fun _ => 0)) := hD
  refine lv_aload_n gx gb dX9_init_121 rfl (lv_at hl 0 rfl) ?_
  have hPc := hP.sub (ws' := wM mo q17 q25 q33 q41 q49 q57 q66 q75 q84 q93 q101 q109 q116 cI cZ 4 4 0 0 0 0 (fun _ => 0) (fun _ => 0) (fun _ => 0) (fun _ => 0) (fun _ => 0) (fun _ => 0) (aN (fun _ => 0)) (fun _ => 0) (fun _ => 0) (fun _ => 0) (fun _ => 0) (fun _ => 0) (fun _ => 0)) [0, 1, 2, 3, 4, 5, 6, 7, 8, 9, 10, 11, 12, 13] rfl
  have hDc := hD.sub (ws' := wM mo q17 q25 q33 q41 q49 q57 q66 q75 q84 q93 q101 q109 q116 cI cZ 4 4 0 0 0 0 (fun _ => 0) (fun _ => 0) (fun _ => 0) (fun _ => 0) (fun _ => 0) (fun _ => 0) (aN (fun _ => 0)) (fun _ => 0) (fun _ => 0) (fun _ => 0) (fun _ => 0) (fun _ => 0) (fun _ => 0)) [0, 1, 2, 3, 4, 5, 6, 7, 8, 9, 10, 11, 12, 13] (by decide) rfl
  have hFc := va_free (wc := wM mo q17 q25 q33 q41 q49 q57 q66 q75 q84 q93 q101 q109 q116 cI cZ 4 4 0 0 0 0 (fun _ => 0) (fun _ => 0) (fun _ => 0) (fun _ => 0) (fun _ => 0) (fun _ => 0) (aN (fun _ => 0)) (fun _ => 0) (fun _ => 0) (fun _ => 0) (fun _ => 0) (fun _ => 0) (fun _ => 0)) hD hS hA [0, 1, 2, 3, 4, 5, 6, 7, 8, 9, 10, 11, 12, 13] rfl
  refine va_callv (va_runV (As := []) (rest := []) ⟨gx, gb, gml, gown, gts⟩ (kX9_plain Gl D cI cJ cZ mo q17 q25 q33 q41 q49 q57 q66 q75 q84 q93 q101 q109 q116 4 4 0 0 0 0 (fun _ => 0) (fun _ => 0) (fun _ => 0) (fun _ => 0) (fun _ => 0) (fun _ => 0) (aN (fun _ => 0)) (fun _ => 0) (fun _ => 0) (fun _ => 0) (fun _ => 0) (fun _ => 0) (fun _ => 0) _  ) (cwV 0 gts gX9_init_X9_plain rfl rfl rfl (by decide +kernel) ⟨Nat.le_of_ble_eq_true rfl, Nat.le_of_ble_eq_true rfl⟩) ⟨fun a U g mk q => by obtain ⟨q0, q1, qP, qK, qD⟩ := q; exact ⟨q0, q1, qP, va_K.moved (u := U) (U := U.calling g mk a) (Vm.Alike.refl U.vm) qK, qD⟩, va_recv hK hPc (ci := 4) (q0 := 0) rfl rfl, fun U hU hW => ⟨rfl, by rw [hU], by rw [hU]; exact hPc, va_K.moved hW.alike hK, hDc.weaken (fun _ _ _ _ => trivial)⟩⟩ rfl rfl hl.1 rfl (lv_room (Nat.le_of_ble_eq_true rfl)) dX9_init_122 ⟨Nat.le_of_ble_eq_true rfl, Nat.le_of_ble_eq_true rfl⟩) hS (fun q _ h => hFc q h) hFc (fun u t H1 locs ht hvm hw hB hz1 hk1 hS => ?_)
  obtain ⟨hP1, hK1, hD1⟩ := hB
  rw [ht] at hP1
  try dsimp only at hw
  try dsimp only at hP1
  try dsimp only at hD1
  have hK := va_K.moved hvm.symm hK1
  obtain ⟨hP, hD⟩ := va_join (wr := []) (w1 := wM mo q17 q25 q33 q41 q49 q57 q66 q75 q84 q93 q101 q109 q116 cI cZ 4 4 0 0 0 0 (cpy (fun k => k + 1) (fun _ => 0) 7) (cpy (fun k => k) (fun _ => 0) 7) (fun _ => 0) (fun _ => 0) (fun _ => 0) (fun _ => 0) (aN (fun _ => 0)) (fun _ => 0) (fun _ => 0) (fun _ => 0) (fun _ => 0) (fun _ => 0) (fun _ => 0)) hP hD [0, 1, 2, 3, 4, 5, 6, 7, 8, 9, 10, 11, 12, 13] [] rfl rfl (by decide) (by decide) hk1 hFc hP1 hD1
  have hP := hP.sub (ws' := wM013 mo 4 4 (.ref q17) (.ref q25) 0 (.ref q33) 0 (.ref q41) (.ref q49) 0 0 (.ref q57) (.ref q66) (.ref q75) (.ref q84) (.ref q93) (.ref q101) (.ref q109) (.ref q116) q17 cI (cpy (fun k => k + 1) (fun _ => 0) 7) q25 (cpy (fun k => k) (fun _ => 0) 7) q33 (fun _ => 0) q41 (fun _ => 0) q49 (fun _ => 0) q57 (fun _ => 0) q66 (aN (fun _ => 0)) q75 (fun _ => 0) q84 (fun _ => 0) q93 (fun _ => 0) q101 (fun _ => 0) q109 (fun _ => 0) q116 cZ (fun _ => 0)) [0, 1, 2, 3, 4, 5, 6, 7, 8, 9, 10, 11, 12, 13] rfl
  have hD := hD.sub (ws' := wM013 mo 4 4 (.ref q17) (.ref q25) 0 (.ref q33) 0 (.ref q41) (.ref q49) 0 0 (.ref q57) (.ref q66) (.ref q75) (.ref q84) (.ref q93) (.ref q101) (.ref q109) (.ref q116) q17 cI (cpy (fun k => k + 1) (fun _ => 0) 7) q25 (cpy (fun k => k) (fun _ => 0) 7) q33 (fun _ => 0) q41 (fun _ => 0) q49 (fun _ => 0) q57 (fun _ => 0) q66 (aN (fun _ => 0)) q75 (fun _ => 0) q84 (fun _ => 0) q93 (fun _ => 0) q101 (fun _ => 0) q109 (fun _ => 0) q116 cZ (fun _ => 0)) [0, 1, 2, 3, 4, 5, 6, 7, 8, 9, 10, 11, 12, 13] (by decide) rfl
  have hK := va_K.moved (Vm.Alike.refl Gs.vm) hK
  generalize H1 = H at hP hS ⊢
  exact W.vret gx gb gr (fun t ht hW => ⟨⟨(q17, q25, q33, q41, q49, q57, q66, q75, q84, q93, q101, q109, q116), rfl, (by first | (dsimp only; done) | ((try dsimp only); trivial)), by rw [ht]; exact hP, va_K.moved hW.alike hK, hD⟩, hS.F ht⟩) hS.2.2 dX9_init_125

set_option maxHeartbeats 4000000 in
set_option maxRecDepth 100000 in
theorem kX8_routesOfNow_1 (Gl : Launch) (D : va_G) (cI cJ cZ : ClassId) (h : Nat) (fl : Nat) (e1 : Nat) (e2 : Nat) (pd : Nat) (sg : Nat) (k1 : Nat) (k2 : Nat) (n : Nat) (N : Nat) (R : Nat) (q : Nat) (S : Nat) (c : Nat) (na : Nat) (Na : Nat) (Ra : Nat) (qa : Nat) (Sa : Nat) (ca : Nat) (nb : Nat) (Nb : Nat) (Rb : Nat) (qb : Nat) (Sb : Nat) (cb : Nat) (cnt : Nat) (rb : Nat) (sb : Nat) (g : Nat → Nat) (rt : Nat) (r0 : Nat) (r1 : Nat) (r4 : Nat) (r5 : Nat) (tn : Nat) (ts : Nat) (tq : Nat) (rws : Nat → Nat) (lks : Nat → Nat) (mks : Nat → Nat) (qu : Nat → Nat) (sz : Nat) (hq1 : 1 ≤ q) (hq7 : q ≤ 7) (hT : tOK ts tn rws lks) : Met Gl yX8_routesOfNow wsX8_routesOfNow ({ frames := 5, cells := 0, slots := 0, locals := 115 } : Room) (va_Pc [.ref h] (fun U => U.heap.size = sz ∧ va_P D vwCl (wY h fl e1 e2 pd sg cI k1 k2 (.ref rt) n N R q S c na Na Ra qa Sa ca nb Nb Rb qb Sb cb cnt rb sb g rt r0 r1 r4 r5 cJ tn ts tq rws lks mks qu) U.heap ∧ va_K D vwCl [(cI, .int), (cJ, .long), (cZ, .boolean)] U ∧ va_D (fun _ => True) (wY h fl e1 e2 pd sg cI k1 k2 (.ref rt) n N R q S c na Na Ra qa Sa ca nb Nb Rb qb Sb cb cnt rb sb g rt r0 r1 r4 r5 cJ tn ts tq rws lks mks qu))) (va_Qr (fun u : (Nat) × (Nat → Nat) × (Nat → Nat) × (Nat → Nat) => simR q (bAll q) u.1 u.2.1 u.2.2.1) (fun (u : (Nat) × (Nat → Nat) × (Nat → Nat) × (Nat → Nat)) (ra : Nat) t => ra = rt ∧ va_P D vwCl (wY h fl e1 e2 pd sg cI k1 k2 (.ref rt) n N R q S c na Na Ra qa Sa ca nb Nb Rb qb Sb cb cnt rb sb g rt r0 r1 r4 r5 cJ u.1 q tq u.2.1 u.2.2.1 u.2.2.2 qu) t.heap ∧ va_K D vwCl [(cI, .int), (cJ, .long), (cZ, .boolean)] t ∧ va_D (va_A (wY h fl e1 e2 pd sg cI k1 k2 (.ref rt) n N R q S c na Na Ra qa Sa ca nb Nb Rb qb Sb cb cnt rb sb g rt r0 r1 r4 r5 cJ tn ts tq rws lks mks qu) sz) (wY h fl e1 e2 pd sg cI k1 k2 (.ref rt) n N R q S c na Na Ra qa Sa ca nb Nb Rb qb Sb cb cnt rb sb g rt r0 r1 r4 r5 cJ u.1 q tq u.2.1 u.2.2.1 u.2.2.2 qu)) (va_A (wY h fl e1 e2 pd sg cI k1 k2 (.ref rt) n N R q S c na Na Ra qa Sa ca nb Nb Rb qb Sb cb cnt rb sb g rt r0 r1 r4 r5 cJ tn ts tq rws lks mks qu) sz)) 0 0 (va_A (wY h fl e1 e2 pd sg cI k1 k2 (.ref rt) n N R q S c na Na Ra qa Sa ca nb Nb Rb qb Sb cb cnt rb sb g rt r0 r1 r4 r5 cJ tn ts tq rws lks mks qu) sz) := by
  refine Met.ofW (cc := cX8_routesOfNow) (maxL := 1) (ret := (some (.object "SwanSums$Routes"))) (by decide +kernel) rfl ?_
  intro Gp Ge Gs Gm Ga Gw Gt Gc G1 Bd gml gv
  obtain ⟨rfl, hsz, hP, hK, hD0⟩ := gv
  have gx := Bd.exec
  have gb := Bd.bytes
  have gr := Bd.returns
  have gts := atoms_spec (ws := wsX8_routesOfNow) Bd.pre
  have gown : Gs.vm.findClass RX8 = some Gm.cls := findClass_of_methodNamed Bd.named
  have glk := Bd.notSynchronized
  subst hsz
  have hD := hD0.self (sz := Gs.heap.size)
  generalize hAe : va_A (wY h fl e1 e2 pd sg cI k1 k2 (.ref rt) n N R q S c na Na Ra qa Sa ca nb Nb Rb qb Sb cb cnt rb sb g rt r0 r1 r4 r5 cJ tn ts tq rws lks mks qu) Gs.heap.size = A at hD ⊢
  have hA : ∀ q : Nat, Gs.heap.size ≤ q → A q := fun q h => by rw [← hAe]; exact Or.inr h
  have hS : va_S A Gs.heap Gs.heap [] := va_S.rf
  have hP : va_P D vwCl (wY h fl e1 e2 pd sg cI k1 k2 (.ref rt) n N R q S c na Na Ra qa Sa ca nb Nb Rb qb Sb cb cnt rb sb g rt r0 r1 r4 r5 cJ tn ts tq rws lks mks qu) Gs.heap := hP
  have hl := lv_entry ([.ref h]) (n := 1) (Nat.le_of_ble_eq_true rfl)
  rw [lg_entry_eq]
  generalize (lg_sl ([.ref h]) ++ List.replicate (1 - (lg_sl ([.ref h])).length) Slot.unset).toArray = ls at hl ⊢
  have hl : lv_has ls 1 [(0, .ref h)] := hl
  have i1 : ∀ w ∈ wsX10, w ∈ wsX8_routesOfNow := by decide +kernel
  have i5 : ∀ w ∈ wsX50, w ∈ wsX8_routesOfNow := by decide +kernel
  have i8 : ∀ w ∈ wsX80, w ∈ wsX8_routesOfNow := by decide +kernel
  refine lv_aload_n gx gb dX8_routesOfNow_0 rfl (lv_at hl 0 rfl) ?_
  refine va_get (D := D) (ci := 3) (v := .ref rt) (C := RX8) (T := TX8) (N := 7) gx gb gts i8 gown hK hP 0 rfl rfl 6 (by decide) (gts (.fieldLink RX8 36 "SwanSums" "routes" "LSwanSums$Routes;") (by decide +kernel)) (fun _ h9 => h9) rfl dX8_routesOfNow_1 ?_
  refine lv_ifnonnull (tgt := 18) gx gb dX8_routesOfNow_4 (by decide) ?_
  refine lv_aload_n gx gb dX8_routesOfNow_18 rfl (lv_at hl 0 rfl) ?_
  refine va_get (D := D) (ci := 3) (v := .ref rt) (C := RX8) (T := TX8) (N := 7) gx gb gts i8 gown hK hP 0 rfl rfl 6 (by decide) (gts (.fieldLink RX8 36 "SwanSums" "routes" "LSwanSums$Routes;") (by decide +kernel)) (fun _ h9 => h9) rfl dX8_routesOfNow_19 ?_
  refine lv_aload_n gx gb dX8_routesOfNow_22 rfl (lv_at hl 0 rfl) ?_
  refine va_get (D := D) (ci := 3) (v := .ref fl) (C := RX8) (T := TX8) (N := 7) gx gb gts i8 gown hK hP 0 rfl rfl 0 (by decide) (gts (.fieldLink RX8 12 "SwanSums" "flock" "LSwanSums$Flock;") (by decide +kernel)) (fun _ h9 => h9) rfl dX8_routesOfNow_23 ?_
  refine va_get (D := D) (ci := 0) (v := .int (nI q)) (C := RX1) (T := TX1) (N := 6) gx gb gts i1 gown hK hP 1 rfl rfl 3 (by decide) (gts (.fieldLink RX8 82 "SwanSums$Flock" "size" "I") (by decide +kernel)) (fun _ h9 => h9) rfl dX8_routesOfNow_26 ?_
  have hPc := hP.sub (ws' := wT rt r0 r1 r4 r5 cI cJ tn ts tq rws lks mks qu) [6, 7, 8, 9, 10] rfl
  have hDc := hD.sub (ws' := wT rt r0 r1 r4 r5 cI cJ tn ts tq rws lks mks qu) [6, 7, 8, 9, 10] (by decide) rfl
  have hFc := va_free (wc := wT rt r0 r1 r4 r5 cI cJ tn ts tq rws lks mks qu) hD hS hA [6, 7, 8, 9, 10] rfl
  refine va_callv (va_runV (As := [.int (nI q)]) (rest := []) ⟨gx, gb, gml, gown, gts⟩ (kX5_prepare Gl D cI cJ cZ rt r0 r1 r4 r5 tn ts tq rws lks mks qu _ q (by omega) (by omega) (by exact hT.1) (by exact tOK_p hT (by omega))) (cwV 1 gts gX8_routesOfNow_X5_prepare rfl rfl rfl (by decide +kernel) ⟨Nat.le_of_ble_eq_true rfl, Nat.le_of_ble_eq_true rfl⟩) ⟨fun a U g mk q => by obtain ⟨q0, q1, qP, qK, qD⟩ := q; exact ⟨q0, q1, qP, va_K.moved (u := U) (U := U.calling g mk a) (Vm.Alike.refl U.vm) qK, qD⟩, va_recv hK hPc (ci := 2) (q0 := 0) rfl rfl, fun U hU hW => ⟨rfl, by rw [hU], by rw [hU]; exact hPc, va_K.moved hW.alike hK, hDc.weaken (fun _ _ _ _ => trivial)⟩⟩ rfl rfl hl.1 rfl (lv_room (Nat.le_of_ble_eq_true rfl)) dX8_routesOfNow_29 ⟨Nat.le_of_ble_eq_true rfl, Nat.le_of_ble_eq_true rfl⟩) hS (fun q _ h => hFc q h) hFc (fun u t H1 locs ht hvm hw hB hz1 hk1 hS => ?_)
  obtain ⟨tn_29, rws_29, lks_29, mks_29⟩ := u
  obtain ⟨hP1, hK1, hD1⟩ := hB
  rw [ht] at hP1
  try dsimp only at hw
  try dsimp only at hP1
  try dsimp only at hD1
  have hK := va_K.moved hvm.symm hK1
  obtain ⟨hP, hD⟩ := va_join (wr := [(h, .inr (3, [.ref fl, .ref e1, .ref e2, .int (nI k1), .int (nI k2), .ref pd, .ref rt])), (fl, .inr (0, [.int (nI n), .long (lN N), .int (nI R), .int (nI q), .long (lN S), .int (nI c)])), (e1, .inr (0, [.int (nI na), .long (lN Na), .int (nI Ra), .int (nI qa), .long (lN Sa), .int (nI ca)])), (e2, .inr (0, [.int (nI nb), .long (lN Nb), .int (nI Rb), .int (nI qb), .long (lN Sb), .int (nI cb)])), (pd, .inr (1, [.ref sg, .int (nI cnt), .int (nI rb), .int (nI sb)])), (sg, .inl (cI, 60, .inl (aN g)))]) (w1 := wT rt r0 r1 r4 r5 cI cJ tn_29 q tq rws_29 lks_29 mks_29 qu) hP hD [6, 7, 8, 9, 10] [0, 1, 2, 3, 4, 5] rfl rfl (by decide) (by decide) hk1 hFc hP1 hD1
  have hP := hP.sub (ws' := wY h fl e1 e2 pd sg cI k1 k2 (.ref rt) n N R q S c na Na Ra qa Sa ca nb Nb Rb qb Sb cb cnt rb sb g rt r0 r1 r4 r5 cJ tn_29 q tq rws_29 lks_29 mks_29 qu) [0, 1, 2, 3, 4, 5, 6, 7, 8, 9, 10] rfl
  have hD := hD.sub (ws' := wY h fl e1 e2 pd sg cI k1 k2 (.ref rt) n N R q S c na Na Ra qa Sa ca nb Nb Rb qb Sb cb cnt rb sb g rt r0 r1 r4 r5 cJ tn_29 q tq rws_29 lks_29 mks_29 qu) [0, 1, 2, 3, 4, 5, 6, 7, 8, 9, 10] (by decide) rfl
  have hK := va_K.moved (Vm.Alike.refl Gs.vm) hK
  generalize H1 = H at hP hS ⊢
  have hsR := hw
  refine lv_aload_n gx gb dX8_routesOfNow_32 rfl (lv_at hl 0 rfl) ?_
  refine va_get (D := D) (ci := 3) (v := .ref rt) (C := RX8) (T := TX8) (N := 7) gx gb gts i8 gown hK hP 0 rfl rfl 6 (by decide) (gts (.fieldLink RX8 36 "SwanSums" "routes" "LSwanSums$Routes;") (by decide +kernel)) (fun _ h9 => h9) rfl dX8_routesOfNow_33 ?_
  exact W.aret (v := .ref rt) gx gb gr (Or.inl ⟨_, rfl⟩) (Or.inr ⟨_, rfl⟩) (fun t ht hW => ⟨⟨(tn_29, rws_29, lks_29, mks_29), rt, rfl, (by first | (dsimp only; done) | ((try dsimp only); exact hsR)), rfl, by rw [ht]; exact hP, va_K.moved hW.alike hK, hD⟩, hS.F ht⟩) hS.2.2 dX8_routesOfNow_36

set_option maxHeartbeats 4000000 in
set_option maxRecDepth 100000 in
theorem kX8_plan_1 (Gl : Launch) (D : va_G) (cI cJ cZ : ClassId) (h : Nat) (fl : Nat) (e1 : Nat) (e2 : Nat) (pd : Nat) (sg : Nat) (k1 : Nat) (k2 : Nat) (n : Nat) (q : Nat) (S : Nat) (c : Nat) (na : Nat) (Na : Nat) (Ra : Nat) (qa : Nat) (Sa : Nat) (ca : Nat) (nb : Nat) (Nb : Nat) (Rb : Nat) (qb : Nat) (Sb : Nat) (cb : Nat) (cnt : Nat) (rb : Nat) (sb : Nat) (g : Nat → Nat) (rt : Nat) (r0 : Nat) (r1 : Nat) (r4 : Nat) (r5 : Nat) (tn : Nat) (ts : Nat) (tq : Nat) (rws : Nat → Nat) (lks : Nat → Nat) (mks : Nat → Nat) (qu : Nat → Nat) (sz : Nat) (num plc : Nat → Nat) (a b : Int) (hl_a : -2147483648 ≤ a) (hu_a : a < 2147483648) (hl_b : -2147483648 ≤ b) (hu_b : b < 2147483648) (hn1 : 1 ≤ n) (hn7 : n ≤ 7) (hq1 : 1 ≤ q) (hqn : q ≤ n) (hp : ∀ k, k < q → plc k < n) (hnum : ∀ k, k < n → num k ≤ 99) (hinj : ∀ i j, i < q → j < q → plc i = plc j → i = j) (hT : tOK ts tn rws lks) : Met Gl yX8_plan wsX8_plan ({ frames := 6, cells := 0, slots := 0, locals := 135 } : Room) (va_Pc [.ref h, .int (zI a), .int (zI b)] (fun U => U.heap.size = sz ∧ va_P D vwCl (wY h fl e1 e2 pd sg cI k1 k2 (.ref rt) n (pk 256 num n) (pk 8 plc q) q S c na Na Ra qa Sa ca nb Nb Rb qb Sb cb cnt rb sb g rt r0 r1 r4 r5 cJ tn ts tq rws lks mks qu) U.heap ∧ va_K D vwCl [(cI, .int), (cJ, .long), (cZ, .boolean)] U ∧ va_D (fun _ => True) (wY h fl e1 e2 pd sg cI k1 k2 (.ref rt) n (pk 256 num n) (pk 8 plc q) q S c na Na Ra qa Sa ca nb Nb Rb qb Sb cb cnt rb sb g rt r0 r1 r4 r5 cJ tn ts tq rws lks mks qu))) (va_Qi (fun (r : Int32) (u : (Nat) × (Nat) × (Nat → Nat) × (Nat → Nat) × (Nat → Nat)) => r = zI (plnZ num plc q a b) ∧ tOK u.2.1 u.1 u.2.2.1 u.2.2.2.1) (fun (u : (Nat) × (Nat) × (Nat → Nat) × (Nat → Nat) × (Nat → Nat)) t => va_P D vwCl (wY h fl e1 e2 pd sg cI k1 k2 (.ref rt) n (pk 256 num n) (pk 8 plc q) q S c na Na Ra qa Sa ca nb Nb Rb qb Sb cb cnt rb sb g rt r0 r1 r4 r5 cJ u.1 u.2.1 tq u.2.2.1 u.2.2.2.1 u.2.2.2.2 qu) t.heap ∧ va_K D vwCl [(cI, .int), (cJ, .long), (cZ, .boolean)] t ∧ va_D (va_A (wY h fl e1 e2 pd sg cI k1 k2 (.ref rt) n (pk 256 num n) (pk 8 plc q) q S c na Na Ra qa Sa ca nb Nb Rb qb Sb cb cnt rb sb g rt r0 r1 r4 r5 cJ tn ts tq rws lks mks qu) sz) (wY h fl e1 e2 pd sg cI k1 k2 (.ref rt) n (pk 256 num n) (pk 8 plc q) q S c na Na Ra qa Sa ca nb Nb Rb qb Sb cb cnt rb sb g rt r0 r1 r4 r5 cJ u.1 u.2.1 tq u.2.2.1 u.2.2.2.1 u.2.2.2.2 qu)) (va_A (wY h fl e1 e2 pd sg cI k1 k2 (.ref rt) n (pk 256 num n) (pk 8 plc q) q S c na Na Ra qa Sa ca nb Nb Rb qb Sb cb cnt rb sb g rt r0 r1 r4 r5 cJ tn ts tq rws lks mks qu) sz)) 0 0 (va_A (wY h fl e1 e2 pd sg cI k1 k2 (.ref rt) n (pk 256 num n) (pk 8 plc q) q S c na Na Ra qa Sa ca nb Nb Rb qb Sb cb cnt rb sb g rt r0 r1 r4 r5 cJ tn ts tq rws lks mks qu) sz) := by
  refine Met.ofW (cc := cX8_plan) (maxL := 6) (ret := (some .int)) (by decide +kernel) rfl ?_
  intro Gp Ge Gs Gm Ga Gw Gt Gc G1 Bd gml gv
  obtain ⟨rfl, hsz, hP, hK, hD0⟩ := gv
  have gx := Bd.exec
  have gb := Bd.bytes
  have gr := Bd.returns
  have gts := atoms_spec (ws := wsX8_plan) Bd.pre
  have gown : Gs.vm.findClass RX8 = some Gm.cls := findClass_of_methodNamed Bd.named
  have glk := Bd.notSynchronized
  subst hsz
  have hD := hD0.self (sz := Gs.heap.size)
  generalize hAe : va_A (wY h fl e1 e2 pd sg cI k1 k2 (.ref rt) n (pk 256 num n) (pk 8 plc q) q S c na Na Ra qa Sa ca nb Nb Rb qb Sb cb cnt rb sb g rt r0 r1 r4 r5 cJ tn ts tq rws lks mks qu) Gs.heap.size = A at hD ⊢
  have hA : ∀ q : Nat, Gs.heap.size ≤ q → A q := fun q h => by rw [← hAe]; exact Or.inr h
  have hS : va_S A Gs.heap Gs.heap [] := va_S.rf
  have hP : va_P D vwCl (wY h fl e1 e2 pd sg cI k1 k2 (.ref rt) n (pk 256 num n) (pk 8 plc q) q S c na Na Ra qa Sa ca nb Nb Rb qb Sb cb cnt rb sb g rt r0 r1 r4 r5 cJ tn ts tq rws lks mks qu) Gs.heap := hP
  have hl := lv_entry ([.ref h, .int (zI a), .int (zI b)]) (n := 6) (Nat.le_of_ble_eq_true rfl)
  rw [lg_entry_eq]
  generalize (lg_sl ([.ref h, .int (zI a), .int (zI b)]) ++ List.replicate (6 - (lg_sl ([.ref h, .int (zI a), .int (zI b)])).length) Slot.unset).toArray = ls at hl ⊢
  have hl : lv_has ls 6 [(0, .ref h), (1, .int (zI a)), (2, .int (zI b))] := hl
  have i8 : ∀ w ∈ wsX80, w ∈ wsX8_plan := by decide +kernel
  have hp8 : ∀ k, k < q → plc k < 8 := fun k hk => by have := hp k hk; omega
  have hR8 := pk8_lt hp8 (by omega)
  have hn256 : ∀ k, k < n → num k < 256 := fun k hk => by have := hnum k hk; omega
  have hN63 := pk256_lt hn256 (by omega)
  have hld := lin_dg hnum hp
  have hl63 := pk256_lt (f := (fun x => num (plc x))) (z := q) (fun i hi => by have := hnum _ (hp i hi); show num (plc i) < 256; omega) (by omega)
  obtain ⟨SA, hSA⟩ : ∃ SA : BS, bAll q = SA := ⟨_, rfl⟩
  have hbk : bOK q SA := by rw [← hSA]; exact bfs_ok (by omega) 5040
  have hbn := bOK_n7 (q := q) (by omega) hbk
  have hnv : ∀ x, x < q → num (plc x) ≤ 99 := fun x hx => hnum _ (hp x hx)
  refine lv_iload_n gx gb dX8_plan_0 rfl (lv_at hl 1 rfl) ?_
  refine vp_callSi (W.runS (As := [.int (zI a)]) (rest := []) ⟨gx, gb, gml, gown, gts⟩ (kX8_isLesson Gl a (by omega) (by omega)) (va_cwS 1 gts gX8_plan_X8_isLesson rfl rfl rfl (by decide +kernel) ⟨Nat.le_of_ble_eq_true rfl, Nat.le_of_ble_eq_true rfl⟩) ⟨fun _ _ _ _ h => h, fun U hU hW => ⟨rfl, trivial⟩⟩ rfl rfl hl.1 rfl (lv_room (Nat.le_of_ble_eq_true rfl)) dX8_plan_1 ⟨Nat.le_of_ble_eq_true rfl, Nat.le_of_ble_eq_true rfl⟩) (fun r hw => ?_)
  have hr1 := hw
  subst hr1
  refine lv_if_ne (tgt := 10) gx gb dX8_plan_4 (by decide) (fun c4 => ?_) (fun c4 => ?_)
  · skip
    rw [b0_eq] at c4
    simp only [decide_eq_false_iff_not, Decidable.not_not] at c4
    obtain ⟨k, hk⟩ : ∃ k : Nat, a = (k : Int) := ⟨a.toNat, by omega⟩
    rw [show zI a = nI k from by rw [hk, zI_nat]] at hl
    have hl : lv_has ls 6 [(0, .ref h), (1, .int (nI k)), (2, .int (zI b))] := hl
    refine lv_aload_n gx gb dX8_plan_10 rfl (lv_at hl 0 rfl) ?_
    have hPc := hP.sub (ws' := wY h fl e1 e2 pd sg cI k1 k2 (.ref rt) n (pk 256 num n) (pk 8 plc q) q S c na Na Ra qa Sa ca nb Nb Rb qb Sb cb cnt rb sb g rt r0 r1 r4 r5 cJ tn ts tq rws lks mks qu) [0, 1, 2, 3, 4, 5, 6, 7, 8, 9, 10] rfl
    have hDc := hD.sub (ws' := wY h fl e1 e2 pd sg cI k1 k2 (.ref rt) n (pk 256 num n) (pk 8 plc q) q S c na Na Ra qa Sa ca nb Nb Rb qb Sb cb cnt rb sb g rt r0 r1 r4 r5 cJ tn ts tq rws lks mks qu) [0, 1, 2, 3, 4, 5, 6, 7, 8, 9, 10] (by decide) rfl
    have hFc := va_free (wc := wY h fl e1 e2 pd sg cI k1 k2 (.ref rt) n (pk 256 num n) (pk 8 plc q) q S c na Na Ra qa Sa ca nb Nb Rb qb Sb cb cnt rb sb g rt r0 r1 r4 r5 cJ tn ts tq rws lks mks qu) hD hS hA [0, 1, 2, 3, 4, 5, 6, 7, 8, 9, 10] rfl
    refine va_callr (va_runV (As := []) (rest := []) ⟨gx, gb, gml, gown, gts⟩ (kX8_routesOfNow_1 Gl D cI cJ cZ h fl e1 e2 pd sg k1 k2 n (pk 256 num n) (pk 8 plc q) q S c na Na Ra qa Sa ca nb Nb Rb qb Sb cb cnt rb sb g rt r0 r1 r4 r5 tn ts tq rws lks mks qu _  (by omega) (by omega) (by exact hT)) (cwV 0 gts gX8_plan_X8_routesOfNow rfl rfl rfl (by decide +kernel) ⟨Nat.le_of_ble_eq_true rfl, Nat.le_of_ble_eq_true rfl⟩) ⟨fun a U g mk q => by obtain ⟨q0, q1, qP, qK, qD⟩ := q; exact ⟨q0, q1, qP, va_K.moved (u := U) (U := U.calling g mk a) (Vm.Alike.refl U.vm) qK, qD⟩, va_recv hK hPc (ci := 3) (q0 := 0) rfl rfl, fun U hU hW => ⟨rfl, by rw [hU], by rw [hU]; exact hPc, va_K.moved hW.alike hK, hDc.weaken (fun _ _ _ _ => trivial)⟩⟩ rfl rfl hl.1 rfl (lv_room (Nat.le_of_ble_eq_true rfl)) dX8_plan_11 ⟨Nat.le_of_ble_eq_true rfl, Nat.le_of_ble_eq_true rfl⟩) hS (fun q _ h => hFc q h) hFc (fun u ra t H1 locs ht hvm hw hB hz1 hk1 hS => ?_)
    obtain ⟨tn_11, rws_11, lks_11, mks_11⟩ := u
    obtain ⟨hra, hP1, hK1, hD1⟩ := hB
    try dsimp only at hra
    rw [hra]
    rw [ht] at hP1
    try dsimp only at hw
    try dsimp only at hP1
    try dsimp only at hD1
    have hK := va_K.moved hvm.symm hK1
    obtain ⟨hP, hD⟩ := va_join (wr := []) (w1 := wY h fl e1 e2 pd sg cI k1 k2 (.ref rt) n (pk 256 num n) (pk 8 plc q) q S c na Na Ra qa Sa ca nb Nb Rb qb Sb cb cnt rb sb g rt r0 r1 r4 r5 cJ tn_11 q tq rws_11 lks_11 mks_11 qu) hP hD [0, 1, 2, 3, 4, 5, 6, 7, 8, 9, 10] [] rfl rfl (by decide) (by decide) hk1 hFc hP1 hD1
    have hP := hP.sub (ws' := wY h fl e1 e2 pd sg cI k1 k2 (.ref rt) n (pk 256 num n) (pk 8 plc q) q S c na Na Ra qa Sa ca nb Nb Rb qb Sb cb cnt rb sb g rt r0 r1 r4 r5 cJ tn_11 q tq rws_11 lks_11 mks_11 qu) [0, 1, 2, 3, 4, 5, 6, 7, 8, 9, 10] rfl
    have hD := hD.sub (ws' := wY h fl e1 e2 pd sg cI k1 k2 (.ref rt) n (pk 256 num n) (pk 8 plc q) q S c na Na Ra qa Sa ca nb Nb Rb qb Sb cb cnt rb sb g rt r0 r1 r4 r5 cJ tn_11 q tq rws_11 lks_11 mks_11 qu) [0, 1, 2, 3, 4, 5, 6, 7, 8, 9, 10] (by decide) rfl
    have hK := va_K.moved (Vm.Alike.refl Gs.vm) hK
    generalize H1 = H at hP hS ⊢
    have hsR := hw
    have hsS := hw
    rw [hSA] at hsS
    refine lv_astore_n (lv' := [(3, .ref rt), (0, .ref h), (1, .int (nI k)), (2, .int (zI b))]) gx gb dX8_plan_14 rfl hl (by decide) rfl (fun ls hl => ?_)
    refine lv_aload_n gx gb dX8_plan_15 rfl (lv_at hl 0 rfl) ?_
    refine lv_iload_n gx gb dX8_plan_16 rfl (lv_at hl 2 rfl) ?_
    refine lv_aload_n gx gb dX8_plan_17 rfl (lv_at hl 1 rfl) ?_
    refine va_get (D := D) (ci := 3) (v := .ref fl) (C := RX8) (T := TX8) (N := 7) gx gb gts i8 gown hK hP 0 rfl rfl 0 (by decide) (gts (.fieldLink RX8 12 "SwanSums" "flock" "LSwanSums$Flock;") (by decide +kernel)) (fun _ h9 => h9) rfl dX8_plan_18 ?_
    have hPc := hP.sub (ws' := wF fl n (pk 256 num n) (pk 8 plc q) q S c) [1] rfl
    refine vp_callSl (W.runV (As := []) (rest := [.int (nI k), .ref rt]) ⟨gx, gb, gml, gown, gts⟩ (kX1_line Gl D cI cJ cZ fl n (pk 256 num n) (pk 8 plc q) q S c  (by omega) (by omega) (by omega)) (cwV 0 gts gX8_plan_X1_line rfl rfl rfl (by decide +kernel) ⟨Nat.le_of_ble_eq_true rfl, Nat.le_of_ble_eq_true rfl⟩) ⟨fun a U g mk q => ⟨q.1, q.2.1, va_K.moved (u := U) (U := U.calling g mk a) (Vm.Alike.refl U.vm) q.2.2⟩, va_recv hK hPc (ci := 0) (q0 := 0) rfl rfl, fun U hU hW => ⟨rfl, by rw [hU]; exact hPc, va_K.moved hW.alike hK⟩⟩ rfl rfl hl.1 rfl (lv_room (Nat.le_of_ble_eq_true rfl)) dX8_plan_21 ⟨Nat.le_of_ble_eq_true rfl, Nat.le_of_ble_eq_true rfl⟩) (fun r hw => ?_)
    have hr21 := hw
    subst hr21
    refine lv_evl (lN (pk 256 (fun x => num (plc x)) q)) (congrArg lN (lin_eq hn7 hnum hp)) ?_
    have hPc := hP.sub (ws' := wT rt r0 r1 r4 r5 cI cJ tn_11 q tq rws_11 lks_11 mks_11 qu) [6, 7, 8, 9, 10] rfl
    refine vp_callSi (W.runV (As := [.int (nI k), .long (lN (pk 256 (fun x_ => num (plc x_)) q))]) (rest := []) ⟨gx, gb, gml, gown, gts⟩ (kX5_firstTaught Gl D cI cJ cZ rt r0 r1 r4 r5 tn_11 tq rws_11 lks_11 mks_11 qu SA num plc k q (by omega) (by omega) (by omega) (by exact hbk) (by exact hsS) (by exact hnv)) (cwV 2 gts gX8_plan_X5_firstTaught rfl rfl rfl (by decide +kernel) ⟨Nat.le_of_ble_eq_true rfl, Nat.le_of_ble_eq_true rfl⟩) ⟨fun a U g mk q => ⟨q.1, q.2.1, va_K.moved (u := U) (U := U.calling g mk a) (Vm.Alike.refl U.vm) q.2.2⟩, va_recv hK hPc (ci := 2) (q0 := 0) rfl rfl, fun U hU hW => ⟨rfl, by rw [hU]; exact hPc, va_K.moved hW.alike hK⟩⟩ rfl rfl hl.1 rfl (lv_room (Nat.le_of_ble_eq_true rfl)) dX8_plan_24 ⟨Nat.le_of_ble_eq_true rfl, Nat.le_of_ble_eq_true rfl⟩) (fun r hw => ?_)
    have hr24 := hw
    subst hr24
    refine lv_evi (zI (ftZ (plnF num plc k q))) (congrArg zI (congrArg ftZ (by rw [plnF, hSA]))) ?_
    have hfb := ftZ_bd (plnF num plc k q)
    have hft := ftZ_lt (o := plnF num plc k q) (n := bN SA) hbn (fun x h9 => fstT_lt (T := fun i_ => tkC num plc k q (bR SA i_)) (n := bN SA) (by rw [plnF, hSA] at h9; exact h9))
    refine lv_istore (lv' := [(4, .int (zI (ftZ (plnF num plc k q)))), (3, .ref rt), (0, .ref h), (1, .int (nI k)), (2, .int (zI b))]) gx gb dX8_plan_27 hl (by decide) rfl (fun ls hl => ?_)
    refine lv_iload gx gb dX8_plan_29 (lv_at hl 0 rfl) ?_
    refine lv_if_ge (tgt := 37) gx gb dX8_plan_31 (by decide) (fun c31 => ?_) (fun c31 => ?_)
    · skip
      rw [z0_ge (by omega) (by omega)] at c31
      obtain ⟨x, hx1, hx2⟩ := ftZ_s (o := plnF num plc k q) (by omega)
      have hx3 := hx1
      rw [plnF, hSA] at hx3
      have hxl := (fstT_lt hx3).1
      have hdl := bD_le hbk x hxl
      rw [show zI (ftZ (plnF num plc k q)) = nI x from by rw [hx2, zI_nat]] at hl
      have hl : lv_has ls 6 [(4, .int (nI x)), (3, .ref rt), (0, .ref h), (1, .int (nI k)), (2, .int (zI b))] := hl
      refine lv_aload_n gx gb dX8_plan_37 rfl (lv_at hl 1 rfl) ?_
      refine lv_iload gx gb dX8_plan_38 (lv_at hl 0 rfl) ?_
      have hPc := hP.sub (ws' := wT rt r0 r1 r4 r5 cI cJ tn_11 q tq rws_11 lks_11 mks_11 qu) [6, 7, 8, 9, 10] rfl
      refine vp_callSi (W.runV (As := [.int (nI x)]) (rest := []) ⟨gx, gb, gml, gown, gts⟩ (kX5_length Gl D cI cJ cZ rt r0 r1 r4 r5 tn_11 q tq rws_11 lks_11 mks_11 qu SA q x (by omega) (by omega) (by exact hbk) (by exact hsS) (by exact hxl)) (cwV 1 gts gX8_plan_X5_length rfl rfl rfl (by decide +kernel) ⟨Nat.le_of_ble_eq_true rfl, Nat.le_of_ble_eq_true rfl⟩) ⟨fun a U g mk q => ⟨q.1, q.2.1, va_K.moved (u := U) (U := U.calling g mk a) (Vm.Alike.refl U.vm) q.2.2⟩, va_recv hK hPc (ci := 2) (q0 := 0) rfl rfl, fun U hU hW => ⟨rfl, by rw [hU]; exact hPc, va_K.moved hW.alike hK⟩⟩ rfl rfl hl.1 rfl (lv_room (Nat.le_of_ble_eq_true rfl)) dX8_plan_40 ⟨Nat.le_of_ble_eq_true rfl, Nat.le_of_ble_eq_true rfl⟩) (fun r hw => ?_)
      have hr40 := hw
      subst hr40
      refine lv_istore (lv' := [(5, .int (nI (bD SA x))), (4, .int (nI x)), (3, .ref rt), (0, .ref h), (1, .int (nI k)), (2, .int (zI b))]) gx gb dX8_plan_43 hl (by decide) rfl (fun ls hl => ?_)
      refine lv_iload_n gx gb dX8_plan_45 rfl (lv_at hl 5 rfl) ?_
      refine lv_iconst (v := zI (-1)) gx gb dX8_plan_46 (by decide) ?_
      refine lv_icmp_ne (tgt := 53) gx gb dX8_plan_47 (by decide) (fun c47 => ?_) (fun c47 => ?_)
      · skip
        rw [zI_eq (by omega) (by omega) (by omega) (by omega)] at c47
        refine lv_iload_n gx gb dX8_plan_53 rfl (lv_at hl 5 rfl) ?_
        refine lv_if_lt (tgt := 63) gx gb dX8_plan_54 (by decide) (fun c54 => ?_) (fun c54 => ?_)
        · skip
          rw [z0_lt (by omega) (by omega)] at c54
          refine lv_bipush (v := zI (-6)) gx gb dX8_plan_63 (by decide) ?_
          refine lv_goto (tgt := 80) gx gb dX8_plan_65 (by decide) ?_
          exact W.iret (v := zI (-6)) gx gb gr (fun t ht hW => ⟨⟨zI (-6), (tn_11, q, rws_11, lks_11, mks_11), rfl, (by first | (dsimp only; done) | ((try dsimp only); refine ⟨?_, tOK_y (by omega) hsR⟩; first | (rw [hk, plnZ_1 (by omega) hx1, hSA, if_neg (by omega), if_neg (by omega)]; done) | (rw [hk, hi, plnZ_2 (by omega) hx1 hbk (by rw [hSA]; exact bLe_rf _) hxl (by omega), zI_nat]))), by rw [ht]; exact hP, va_K.moved hW.alike hK, hD⟩, hS.F ht⟩) hS.2.2 dX8_plan_80
        · skip
          rw [z0_lt (by omega) (by omega)] at c54
          refine lv_iload_n gx gb dX8_plan_57 rfl (lv_at hl 5 rfl) ?_
          refine lv_iload gx gb dX8_plan_58 (lv_at hl 0 rfl) ?_
          refine lv_icmp_lt (tgt := 68) gx gb dX8_plan_60 (by decide) (fun c60 => ?_) (fun c60 => ?_)
          · skip
            rw [zn_lt (by omega) (by omega) (by omega)] at c60
            obtain ⟨i, hi⟩ : ∃ i : Nat, b = (i : Int) := ⟨b.toNat, by omega⟩
            rw [show zI b = nI i from by rw [hi, zI_nat]] at hl
            have hl : lv_has ls 6 [(5, .int (nI (bD SA x))), (4, .int (nI x)), (3, .ref rt), (0, .ref h), (1, .int (nI k)), (2, .int (nI i))] := hl
            refine lv_aload_n gx gb dX8_plan_68 rfl (lv_at hl 2 rfl) ?_
            refine lv_iload gx gb dX8_plan_69 (lv_at hl 1 rfl) ?_
            refine lv_iload gx gb dX8_plan_71 (lv_at hl 0 rfl) ?_
            refine lv_iconst (v := nI 1) gx gb dX8_plan_73 (by decide) ?_
            refine lv_isub gx gb dX8_plan_74 ?_
            refine lv_evi (nI ((bD SA x) - 1)) (e_sub (by omega)) ?_
            refine lv_iload_n gx gb dX8_plan_75 rfl (lv_at hl 5 rfl) ?_
            refine lv_isub gx gb dX8_plan_76 ?_
            refine lv_evi (nI (((bD SA x) - 1) - i)) (e_sub (by omega)) ?_
            have hPc := hP.sub (ws' := wT rt r0 r1 r4 r5 cI cJ tn_11 q tq rws_11 lks_11 mks_11 qu) [6, 7, 8, 9, 10] rfl
            refine vp_callSi (W.runV (As := [.int (nI x), .int (nI (((bD SA x) - 1) - i))]) (rest := []) ⟨gx, gb, gml, gown, gts⟩ (kX5_event Gl D cI cJ cZ rt r0 r1 r4 r5 tn_11 q tq rws_11 lks_11 mks_11 qu SA q x (((bD SA x) - 1) - i) (by omega) (by omega) (by exact hbk) (by exact hsS) (by exact hxl) (by omega)) (cwV 2 gts gX8_plan_X5_event rfl rfl rfl (by decide +kernel) ⟨Nat.le_of_ble_eq_true rfl, Nat.le_of_ble_eq_true rfl⟩) ⟨fun a U g mk q => ⟨q.1, q.2.1, va_K.moved (u := U) (U := U.calling g mk a) (Vm.Alike.refl U.vm) q.2.2⟩, va_recv hK hPc (ci := 2) (q0 := 0) rfl rfl, fun U hU hW => ⟨rfl, by rw [hU]; exact hPc, va_K.moved hW.alike hK⟩⟩ rfl rfl hl.1 rfl (lv_room (Nat.le_of_ble_eq_true rfl)) dX8_plan_77 ⟨Nat.le_of_ble_eq_true rfl, Nat.le_of_ble_eq_true rfl⟩) (fun r hw => ?_)
            have hr77 := hw
            subst hr77
            exact W.iret (v := nI (evN q (bE SA (bAnc (bP SA) x (((bD SA x) - 1) - i))))) gx gb gr (fun t ht hW => ⟨⟨nI (evN q (bE SA (bAnc (bP SA) x (((bD SA x) - 1) - i)))), (tn_11, q, rws_11, lks_11, mks_11), rfl, (by first | (dsimp only; done) | ((try dsimp only); refine ⟨?_, tOK_y (by omega) hsR⟩; first | (rw [hk, plnZ_1 (by omega) hx1, hSA, if_neg (by omega), if_neg (by omega)]; done) | (rw [hk, hi, plnZ_2 (by omega) hx1 hbk (by rw [hSA]; exact bLe_rf _) hxl (by omega), zI_nat]))), by rw [ht]; exact hP, va_K.moved hW.alike hK, hD⟩, hS.F ht⟩) hS.2.2 dX8_plan_80
          · skip
            rw [zn_lt (by omega) (by omega) (by omega)] at c60
            refine lv_bipush (v := zI (-6)) gx gb dX8_plan_63 (by decide) ?_
            refine lv_goto (tgt := 80) gx gb dX8_plan_65 (by decide) ?_
            exact W.iret (v := zI (-6)) gx gb gr (fun t ht hW => ⟨⟨zI (-6), (tn_11, q, rws_11, lks_11, mks_11), rfl, (by first | (dsimp only; done) | ((try dsimp only); refine ⟨?_, tOK_y (by omega) hsR⟩; first | (rw [hk, plnZ_1 (by omega) hx1, hSA, if_neg (by omega), if_neg (by omega)]; done) | (rw [hk, hi, plnZ_2 (by omega) hx1 hbk (by rw [hSA]; exact bLe_rf _) hxl (by omega), zI_nat]))), by rw [ht]; exact hP, va_K.moved hW.alike hK, hD⟩, hS.F ht⟩) hS.2.2 dX8_plan_80
      · skip
        rw [zI_eq (by omega) (by omega) (by omega) (by omega)] at c47
        refine lv_iload gx gb dX8_plan_50 (lv_at hl 0 rfl) ?_
        exact W.iret (v := nI (bD SA x)) gx gb gr (fun t ht hW => ⟨⟨nI (bD SA x), (tn_11, q, rws_11, lks_11, mks_11), rfl, (by first | (dsimp only; done) | ((try dsimp only); refine ⟨?_, tOK_y (by omega) hsR⟩; rw [hk, plnZ_1 (by omega) hx1, hSA, if_pos (by omega), zI_nat])), by rw [ht]; exact hP, va_K.moved hW.alike hK, hD⟩, hS.F ht⟩) hS.2.2 dX8_plan_52
    · skip
      rw [z0_ge (by omega) (by omega)] at c31
      refine lv_bipush (v := zI (-6)) gx gb dX8_plan_34 (by decide) ?_
      exact W.iret (v := zI (-6)) gx gb gr (fun t ht hW => ⟨⟨zI (-6), (tn_11, q, rws_11, lks_11, mks_11), rfl, (by first | (dsimp only; done) | ((try dsimp only); refine ⟨?_, tOK_y (by omega) hsR⟩; rw [hk, plnZ_0 (by omega) (ftZ_neg (by omega))])), by rw [ht]; exact hP, va_K.moved hW.alike hK, hD⟩, hS.F ht⟩) hS.2.2 dX8_plan_36
  · skip
    rw [b0_eq] at c4
    simp only [decide_eq_false_iff_not, Decidable.not_not] at c4
    refine lv_bipush (v := zI (-2)) gx gb dX8_plan_7 (by decide) ?_
    exact W.iret (v := zI (-2)) gx gb gr (fun t ht hW => ⟨⟨zI (-2), (tn, ts, rws, lks, mks), rfl, (by first | (dsimp only; done) | ((try dsimp only); refine ⟨?_, hT⟩; rw [plnZ, if_neg (by omega)])), by rw [ht]; exact hP, va_K.moved hW.alike hK, hD⟩, hS.F ht⟩) hS.2.2 dX8_plan_9

set_option maxHeartbeats 4000000 in
set_option maxRecDepth 100000 in
theorem kX8_plan_n (Gl : Launch) (D : va_G) (cI cJ cZ : ClassId) (h : Nat) (fl : Nat) (e1 : Nat) (e2 : Nat) (pd : Nat) (sg : Nat) (k1 : Nat) (k2 : Nat) (rv : Value) (n : Nat) (q : Nat) (S : Nat) (c : Nat) (na : Nat) (Na : Nat) (Ra : Nat) (qa : Nat) (Sa : Nat) (ca : Nat) (nb : Nat) (Nb : Nat) (Rb : Nat) (qb : Nat) (Sb : Nat) (cb : Nat) (cnt : Nat) (rb : Nat) (sb : Nat) (g : Nat → Nat) (num plc : Nat → Nat) (a b : Int) (hl_a : -2147483648 ≤ a) (hu_a : a < 2147483648) (hl_b : -2147483648 ≤ b) (hu_b : b < 2147483648) (hn1 : 1 ≤ n) (hn7 : n ≤ 7) (hq1 : 1 ≤ q) (hqn : q ≤ n) (hp : ∀ k, k < q → plc k < n) (hnum : ∀ k, k < n → num k ≤ 99) (hinj : ∀ i j, i < q → j < q → plc i = plc j → i = j) (hno : ¬ (0 ≤ a ∧ a < 7)) : Met Gl yX8_plan wsX8_plan ({ frames := 6, cells := 0, slots := 0, locals := 135 } : Room) (va_Pc [.ref h, .int (zI a), .int (zI b)] (fun U => va_P D vwCl (wX h fl e1 e2 pd sg cI k1 k2 rv n (pk 256 num n) (pk 8 plc q) q S c na Na Ra qa Sa ca nb Nb Rb qb Sb cb cnt rb sb g) U.heap ∧ va_K D vwCl [(cI, .int), (cJ, .long), (cZ, .boolean)] U)) (vp_Si (fun r : Int32 => r = zI (plnZ num plc q a b))) 0 0 (fun _ => False) := by
  refine Met.ofW (cc := cX8_plan) (maxL := 6) (ret := (some .int)) (by decide +kernel) rfl ?_
  intro Gp Ge Gs Gm Ga Gw Gt Gc G1 Bd gml gv
  obtain ⟨rfl, hP, hK⟩ := gv
  have gx := Bd.exec
  have gb := Bd.bytes
  have gr := Bd.returns
  have gts := atoms_spec (ws := wsX8_plan) Bd.pre
  have gown : Gs.vm.findClass RX8 = some Gm.cls := findClass_of_methodNamed Bd.named
  have glk := Bd.notSynchronized
  have hl := lv_entry ([.ref h, .int (zI a), .int (zI b)]) (n := 6) (Nat.le_of_ble_eq_true rfl)
  rw [lg_entry_eq]
  generalize (lg_sl ([.ref h, .int (zI a), .int (zI b)]) ++ List.replicate (6 - (lg_sl ([.ref h, .int (zI a), .int (zI b)])).length) Slot.unset).toArray = ls at hl ⊢
  have hl : lv_has ls 6 [(0, .ref h), (1, .int (zI a)), (2, .int (zI b))] := hl
  have i8 : ∀ w ∈ wsX80, w ∈ wsX8_plan := by decide +kernel
  refine lv_iload_n gx gb dX8_plan_0 rfl (lv_at hl 1 rfl) ?_
  refine vp_callSi (W.runS (As := [.int (zI a)]) (rest := []) ⟨gx, gb, gml, gown, gts⟩ (kX8_isLesson Gl a (by omega) (by omega)) (va_cwS 1 gts gX8_plan_X8_isLesson rfl rfl rfl (by decide +kernel) ⟨Nat.le_of_ble_eq_true rfl, Nat.le_of_ble_eq_true rfl⟩) ⟨fun _ _ _ _ h => h, fun U hU hW => ⟨rfl, trivial⟩⟩ rfl rfl hl.1 rfl (lv_room (Nat.le_of_ble_eq_true rfl)) dX8_plan_1 ⟨Nat.le_of_ble_eq_true rfl, Nat.le_of_ble_eq_true rfl⟩) (fun r hw => ?_)
  have hr1 := hw
  subst hr1
  refine lv_if_ne (tgt := 10) gx gb dX8_plan_4 (by decide) (fun c4 => ?_) (fun c4 => ?_)
  · skip
    rw [b0_eq] at c4
    simp only [decide_eq_false_iff_not, Decidable.not_not] at c4
    exfalso; omega
  · skip
    rw [b0_eq] at c4
    simp only [decide_eq_false_iff_not, Decidable.not_not] at c4
    refine lv_bipush (v := zI (-2)) gx gb dX8_plan_7 (by decide) ?_
    exact W.iret (v := zI (-2)) gx gb gr (fun t ht hW => ⟨zI (-2), rfl, (by first | (dsimp only; done) | ((try dsimp only); rw [plnZ, if_neg (by omega)])), ht⟩) (fun q h => by cases h) dX8_plan_9

set_option maxHeartbeats 4000000 in
set_option maxRecDepth 100000 in
theorem kX8_routesOfNow_0 (Gl : Launch) (D : va_G) (cI cJ cZ : ClassId) (h : Nat) (fl : Nat) (e1 : Nat) (e2 : Nat) (pd : Nat) (sg : Nat) (k1 : Nat) (k2 : Nat) (n : Nat) (N : Nat) (R : Nat) (q : Nat) (S : Nat) (c : Nat) (na : Nat) (Na : Nat) (Ra : Nat) (qa : Nat) (Sa : Nat) (ca : Nat) (nb : Nat) (Nb : Nat) (Rb : Nat) (qb : Nat) (Sb : Nat) (cb : Nat) (cnt : Nat) (rb : Nat) (sb : Nat) (g : Nat → Nat) (sz : Nat) (hq1 : 1 ≤ q) (hq7 : q ≤ 7) : Met Gl yX8_routesOfNow wsX8_routesOfNow ({ frames := 5, cells := 5, slots := 46631, locals := 115 } : Room) (va_Pc [.ref h] (fun U => U.heap.size = sz ∧ va_P D vwCl (wX h fl e1 e2 pd sg cI k1 k2 .null n N R q S c na Na Ra qa Sa ca nb Nb Rb qb Sb cb cnt rb sb g) U.heap ∧ va_K D vwCl [(cI, .int), (cJ, .long), (cZ, .boolean)] U ∧ va_D (fun _ => True) (wX h fl e1 e2 pd sg cI k1 k2 .null n N R q S c na Na Ra qa Sa ca nb Nb Rb qb Sb cb cnt rb sb g) ∧ va_Nw (.methodLinkNest RX8 215 yX5_init "SwanSums") U)) (va_Qr (fun u : (Nat) × (Nat) × (Nat) × (Nat) × (Nat) × (Nat) × (Nat → Nat) × (Nat → Nat) × (Nat → Nat) => simR q (bAll q) u.2.2.2.2.2.1 u.2.2.2.2.2.2.1 u.2.2.2.2.2.2.2.1) (fun (u : (Nat) × (Nat) × (Nat) × (Nat) × (Nat) × (Nat) × (Nat → Nat) × (Nat → Nat) × (Nat → Nat)) (ra : Nat) t => ra = u.1 ∧ va_P D vwCl (wY h fl e1 e2 pd sg cI k1 k2 (.ref u.1) n N R q S c na Na Ra qa Sa ca nb Nb Rb qb Sb cb cnt rb sb g u.1 u.2.1 u.2.2.1 u.2.2.2.1 u.2.2.2.2.1 cJ u.2.2.2.2.2.1 q 0 u.2.2.2.2.2.2.1 u.2.2.2.2.2.2.2.1 u.2.2.2.2.2.2.2.2 (fun _ => 0)) t.heap ∧ va_K D vwCl [(cI, .int), (cJ, .long), (cZ, .boolean)] t ∧ va_D (va_A (wX h fl e1 e2 pd sg cI k1 k2 .null n N R q S c na Na Ra qa Sa ca nb Nb Rb qb Sb cb cnt rb sb g) sz) (wY h fl e1 e2 pd sg cI k1 k2 (.ref u.1) n N R q S c na Na Ra qa Sa ca nb Nb Rb qb Sb cb cnt rb sb g u.1 u.2.1 u.2.2.1 u.2.2.2.1 u.2.2.2.2.1 cJ u.2.2.2.2.2.1 q 0 u.2.2.2.2.2.2.1 u.2.2.2.2.2.2.2.1 u.2.2.2.2.2.2.2.2 (fun _ => 0))) (va_A (wX h fl e1 e2 pd sg cI k1 k2 .null n N R q S c na Na Ra qa Sa ca nb Nb Rb qb Sb cb cnt rb sb g) sz)) 5 46631 (va_A (wX h fl e1 e2 pd sg cI k1 k2 .null n N R q S c na Na Ra qa Sa ca nb Nb Rb qb Sb cb cnt rb sb g) sz) := by
  refine Met.ofW (cc := cX8_routesOfNow) (maxL := 1) (ret := (some (.object "SwanSums$Routes"))) (by decide +kernel) rfl ?_
  intro Gp Ge Gs Gm Ga Gw Gt Gc G1 Bd gml gv
  obtain ⟨rfl, hsz, hP, hK, hD0, hNw215⟩ := gv
  have gx := Bd.exec
  have gb := Bd.bytes
  have gr := Bd.returns
  have gts := atoms_spec (ws := wsX8_routesOfNow) Bd.pre
  have gown : Gs.vm.findClass RX8 = some Gm.cls := findClass_of_methodNamed Bd.named
  have glk := Bd.notSynchronized
  subst hsz
  have hD := hD0.self (sz := Gs.heap.size)
  generalize hAe : va_A (wX h fl e1 e2 pd sg cI k1 k2 .null n N R q S c na Na Ra qa Sa ca nb Nb Rb qb Sb cb cnt rb sb g) Gs.heap.size = A at hD ⊢
  have hA : ∀ q : Nat, Gs.heap.size ≤ q → A q := fun q h => by rw [← hAe]; exact Or.inr h
  have hS : va_S A Gs.heap Gs.heap [] := va_S.rf
  have hP : va_P D vwCl (wX h fl e1 e2 pd sg cI k1 k2 .null n N R q S c na Na Ra qa Sa ca nb Nb Rb qb Sb cb cnt rb sb g) Gs.heap := hP
  have hl := lv_entry ([.ref h]) (n := 1) (Nat.le_of_ble_eq_true rfl)
  rw [lg_entry_eq]
  generalize (lg_sl ([.ref h]) ++ List.replicate (1 - (lg_sl ([.ref h])).length) Slot.unset).toArray = ls at hl ⊢
  have hl : lv_has ls 1 [(0, .ref h)] := hl
  have i1 : ∀ w ∈ wsX10, w ∈ wsX8_routesOfNow := by decide +kernel
  have i5 : ∀ w ∈ wsX50, w ∈ wsX8_routesOfNow := by decide +kernel
  have i8 : ∀ w ∈ wsX80, w ∈ wsX8_routesOfNow := by decide +kernel
  refine lv_aload_n gx gb dX8_routesOfNow_0 rfl (lv_at hl 0 rfl) ?_
  refine va_get (D := D) (ci := 3) (v := .null) (C := RX8) (T := TX8) (N := 7) gx gb gts i8 gown hK hP 0 rfl rfl 6 (by decide) (gts (.fieldLink RX8 36 "SwanSums" "routes" "LSwanSums$Routes;") (by decide +kernel)) (fun _ h9 => h9) rfl dX8_routesOfNow_1 ?_
  refine lv_ifnonnullN gx gb dX8_routesOfNow_4 ?_
  refine lv_aload_n gx gb dX8_routesOfNow_7 rfl (lv_at hl 0 rfl) ?_
  refine va_new (ci := 2) (fs := [.null, .null, .int 0, .int 0, .null, .null, .int 0]) (C := RX5) (T := TX5) (N := 7) gx gb gts i5 tyX5 tyX5_ok gown (gts (.classLink RX8 140 RX5) (by decide +kernel)) (gts (.instantiable RX5 7) (by decide +kernel)) (gts (.initialized RX5) (by decide +kernel)) hK hP hD hS hA rfl (fun j hj => by rcases (show j = 0 ∨ j = 1 ∨ j = 2 ∨ j = 3 ∨ j = 4 ∨ j = 5 ∨ j = 6 by omega) with rfl | rfl | rfl | rfl | rfl | rfl | rfl <;> rfl) (Nat.le_of_ble_eq_true rfl) (Nat.le_of_ble_eq_true rfl) dX8_routesOfNow_8 (fun q8 H hP hD hS => ?_)
  have hP : va_P D vwCl (wY0 h fl e1 e2 pd sg cI k1 k2 .null n N R q S c na Na Ra qa Sa ca nb Nb Rb qb Sb cb cnt rb sb g q8 .null .null 0 0 .null .null 0) H := hP
  have hD : va_D A (wY0 h fl e1 e2 pd sg cI k1 k2 .null n N R q S c na Na Ra qa Sa ca nb Nb Rb qb Sb cb cnt rb sb g q8 .null .null 0 0 .null .null 0) := hD
  refine W.widen (k := 1) (n := 7) (Nat.le_of_ble_eq_true rfl) (Nat.le_of_ble_eq_true rfl) ?_
  refine lv_dup gx gb dX8_routesOfNow_11 rfl ?_
  have hPc := hP.sub (ws' := wT0 q8 .null .null 0 0 .null .null 0) [6] rfl
  have hDc := hD.sub (ws' := wT0 q8 .null .null 0 0 .null .null 0) [6] (by decide) rfl
  have hFc := va_free (wc := wT0 q8 .null .null 0 0 .null .null 0) hD hS hA [6] rfl
  refine va_callv (va_runIN (As := []) (rest := [.ref q8, .ref h]) ⟨gx, gb, gml, gown, gts⟩ (kX5_init Gl D cI cJ cZ q8 .null .null 0 0 .null .null 0 _) ⟨va_cnB 0 gts gX8_routesOfNow_X5_init_n215 rfl rfl rfl hNw215 (gts (.initialized RX5) (by decide +kernel)) (by decide +kernel) ⟨Nat.le_of_ble_eq_true rfl, Nat.le_of_ble_eq_true rfl⟩, rfl, gts (.instanceMethod yX5_init) (by decide +kernel)⟩ ⟨fun a U g mk q => by obtain ⟨q0, q1, qP, qK, qD⟩ := q; exact ⟨q0, q1, qP, va_K.moved (u := U) (U := U.calling g mk a) (Vm.Alike.refl U.vm) qK, qD⟩, fun U hU hW => ⟨rfl, by rw [hU], by rw [hU]; exact hPc, va_K.moved hW.alike hK, hDc.weaken (fun _ _ _ _ => trivial)⟩⟩ rfl rfl hl.1 rfl (lv_room (Nat.le_of_ble_eq_true rfl)) dX8_routesOfNow_12 ⟨Nat.le_of_ble_eq_true rfl, Nat.le_of_ble_eq_true rfl⟩) hS (fun q _ h => hFc q h) hFc (fun u t H1 locs ht hvm hw hB hz1 hk1 hS => ?_)
  obtain ⟨r0_12, r1_12, r4_12, r5_12⟩ := u
  obtain ⟨hP1, hK1, hD1⟩ := hB
  rw [ht] at hP1
  try dsimp only at hw
  try dsimp only at hP1
  try dsimp only at hD1
  have hK := va_K.moved hvm.symm hK1
  obtain ⟨hP, hD⟩ := va_join (wr := [(h, .inr (3, [.ref fl, .ref e1, .ref e2, .int (nI k1), .int (nI k2), .ref pd, .null])), (fl, .inr (0, [.int (nI n), .long (lN N), .int (nI R), .int (nI q), .long (lN S), .int (nI c)])), (e1, .inr (0, [.int (nI na), .long (lN Na), .int (nI Ra), .int (nI qa), .long (lN Sa), .int (nI ca)])), (e2, .inr (0, [.int (nI nb), .long (lN Nb), .int (nI Rb), .int (nI qb), .long (lN Sb), .int (nI cb)])), (pd, .inr (1, [.ref sg, .int (nI cnt), .int (nI rb), .int (nI sb)])), (sg, .inl (cI, 60, .inl (aN g)))]) (w1 := wT q8 r0_12 r1_12 r4_12 r5_12 cI cJ 0 0 0 (fun _ => 0) (fun _ => 0) (fun _ => 0) (fun _ => 0)) hP hD [6] [0, 1, 2, 3, 4, 5] rfl rfl (by decide) (by decide) hk1 hFc hP1 hD1
  have hP := hP.sub (ws' := wY h fl e1 e2 pd sg cI k1 k2 .null n N R q S c na Na Ra qa Sa ca nb Nb Rb qb Sb cb cnt rb sb g q8 r0_12 r1_12 r4_12 r5_12 cJ 0 0 0 (fun _ => 0) (fun _ => 0) (fun _ => 0) (fun _ => 0)) [0, 1, 2, 3, 4, 5, 6, 7, 8, 9, 10] rfl
  have hD := hD.sub (ws' := wY h fl e1 e2 pd sg cI k1 k2 .null n N R q S c na Na Ra qa Sa ca nb Nb Rb qb Sb cb cnt rb sb g q8 r0_12 r1_12 r4_12 r5_12 cJ 0 0 0 (fun _ => 0) (fun _ => 0) (fun _ => 0) (fun _ => 0)) [0, 1, 2, 3, 4, 5, 6, 7, 8, 9, 10] (by decide) rfl
  have hK := va_K.moved (Vm.Alike.refl Gs.vm) hK
  generalize H1 = H at hP hS ⊢
  refine W.widen (k := 5) (n := 46631) (Nat.le_of_ble_eq_true rfl) (Nat.le_of_ble_eq_true rfl) ?_
  refine va_put (D := D) (ci := 3) (v := .ref q8) (ty := (.object "SwanSums$Routes")) (C := RX8) (T := TX8) (N := 7) gx gb gts i8 tyX8 tyX8_ok nmX8 gown hK hP hD hS 0 rfl rfl 6 (by decide) (gts (.fieldLink RX8 36 "SwanSums" "routes" "LSwanSums$Routes;") (by decide +kernel)) (fun _ h9 => h9) rfl (by decide +kernel) rfl rfl (Nat.le_of_ble_eq_true rfl) dX8_routesOfNow_15 (fun H locs hP hD hS => ?_)
  have hP : va_P D vwCl (wY h fl e1 e2 pd sg cI k1 k2 (.ref q8) n N R q S c na Na Ra qa Sa ca nb Nb Rb qb Sb cb cnt rb sb g q8 r0_12 r1_12 r4_12 r5_12 cJ 0 0 0 (fun _ => 0) (fun _ => 0) (fun _ => 0) (fun _ => 0)) H := hP
  have hD : va_D A (wY h fl e1 e2 pd sg cI k1 k2 (.ref q8) n N R q S c na Na Ra qa Sa ca nb Nb Rb qb Sb cb cnt rb sb g q8 r0_12 r1_12 r4_12 r5_12 cJ 0 0 0 (fun _ => 0) (fun _ => 0) (fun _ => 0) (fun _ => 0)) := hD
  refine lv_aload_n gx gb dX8_routesOfNow_18 rfl (lv_at hl 0 rfl) ?_
  refine va_get (D := D) (ci := 3) (v := .ref q8) (C := RX8) (T := TX8) (N := 7) gx gb gts i8 gown hK hP 0 rfl rfl 6 (by decide) (gts (.fieldLink RX8 36 "SwanSums" "routes" "LSwanSums$Routes;") (by decide +kernel)) (fun _ h9 => h9) rfl dX8_routesOfNow_19 ?_
  refine lv_aload_n gx gb dX8_routesOfNow_22 rfl (lv_at hl 0 rfl) ?_
  refine va_get (D := D) (ci := 3) (v := .ref fl) (C := RX8) (T := TX8) (N := 7) gx gb gts i8 gown hK hP 0 rfl rfl 0 (by decide) (gts (.fieldLink RX8 12 "SwanSums" "flock" "LSwanSums$Flock;") (by decide +kernel)) (fun _ h9 => h9) rfl dX8_routesOfNow_23 ?_
  refine va_get (D := D) (ci := 0) (v := .int (nI q)) (C := RX1) (T := TX1) (N := 6) gx gb gts i1 gown hK hP 1 rfl rfl 3 (by decide) (gts (.fieldLink RX8 82 "SwanSums$Flock" "size" "I") (by decide +kernel)) (fun _ h9 => h9) rfl dX8_routesOfNow_26 ?_
  have hPc := hP.sub (ws' := wT q8 r0_12 r1_12 r4_12 r5_12 cI cJ 0 0 0 (fun _ => 0) (fun _ => 0) (fun _ => 0) (fun _ => 0)) [6, 7, 8, 9, 10] rfl
  have hDc := hD.sub (ws' := wT q8 r0_12 r1_12 r4_12 r5_12 cI cJ 0 0 0 (fun _ => 0) (fun _ => 0) (fun _ => 0) (fun _ => 0)) [6, 7, 8, 9, 10] (by decide) rfl
  have hFc := va_free (wc := wT q8 r0_12 r1_12 r4_12 r5_12 cI cJ 0 0 0 (fun _ => 0) (fun _ => 0) (fun _ => 0) (fun _ => 0)) hD hS hA [6, 7, 8, 9, 10] rfl
  refine va_callv (va_runV (As := [.int (nI q)]) (rest := []) ⟨gx, gb, gml, gown, gts⟩ (kX5_prepare Gl D cI cJ cZ q8 r0_12 r1_12 r4_12 r5_12 0 0 0 (fun _ => 0) (fun _ => 0) (fun _ => 0) (fun _ => 0) _ q (by omega) (by omega) (by omega) (by exact tOK_p (tOK_0 _ _ _) (by omega))) (cwV 1 gts gX8_routesOfNow_X5_prepare rfl rfl rfl (by decide +kernel) ⟨Nat.le_of_ble_eq_true rfl, Nat.le_of_ble_eq_true rfl⟩) ⟨fun a U g mk q => by obtain ⟨q0, q1, qP, qK, qD⟩ := q; exact ⟨q0, q1, qP, va_K.moved (u := U) (U := U.calling g mk a) (Vm.Alike.refl U.vm) qK, qD⟩, va_recv hK hPc (ci := 2) (q0 := 0) rfl rfl, fun U hU hW => ⟨rfl, by rw [hU], by rw [hU]; exact hPc, va_K.moved hW.alike hK, hDc.weaken (fun _ _ _ _ => trivial)⟩⟩ rfl rfl hl.1 rfl (lv_room (Nat.le_of_ble_eq_true rfl)) dX8_routesOfNow_29 ⟨Nat.le_of_ble_eq_true rfl, Nat.le_of_ble_eq_true rfl⟩) hS (fun q _ h => hFc q h) hFc (fun u t H1 locs ht hvm hw hB hz1 hk1 hS => ?_)
  obtain ⟨tn_29, rws_29, lks_29, mks_29⟩ := u
  obtain ⟨hP1, hK1, hD1⟩ := hB
  rw [ht] at hP1
  try dsimp only at hw
  try dsimp only at hP1
  try dsimp only at hD1
  have hK := va_K.moved hvm.symm hK1
  obtain ⟨hP, hD⟩ := va_join (wr := [(h, .inr (3, [.ref fl, .ref e1, .ref e2, .int (nI k1), .int (nI k2), .ref pd, .ref q8])), (fl, .inr (0, [.int (nI n), .long (lN N), .int (nI R), .int (nI q), .long (lN S), .int (nI c)])), (e1, .inr (0, [.int (nI na), .long (lN Na), .int (nI Ra), .int (nI qa), .long (lN Sa), .int (nI ca)])), (e2, .inr (0, [.int (nI nb), .long (lN Nb), .int (nI Rb), .int (nI qb), .long (lN Sb), .int (nI cb)])), (pd, .inr (1, [.ref sg, .int (nI cnt), .int (nI rb), .int (nI sb)])), (sg, .inl (cI, 60, .inl (aN g)))]) (w1 := wT q8 r0_12 r1_12 r4_12 r5_12 cI cJ tn_29 q 0 rws_29 lks_29 mks_29 (fun _ => 0)) hP hD [6, 7, 8, 9, 10] [0, 1, 2, 3, 4, 5] rfl rfl (by decide) (by decide) hk1 hFc hP1 hD1
  have hP := hP.sub (ws' := wY h fl e1 e2 pd sg cI k1 k2 (.ref q8) n N R q S c na Na Ra qa Sa ca nb Nb Rb qb Sb cb cnt rb sb g q8 r0_12 r1_12 r4_12 r5_12 cJ tn_29 q 0 rws_29 lks_29 mks_29 (fun _ => 0)) [0, 1, 2, 3, 4, 5, 6, 7, 8, 9, 10] rfl
  have hD := hD.sub (ws' := wY h fl e1 e2 pd sg cI k1 k2 (.ref q8) n N R q S c na Na Ra qa Sa ca nb Nb Rb qb Sb cb cnt rb sb g q8 r0_12 r1_12 r4_12 r5_12 cJ tn_29 q 0 rws_29 lks_29 mks_29 (fun _ => 0)) [0, 1, 2, 3, 4, 5, 6, 7, 8, 9, 10] (by decide) rfl
  have hK := va_K.moved (Vm.Alike.refl Gs.vm) hK
  generalize H1 = H at hP hS ⊢
  have hsR := hw
  refine lv_aload_n gx gb dX8_routesOfNow_32 rfl (lv_at hl 0 rfl) ?_
  refine va_get (D := D) (ci := 3) (v := .ref q8) (C := RX8) (T := TX8) (N := 7) gx gb gts i8 gown hK hP 0 rfl rfl 6 (by decide) (gts (.fieldLink RX8 36 "SwanSums" "routes" "LSwanSums$Routes;") (by decide +kernel)) (fun _ h9 => h9) rfl dX8_routesOfNow_33 ?_
  exact W.aret (v := .ref q8) gx gb gr (Or.inl ⟨_, rfl⟩) (Or.inr ⟨_, rfl⟩) (fun t ht hW => ⟨⟨(q8, r0_12, r1_12, r4_12, r5_12, tn_29, rws_29, lks_29, mks_29), q8, rfl, (by first | (dsimp only; done) | ((try dsimp only); exact hsR)), rfl, by rw [ht]; exact hP, va_K.moved hW.alike hK, hD⟩, hS.F ht⟩) hS.2.2 dX8_routesOfNow_36

set_option maxHeartbeats 4000000 in
set_option maxRecDepth 100000 in
theorem kX8_plan_0 (Gl : Launch) (D : va_G) (cI cJ cZ : ClassId) (h : Nat) (fl : Nat) (e1 : Nat) (e2 : Nat) (pd : Nat) (sg : Nat) (k1 : Nat) (k2 : Nat) (n : Nat) (q : Nat) (S : Nat) (c : Nat) (na : Nat) (Na : Nat) (Ra : Nat) (qa : Nat) (Sa : Nat) (ca : Nat) (nb : Nat) (Nb : Nat) (Rb : Nat) (qb : Nat) (Sb : Nat) (cb : Nat) (cnt : Nat) (rb : Nat) (sb : Nat) (g : Nat → Nat) (sz : Nat) (num plc : Nat → Nat) (a b : Int) (hl_a : -2147483648 ≤ a) (hu_a : a < 2147483648) (hl_b : -2147483648 ≤ b) (hu_b : b < 2147483648) (hn1 : 1 ≤ n) (hn7 : n ≤ 7) (hq1 : 1 ≤ q) (hqn : q ≤ n) (hp : ∀ k, k < q → plc k < n) (hnum : ∀ k, k < n → num k ≤ 99) (hinj : ∀ i j, i < q → j < q → plc i = plc j → i = j) (hyes : 0 ≤ a ∧ a < 7) : Met Gl yX8_plan wsX8_plan ({ frames := 6, cells := 5, slots := 46631, locals := 135 } : Room) (va_Pc [.ref h, .int (zI a), .int (zI b)] (fun U => U.heap.size = sz ∧ va_P D vwCl (wX h fl e1 e2 pd sg cI k1 k2 .null n (pk 256 num n) (pk 8 plc q) q S c na Na Ra qa Sa ca nb Nb Rb qb Sb cb cnt rb sb g) U.heap ∧ va_K D vwCl [(cI, .int), (cJ, .long), (cZ, .boolean)] U ∧ va_D (fun _ => True) (wX h fl e1 e2 pd sg cI k1 k2 .null n (pk 256 num n) (pk 8 plc q) q S c na Na Ra qa Sa ca nb Nb Rb qb Sb cb cnt rb sb g) ∧ va_Nw (.methodLinkNest RX8 215 yX5_init "SwanSums") U)) (va_Qi (fun (r : Int32) (u : (Nat) × (Nat) × (Nat) × (Nat) × (Nat) × (Nat) × (Nat) × (Nat → Nat) × (Nat → Nat) × (Nat → Nat)) => r = zI (plnZ num plc q a b) ∧ tOK u.2.2.2.2.2.2.1 u.2.2.2.2.2.1 u.2.2.2.2.2.2.2.1 u.2.2.2.2.2.2.2.2.1) (fun (u : (Nat) × (Nat) × (Nat) × (Nat) × (Nat) × (Nat) × (Nat) × (Nat → Nat) × (Nat → Nat) × (Nat → Nat)) t => va_P D vwCl (wY h fl e1 e2 pd sg cI k1 k2 (.ref u.1) n (pk 256 num n) (pk 8 plc q) q S c na Na Ra qa Sa ca nb Nb Rb qb Sb cb cnt rb sb g u.1 u.2.1 u.2.2.1 u.2.2.2.1 u.2.2.2.2.1 cJ u.2.2.2.2.2.1 u.2.2.2.2.2.2.1 0 u.2.2.2.2.2.2.2.1 u.2.2.2.2.2.2.2.2.1 u.2.2.2.2.2.2.2.2.2 (fun _ => 0)) t.heap ∧ va_K D vwCl [(cI, .int), (cJ, .long), (cZ, .boolean)] t ∧ va_D (va_A (wX h fl e1 e2 pd sg cI k1 k2 .null n (pk 256 num n) (pk 8 plc q) q S c na Na Ra qa Sa ca nb Nb Rb qb Sb cb cnt rb sb g) sz) (wY h fl e1 e2 pd sg cI k1 k2 (.ref u.1) n (pk 256 num n) (pk 8 plc q) q S c na Na Ra qa Sa ca nb Nb Rb qb Sb cb cnt rb sb g u.1 u.2.1 u.2.2.1 u.2.2.2.1 u.2.2.2.2.1 cJ u.2.2.2.2.2.1 u.2.2.2.2.2.2.1 0 u.2.2.2.2.2.2.2.1 u.2.2.2.2.2.2.2.2.1 u.2.2.2.2.2.2.2.2.2 (fun _ => 0))) (va_A (wX h fl e1 e2 pd sg cI k1 k2 .null n (pk 256 num n) (pk 8 plc q) q S c na Na Ra qa Sa ca nb Nb Rb qb Sb cb cnt rb sb g) sz)) 5 46631 (va_A (wX h fl e1 e2 pd sg cI k1 k2 .null n (pk 256 num n) (pk 8 plc q) q S c na Na Ra qa Sa ca nb Nb Rb qb Sb cb cnt rb sb g) sz) := by
  refine Met.ofW (cc := cX8_plan) (maxL := 6) (ret := (some .int)) (by decide +kernel) rfl ?_
  intro Gp Ge Gs Gm Ga Gw Gt Gc G1 Bd gml gv
  obtain ⟨rfl, hsz, hP, hK, hD0, hNw215⟩ := gv
  have gx := Bd.exec
  have gb := Bd.bytes
  have gr := Bd.returns
  have gts := atoms_spec (ws := wsX8_plan) Bd.pre
  have gown : Gs.vm.findClass RX8 = some Gm.cls := findClass_of_methodNamed Bd.named
  have glk := Bd.notSynchronized
  subst hsz
  have hD := hD0.self (sz := Gs.heap.size)
  generalize hAe : va_A (wX h fl e1 e2 pd sg cI k1 k2 .null n (pk 256 num n) (pk 8 plc q) q S c na Na Ra qa Sa ca nb Nb Rb qb Sb cb cnt rb sb g) Gs.heap.size = A at hD ⊢
  have hA : ∀ q : Nat, Gs.heap.size ≤ q → A q := fun q h => by rw [← hAe]; exact Or.inr h
  have hS : va_S A Gs.heap Gs.heap [] := va_S.rf
  have hP : va_P D vwCl (wX h fl e1 e2 pd sg cI k1 k2 .null n (pk 256 num n) (pk 8 plc q) q S c na Na Ra qa Sa ca nb Nb Rb qb Sb cb cnt rb sb g) Gs.heap := hP
  have hl := lv_entry ([.ref h, .int (zI a), .int (zI b)]) (n := 6) (Nat.le_of_ble_eq_true rfl)
  rw [lg_entry_eq]
  generalize (lg_sl ([.ref h, .int (zI a), .int (zI b)]) ++ List.replicate (6 - (lg_sl ([.ref h, .int (zI a), .int (zI b)])).length) Slot.unset).toArray = ls at hl ⊢
  have hl : lv_has ls 6 [(0, .ref h), (1, .int (zI a)), (2, .int (zI b))] := hl
  have i8 : ∀ w ∈ wsX80, w ∈ wsX8_plan := by decide +kernel
  have hp8 : ∀ k, k < q → plc k < 8 := fun k hk => by have := hp k hk; omega
  have hR8 := pk8_lt hp8 (by omega)
  have hn256 : ∀ k, k < n → num k < 256 := fun k hk => by have := hnum k hk; omega
  have hN63 := pk256_lt hn256 (by omega)
  have hld := lin_dg hnum hp
  have hl63 := pk256_lt (f := (fun x => num (plc x))) (z := q) (fun i hi => by have := hnum _ (hp i hi); show num (plc i) < 256; omega) (by omega)
  obtain ⟨SA, hSA⟩ : ∃ SA : BS, bAll q = SA := ⟨_, rfl⟩
  have hbk : bOK q SA := by rw [← hSA]; exact bfs_ok (by omega) 5040
  have hbn := bOK_n7 (q := q) (by omega) hbk
  have hnv : ∀ x, x < q → num (plc x) ≤ 99 := fun x hx => hnum _ (hp x hx)
  refine lv_iload_n gx gb dX8_plan_0 rfl (lv_at hl 1 rfl) ?_
  refine vp_callSi (W.runS (As := [.int (zI a)]) (rest := []) ⟨gx, gb, gml, gown, gts⟩ (kX8_isLesson Gl a (by omega) (by omega)) (va_cwS 1 gts gX8_plan_X8_isLesson rfl rfl rfl (by decide +kernel) ⟨Nat.le_of_ble_eq_true rfl, Nat.le_of_ble_eq_true rfl⟩) ⟨fun _ _ _ _ h => h, fun U hU hW => ⟨rfl, trivial⟩⟩ rfl rfl hl.1 rfl (lv_room (Nat.le_of_ble_eq_true rfl)) dX8_plan_1 ⟨Nat.le_of_ble_eq_true rfl, Nat.le_of_ble_eq_true rfl⟩) (fun r hw => ?_)
  have hr1 := hw
  subst hr1
  refine lv_if_ne (tgt := 10) gx gb dX8_plan_4 (by decide) (fun c4 => ?_) (fun c4 => ?_)
  · skip
    rw [b0_eq] at c4
    simp only [decide_eq_false_iff_not, Decidable.not_not] at c4
    obtain ⟨k, hk⟩ : ∃ k : Nat, a = (k : Int) := ⟨a.toNat, by omega⟩
    rw [show zI a = nI k from by rw [hk, zI_nat]] at hl
    have hl : lv_has ls 6 [(0, .ref h), (1, .int (nI k)), (2, .int (zI b))] := hl
    refine lv_aload_n gx gb dX8_plan_10 rfl (lv_at hl 0 rfl) ?_
    have hPc := hP.sub (ws' := wX h fl e1 e2 pd sg cI k1 k2 .null n (pk 256 num n) (pk 8 plc q) q S c na Na Ra qa Sa ca nb Nb Rb qb Sb cb cnt rb sb g) [0, 1, 2, 3, 4, 5] rfl
    have hDc := hD.sub (ws' := wX h fl e1 e2 pd sg cI k1 k2 .null n (pk 256 num n) (pk 8 plc q) q S c na Na Ra qa Sa ca nb Nb Rb qb Sb cb cnt rb sb g) [0, 1, 2, 3, 4, 5] (by decide) rfl
    have hFc := va_free (wc := wX h fl e1 e2 pd sg cI k1 k2 .null n (pk 256 num n) (pk 8 plc q) q S c na Na Ra qa Sa ca nb Nb Rb qb Sb cb cnt rb sb g) hD hS hA [0, 1, 2, 3, 4, 5] rfl
    refine va_callr (va_runV (As := []) (rest := []) ⟨gx, gb, gml, gown, gts⟩ (kX8_routesOfNow_0 Gl D cI cJ cZ h fl e1 e2 pd sg k1 k2 n (pk 256 num n) (pk 8 plc q) q S c na Na Ra qa Sa ca nb Nb Rb qb Sb cb cnt rb sb g _  (by omega) (by omega)) (cwV 0 gts gX8_plan_X8_routesOfNow rfl rfl rfl (by decide +kernel) ⟨Nat.le_of_ble_eq_true rfl, Nat.le_of_ble_eq_true rfl⟩) ⟨fun a U g mk q => by obtain ⟨q0, q1, qP, qK, qD, qN215⟩ := q; exact ⟨q0, q1, qP, va_K.moved (u := U) (U := U.calling g mk a) (Vm.Alike.refl U.vm) qK, qD, va_Nw.same rfl rfl qN215⟩, va_recv hK hPc (ci := 3) (q0 := 0) rfl rfl, fun U hU hW => ⟨rfl, by rw [hU], by rw [hU]; exact hPc, va_K.moved hW.alike hK, hDc.weaken (fun _ _ _ _ => trivial), va_Nw.warmM hW hNw215⟩⟩ rfl rfl hl.1 rfl (lv_room (Nat.le_of_ble_eq_true rfl)) dX8_plan_11 ⟨Nat.le_of_ble_eq_true rfl, Nat.le_of_ble_eq_true rfl⟩) hS (fun q _ h => hFc q h) hFc (fun u ra t H1 locs ht hvm hw hB hz1 hk1 hS => ?_)
    obtain ⟨rt_11, r0_11, r1_11, r4_11, r5_11, tn_11, rws_11, lks_11, mks_11⟩ := u
    obtain ⟨hra, hP1, hK1, hD1⟩ := hB
    try dsimp only at hra
    rw [hra]
    rw [ht] at hP1
    try dsimp only at hw
    try dsimp only at hP1
    try dsimp only at hD1
    have hK := va_K.moved hvm.symm hK1
    obtain ⟨hP, hD⟩ := va_join (wr := []) (w1 := wY h fl e1 e2 pd sg cI k1 k2 (.ref rt_11) n (pk 256 num n) (pk 8 plc q) q S c na Na Ra qa Sa ca nb Nb Rb qb Sb cb cnt rb sb g rt_11 r0_11 r1_11 r4_11 r5_11 cJ tn_11 q 0 rws_11 lks_11 mks_11 (fun _ => 0)) hP hD [0, 1, 2, 3, 4, 5] [] rfl rfl (by decide) (by decide) hk1 hFc hP1 hD1
    have hP := hP.sub (ws' := wY h fl e1 e2 pd sg cI k1 k2 (.ref rt_11) n (pk 256 num n) (pk 8 plc q) q S c na Na Ra qa Sa ca nb Nb Rb qb Sb cb cnt rb sb g rt_11 r0_11 r1_11 r4_11 r5_11 cJ tn_11 q 0 rws_11 lks_11 mks_11 (fun _ => 0)) [0, 1, 2, 3, 4, 5, 6, 7, 8, 9, 10] rfl
    have hD := hD.sub (ws' := wY h fl e1 e2 pd sg cI k1 k2 (.ref rt_11) n (pk 256 num n) (pk 8 plc q) q S c na Na Ra qa Sa ca nb Nb Rb qb Sb cb cnt rb sb g rt_11 r0_11 r1_11 r4_11 r5_11 cJ tn_11 q 0 rws_11 lks_11 mks_11 (fun _ => 0)) [0, 1, 2, 3, 4, 5, 6, 7, 8, 9, 10] (by decide) rfl
    have hK := va_K.moved (Vm.Alike.refl Gs.vm) hK
    generalize H1 = H at hP hS ⊢
    refine W.widen (k := 5) (n := 46631) (Nat.le_of_ble_eq_true rfl) (Nat.le_of_ble_eq_true rfl) ?_
    have hsR := hw
    have hsS := hw
    rw [hSA] at hsS
    refine lv_astore_n (lv' := [(3, .ref rt_11), (0, .ref h), (1, .int (nI k)), (2, .int (zI b))]) gx gb dX8_plan_14 rfl hl (by decide) rfl (fun ls hl => ?_)
    refine lv_aload_n gx gb dX8_plan_15 rfl (lv_at hl 0 rfl) ?_
    refine lv_iload_n gx gb dX8_plan_16 rfl (lv_at hl 2 rfl) ?_
    refine lv_aload_n gx gb dX8_plan_17 rfl (lv_at hl 1 rfl) ?_
    refine va_get (D := D) (ci := 3) (v := .ref fl) (C := RX8) (T := TX8) (N := 7) gx gb gts i8 gown hK hP 0 rfl rfl 0 (by decide) (gts (.fieldLink RX8 12 "SwanSums" "flock" "LSwanSums$Flock;") (by decide +kernel)) (fun _ h9 => h9) rfl dX8_plan_18 ?_
    have hPc := hP.sub (ws' := wF fl n (pk 256 num n) (pk 8 plc q) q S c) [1] rfl
    refine vp_callSl (W.runV (As := []) (rest := [.int (nI k), .ref rt_11]) ⟨gx, gb, gml, gown, gts⟩ (kX1_line Gl D cI cJ cZ fl n (pk 256 num n) (pk 8 plc q) q S c  (by omega) (by omega) (by omega)) (cwV 0 gts gX8_plan_X1_line rfl rfl rfl (by decide +kernel) ⟨Nat.le_of_ble_eq_true rfl, Nat.le_of_ble_eq_true rfl⟩) ⟨fun a U g mk q => ⟨q.1, q.2.1, va_K.moved (u := U) (U := U.calling g mk a) (Vm.Alike.refl U.vm) q.2.2⟩, va_recv hK hPc (ci := 0) (q0 := 0) rfl rfl, fun U hU hW => ⟨rfl, by rw [hU]; exact hPc, va_K.moved hW.alike hK⟩⟩ rfl rfl hl.1 rfl (lv_room (Nat.le_of_ble_eq_true rfl)) dX8_plan_21 ⟨Nat.le_of_ble_eq_true rfl, Nat.le_of_ble_eq_true rfl⟩) (fun r hw => ?_)
    have hr21 := hw
    subst hr21
    refine lv_evl (lN (pk 256 (fun x => num (plc x)) q)) (congrArg lN (lin_eq hn7 hnum hp)) ?_
    have hPc := hP.sub (ws' := wT rt_11 r0_11 r1_11 r4_11 r5_11 cI cJ tn_11 q 0 rws_11 lks_11 mks_11 (fun _ => 0)) [6, 7, 8, 9, 10] rfl
    refine vp_callSi (W.runV (As := [.int (nI k), .long (lN (pk 256 (fun x_ => num (plc x_)) q))]) (rest := []) ⟨gx, gb, gml, gown, gts⟩ (kX5_firstTaught Gl D cI cJ cZ rt_11 r0_11 r1_11 r4_11 r5_11 tn_11 0 rws_11 lks_11 mks_11 (fun _ => 0) SA num plc k q (by omega) (by omega) (by omega) (by exact hbk) (by exact hsS) (by exact hnv)) (cwV 2 gts gX8_plan_X5_firstTaught rfl rfl rfl (by decide +kernel) ⟨Nat.le_of_ble_eq_true rfl, Nat.le_of_ble_eq_true rfl⟩) ⟨fun a U g mk q => ⟨q.1, q.2.1, va_K.moved (u := U) (U := U.calling g mk a) (Vm.Alike.refl U.vm) q.2.2⟩, va_recv hK hPc (ci := 2) (q0 := 0) rfl rfl, fun U hU hW => ⟨rfl, by rw [hU]; exact hPc, va_K.moved hW.alike hK⟩⟩ rfl rfl hl.1 rfl (lv_room (Nat.le_of_ble_eq_true rfl)) dX8_plan_24 ⟨Nat.le_of_ble_eq_true rfl, Nat.le_of_ble_eq_true rfl⟩) (fun r hw => ?_)
    have hr24 := hw
    subst hr24
    refine lv_evi (zI (ftZ (plnF num plc k q))) (congrArg zI (congrArg ftZ (by rw [plnF, hSA]))) ?_
    have hfb := ftZ_bd (plnF num plc k q)
    have hft := ftZ_lt (o := plnF num plc k q) (n := bN SA) hbn (fun x h9 => fstT_lt (T := fun i_ => tkC num plc k q (bR SA i_)) (n := bN SA) (by rw [plnF, hSA] at h9; exact h9))
    refine lv_istore (lv' := [(4, .int (zI (ftZ (plnF num plc k q)))), (3, .ref rt_11), (0, .ref h), (1, .int (nI k)), (2, .int (zI b))]) gx gb dX8_plan_27 hl (by decide) rfl (fun ls hl => ?_)
    refine lv_iload gx gb dX8_plan_29 (lv_at hl 0 rfl) ?_
    refine lv_if_ge (tgt := 37) gx gb dX8_plan_31 (by decide) (fun c31 => ?_) (fun c31 => ?_)
    · skip
      rw [z0_ge (by omega) (by omega)] at c31
      obtain ⟨x, hx1, hx2⟩ := ftZ_s (o := plnF num plc k q) (by omega)
      have hx3 := hx1
      rw [plnF, hSA] at hx3
      have hxl := (fstT_lt hx3).1
      have hdl := bD_le hbk x hxl
      rw [show zI (ftZ (plnF num plc k q)) = nI x from by rw [hx2, zI_nat]] at hl
      have hl : lv_has ls 6 [(4, .int (nI x)), (3, .ref rt_11), (0, .ref h), (1, .int (nI k)), (2, .int (zI b))] := hl
      refine lv_aload_n gx gb dX8_plan_37 rfl (lv_at hl 1 rfl) ?_
      refine lv_iload gx gb dX8_plan_38 (lv_at hl 0 rfl) ?_
      have hPc := hP.sub (ws' := wT rt_11 r0_11 r1_11 r4_11 r5_11 cI cJ tn_11 q 0 rws_11 lks_11 mks_11 (fun _ => 0)) [6, 7, 8, 9, 10] rfl
      refine vp_callSi (W.runV (As := [.int (nI x)]) (rest := []) ⟨gx, gb, gml, gown, gts⟩ (kX5_length Gl D cI cJ cZ rt_11 r0_11 r1_11 r4_11 r5_11 tn_11 q 0 rws_11 lks_11 mks_11 (fun _ => 0) SA q x (by omega) (by omega) (by exact hbk) (by exact hsS) (by exact hxl)) (cwV 1 gts gX8_plan_X5_length rfl rfl rfl (by decide +kernel) ⟨Nat.le_of_ble_eq_true rfl, Nat.le_of_ble_eq_true rfl⟩) ⟨fun a U g mk q => ⟨q.1, q.2.1, va_K.moved (u := U) (U := U.calling g mk a) (Vm.Alike.refl U.vm) q.2.2⟩, va_recv hK hPc (ci := 2) (q0 := 0) rfl rfl, fun U hU hW => ⟨rfl, by rw [hU]; exact hPc, va_K.moved hW.alike hK⟩⟩ rfl rfl hl.1 rfl (lv_room (Nat.le_of_ble_eq_true rfl)) dX8_plan_40 ⟨Nat.le_of_ble_eq_true rfl, Nat.le_of_ble_eq_true rfl⟩) (fun r hw => ?_)
      have hr40 := hw
      subst hr40
      refine lv_istore (lv' := [(5, .int (nI (bD SA x))), (4, .int (nI x)), (3, .ref rt_11), (0, .ref h), (1, .int (nI k)), (2, .int (zI b))]) gx gb dX8_plan_43 hl (by decide) rfl (fun ls hl => ?_)
      refine lv_iload_n gx gb dX8_plan_45 rfl (lv_at hl 5 rfl) ?_
      refine lv_iconst (v := zI (-1)) gx gb dX8_plan_46 (by decide) ?_
      refine lv_icmp_ne (tgt := 53) gx gb dX8_plan_47 (by decide) (fun c47 => ?_) (fun c47 => ?_)
      · skip
        rw [zI_eq (by omega) (by omega) (by omega) (by omega)] at c47
        refine lv_iload_n gx gb dX8_plan_53 rfl (lv_at hl 5 rfl) ?_
        refine lv_if_lt (tgt := 63) gx gb dX8_plan_54 (by decide) (fun c54 => ?_) (fun c54 => ?_)
        · skip
          rw [z0_lt (by omega) (by omega)] at c54
          refine lv_bipush (v := zI (-6)) gx gb dX8_plan_63 (by decide) ?_
          refine lv_goto (tgt := 80) gx gb dX8_plan_65 (by decide) ?_
          exact W.iret (v := zI (-6)) gx gb gr (fun t ht hW => ⟨⟨zI (-6), (rt_11, r0_11, r1_11, r4_11, r5_11, tn_11, q, rws_11, lks_11, mks_11), rfl, (by first | (dsimp only; done) | ((try dsimp only); refine ⟨?_, tOK_y (by omega) hsR⟩; first | (rw [hk, plnZ_1 (by omega) hx1, hSA, if_neg (by omega), if_neg (by omega)]; done) | (rw [hk, hi, plnZ_2 (by omega) hx1 hbk (by rw [hSA]; exact bLe_rf _) hxl (by omega), zI_nat]))), by rw [ht]; exact hP, va_K.moved hW.alike hK, hD⟩, hS.F ht⟩) hS.2.2 dX8_plan_80
        · skip
          rw [z0_lt (by omega) (by omega)] at c54
          refine lv_iload_n gx gb dX8_plan_57 rfl (lv_at hl 5 rfl) ?_
          refine lv_iload gx gb dX8_plan_58 (lv_at hl 0 rfl) ?_
          refine lv_icmp_lt (tgt := 68) gx gb dX8_plan_60 (by decide) (fun c60 => ?_) (fun c60 => ?_)
          · skip
            rw [zn_lt (by omega) (by omega) (by omega)] at c60
            obtain ⟨i, hi⟩ : ∃ i : Nat, b = (i : Int) := ⟨b.toNat, by omega⟩
            rw [show zI b = nI i from by rw [hi, zI_nat]] at hl
            have hl : lv_has ls 6 [(5, .int (nI (bD SA x))), (4, .int (nI x)), (3, .ref rt_11), (0, .ref h), (1, .int (nI k)), (2, .int (nI i))] := hl
            refine lv_aload_n gx gb dX8_plan_68 rfl (lv_at hl 2 rfl) ?_
            refine lv_iload gx gb dX8_plan_69 (lv_at hl 1 rfl) ?_
            refine lv_iload gx gb dX8_plan_71 (lv_at hl 0 rfl) ?_
            refine lv_iconst (v := nI 1) gx gb dX8_plan_73 (by decide) ?_
            refine lv_isub gx gb dX8_plan_74 ?_
            refine lv_evi (nI ((bD SA x) - 1)) (e_sub (by omega)) ?_
            refine lv_iload_n gx gb dX8_plan_75 rfl (lv_at hl 5 rfl) ?_
            refine lv_isub gx gb dX8_plan_76 ?_
            refine lv_evi (nI (((bD SA x) - 1) - i)) (e_sub (by omega)) ?_
            have hPc := hP.sub (ws' := wT rt_11 r0_11 r1_11 r4_11 r5_11 cI cJ tn_11 q 0 rws_11 lks_11 mks_11 (fun _ => 0)) [6, 7, 8, 9, 10] rfl
            refine vp_callSi (W.runV (As := [.int (nI x), .int (nI (((bD SA x) - 1) - i))]) (rest := []) ⟨gx, gb, gml, gown, gts⟩ (kX5_event Gl D cI cJ cZ rt_11 r0_11 r1_11 r4_11 r5_11 tn_11 q 0 rws_11 lks_11 mks_11 (fun _ => 0) SA q x (((bD SA x) - 1) - i) (by omega) (by omega) (by exact hbk) (by exact hsS) (by exact hxl) (by omega)) (cwV 2 gts gX8_plan_X5_event rfl rfl rfl (by decide +kernel) ⟨Nat.le_of_ble_eq_true rfl, Nat.le_of_ble_eq_true rfl⟩) ⟨fun a U g mk q => ⟨q.1, q.2.1, va_K.moved (u := U) (U := U.calling g mk a) (Vm.Alike.refl U.vm) q.2.2⟩, va_recv hK hPc (ci := 2) (q0 := 0) rfl rfl, fun U hU hW => ⟨rfl, by rw [hU]; exact hPc, va_K.moved hW.alike hK⟩⟩ rfl rfl hl.1 rfl (lv_room (Nat.le_of_ble_eq_true rfl)) dX8_plan_77 ⟨Nat.le_of_ble_eq_true rfl, Nat.le_of_ble_eq_true rfl⟩) (fun r hw => ?_)
            have hr77 := hw
            subst hr77
            exact W.iret (v := nI (evN q (bE SA (bAnc (bP SA) x (((bD SA x) - 1) - i))))) gx gb gr (fun t ht hW => ⟨⟨nI (evN q (bE SA (bAnc (bP SA) x (((bD SA x) - 1) - i)))), (rt_11, r0_11, r1_11, r4_11, r5_11, tn_11, q, rws_11, lks_11, mks_11), rfl, (by first | (dsimp only; done) | ((try dsimp only); refine ⟨?_, tOK_y (by omega) hsR⟩; first | (rw [hk, plnZ_1 (by omega) hx1, hSA, if_neg (by omega), if_neg (by omega)]; done) | (rw [hk, hi, plnZ_2 (by omega) hx1 hbk (by rw [hSA]; exact bLe_rf _) hxl (by omega), zI_nat]))), by rw [ht]; exact hP, va_K.moved hW.alike hK, hD⟩, hS.F ht⟩) hS.2.2 dX8_plan_80
          · skip
            rw [zn_lt (by omega) (by omega) (by omega)] at c60
            refine lv_bipush (v := zI (-6)) gx gb dX8_plan_63 (by decide) ?_
            refine lv_goto (tgt := 80) gx gb dX8_plan_65 (by decide) ?_
            exact W.iret (v := zI (-6)) gx gb gr (fun t ht hW => ⟨⟨zI (-6), (rt_11, r0_11, r1_11, r4_11, r5_11, tn_11, q, rws_11, lks_11, mks_11), rfl, (by first | (dsimp only; done) | ((try dsimp only); refine ⟨?_, tOK_y (by omega) hsR⟩; first | (rw [hk, plnZ_1 (by omega) hx1, hSA, if_neg (by omega), if_neg (by omega)]; done) | (rw [hk, hi, plnZ_2 (by omega) hx1 hbk (by rw [hSA]; exact bLe_rf _) hxl (by omega), zI_nat]))), by rw [ht]; exact hP, va_K.moved hW.alike hK, hD⟩, hS.F ht⟩) hS.2.2 dX8_plan_80
      · skip
        rw [zI_eq (by omega) (by omega) (by omega) (by omega)] at c47
        refine lv_iload gx gb dX8_plan_50 (lv_at hl 0 rfl) ?_
        exact W.iret (v := nI (bD SA x)) gx gb gr (fun t ht hW => ⟨⟨nI (bD SA x), (rt_11, r0_11, r1_11, r4_11, r5_11, tn_11, q, rws_11, lks_11, mks_11), rfl, (by first | (dsimp only; done) | ((try dsimp only); refine ⟨?_, tOK_y (by omega) hsR⟩; rw [hk, plnZ_1 (by omega) hx1, hSA, if_pos (by omega), zI_nat])), by rw [ht]; exact hP, va_K.moved hW.alike hK, hD⟩, hS.F ht⟩) hS.2.2 dX8_plan_52
    · skip
      rw [z0_ge (by omega) (by omega)] at c31
      refine lv_bipush (v := zI (-6)) gx gb dX8_plan_34 (by decide) ?_
      exact W.iret (v := zI (-6)) gx gb gr (fun t ht hW => ⟨⟨zI (-6), (rt_11, r0_11, r1_11, r4_11, r5_11, tn_11, q, rws_11, lks_11, mks_11), rfl, (by first | (dsimp only; done) | ((try dsimp only); refine ⟨?_, tOK_y (by omega) hsR⟩; rw [hk, plnZ_0 (by omega) (ftZ_neg (by omega))])), by rw [ht]; exact hP, va_K.moved hW.alike hK, hD⟩, hS.F ht⟩) hS.2.2 dX8_plan_36
  · skip
    rw [b0_eq] at c4
    simp only [decide_eq_false_iff_not, Decidable.not_not] at c4
    exfalso; omega

set_option maxHeartbeats 4000000 in
set_option maxRecDepth 100000 in
theorem kX8_areLessons (Gl : Launch) (a : Int) (m : Nat) (hl_a : -2147483648 ≤ a) (hu_a : a < 2147483648) (hm1 : 1 ≤ m) (hm : m ≤ 4) : Met Gl yX8_areLessons wsX8_areLessons ({ frames := 1, cells := 0, slots := 0, locals := 24 } : Room) (va_Pc [.int (zI a), .int (nI m)] (fun _ => True)) (vp_Si (fun r : Int32 => r = bI (decide ((0 ≤ a ∧ a < ((10 ^ m : Nat) : Int)) ∧ ∀ k_, k_ < m → dg 10 a.toNat k_ ≤ 6)))) 0 0 (fun _ => False) := by
  refine Met.ofW (cc := cX8_areLessons) (maxL := 3) (ret := (some .boolean)) (by decide +kernel) rfl ?_
  intro Gp Ge Gs Gm Ga Gw Gt Gc G1 Bd gml gv
  obtain ⟨rfl, -⟩ := gv
  have gx := Bd.exec
  have gb := Bd.bytes
  have gr := Bd.returns
  have gts := atoms_spec (ws := wsX8_areLessons) Bd.pre
  have gown : Gs.vm.findClass RX8 = some Gm.cls := findClass_of_methodNamed Bd.named
  have glk := Bd.notSynchronized
  have hl := lv_entry ([.int (zI a), .int (nI m)]) (n := 3) (Nat.le_of_ble_eq_true rfl)
  rw [lg_entry_eq]
  generalize (lg_sl ([.int (zI a), .int (nI m)]) ++ List.replicate (3 - (lg_sl ([.int (zI a), .int (nI m)])).length) Slot.unset).toArray = ls at hl ⊢
  have hl : lv_has ls 3 [(0, .int (zI a)), (1, .int (nI m))] := hl
  have hp4 := pw_4 hm
  refine lv_iload_n gx gb dX8_areLessons_0 rfl (lv_at hl 0 rfl) ?_
  refine lv_if_lt (tgt := 14) gx gb dX8_areLessons_1 (by decide) (fun c1 => ?_) (fun c1 => ?_)
  · skip
    rw [z0_lt (by omega) (by omega)] at c1
    refine lv_iconst (v := nI 0) gx gb dX8_areLessons_14 (by decide) ?_
    exact W.zret (v := nI 0) gx gb gr (by decide) (fun t ht hW => ⟨nI 0, rfl, (by first | (dsimp only; done) | ((try dsimp only); exact bI_f (decide_eq_false (fun h9 => by have h8 := h9.1; omega)))), ht⟩) (fun q h => by cases h) dX8_areLessons_15
  · skip
    rw [z0_lt (by omega) (by omega)] at c1
    refine lv_iload_n gx gb dX8_areLessons_4 rfl (lv_at hl 0 rfl) ?_
    refine lv_bipush (v := nI 10) gx gb dX8_areLessons_5 (by decide) ?_
    refine lv_iload_n gx gb dX8_areLessons_7 rfl (lv_at hl 1 rfl) ?_
    refine vp_callSi (W.runS (As := [.int (nI 10), .int (nI m)]) (rest := [.int (zI a)]) ⟨gx, gb, gml, gown, gts⟩ (kX0_power Gl 10 m (by omega)) (va_cwS 2 gts gX8_areLessons_X0_power rfl rfl rfl (by decide +kernel) ⟨Nat.le_of_ble_eq_true rfl, Nat.le_of_ble_eq_true rfl⟩) ⟨fun _ _ _ _ h => h, fun U hU hW => ⟨rfl, trivial⟩⟩ rfl rfl hl.1 rfl (lv_room (Nat.le_of_ble_eq_true rfl)) dX8_areLessons_8 ⟨Nat.le_of_ble_eq_true rfl, Nat.le_of_ble_eq_true rfl⟩) (fun r hw => ?_)
    have hr8 := hw
    subst hr8
    refine lv_icmp_lt (tgt := 16) gx gb dX8_areLessons_11 (by decide) (fun c11 => ?_) (fun c11 => ?_)
    · skip
      rw [zn_lt (by omega) (by omega) (by omega)] at c11
      obtain ⟨s, hs⟩ : ∃ s : Nat, a = (s : Int) := ⟨a.toNat, by omega⟩
      rw [show zI a = nI s from by rw [hs, zI_nat]] at hl
      have hl : lv_has ls 3 [(0, .int (nI s)), (1, .int (nI m))] := hl
      refine lv_iconst (v := nI 0) gx gb dX8_areLessons_16 (by decide) ?_
      refine lv_istore_n (lv' := [(2, .int (nI 0)), (0, .int (nI s)), (1, .int (nI m))]) gx gb dX8_areLessons_17 rfl hl (by decide) rfl (fun ls hl => ?_)
      have L18 : ∀ fu : Nat, ∀ (k : Nat) (hk : k ≤ m) (h7 : ∀ x, x < k → dg 10 s x ≤ 6), (m - k) < fu → ∀ ls : Array Slot, lv_has ls 3 [(2, .int (nI k)), (0, .int (nI s)), (1, .int (nI m))] → W Gp Gl Ge (headSpec wsX8_areLessons ({ frames := 1, cells := 0, slots := 0, locals := 24 } : Room)).room Gs Gm ([.int (zI a), .int (nI m)] : List Value).toArray Gw Gt Gc Gs.heap [] 0 0 (MQ Gw (vp_Si (fun r : Int32 => r = bI (decide ((0 ≤ a ∧ a < ((10 ^ m : Nat) : Int)) ∧ ∀ k_, k_ < m → dg 10 a.toNat k_ ≤ 6)))) ([.int (zI a), .int (nI m)] : List Value).toArray Gs 0 0 (fun _ => False)) (F0 Gm 18 ls []) := by
        intro fu
        induction fu with
        | zero => intro k hk h7 hfu; exact absurd hfu (Nat.not_lt_zero _)
        | succ fu ih18 =>
          intro k hk h7 hfu ls hl
          refine lv_iload_n gx gb dX8_areLessons_18 rfl (lv_at hl 0 rfl) ?_
          refine lv_iload_n gx gb dX8_areLessons_19 rfl (lv_at hl 2 rfl) ?_
          refine lv_icmp_ge (tgt := 44) gx gb dX8_areLessons_20 (by decide) (fun c20 => ?_) (fun c20 => ?_)
          · skip
            rw [nI_leI (by omega) (by omega)] at c20
            refine lv_iconst (v := nI 1) gx gb dX8_areLessons_44 (by decide) ?_
            exact W.zret (v := nI 1) gx gb gr (by decide) (fun t ht hW => ⟨nI 1, rfl, (by first | (dsimp only; done) | ((try dsimp only); exact bI_t (decide_eq_true ⟨by omega, fun x hx => by rw [show a.toNat = s by omega]; exact h7 x (by omega)⟩))), ht⟩) (fun q h => by cases h) dX8_areLessons_45
          · skip
            rw [nI_leI (by omega) (by omega)] at c20
            refine lv_iload_n gx gb dX8_areLessons_23 rfl (lv_at hl 1 rfl) ?_
            refine lv_bipush (v := nI 10) gx gb dX8_areLessons_24 (by decide) ?_
            refine lv_iload_n gx gb dX8_areLessons_26 rfl (lv_at hl 0 rfl) ?_
            refine vp_callSi (W.runS (As := [.int (nI s), .int (nI 10), .int (nI k)]) (rest := []) ⟨gx, gb, gml, gown, gts⟩ (kX0_digit Gl s 10 k (by omega) (by omega) (by omega) (by omega)) (va_cwS 3 gts gX8_areLessons_X0_digit rfl rfl rfl (by decide +kernel) ⟨Nat.le_of_ble_eq_true rfl, Nat.le_of_ble_eq_true rfl⟩) ⟨fun _ _ _ _ h => h, fun U hU hW => ⟨rfl, trivial⟩⟩ rfl rfl hl.1 rfl (lv_room (Nat.le_of_ble_eq_true rfl)) dX8_areLessons_27 ⟨Nat.le_of_ble_eq_true rfl, Nat.le_of_ble_eq_true rfl⟩) (fun r hw => ?_)
            have hr27 := hw
            subst hr27
            have hdg : dg 10 s k < 10 := Nat.mod_lt _ (by omega)
            refine lv_evs [.int (zI ((dg 10 s k : Nat) : Int))] (by simp only [nI_zc]) ?_
            refine vp_callSi (W.runS (As := [.int (zI ((dg 10 s k : Nat) : Int))]) (rest := []) ⟨gx, gb, gml, gown, gts⟩ (kX8_isLesson Gl ((dg 10 s k : Nat) : Int) (by omega) (by omega)) (va_cwS 1 gts gX8_areLessons_X8_isLesson rfl rfl rfl (by decide +kernel) ⟨Nat.le_of_ble_eq_true rfl, Nat.le_of_ble_eq_true rfl⟩) ⟨fun _ _ _ _ h => h, fun U hU hW => ⟨rfl, trivial⟩⟩ rfl rfl hl.1 rfl (lv_room (Nat.le_of_ble_eq_true rfl)) dX8_areLessons_30 ⟨Nat.le_of_ble_eq_true rfl, Nat.le_of_ble_eq_true rfl⟩) (fun r hw => ?_)
            have hr30 := hw
            subst hr30
            refine lv_if_ne (tgt := 38) gx gb dX8_areLessons_33 (by decide) (fun c33 => ?_) (fun c33 => ?_)
            · skip
              rw [b0_eq] at c33
              simp only [decide_eq_false_iff_not, Decidable.not_not] at c33
              refine lv_iinc (v := nI (k + 1)) (lv' := [(2, .int (nI (k + 1))), (0, .int (nI s)), (1, .int (nI m))]) gx gb dX8_areLessons_38 hl (k := 0) rfl (nI_add k 1) (by decide) rfl (fun ls hl => ?_)
              refine lv_goto (tgt := 18) gx gb dX8_areLessons_41 (by decide) ?_
              exact ih18 (k + 1) (by omega) (by intro x hx; rcases Nat.lt_or_ge x k with h9 | h9; exact h7 x h9; rw [show x = k by omega]; omega) (by omega) ls (lv_sub hl [0, 1, 2] rfl)
            · skip
              rw [b0_eq] at c33
              simp only [decide_eq_false_iff_not, Decidable.not_not] at c33
              refine lv_iconst (v := nI 0) gx gb dX8_areLessons_36 (by decide) ?_
              exact W.zret (v := nI 0) gx gb gr (by decide) (fun t ht hW => ⟨nI 0, rfl, (by first | (dsimp only; done) | ((try dsimp only); exact bI_f (decide_eq_false (fun h9 => by have h8 := h9.2 k (by omega); rw [show a.toNat = s by omega] at h8; omega)))), ht⟩) (fun q h => by cases h) dX8_areLessons_37
      exact L18 _ 0 (by omega) (by intro x hx; exact absurd hx (Nat.not_lt_zero _)) (Nat.lt_succ_self _) ls (lv_sub hl [0, 1, 2] rfl)
    · skip
      rw [zn_lt (by omega) (by omega) (by omega)] at c11
      refine lv_iconst (v := nI 0) gx gb dX8_areLessons_14 (by decide) ?_
      exact W.zret (v := nI 0) gx gb gr (by decide) (fun t ht hW => ⟨nI 0, rfl, (by first | (dsimp only; done) | ((try dsimp only); exact bI_f (decide_eq_false (fun h9 => by have h8 := h9.1; omega)))), ht⟩) (fun q h => by cases h) dX8_areLessons_15

set_option maxHeartbeats 4000000 in
set_option maxRecDepth 100000 in
theorem kX8_week_1 (Gl : Launch) (D : va_G) (cI cJ cZ : ClassId) (h : Nat) (fl : Nat) (e1 : Nat) (e2 : Nat) (pd : Nat) (sg : Nat) (k1 : Nat) (k2 : Nat) (n : Nat) (q : Nat) (S : Nat) (c : Nat) (na : Nat) (Na : Nat) (Ra : Nat) (qa : Nat) (Sa : Nat) (ca : Nat) (nb : Nat) (Nb : Nat) (Rb : Nat) (qb : Nat) (Sb : Nat) (cb : Nat) (cnt : Nat) (rb : Nat) (sb : Nat) (g : Nat → Nat) (rt : Nat) (r0 : Nat) (r1 : Nat) (r4 : Nat) (r5 : Nat) (tn : Nat) (ts : Nat) (tq : Nat) (rws : Nat → Nat) (lks : Nat → Nat) (mks : Nat → Nat) (qu : Nat → Nat) (sz : Nat) (num plc : Nat → Nat) (a b : Int) (hl_a : -2147483648 ≤ a) (hu_a : a < 2147483648) (hl_b : -2147483648 ≤ b) (hu_b : b < 2147483648) (hn1 : 1 ≤ n) (hn7 : n ≤ 7) (hq1 : 1 ≤ q) (hqn : q ≤ n) (hp : ∀ k, k < q → plc k < n) (hnum : ∀ k, k < n → num k ≤ 99) (hinj : ∀ i j, i < q → j < q → plc i = plc j → i = j) (hT : tOK ts tn rws lks) : Met Gl yX8_week wsX8_week ({ frames := 6, cells := 0, slots := 0, locals := 178 } : Room) (va_Pc [.ref h, .int (zI a), .int (zI b)] (fun U => U.heap.size = sz ∧ va_P D vwCl (wY h fl e1 e2 pd sg cI k1 k2 (.ref rt) n (pk 256 num n) (pk 8 plc q) q S c na Na Ra qa Sa ca nb Nb Rb qb Sb cb cnt rb sb g rt r0 r1 r4 r5 cJ tn ts tq rws lks mks qu) U.heap ∧ va_K D vwCl [(cI, .int), (cJ, .long), (cZ, .boolean)] U ∧ va_D (fun _ => True) (wY h fl e1 e2 pd sg cI k1 k2 (.ref rt) n (pk 256 num n) (pk 8 plc q) q S c na Na Ra qa Sa ca nb Nb Rb qb Sb cb cnt rb sb g rt r0 r1 r4 r5 cJ tn ts tq rws lks mks qu))) (va_Qi (fun (r : Int32) (u : (Nat) × (Nat) × (Nat → Nat) × (Nat → Nat) × (Nat → Nat) × (Nat) × (Nat → Nat)) => (∃ zz : Int, r = zI zz ∧ wekR num plc q a b zz) ∧ tOK u.2.1 u.1 u.2.2.1 u.2.2.2.1) (fun (u : (Nat) × (Nat) × (Nat → Nat) × (Nat → Nat) × (Nat → Nat) × (Nat) × (Nat → Nat)) t => va_P D vwCl (wY h fl e1 e2 pd sg cI k1 k2 (.ref rt) n (pk 256 num n) (pk 8 plc q) q S c na Na Ra qa Sa ca nb Nb Rb qb Sb cb cnt rb sb g rt r0 r1 r4 r5 cJ u.1 u.2.1 u.2.2.2.2.2.1 u.2.2.1 u.2.2.2.1 u.2.2.2.2.1 u.2.2.2.2.2.2) t.heap ∧ va_K D vwCl [(cI, .int), (cJ, .long), (cZ, .boolean)] t ∧ va_D (va_A (wY h fl e1 e2 pd sg cI k1 k2 (.ref rt) n (pk 256 num n) (pk 8 plc q) q S c na Na Ra qa Sa ca nb Nb Rb qb Sb cb cnt rb sb g rt r0 r1 r4 r5 cJ tn ts tq rws lks mks qu) sz) (wY h fl e1 e2 pd sg cI k1 k2 (.ref rt) n (pk 256 num n) (pk 8 plc q) q S c na Na Ra qa Sa ca nb Nb Rb qb Sb cb cnt rb sb g rt r0 r1 r4 r5 cJ u.1 u.2.1 u.2.2.2.2.2.1 u.2.2.1 u.2.2.2.1 u.2.2.2.2.1 u.2.2.2.2.2.2)) (va_A (wY h fl e1 e2 pd sg cI k1 k2 (.ref rt) n (pk 256 num n) (pk 8 plc q) q S c na Na Ra qa Sa ca nb Nb Rb qb Sb cb cnt rb sb g rt r0 r1 r4 r5 cJ tn ts tq rws lks mks qu) sz)) 0 0 (va_A (wY h fl e1 e2 pd sg cI k1 k2 (.ref rt) n (pk 256 num n) (pk 8 plc q) q S c na Na Ra qa Sa ca nb Nb Rb qb Sb cb cnt rb sb g rt r0 r1 r4 r5 cJ tn ts tq rws lks mks qu) sz) := by
  refine Met.ofW (cc := cX8_week) (maxL := 3) (ret := (some .int)) (by decide +kernel) rfl ?_
  intro Gp Ge Gs Gm Ga Gw Gt Gc G1 Bd gml gv
  obtain ⟨rfl, hsz, hP, hK, hD0⟩ := gv
  have gx := Bd.exec
  have gb := Bd.bytes
  have gr := Bd.returns
  have gts := atoms_spec (ws := wsX8_week) Bd.pre
  have gown : Gs.vm.findClass RX8 = some Gm.cls := findClass_of_methodNamed Bd.named
  have glk := Bd.notSynchronized
  subst hsz
  have hD := hD0.self (sz := Gs.heap.size)
  generalize hAe : va_A (wY h fl e1 e2 pd sg cI k1 k2 (.ref rt) n (pk 256 num n) (pk 8 plc q) q S c na Na Ra qa Sa ca nb Nb Rb qb Sb cb cnt rb sb g rt r0 r1 r4 r5 cJ tn ts tq rws lks mks qu) Gs.heap.size = A at hD ⊢
  have hA : ∀ q : Nat, Gs.heap.size ≤ q → A q := fun q h => by rw [← hAe]; exact Or.inr h
  have hS : va_S A Gs.heap Gs.heap [] := va_S.rf
  have hP : va_P D vwCl (wY h fl e1 e2 pd sg cI k1 k2 (.ref rt) n (pk 256 num n) (pk 8 plc q) q S c na Na Ra qa Sa ca nb Nb Rb qb Sb cb cnt rb sb g rt r0 r1 r4 r5 cJ tn ts tq rws lks mks qu) Gs.heap := hP
  have hl := lv_entry ([.ref h, .int (zI a), .int (zI b)]) (n := 3) (Nat.le_of_ble_eq_true rfl)
  rw [lg_entry_eq]
  generalize (lg_sl ([.ref h, .int (zI a), .int (zI b)]) ++ List.replicate (3 - (lg_sl ([.ref h, .int (zI a), .int (zI b)])).length) Slot.unset).toArray = ls at hl ⊢
  have hl : lv_has ls 3 [(0, .ref h), (1, .int (zI a)), (2, .int (zI b))] := hl
  have i8 : ∀ w ∈ wsX80, w ∈ wsX8_week := by decide +kernel
  have hp8 : ∀ k, k < q → plc k < 8 := fun k hk => by have := hp k hk; omega
  have hR8 := pk8_lt hp8 (by omega)
  have hn256 : ∀ k, k < n → num k < 256 := fun k hk => by have := hnum k hk; omega
  have hN63 := pk256_lt hn256 (by omega)
  have hld := lin_dg hnum hp
  have hl63 := pk256_lt (f := (fun x => num (plc x))) (z := q) (fun i hi => by have := hnum _ (hp i hi); show num (plc i) < 256; omega) (by omega)
  have hnv : ∀ x, x < q → num (plc x) ≤ 99 := fun x hx => hnum _ (hp x hx)
  refine lv_iload_n gx gb dX8_week_0 rfl (lv_at hl 2 rfl) ?_
  refine lv_iconst (v := nI 1) gx gb dX8_week_1 (by decide) ?_
  refine lv_icmp_lt (tgt := 18) gx gb dX8_week_2 (by decide) (fun c2 => ?_) (fun c2 => ?_)
  · skip
    rw [zn_lt (by omega) (by omega) (by omega)] at c2
    refine lv_bipush (v := zI (-2)) gx gb dX8_week_18 (by decide) ?_
    exact W.iret (v := zI (-2)) gx gb gr (fun t ht hW => ⟨⟨zI (-2), (tn, ts, rws, lks, mks, tq, qu), rfl, (by first | (dsimp only; done) | ((try dsimp only); refine ⟨?_, hT⟩; exact ⟨-2, rfl, wekR_n (fun h9 => by first | (have h8 := h9.1; omega) | (rw [show b.toNat = m by omega] at h9; exact c15 h9.2))⟩)), by rw [ht]; exact hP, va_K.moved hW.alike hK, hD⟩, hS.F ht⟩) hS.2.2 dX8_week_20
  · skip
    rw [zn_lt (by omega) (by omega) (by omega)] at c2
    refine lv_iload_n gx gb dX8_week_5 rfl (lv_at hl 2 rfl) ?_
    refine lv_iconst (v := nI 4) gx gb dX8_week_6 (by decide) ?_
    refine lv_icmp_gt (tgt := 18) gx gb dX8_week_7 (by decide) (fun c7 => ?_) (fun c7 => ?_)
    · skip
      rw [nz_lt (by omega) (by omega) (by omega)] at c7
      refine lv_bipush (v := zI (-2)) gx gb dX8_week_18 (by decide) ?_
      exact W.iret (v := zI (-2)) gx gb gr (fun t ht hW => ⟨⟨zI (-2), (tn, ts, rws, lks, mks, tq, qu), rfl, (by first | (dsimp only; done) | ((try dsimp only); refine ⟨?_, hT⟩; exact ⟨-2, rfl, wekR_n (fun h9 => by first | (have h8 := h9.1; omega) | (rw [show b.toNat = m by omega] at h9; exact c15 h9.2))⟩)), by rw [ht]; exact hP, va_K.moved hW.alike hK, hD⟩, hS.F ht⟩) hS.2.2 dX8_week_20
    · skip
      rw [nz_lt (by omega) (by omega) (by omega)] at c7
      obtain ⟨m, hm⟩ : ∃ m : Nat, b = (m : Int) := ⟨b.toNat, by omega⟩
      rw [show zI b = nI m from by rw [hm, zI_nat]] at hl
      have hl : lv_has ls 3 [(0, .ref h), (1, .int (zI a)), (2, .int (nI m))] := hl
      refine lv_iload_n gx gb dX8_week_10 rfl (lv_at hl 1 rfl) ?_
      refine lv_iload_n gx gb dX8_week_11 rfl (lv_at hl 2 rfl) ?_
      refine vp_callSi (W.runS (As := [.int (zI a), .int (nI m)]) (rest := []) ⟨gx, gb, gml, gown, gts⟩ (kX8_areLessons Gl a m (by omega) (by omega) (by omega) (by omega)) (va_cwS 2 gts gX8_week_X8_areLessons rfl rfl rfl (by decide +kernel) ⟨Nat.le_of_ble_eq_true rfl, Nat.le_of_ble_eq_true rfl⟩) ⟨fun _ _ _ _ h => h, fun U hU hW => ⟨rfl, trivial⟩⟩ rfl rfl hl.1 rfl (lv_room (Nat.le_of_ble_eq_true rfl)) dX8_week_12 ⟨Nat.le_of_ble_eq_true rfl, Nat.le_of_ble_eq_true rfl⟩) (fun r hw => ?_)
      have hr12 := hw
      subst hr12
      refine lv_if_ne (tgt := 21) gx gb dX8_week_15 (by decide) (fun c15 => ?_) (fun c15 => ?_)
      · skip
        rw [b0_eq] at c15
        simp only [decide_eq_false_iff_not, Decidable.not_not] at c15
        have hbt : b.toNat = m := by omega
        have h7 : ∀ k, k < m → dg 10 a.toNat k ≤ 6 := c15.2
        obtain ⟨s, hs⟩ : ∃ s : Nat, a = (s : Int) := ⟨a.toNat, by omega⟩
        rw [show zI a = nI s from by rw [hs, zI_nat]] at hl
        have hsl : s < 10 ^ m := by omega
        rw [show a.toNat = s by omega] at h7
        have hp4 := pw_4 (m := m) (by omega)
        have hl : lv_has ls 3 [(0, .ref h), (1, .int (nI s)), (2, .int (nI m))] := hl
        refine lv_aload_n gx gb dX8_week_21 rfl (lv_at hl 0 rfl) ?_
        have hPc := hP.sub (ws' := wY h fl e1 e2 pd sg cI k1 k2 (.ref rt) n (pk 256 num n) (pk 8 plc q) q S c na Na Ra qa Sa ca nb Nb Rb qb Sb cb cnt rb sb g rt r0 r1 r4 r5 cJ tn ts tq rws lks mks qu) [0, 1, 2, 3, 4, 5, 6, 7, 8, 9, 10] rfl
        have hDc := hD.sub (ws' := wY h fl e1 e2 pd sg cI k1 k2 (.ref rt) n (pk 256 num n) (pk 8 plc q) q S c na Na Ra qa Sa ca nb Nb Rb qb Sb cb cnt rb sb g rt r0 r1 r4 r5 cJ tn ts tq rws lks mks qu) [0, 1, 2, 3, 4, 5, 6, 7, 8, 9, 10] (by decide) rfl
        have hFc := va_free (wc := wY h fl e1 e2 pd sg cI k1 k2 (.ref rt) n (pk 256 num n) (pk 8 plc q) q S c na Na Ra qa Sa ca nb Nb Rb qb Sb cb cnt rb sb g rt r0 r1 r4 r5 cJ tn ts tq rws lks mks qu) hD hS hA [0, 1, 2, 3, 4, 5, 6, 7, 8, 9, 10] rfl
        refine va_callr (va_runV (As := []) (rest := []) ⟨gx, gb, gml, gown, gts⟩ (kX8_routesOfNow_1 Gl D cI cJ cZ h fl e1 e2 pd sg k1 k2 n (pk 256 num n) (pk 8 plc q) q S c na Na Ra qa Sa ca nb Nb Rb qb Sb cb cnt rb sb g rt r0 r1 r4 r5 tn ts tq rws lks mks qu _  (by omega) (by omega) (by exact hT)) (cwV 0 gts gX8_week_X8_routesOfNow rfl rfl rfl (by decide +kernel) ⟨Nat.le_of_ble_eq_true rfl, Nat.le_of_ble_eq_true rfl⟩) ⟨fun a U g mk q => by obtain ⟨q0, q1, qP, qK, qD⟩ := q; exact ⟨q0, q1, qP, va_K.moved (u := U) (U := U.calling g mk a) (Vm.Alike.refl U.vm) qK, qD⟩, va_recv hK hPc (ci := 3) (q0 := 0) rfl rfl, fun U hU hW => ⟨rfl, by rw [hU], by rw [hU]; exact hPc, va_K.moved hW.alike hK, hDc.weaken (fun _ _ _ _ => trivial)⟩⟩ rfl rfl hl.1 rfl (lv_room (Nat.le_of_ble_eq_true rfl)) dX8_week_22 ⟨Nat.le_of_ble_eq_true rfl, Nat.le_of_ble_eq_true rfl⟩) hS (fun q _ h => hFc q h) hFc (fun u ra t H1 locs ht hvm hw hB hz1 hk1 hS => ?_)
        obtain ⟨tn_22, rws_22, lks_22, mks_22⟩ := u
        obtain ⟨hra, hP1, hK1, hD1⟩ := hB
        try dsimp only at hra
        rw [hra]
        rw [ht] at hP1
        try dsimp only at hw
        try dsimp only at hP1
        try dsimp only at hD1
        have hK := va_K.moved hvm.symm hK1
        obtain ⟨hP, hD⟩ := va_join (wr := []) (w1 := wY h fl e1 e2 pd sg cI k1 k2 (.ref rt) n (pk 256 num n) (pk 8 plc q) q S c na Na Ra qa Sa ca nb Nb Rb qb Sb cb cnt rb sb g rt r0 r1 r4 r5 cJ tn_22 q tq rws_22 lks_22 mks_22 qu) hP hD [0, 1, 2, 3, 4, 5, 6, 7, 8, 9, 10] [] rfl rfl (by decide) (by decide) hk1 hFc hP1 hD1
        have hP := hP.sub (ws' := wY h fl e1 e2 pd sg cI k1 k2 (.ref rt) n (pk 256 num n) (pk 8 plc q) q S c na Na Ra qa Sa ca nb Nb Rb qb Sb cb cnt rb sb g rt r0 r1 r4 r5 cJ tn_22 q tq rws_22 lks_22 mks_22 qu) [0, 1, 2, 3, 4, 5, 6, 7, 8, 9, 10] rfl
        have hD := hD.sub (ws' := wY h fl e1 e2 pd sg cI k1 k2 (.ref rt) n (pk 256 num n) (pk 8 plc q) q S c na Na Ra qa Sa ca nb Nb Rb qb Sb cb cnt rb sb g rt r0 r1 r4 r5 cJ tn_22 q tq rws_22 lks_22 mks_22 qu) [0, 1, 2, 3, 4, 5, 6, 7, 8, 9, 10] (by decide) rfl
        have hK := va_K.moved (Vm.Alike.refl Gs.vm) hK
        generalize H1 = H at hP hS ⊢
        have hsR := hw
        refine lv_iload_n gx gb dX8_week_25 rfl (lv_at hl 1 rfl) ?_
        refine lv_iload_n gx gb dX8_week_26 rfl (lv_at hl 2 rfl) ?_
        refine lv_aload_n gx gb dX8_week_27 rfl (lv_at hl 0 rfl) ?_
        refine va_get (D := D) (ci := 3) (v := .ref fl) (C := RX8) (T := TX8) (N := 7) gx gb gts i8 gown hK hP 0 rfl rfl 0 (by decide) (gts (.fieldLink RX8 12 "SwanSums" "flock" "LSwanSums$Flock;") (by decide +kernel)) (fun _ h9 => h9) rfl dX8_week_28 ?_
        have hPc := hP.sub (ws' := wF fl n (pk 256 num n) (pk 8 plc q) q S c) [1] rfl
        refine vp_callSl (W.runV (As := []) (rest := [.int (nI m), .int (nI s), .ref rt]) ⟨gx, gb, gml, gown, gts⟩ (kX1_line Gl D cI cJ cZ fl n (pk 256 num n) (pk 8 plc q) q S c  (by omega) (by omega) (by omega)) (cwV 0 gts gX8_week_X1_line rfl rfl rfl (by decide +kernel) ⟨Nat.le_of_ble_eq_true rfl, Nat.le_of_ble_eq_true rfl⟩) ⟨fun a U g mk q => ⟨q.1, q.2.1, va_K.moved (u := U) (U := U.calling g mk a) (Vm.Alike.refl U.vm) q.2.2⟩, va_recv hK hPc (ci := 0) (q0 := 0) rfl rfl, fun U hU hW => ⟨rfl, by rw [hU]; exact hPc, va_K.moved hW.alike hK⟩⟩ rfl rfl hl.1 rfl (lv_room (Nat.le_of_ble_eq_true rfl)) dX8_week_31 ⟨Nat.le_of_ble_eq_true rfl, Nat.le_of_ble_eq_true rfl⟩) (fun r hw => ?_)
        have hr31 := hw
        subst hr31
        refine lv_evl (lN (pk 256 (fun x => num (plc x)) q)) (congrArg lN (lin_eq hn7 hnum hp)) ?_
        have hPc := hP.sub (ws' := wT rt r0 r1 r4 r5 cI cJ tn_22 q tq rws_22 lks_22 mks_22 qu) [6, 7, 8, 9, 10] rfl
        have hDc := hD.sub (ws' := wT rt r0 r1 r4 r5 cI cJ tn_22 q tq rws_22 lks_22 mks_22 qu) [6, 7, 8, 9, 10] (by decide) rfl
        have hFc := va_free (wc := wT rt r0 r1 r4 r5 cI cJ tn_22 q tq rws_22 lks_22 mks_22 qu) hD hS hA [6, 7, 8, 9, 10] rfl
        refine va_calli (va_runV (As := [.int (nI s), .int (nI m), .long (lN (pk 256 (fun x_ => num (plc x_)) q))]) (rest := []) ⟨gx, gb, gml, gown, gts⟩ (kX5_fewestInTurn Gl D cI cJ cZ rt r0 r1 r4 r5 tn_22 tq rws_22 lks_22 mks_22 qu _ num plc q s m (by omega) (by omega) (by exact hsR) (by omega) (by omega) (by exact h7) (by exact hnv)) (cwV 3 gts gX8_week_X5_fewestInTurn rfl rfl rfl (by decide +kernel) ⟨Nat.le_of_ble_eq_true rfl, Nat.le_of_ble_eq_true rfl⟩) ⟨fun a U g mk q => by obtain ⟨q0, q1, qP, qK, qD⟩ := q; exact ⟨q0, q1, qP, va_K.moved (u := U) (U := U.calling g mk a) (Vm.Alike.refl U.vm) qK, qD⟩, va_recv hK hPc (ci := 2) (q0 := 0) rfl rfl, fun U hU hW => ⟨rfl, by rw [hU], by rw [hU]; exact hPc, va_K.moved hW.alike hK, hDc.weaken (fun _ _ _ _ => trivial)⟩⟩ rfl rfl hl.1 rfl (lv_room (Nat.le_of_ble_eq_true rfl)) dX8_week_34 ⟨Nat.le_of_ble_eq_true rfl, Nat.le_of_ble_eq_true rfl⟩) hS (fun q _ h => hFc q h) hFc (fun r u t H1 locs ht hvm hw hB hz1 hk1 hS => ?_)
        obtain ⟨tq_34, qu_34, mks_34⟩ := u
        obtain ⟨hP1, hK1, hD1⟩ := hB
        rw [ht] at hP1
        try dsimp only at hw
        try dsimp only at hP1
        try dsimp only at hD1
        have hK := va_K.moved hvm.symm hK1
        obtain ⟨hP, hD⟩ := va_join (wr := [(h, .inr (3, [.ref fl, .ref e1, .ref e2, .int (nI k1), .int (nI k2), .ref pd, .ref rt])), (fl, .inr (0, [.int (nI n), .long (lN (pk 256 num n)), .int (nI (pk 8 plc q)), .int (nI q), .long (lN S), .int (nI c)])), (e1, .inr (0, [.int (nI na), .long (lN Na), .int (nI Ra), .int (nI qa), .long (lN Sa), .int (nI ca)])), (e2, .inr (0, [.int (nI nb), .long (lN Nb), .int (nI Rb), .int (nI qb), .long (lN Sb), .int (nI cb)])), (pd, .inr (1, [.ref sg, .int (nI cnt), .int (nI rb), .int (nI sb)])), (sg, .inl (cI, 60, .inl (aN g)))]) (w1 := wT rt r0 r1 r4 r5 cI cJ tn_22 q tq_34 rws_22 lks_22 mks_34 qu_34) hP hD [6, 7, 8, 9, 10] [0, 1, 2, 3, 4, 5] rfl rfl (by decide) (by decide) hk1 hFc hP1 hD1
        have hP := hP.sub (ws' := wY h fl e1 e2 pd sg cI k1 k2 (.ref rt) n (pk 256 num n) (pk 8 plc q) q S c na Na Ra qa Sa ca nb Nb Rb qb Sb cb cnt rb sb g rt r0 r1 r4 r5 cJ tn_22 q tq_34 rws_22 lks_22 mks_34 qu_34) [0, 1, 2, 3, 4, 5, 6, 7, 8, 9, 10] rfl
        have hD := hD.sub (ws' := wY h fl e1 e2 pd sg cI k1 k2 (.ref rt) n (pk 256 num n) (pk 8 plc q) q S c na Na Ra qa Sa ca nb Nb Rb qb Sb cb cnt rb sb g rt r0 r1 r4 r5 cJ tn_22 q tq_34 rws_22 lks_22 mks_34 qu_34) [0, 1, 2, 3, 4, 5, 6, 7, 8, 9, 10] (by decide) rfl
        have hK := va_K.moved (Vm.Alike.refl Gs.vm) hK
        generalize H1 = H at hP hS ⊢
        obtain ⟨r34, rfl⟩ : ∃ z, z = r := ⟨_, rfl⟩
        obtain ⟨zz, rfl, hA⟩ := hw
        exact W.iret (v := zI zz) gx gb gr (fun t ht hW => ⟨⟨zI zz, (tn_22, q, rws_22, lks_22, mks_34, tq_34, qu_34), rfl, (by first | (dsimp only; done) | ((try dsimp only); refine ⟨?_, tOK_y (by omega) hsR⟩; exact ⟨zz, rfl, by rw [hs, hm]; exact wekR_y (by omega) (by omega) hsl h7 hA⟩)), by rw [ht]; exact hP, va_K.moved hW.alike hK, hD⟩, hS.F ht⟩) hS.2.2 dX8_week_37
      · skip
        rw [b0_eq] at c15
        simp only [decide_eq_false_iff_not, Decidable.not_not] at c15
        refine lv_bipush (v := zI (-2)) gx gb dX8_week_18 (by decide) ?_
        exact W.iret (v := zI (-2)) gx gb gr (fun t ht hW => ⟨⟨zI (-2), (tn, ts, rws, lks, mks, tq, qu), rfl, (by first | (dsimp only; done) | ((try dsimp only); refine ⟨?_, hT⟩; exact ⟨-2, rfl, wekR_n (fun h9 => by first | (have h8 := h9.1; omega) | (rw [show b.toNat = m by omega] at h9; exact c15 h9.2))⟩)), by rw [ht]; exact hP, va_K.moved hW.alike hK, hD⟩, hS.F ht⟩) hS.2.2 dX8_week_20

set_option maxHeartbeats 4000000 in
set_option maxRecDepth 100000 in
theorem kX8_week_n (Gl : Launch) (D : va_G) (cI cJ cZ : ClassId) (h : Nat) (fl : Nat) (e1 : Nat) (e2 : Nat) (pd : Nat) (sg : Nat) (k1 : Nat) (k2 : Nat) (rv : Value) (n : Nat) (q : Nat) (S : Nat) (c : Nat) (na : Nat) (Na : Nat) (Ra : Nat) (qa : Nat) (Sa : Nat) (ca : Nat) (nb : Nat) (Nb : Nat) (Rb : Nat) (qb : Nat) (Sb : Nat) (cb : Nat) (cnt : Nat) (rb : Nat) (sb : Nat) (g : Nat → Nat) (num plc : Nat → Nat) (a b : Int) (hl_a : -2147483648 ≤ a) (hu_a : a < 2147483648) (hl_b : -2147483648 ≤ b) (hu_b : b < 2147483648) (hn1 : 1 ≤ n) (hn7 : n ≤ 7) (hq1 : 1 ≤ q) (hqn : q ≤ n) (hp : ∀ k, k < q → plc k < n) (hnum : ∀ k, k < n → num k ≤ 99) (hinj : ∀ i j, i < q → j < q → plc i = plc j → i = j) (hno : ¬ ((1 ≤ b ∧ b ≤ 4) ∧ (0 ≤ a ∧ a < ((10 ^ b.toNat : Nat) : Int)) ∧ (∀ k, k < b.toNat → dg 10 a.toNat k ≤ 6))) : Met Gl yX8_week wsX8_week ({ frames := 6, cells := 0, slots := 0, locals := 178 } : Room) (va_Pc [.ref h, .int (zI a), .int (zI b)] (fun U => va_P D vwCl (wX h fl e1 e2 pd sg cI k1 k2 rv n (pk 256 num n) (pk 8 plc q) q S c na Na Ra qa Sa ca nb Nb Rb qb Sb cb cnt rb sb g) U.heap ∧ va_K D vwCl [(cI, .int), (cJ, .long), (cZ, .boolean)] U)) (vp_Si (fun r : Int32 => ∃ zz : Int, r = zI zz ∧ wekR num plc q a b zz)) 0 0 (fun _ => False) := by
  refine Met.ofW (cc := cX8_week) (maxL := 3) (ret := (some .int)) (by decide +kernel) rfl ?_
  intro Gp Ge Gs Gm Ga Gw Gt Gc G1 Bd gml gv
  obtain ⟨rfl, hP, hK⟩ := gv
  have gx := Bd.exec
  have gb := Bd.bytes
  have gr := Bd.returns
  have gts := atoms_spec (ws := wsX8_week) Bd.pre
  have gown : Gs.vm.findClass RX8 = some Gm.cls := findClass_of_methodNamed Bd.named
  have glk := Bd.notSynchronized
  have hl := lv_entry ([.ref h, .int (zI a), .int (zI b)]) (n := 3) (Nat.le_of_ble_eq_true rfl)
  rw [lg_entry_eq]
  generalize (lg_sl ([.ref h, .int (zI a), .int (zI b)]) ++ List.replicate (3 - (lg_sl ([.ref h, .int (zI a), .int (zI b)])).length) Slot.unset).toArray = ls at hl ⊢
  have hl : lv_has ls 3 [(0, .ref h), (1, .int (zI a)), (2, .int (zI b))] := hl
  have i8 : ∀ w ∈ wsX80, w ∈ wsX8_week := by decide +kernel
  refine lv_iload_n gx gb dX8_week_0 rfl (lv_at hl 2 rfl) ?_
  refine lv_iconst (v := nI 1) gx gb dX8_week_1 (by decide) ?_
  refine lv_icmp_lt (tgt := 18) gx gb dX8_week_2 (by decide) (fun c2 => ?_) (fun c2 => ?_)
  · skip
    rw [zn_lt (by omega) (by omega) (by omega)] at c2
    refine lv_bipush (v := zI (-2)) gx gb dX8_week_18 (by decide) ?_
    exact W.iret (v := zI (-2)) gx gb gr (fun t ht hW => ⟨zI (-2), rfl, (by first | (dsimp only; done) | ((try dsimp only); exact ⟨-2, rfl, wekR_n (fun h9 => by first | (have h8 := h9.1; omega) | (rw [show b.toNat = m by omega] at h9; exact c15 h9.2))⟩)), ht⟩) (fun q h => by cases h) dX8_week_20
  · skip
    rw [zn_lt (by omega) (by omega) (by omega)] at c2
    refine lv_iload_n gx gb dX8_week_5 rfl (lv_at hl 2 rfl) ?_
    refine lv_iconst (v := nI 4) gx gb dX8_week_6 (by decide) ?_
    refine lv_icmp_gt (tgt := 18) gx gb dX8_week_7 (by decide) (fun c7 => ?_) (fun c7 => ?_)
    · skip
      rw [nz_lt (by omega) (by omega) (by omega)] at c7
      refine lv_bipush (v := zI (-2)) gx gb dX8_week_18 (by decide) ?_
      exact W.iret (v := zI (-2)) gx gb gr (fun t ht hW => ⟨zI (-2), rfl, (by first | (dsimp only; done) | ((try dsimp only); exact ⟨-2, rfl, wekR_n (fun h9 => by first | (have h8 := h9.1; omega) | (rw [show b.toNat = m by omega] at h9; exact c15 h9.2))⟩)), ht⟩) (fun q h => by cases h) dX8_week_20
    · skip
      rw [nz_lt (by omega) (by omega) (by omega)] at c7
      obtain ⟨m, hm⟩ : ∃ m : Nat, b = (m : Int) := ⟨b.toNat, by omega⟩
      rw [show zI b = nI m from by rw [hm, zI_nat]] at hl
      have hl : lv_has ls 3 [(0, .ref h), (1, .int (zI a)), (2, .int (nI m))] := hl
      refine lv_iload_n gx gb dX8_week_10 rfl (lv_at hl 1 rfl) ?_
      refine lv_iload_n gx gb dX8_week_11 rfl (lv_at hl 2 rfl) ?_
      refine vp_callSi (W.runS (As := [.int (zI a), .int (nI m)]) (rest := []) ⟨gx, gb, gml, gown, gts⟩ (kX8_areLessons Gl a m (by omega) (by omega) (by omega) (by omega)) (va_cwS 2 gts gX8_week_X8_areLessons rfl rfl rfl (by decide +kernel) ⟨Nat.le_of_ble_eq_true rfl, Nat.le_of_ble_eq_true rfl⟩) ⟨fun _ _ _ _ h => h, fun U hU hW => ⟨rfl, trivial⟩⟩ rfl rfl hl.1 rfl (lv_room (Nat.le_of_ble_eq_true rfl)) dX8_week_12 ⟨Nat.le_of_ble_eq_true rfl, Nat.le_of_ble_eq_true rfl⟩) (fun r hw => ?_)
      have hr12 := hw
      subst hr12
      refine lv_if_ne (tgt := 21) gx gb dX8_week_15 (by decide) (fun c15 => ?_) (fun c15 => ?_)
      · skip
        rw [b0_eq] at c15
        simp only [decide_eq_false_iff_not, Decidable.not_not] at c15
        exfalso; exact hno (by rw [show b.toNat = m by omega]; exact ⟨by omega, c15⟩)
      · skip
        rw [b0_eq] at c15
        simp only [decide_eq_false_iff_not, Decidable.not_not] at c15
        refine lv_bipush (v := zI (-2)) gx gb dX8_week_18 (by decide) ?_
        exact W.iret (v := zI (-2)) gx gb gr (fun t ht hW => ⟨zI (-2), rfl, (by first | (dsimp only; done) | ((try dsimp only); exact ⟨-2, rfl, wekR_n (fun h9 => by first | (have h8 := h9.1; omega) | (rw [show b.toNat = m by omega] at h9; exact c15 h9.2))⟩)), ht⟩) (fun q h => by cases h) dX8_week_20

set_option maxHeartbeats 4000000 in
set_option maxRecDepth 100000 in
theorem kX8_week_0 (Gl : Launch) (D : va_G) (cI cJ cZ : ClassId) (h : Nat) (fl : Nat) (e1 : Nat) (e2 : Nat) (pd : Nat) (sg : Nat) (k1 : Nat) (k2 : Nat) (n : Nat) (q : Nat) (S : Nat) (c : Nat) (na : Nat) (Na : Nat) (Ra : Nat) (qa : Nat) (Sa : Nat) (ca : Nat) (nb : Nat) (Nb : Nat) (Rb : Nat) (qb : Nat) (Sb : Nat) (cb : Nat) (cnt : Nat) (rb : Nat) (sb : Nat) (g : Nat → Nat) (sz : Nat) (num plc : Nat → Nat) (a b : Int) (hl_a : -2147483648 ≤ a) (hu_a : a < 2147483648) (hl_b : -2147483648 ≤ b) (hu_b : b < 2147483648) (hn1 : 1 ≤ n) (hn7 : n ≤ 7) (hq1 : 1 ≤ q) (hqn : q ≤ n) (hp : ∀ k, k < q → plc k < n) (hnum : ∀ k, k < n → num k ≤ 99) (hinj : ∀ i j, i < q → j < q → plc i = plc j → i = j) (hyes : (1 ≤ b ∧ b ≤ 4) ∧ (0 ≤ a ∧ a < ((10 ^ b.toNat : Nat) : Int)) ∧ (∀ k, k < b.toNat → dg 10 a.toNat k ≤ 6)) : Met Gl yX8_week wsX8_week ({ frames := 6, cells := 5, slots := 46631, locals := 178 } : Room) (va_Pc [.ref h, .int (zI a), .int (zI b)] (fun U => U.heap.size = sz ∧ va_P D vwCl (wX h fl e1 e2 pd sg cI k1 k2 .null n (pk 256 num n) (pk 8 plc q) q S c na Na Ra qa Sa ca nb Nb Rb qb Sb cb cnt rb sb g) U.heap ∧ va_K D vwCl [(cI, .int), (cJ, .long), (cZ, .boolean)] U ∧ va_D (fun _ => True) (wX h fl e1 e2 pd sg cI k1 k2 .null n (pk 256 num n) (pk 8 plc q) q S c na Na Ra qa Sa ca nb Nb Rb qb Sb cb cnt rb sb g) ∧ va_Nw (.methodLinkNest RX8 215 yX5_init "SwanSums") U)) (va_Qi (fun (r : Int32) (u : (Nat) × (Nat) × (Nat) × (Nat) × (Nat) × (Nat) × (Nat) × (Nat → Nat) × (Nat → Nat) × (Nat → Nat) × (Nat) × (Nat → Nat)) => (∃ zz : Int, r = zI zz ∧ wekR num plc q a b zz) ∧ tOK u.2.2.2.2.2.2.1 u.2.2.2.2.2.1 u.2.2.2.2.2.2.2.1 u.2.2.2.2.2.2.2.2.1) (fun (u : (Nat) × (Nat) × (Nat) × (Nat) × (Nat) × (Nat) × (Nat) × (Nat → Nat) × (Nat → Nat) × (Nat → Nat) × (Nat) × (Nat → Nat)) t => va_P D vwCl (wY h fl e1 e2 pd sg cI k1 k2 (.ref u.1) n (pk 256 num n) (pk 8 plc q) q S c na Na Ra qa Sa ca nb Nb Rb qb Sb cb cnt rb sb g u.1 u.2.1 u.2.2.1 u.2.2.2.1 u.2.2.2.2.1 cJ u.2.2.2.2.2.1 u.2.2.2.2.2.2.1 u.2.2.2.2.2.2.2.2.2.2.1 u.2.2.2.2.2.2.2.1 u.2.2.2.2.2.2.2.2.1 u.2.2.2.2.2.2.2.2.2.1 u.2.2.2.2.2.2.2.2.2.2.2) t.heap ∧ va_K D vwCl [(cI, .int), (cJ, .long), (cZ, .boolean)] t ∧ va_D (va_A (wX h fl e1 e2 pd sg cI k1 k2 .null n (pk 256 num n) (pk 8 plc q) q S c na Na Ra qa Sa ca nb Nb Rb qb Sb cb cnt rb sb g) sz) (wY h fl e1 e2 pd sg cI k1 k2 (.ref u.1) n (pk 256 num n) (pk 8 plc q) q S c na Na Ra qa Sa ca nb Nb Rb qb Sb cb cnt rb sb g u.1 u.2.1 u.2.2.1 u.2.2.2.1 u.2.2.2.2.1 cJ u.2.2.2.2.2.1 u.2.2.2.2.2.2.1 u.2.2.2.2.2.2.2.2.2.2.1 u.2.2.2.2.2.2.2.1 u.2.2.2.2.2.2.2.2.1 u.2.2.2.2.2.2.2.2.2.1 u.2.2.2.2.2.2.2.2.2.2.2)) (va_A (wX h fl e1 e2 pd sg cI k1 k2 .null n (pk 256 num n) (pk 8 plc q) q S c na Na Ra qa Sa ca nb Nb Rb qb Sb cb cnt rb sb g) sz)) 5 46631 (va_A (wX h fl e1 e2 pd sg cI k1 k2 .null n (pk 256 num n) (pk 8 plc q) q S c na Na Ra qa Sa ca nb Nb Rb qb Sb cb cnt rb sb g) sz) := by
  refine Met.ofW (cc := cX8_week) (maxL := 3) (ret := (some .int)) (by decide +kernel) rfl ?_
  intro Gp Ge Gs Gm Ga Gw Gt Gc G1 Bd gml gv
  obtain ⟨rfl, hsz, hP, hK, hD0, hNw215⟩ := gv
  have gx := Bd.exec
  have gb := Bd.bytes
  have gr := Bd.returns
  have gts := atoms_spec (ws := wsX8_week) Bd.pre
  have gown : Gs.vm.findClass RX8 = some Gm.cls := findClass_of_methodNamed Bd.named
  have glk := Bd.notSynchronized
  subst hsz
  have hD := hD0.self (sz := Gs.heap.size)
  generalize hAe : va_A (wX h fl e1 e2 pd sg cI k1 k2 .null n (pk 256 num n) (pk 8 plc q) q S c na Na Ra qa Sa ca nb Nb Rb qb Sb cb cnt rb sb g) Gs.heap.size = A at hD ⊢
  have hA : ∀ q : Nat, Gs.heap.size ≤ q → A q := fun q h => by rw [← hAe]; exact Or.inr h
  have hS : va_S A Gs.heap Gs.heap [] := va_S.rf
  have hP : va_P D vwCl (wX h fl e1 e2 pd sg cI k1 k2 .null n (pk 256 num n) (pk 8 plc q) q S c na Na Ra qa Sa ca nb Nb Rb qb Sb cb cnt rb sb g) Gs.heap := hP
  have hl := lv_entry ([.ref h, .int (zI a), .int (zI b)]) (n := 3) (Nat.le_of_ble_eq_true rfl)
  rw [lg_entry_eq]
  generalize (lg_sl ([.ref h, .int (zI a), .int (zI b)]) ++ List.replicate (3 - (lg_sl ([.ref h, .int (zI a), .int (zI b)])).length) Slot.unset).toArray = ls at hl ⊢
  have hl : lv_has ls 3 [(0, .ref h), (1, .int (zI a)), (2, .int (zI b))] := hl
  have i8 : ∀ w ∈ wsX80, w ∈ wsX8_week := by decide +kernel
  have hp8 : ∀ k, k < q → plc k < 8 := fun k hk => by have := hp k hk; omega
  have hR8 := pk8_lt hp8 (by omega)
  have hn256 : ∀ k, k < n → num k < 256 := fun k hk => by have := hnum k hk; omega
  have hN63 := pk256_lt hn256 (by omega)
  have hld := lin_dg hnum hp
  have hl63 := pk256_lt (f := (fun x => num (plc x))) (z := q) (fun i hi => by have := hnum _ (hp i hi); show num (plc i) < 256; omega) (by omega)
  have hnv : ∀ x, x < q → num (plc x) ≤ 99 := fun x hx => hnum _ (hp x hx)
  refine lv_iload_n gx gb dX8_week_0 rfl (lv_at hl 2 rfl) ?_
  refine lv_iconst (v := nI 1) gx gb dX8_week_1 (by decide) ?_
  refine lv_icmp_lt (tgt := 18) gx gb dX8_week_2 (by decide) (fun c2 => ?_) (fun c2 => ?_)
  · skip
    rw [zn_lt (by omega) (by omega) (by omega)] at c2
    exfalso; have h8 := hyes.1; omega
  · skip
    rw [zn_lt (by omega) (by omega) (by omega)] at c2
    refine lv_iload_n gx gb dX8_week_5 rfl (lv_at hl 2 rfl) ?_
    refine lv_iconst (v := nI 4) gx gb dX8_week_6 (by decide) ?_
    refine lv_icmp_gt (tgt := 18) gx gb dX8_week_7 (by decide) (fun c7 => ?_) (fun c7 => ?_)
    · skip
      rw [nz_lt (by omega) (by omega) (by omega)] at c7
      exfalso; have h8 := hyes.1; omega
    · skip
      rw [nz_lt (by omega) (by omega) (by omega)] at c7
      obtain ⟨m, hm⟩ : ∃ m : Nat, b = (m : Int) := ⟨b.toNat, by omega⟩
      rw [show zI b = nI m from by rw [hm, zI_nat]] at hl
      have hl : lv_has ls 3 [(0, .ref h), (1, .int (zI a)), (2, .int (nI m))] := hl
      refine lv_iload_n gx gb dX8_week_10 rfl (lv_at hl 1 rfl) ?_
      refine lv_iload_n gx gb dX8_week_11 rfl (lv_at hl 2 rfl) ?_
      refine vp_callSi (W.runS (As := [.int (zI a), .int (nI m)]) (rest := []) ⟨gx, gb, gml, gown, gts⟩ (kX8_areLessons Gl a m (by omega) (by omega) (by omega) (by omega)) (va_cwS 2 gts gX8_week_X8_areLessons rfl rfl rfl (by decide +kernel) ⟨Nat.le_of_ble_eq_true rfl, Nat.le_of_ble_eq_true rfl⟩) ⟨fun _ _ _ _ h => h, fun U hU hW => ⟨rfl, trivial⟩⟩ rfl rfl hl.1 rfl (lv_room (Nat.le_of_ble_eq_true rfl)) dX8_week_12 ⟨Nat.le_of_ble_eq_true rfl, Nat.le_of_ble_eq_true rfl⟩) (fun r hw => ?_)
      have hr12 := hw
      subst hr12
      refine lv_if_ne (tgt := 21) gx gb dX8_week_15 (by decide) (fun c15 => ?_) (fun c15 => ?_)
      · skip
        rw [b0_eq] at c15
        simp only [decide_eq_false_iff_not, Decidable.not_not] at c15
        have hbt : b.toNat = m := by omega
        have h7 : ∀ k, k < m → dg 10 a.toNat k ≤ 6 := c15.2
        obtain ⟨s, hs⟩ : ∃ s : Nat, a = (s : Int) := ⟨a.toNat, by omega⟩
        rw [show zI a = nI s from by rw [hs, zI_nat]] at hl
        have hsl : s < 10 ^ m := by omega
        rw [show a.toNat = s by omega] at h7
        have hp4 := pw_4 (m := m) (by omega)
        have hl : lv_has ls 3 [(0, .ref h), (1, .int (nI s)), (2, .int (nI m))] := hl
        refine lv_aload_n gx gb dX8_week_21 rfl (lv_at hl 0 rfl) ?_
        have hPc := hP.sub (ws' := wX h fl e1 e2 pd sg cI k1 k2 .null n (pk 256 num n) (pk 8 plc q) q S c na Na Ra qa Sa ca nb Nb Rb qb Sb cb cnt rb sb g) [0, 1, 2, 3, 4, 5] rfl
        have hDc := hD.sub (ws' := wX h fl e1 e2 pd sg cI k1 k2 .null n (pk 256 num n) (pk 8 plc q) q S c na Na Ra qa Sa ca nb Nb Rb qb Sb cb cnt rb sb g) [0, 1, 2, 3, 4, 5] (by decide) rfl
        have hFc := va_free (wc := wX h fl e1 e2 pd sg cI k1 k2 .null n (pk 256 num n) (pk 8 plc q) q S c na Na Ra qa Sa ca nb Nb Rb qb Sb cb cnt rb sb g) hD hS hA [0, 1, 2, 3, 4, 5] rfl
        refine va_callr (va_runV (As := []) (rest := []) ⟨gx, gb, gml, gown, gts⟩ (kX8_routesOfNow_0 Gl D cI cJ cZ h fl e1 e2 pd sg k1 k2 n (pk 256 num n) (pk 8 plc q) q S c na Na Ra qa Sa ca nb Nb Rb qb Sb cb cnt rb sb g _  (by omega) (by omega)) (cwV 0 gts gX8_week_X8_routesOfNow rfl rfl rfl (by decide +kernel) ⟨Nat.le_of_ble_eq_true rfl, Nat.le_of_ble_eq_true rfl⟩) ⟨fun a U g mk q => by obtain ⟨q0, q1, qP, qK, qD, qN215⟩ := q; exact ⟨q0, q1, qP, va_K.moved (u := U) (U := U.calling g mk a) (Vm.Alike.refl U.vm) qK, qD, va_Nw.same rfl rfl qN215⟩, va_recv hK hPc (ci := 3) (q0 := 0) rfl rfl, fun U hU hW => ⟨rfl, by rw [hU], by rw [hU]; exact hPc, va_K.moved hW.alike hK, hDc.weaken (fun _ _ _ _ => trivial), va_Nw.warmM hW hNw215⟩⟩ rfl rfl hl.1 rfl (lv_room (Nat.le_of_ble_eq_true rfl)) dX8_week_22 ⟨Nat.le_of_ble_eq_true rfl, Nat.le_of_ble_eq_true rfl⟩) hS (fun q _ h => hFc q h) hFc (fun u ra t H1 locs ht hvm hw hB hz1 hk1 hS => ?_)
        obtain ⟨rt_22, r0_22, r1_22, r4_22, r5_22, tn_22, rws_22, lks_22, mks_22⟩ := u
        obtain ⟨hra, hP1, hK1, hD1⟩ := hB
        try dsimp only at hra
        rw [hra]
        rw [ht] at hP1
        try dsimp only at hw
        try dsimp only at hP1
        try dsimp only at hD1
        have hK := va_K.moved hvm.symm hK1
        obtain ⟨hP, hD⟩ := va_join (wr := []) (w1 := wY h fl e1 e2 pd sg cI k1 k2 (.ref rt_22) n (pk 256 num n) (pk 8 plc q) q S c na Na Ra qa Sa ca nb Nb Rb qb Sb cb cnt rb sb g rt_22 r0_22 r1_22 r4_22 r5_22 cJ tn_22 q 0 rws_22 lks_22 mks_22 (fun _ => 0)) hP hD [0, 1, 2, 3, 4, 5] [] rfl rfl (by decide) (by decide) hk1 hFc hP1 hD1
        have hP := hP.sub (ws' := wY h fl e1 e2 pd sg cI k1 k2 (.ref rt_22) n (pk 256 num n) (pk 8 plc q) q S c na Na Ra qa Sa ca nb Nb Rb qb Sb cb cnt rb sb g rt_22 r0_22 r1_22 r4_22 r5_22 cJ tn_22 q 0 rws_22 lks_22 mks_22 (fun _ => 0)) [0, 1, 2, 3, 4, 5, 6, 7, 8, 9, 10] rfl
        have hD := hD.sub (ws' := wY h fl e1 e2 pd sg cI k1 k2 (.ref rt_22) n (pk 256 num n) (pk 8 plc q) q S c na Na Ra qa Sa ca nb Nb Rb qb Sb cb cnt rb sb g rt_22 r0_22 r1_22 r4_22 r5_22 cJ tn_22 q 0 rws_22 lks_22 mks_22 (fun _ => 0)) [0, 1, 2, 3, 4, 5, 6, 7, 8, 9, 10] (by decide) rfl
        have hK := va_K.moved (Vm.Alike.refl Gs.vm) hK
        generalize H1 = H at hP hS ⊢
        refine W.widen (k := 5) (n := 46631) (Nat.le_of_ble_eq_true rfl) (Nat.le_of_ble_eq_true rfl) ?_
        have hsR := hw
        refine lv_iload_n gx gb dX8_week_25 rfl (lv_at hl 1 rfl) ?_
        refine lv_iload_n gx gb dX8_week_26 rfl (lv_at hl 2 rfl) ?_
        refine lv_aload_n gx gb dX8_week_27 rfl (lv_at hl 0 rfl) ?_
        refine va_get (D := D) (ci := 3) (v := .ref fl) (C := RX8) (T := TX8) (N := 7) gx gb gts i8 gown hK hP 0 rfl rfl 0 (by decide) (gts (.fieldLink RX8 12 "SwanSums" "flock" "LSwanSums$Flock;") (by decide +kernel)) (fun _ h9 => h9) rfl dX8_week_28 ?_
        have hPc := hP.sub (ws' := wF fl n (pk 256 num n) (pk 8 plc q) q S c) [1] rfl
        refine vp_callSl (W.runV (As := []) (rest := [.int (nI m), .int (nI s), .ref rt_22]) ⟨gx, gb, gml, gown, gts⟩ (kX1_line Gl D cI cJ cZ fl n (pk 256 num n) (pk 8 plc q) q S c  (by omega) (by omega) (by omega)) (cwV 0 gts gX8_week_X1_line rfl rfl rfl (by decide +kernel) ⟨Nat.le_of_ble_eq_true rfl, Nat.le_of_ble_eq_true rfl⟩) ⟨fun a U g mk q => ⟨q.1, q.2.1, va_K.moved (u := U) (U := U.calling g mk a) (Vm.Alike.refl U.vm) q.2.2⟩, va_recv hK hPc (ci := 0) (q0 := 0) rfl rfl, fun U hU hW => ⟨rfl, by rw [hU]; exact hPc, va_K.moved hW.alike hK⟩⟩ rfl rfl hl.1 rfl (lv_room (Nat.le_of_ble_eq_true rfl)) dX8_week_31 ⟨Nat.le_of_ble_eq_true rfl, Nat.le_of_ble_eq_true rfl⟩) (fun r hw => ?_)
        have hr31 := hw
        subst hr31
        refine lv_evl (lN (pk 256 (fun x => num (plc x)) q)) (congrArg lN (lin_eq hn7 hnum hp)) ?_
        have hPc := hP.sub (ws' := wT rt_22 r0_22 r1_22 r4_22 r5_22 cI cJ tn_22 q 0 rws_22 lks_22 mks_22 (fun _ => 0)) [6, 7, 8, 9, 10] rfl
        have hDc := hD.sub (ws' := wT rt_22 r0_22 r1_22 r4_22 r5_22 cI cJ tn_22 q 0 rws_22 lks_22 mks_22 (fun _ => 0)) [6, 7, 8, 9, 10] (by decide) rfl
        have hFc := va_free (wc := wT rt_22 r0_22 r1_22 r4_22 r5_22 cI cJ tn_22 q 0 rws_22 lks_22 mks_22 (fun _ => 0)) hD hS hA [6, 7, 8, 9, 10] rfl
        refine va_calli (va_runV (As := [.int (nI s), .int (nI m), .long (lN (pk 256 (fun x_ => num (plc x_)) q))]) (rest := []) ⟨gx, gb, gml, gown, gts⟩ (kX5_fewestInTurn Gl D cI cJ cZ rt_22 r0_22 r1_22 r4_22 r5_22 tn_22 0 rws_22 lks_22 mks_22 (fun _ => 0) _ num plc q s m (by omega) (by omega) (by exact hsR) (by omega) (by omega) (by exact h7) (by exact hnv)) (cwV 3 gts gX8_week_X5_fewestInTurn rfl rfl rfl (by decide +kernel) ⟨Nat.le_of_ble_eq_true rfl, Nat.le_of_ble_eq_true rfl⟩) ⟨fun a U g mk q => by obtain ⟨q0, q1, qP, qK, qD⟩ := q; exact ⟨q0, q1, qP, va_K.moved (u := U) (U := U.calling g mk a) (Vm.Alike.refl U.vm) qK, qD⟩, va_recv hK hPc (ci := 2) (q0 := 0) rfl rfl, fun U hU hW => ⟨rfl, by rw [hU], by rw [hU]; exact hPc, va_K.moved hW.alike hK, hDc.weaken (fun _ _ _ _ => trivial)⟩⟩ rfl rfl hl.1 rfl (lv_room (Nat.le_of_ble_eq_true rfl)) dX8_week_34 ⟨Nat.le_of_ble_eq_true rfl, Nat.le_of_ble_eq_true rfl⟩) hS (fun q _ h => hFc q h) hFc (fun r u t H1 locs ht hvm hw hB hz1 hk1 hS => ?_)
        obtain ⟨tq_34, qu_34, mks_34⟩ := u
        obtain ⟨hP1, hK1, hD1⟩ := hB
        rw [ht] at hP1
        try dsimp only at hw
        try dsimp only at hP1
        try dsimp only at hD1
        have hK := va_K.moved hvm.symm hK1
        obtain ⟨hP, hD⟩ := va_join (wr := [(h, .inr (3, [.ref fl, .ref e1, .ref e2, .int (nI k1), .int (nI k2), .ref pd, .ref rt_22])), (fl, .inr (0, [.int (nI n), .long (lN (pk 256 num n)), .int (nI (pk 8 plc q)), .int (nI q), .long (lN S), .int (nI c)])), (e1, .inr (0, [.int (nI na), .long (lN Na), .int (nI Ra), .int (nI qa), .long (lN Sa), .int (nI ca)])), (e2, .inr (0, [.int (nI nb), .long (lN Nb), .int (nI Rb), .int (nI qb), .long (lN Sb), .int (nI cb)])), (pd, .inr (1, [.ref sg, .int (nI cnt), .int (nI rb), .int (nI sb)])), (sg, .inl (cI, 60, .inl (aN g)))]) (w1 := wT rt_22 r0_22 r1_22 r4_22 r5_22 cI cJ tn_22 q tq_34 rws_22 lks_22 mks_34 qu_34) hP hD [6, 7, 8, 9, 10] [0, 1, 2, 3, 4, 5] rfl rfl (by decide) (by decide) hk1 hFc hP1 hD1
        have hP := hP.sub (ws' := wY h fl e1 e2 pd sg cI k1 k2 (.ref rt_22) n (pk 256 num n) (pk 8 plc q) q S c na Na Ra qa Sa ca nb Nb Rb qb Sb cb cnt rb sb g rt_22 r0_22 r1_22 r4_22 r5_22 cJ tn_22 q tq_34 rws_22 lks_22 mks_34 qu_34) [0, 1, 2, 3, 4, 5, 6, 7, 8, 9, 10] rfl
        have hD := hD.sub (ws' := wY h fl e1 e2 pd sg cI k1 k2 (.ref rt_22) n (pk 256 num n) (pk 8 plc q) q S c na Na Ra qa Sa ca nb Nb Rb qb Sb cb cnt rb sb g rt_22 r0_22 r1_22 r4_22 r5_22 cJ tn_22 q tq_34 rws_22 lks_22 mks_34 qu_34) [0, 1, 2, 3, 4, 5, 6, 7, 8, 9, 10] (by decide) rfl
        have hK := va_K.moved (Vm.Alike.refl Gs.vm) hK
        generalize H1 = H at hP hS ⊢
        obtain ⟨r34, rfl⟩ : ∃ z, z = r := ⟨_, rfl⟩
        obtain ⟨zz, rfl, hA⟩ := hw
        exact W.iret (v := zI zz) gx gb gr (fun t ht hW => ⟨⟨zI zz, (rt_22, r0_22, r1_22, r4_22, r5_22, tn_22, q, rws_22, lks_22, mks_34, tq_34, qu_34), rfl, (by first | (dsimp only; done) | ((try dsimp only); refine ⟨?_, tOK_y (by omega) hsR⟩; exact ⟨zz, rfl, by rw [hs, hm]; exact wekR_y (by omega) (by omega) hsl h7 hA⟩)), by rw [ht]; exact hP, va_K.moved hW.alike hK, hD⟩, hS.F ht⟩) hS.2.2 dX8_week_37
      · skip
        rw [b0_eq] at c15
        simp only [decide_eq_false_iff_not, Decidable.not_not] at c15
        exfalso; rw [show b.toNat = m by omega] at hyes; exact c15 hyes.2

