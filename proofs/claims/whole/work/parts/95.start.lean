/-! ===== the law from its entry (printed by start.py), and the claim ===== -/
theorem arr_kn {s : State} {args : Array Value} {ty : FieldType} (h : (Cond.arrayClass ty).before args s = true) (hty : ∀ C, ty ≠ .object C) : ∃ cA : ClassId, ArrOfT s cA ty ∧ va_RA s cA ty := by
  obtain ⟨cA, kA, comp, h1, h2, h3⟩ := Cond.arrayClass_spec h
  refine ⟨cA, fun N z => ⟨(fun k h => by cases h), kA, h2, comp, h3⟩, ?_⟩
  cases ty with
  | object C => exact absurd rfl (hty C)
  | _ => exact h1
theorem arr_knO {s : State} {C : String} (h : va_AO C s) : ∃ cA : ClassId, ArrOfT s cA (.object C) ∧ va_RA s cA (.object C) := by
  obtain ⟨comp, cA, kA, h1, h2, h3, h4, h5⟩ := Cond.arrayOver_spec h
  exact ⟨cA, fun N z => ⟨(fun k h => by cases h), kA, h3, comp, h4⟩, kA, comp, h3, h4, h1, h5⟩
theorem nw_all {s : State} {args : Array Value} (hts : ∀ w ∈ lw_tbl, w.before args s = true) : NW s := by
  refine ⟨?_, va_Nw.of rfl (hts _ (mt_2 _ (List.mem_of_getElem? (i := 50) rfl)))⟩
  show ∀ q ∈ nwF, _
  unfold nwF
  exact List.forall_mem_cons.mpr ⟨va_Nw.of rfl (hts _ (mt_1 _ (List.mem_of_getElem? (i := 93) rfl))), List.forall_mem_cons.mpr ⟨va_Nw.of rfl (hts _ (mt_1 _ (List.mem_of_getElem? (i := 88) rfl))), List.forall_mem_cons.mpr ⟨va_Nw.of rfl (hts _ (mt_1 _ (List.mem_of_getElem? (i := 168) rfl))), List.forall_mem_cons.mpr ⟨va_Nw.of rfl (hts _ (mt_1 _ (List.mem_of_getElem? (i := 173) rfl))), List.forall_mem_cons.mpr ⟨va_Nw.of rfl (hts _ (mt_1 _ (List.mem_of_getElem? (i := 175) rfl))), List.forall_mem_cons.mpr ⟨va_Nw.of rfl (hts _ (mt_1 _ (List.mem_of_getElem? (i := 148) rfl))), List.forall_mem_cons.mpr ⟨va_Nw.of rfl (hts _ (mt_1 _ (List.mem_of_getElem? (i := 199) rfl))), List.forall_mem_cons.mpr ⟨va_Nw.of rfl (hts _ (mt_1 _ (List.mem_of_getElem? (i := 102) rfl))), List.forall_mem_cons.mpr ⟨va_Nw.of rfl (hts _ (mt_1 _ (List.mem_of_getElem? (i := 58) rfl))), List.forall_mem_cons.mpr ⟨va_Nw.of rfl (hts _ (mt_1 _ (List.mem_of_getElem? (i := 60) rfl))), List.forall_mem_cons.mpr ⟨va_Nw.of rfl (hts _ (mt_1 _ (List.mem_of_getElem? (i := 30) rfl))), List.forall_mem_cons.mpr ⟨va_Nw.of rfl (hts _ (mt_1 _ (List.mem_of_getElem? (i := 130) rfl))), List.forall_mem_cons.mpr ⟨va_Nw.of rfl (hts _ (mt_1 _ (List.mem_of_getElem? (i := 85) rfl))), List.forall_mem_cons.mpr ⟨va_Nw.of rfl (hts _ (mt_1 _ (List.mem_of_getElem? (i := 90) rfl))), List.forall_mem_cons.mpr ⟨va_Nw.of rfl (hts _ (mt_1 _ (List.mem_of_getElem? (i := 96) rfl))), List.forall_mem_cons.mpr ⟨va_Nw.of rfl (hts _ (mt_1 _ (List.mem_of_getElem? (i := 86) rfl))), List.forall_mem_cons.mpr ⟨va_Nw.of rfl (hts _ (mt_1 _ (List.mem_of_getElem? (i := 82) rfl))), List.forall_mem_cons.mpr ⟨va_Nw.of rfl (hts _ (mt_1 _ (List.mem_of_getElem? (i := 81) rfl))), List.forall_mem_cons.mpr ⟨va_Nw.of rfl (hts _ (mt_1 _ (List.mem_of_getElem? (i := 94) rfl))), List.forall_mem_cons.mpr ⟨va_Nw.of rfl (hts _ (mt_1 _ (List.mem_of_getElem? (i := 91) rfl))), List.forall_mem_cons.mpr ⟨va_Nw.of rfl (hts _ (mt_1 _ (List.mem_of_getElem? (i := 62) rfl))), List.forall_mem_cons.mpr ⟨va_Nw.of rfl (hts _ (mt_1 _ (List.mem_of_getElem? (i := 64) rfl))), List.forall_mem_cons.mpr ⟨va_Nw.of rfl (hts _ (mt_1 _ (List.mem_of_getElem? (i := 83) rfl))), List.forall_mem_cons.mpr ⟨va_Nw.of rfl (hts _ (mt_1 _ (List.mem_of_getElem? (i := 84) rfl))), List.forall_mem_cons.mpr ⟨va_Nw.of rfl (hts _ (mt_1 _ (List.mem_of_getElem? (i := 101) rfl))), fun _ h => absurd h List.not_mem_nil⟩⟩⟩⟩⟩⟩⟩⟩⟩⟩⟩⟩⟩⟩⟩⟩⟩⟩⟩⟩⟩⟩⟩⟩⟩
def al0 (tD tO b : Nat) : Nat → Nat := fun k => if k = 1000 then tD else if k = 1001 then tO else b
theorem sx_all {s : State} {args : Array Value} {A : Nat → Prop} {b : Nat} (hts : ∀ w ∈ lw_tbl, w.before args s = true) (hg : (Jvm.Cond.and given_1 narrow_1).before args s = true) (hA : ∀ a : Nat, a < s.heap.size → ¬ A a) : ∃ tD tO : Nat, SX (al0 tD tO b) A s s.heap := by
  have hs := flat_of_before _ hg
  have hini : (Cond.initialized "LockWatch").before args s = true := hts _ (mt_1 _ (List.mem_of_getElem? (i := 1) rfl))
  have hlD : (Cond.laysStatic "LockWatch" "DOINGS" "[J").before args s = true := hts _ (mt_3 _ (List.mem_of_getElem? (i := 28) rfl))
  have hlO : (Cond.laysStatic "LockWatch" "ORDERS" "[I").before args s = true := hts _ (mt_3 _ (List.mem_of_getElem? (i := 95) rfl))
  have aD : (Cond.arrayOf (.static "LockWatch" "DOINGS" "[J") .long).before args s = true := hs _ (by decide +kernel)
  have aO : (Cond.arrayOf (.static "LockWatch" "ORDERS" "[I") .int).before args s = true := hs _ (by decide +kernel)
  have nD : (Cond.eq (.length (.static "LockWatch" "DOINGS" "[J")) (.int 5)).before args s = true := hs _ (by decide +kernel)
  have nO : (Cond.eq (.length (.static "LockWatch" "ORDERS" "[I")) (.int 4)).before args s = true := hs _ (by decide +kernel)
  have d0 : (Cond.eq (.elem (.static "LockWatch" "DOINGS" "[J") (.int 0)) (.long 1)).before args s = true := hs _ (by decide +kernel)
  have d1 : (Cond.eq (.elem (.static "LockWatch" "DOINGS" "[J") (.int 1)) (.long 10000)).before args s = true := hs _ (by decide +kernel)
  have d2 : (Cond.eq (.elem (.static "LockWatch" "DOINGS" "[J") (.int 2)) (.long 100000000)).before args s = true := hs _ (by decide +kernel)
  have d3 : (Cond.eq (.elem (.static "LockWatch" "DOINGS" "[J") (.int 3)) (.long 1000000000000)).before args s = true := hs _ (by decide +kernel)
  have d4 : (Cond.eq (.elem (.static "LockWatch" "DOINGS" "[J") (.int 4)) (.long 10000000000000000)).before args s = true := hs _ (by decide +kernel)
  have o0 : (Cond.eq (.elem (.static "LockWatch" "ORDERS" "[I") (.int 0)) (.int 6)).before args s = true := hs _ (by decide +kernel)
  have o1 : (Cond.eq (.elem (.static "LockWatch" "ORDERS" "[I") (.int 1)) (.int 2)).before args s = true := hs _ (by decide +kernel)
  have o2 : (Cond.eq (.elem (.static "LockWatch" "ORDERS" "[I") (.int 2)) (.int 2)).before args s = true := hs _ (by decide +kernel)
  have o3 : (Cond.eq (.elem (.static "LockWatch" "ORDERS" "[I") (.int 3)) (.int 6)).before args s = true := hs _ (by decide +kernel)
  obtain ⟨tD, eD, TD⟩ := va_Tof (N := 5) (f := fun j => .long (fDO j)) (A := A) (by decide) aD (va_eqt nD) (fun j hj => by
    rcases (show j = 0 ∨ j = 1 ∨ j = 2 ∨ j = 3 ∨ j = 4 by omega) with rfl | rfl | rfl | rfl | rfl
    · exact va_eqtl d0
    · exact va_eqtl d1
    · exact va_eqtl d2
    · exact va_eqtl d3
    · exact va_eqtl d4) hA
  obtain ⟨tO, eO, TO⟩ := va_Tof (N := 4) (f := fun j => .int (fOR j)) (A := A) (by decide) aO (va_eqt nO) (fun j hj => by
    rcases (show j = 0 ∨ j = 1 ∨ j = 2 ∨ j = 3 by omega) with rfl | rfl | rfl | rfl
    · exact va_eqt o0
    · exact va_eqt o1
    · exact va_eqt o2
    · exact va_eqt o3) hA
  exact ⟨tD, tO, va_Zref hlD hini eD hA, TD, va_Zref hlO hini eO hA, TO⟩
def lw_P (b : Addr) (xs : List Int32) (args : Array Value) (s : State) : Prop := args = #[.ref b] ∧ s.IntsAt b xs ∧ xs.length ≤ 2048 ∧ (Jvm.Cond.and given_1 narrow_1).before args s = true
/-- what holds at the law's entry: the machine, the code, the tables' words (any of lw_tbl by 'hts w (by decide +kernel)'), the script of L ints xs at the cell b, what the Statement gives of the start (any of its parts by flat_of_before) -/
def lw_At (p : Program) (s : State) (m : MethodId) (meth : Method) (c : Code) (b L : Nat) (xs : Nat → Int32) : Prop :=
  p.tables.exec = Jvm.exec ∧ c.code = code ∧ meth.sig.returnType = ret ∧ c.maxLocals = 4 ∧ s.vm.findClass R_law = some m.cls ∧ (∀ w ∈ lw_tbl, w.before #[Value.ref b] s = true) ∧ va_X b L xs s s.heap ∧ b < s.heap.size ∧ meth.locks = false ∧ (Jvm.Cond.and given_1 narrow_1).before #[Value.ref b] s = true
set_option maxRecDepth 100000 in
set_option maxHeartbeats 8000000 in
theorem whole_start {p : Program} {e : Env} {s : State} {m : MethodId} {below : List Frame} {meth : Method} {c : Code} (l : Launch) (hflags : l.flags = flags0) {b L : Nat} {xs : Nat → Int32} (hL : L ≤ 2048) (C0 : lw_At p s m meth c b L xs) : W p l e room_1 s m #[Value.ref b] below meth c s.heap [] 0 0 (lw_Z below #[Value.ref b] s) (entryFrame m ([Value.ref b] : List Value).toArray 4) := by
  obtain ⟨hx, hb, hr, hml, hown, htb, hX, hbl, hlocks, hgv⟩ := C0
  have hts : ∀ w ∈ wsG, w.before #[Value.ref b] s = true := fun w hw => htb w (List.mem_filter.mp hw).1
  obtain ⟨c0, i0, hk0⟩ := u_known (C := RX0) (T := TX0) (N := 3) (n := 3) hts inG0 (hts _ nq_26)
  obtain ⟨c1, i1, hk1⟩ := u_known (C := RX2) (T := TX2) (N := 3) (n := 3) hts inG2 (hts _ nq_38)
  obtain ⟨c2, i2, hk2⟩ := u_known (C := RX3) (T := TX3) (N := 7) (n := 7) hts inG3 (hts _ nq_34)
  obtain ⟨c3, i3, hk3⟩ := u_known (C := RX4) (T := TX4) (N := 9) (n := 9) hts inG4 (hts _ nq_18)
  obtain ⟨c4, i4, hk4⟩ := u_known (C := RX5) (T := TX5) (N := 4) (n := 4) hts inG5 (hts _ nq_30)
  obtain ⟨c5, i5, hk5⟩ := u_known (C := RX6) (T := TX6) (N := 2) (n := 2) hts inG6 (hts _ nq_14)
  obtain ⟨c6, i6, hk6⟩ := u_known (C := RX7) (T := TX7) (N := 4) (n := 4) hts inG7 (hts _ nq_59)
  obtain ⟨c7, i7, hk7⟩ := u_known (C := RX8) (T := TX8) (N := 10) (n := 10) hts inG8 (hts _ nq_1)
  obtain ⟨c8, i8, hk8⟩ := u_known (C := RX9) (T := TX9) (N := 39) (n := 39) hts inG9 (hts _ nq_4)
  obtain ⟨dC, dI, hKc⟩ : ∃ (dC : Nat → ClassId) (dI : Nat → Nat → Nat), ∀ (k : Nat) (q : vw_C), vwCl[k]? = some q → u_Kn s q.1 q.2.1 q.2.2 (dC k) (dI k) := by
    refine ⟨fun k => if k = 0 then c0 else if k = 1 then c1 else if k = 2 then c2 else if k = 3 then c3 else if k = 4 then c4 else if k = 5 then c5 else if k = 6 then c6 else if k = 7 then c7 else c8, fun k => if k = 0 then i0 else if k = 1 then i1 else if k = 2 then i2 else if k = 3 then i3 else if k = 4 then i4 else if k = 5 then i5 else if k = 6 then i6 else if k = 7 then i7 else i8, ?_⟩
    intro k q hq
    match k, hq with
    | 0, hq => cases hq; exact hk0
    | 1, hq => cases hq; exact hk1
    | 2, hq => cases hq; exact hk2
    | 3, hq => cases hq; exact hk3
    | 4, hq => cases hq; exact hk4
    | 5, hq => cases hq; exact hk5
    | 6, hq => cases hq; exact hk6
    | 7, hq => cases hq; exact hk7
    | 8, hq => cases hq; exact hk8
    | k + 9, hq => simp [vwCl] at hq
  have hAO : va_AO "LockWatch$Row" s := va_AO.of (htb _ (mt_1 _ (List.mem_of_getElem? (i := 122) rfl)))
  obtain ⟨a0, hA0⟩ := arr_kn (hts _ nq_46) (fun C h => by cases h)
  obtain ⟨a1, hA1⟩ := arr_kn (hts _ nq_113) (fun C h => by cases h)
  obtain ⟨a2, hA2⟩ := arr_kn (hts _ nq_23) (fun C h => by cases h)
  obtain ⟨a3, hA3⟩ := arr_knO hAO
  obtain ⟨cA, e0, e1, e2, e3⟩ : ∃ cA : Nat → ClassId, cA 0 = a0 ∧ cA 1 = a1 ∧ cA 2 = a2 ∧ cA 3 = a3 := ⟨fun k => if k = 0 then a0 else if k = 1 then a1 else if k = 2 then a2 else a3, rfl, rfl, rfl, rfl⟩
  have hK : va_K (dC, dI) vwCl (tysW cA) s := by
    refine ⟨hKc, fun k q hq => ?_⟩
    match k, hq with
    | 0, hq => cases hq; rw [e0]; exact hA0
    | 1, hq => cases hq; rw [e1]; exact hA1
    | 2, hq => cases hq; rw [e2]; exact hA2
    | 3, hq => cases hq; rw [e3]; exact hA3
    | k + 4, hq => simp [tysW] at hq
  obtain ⟨tD, tO, hSX⟩ := sx_all (A := LA s) (b := b) htb hgv (fun a ha h => Nat.lt_irrefl _ (Nat.lt_of_lt_of_le ha h))
  have hal : al0 tD tO b 1002 = b := rfl
  generalize al0 tD tO b = al at hSX hal
  have C : LFx p s m c dC dI cA al b := ⟨hx, hb, hml, hown, hts, hK, nw_all htb, hSX, fun q h => h⟩
  have hl := lv_entry ([Value.ref b]) (n := 4) (Nat.le_of_ble_eq_true rfl)
  rw [lg_entry_eq]
  generalize (lg_sl ([Value.ref b]) ++ List.replicate (4 - (lg_sl ([Value.ref b])).length) Slot.unset).toArray = ls at hl ⊢
  have hl : lv_has ls 4 ([(0, Value.ref 1002)].map (cp al)) := by
    show lv_has ls 4 [(0, Value.ref (al 1002))]
    rw [hal]
    exact hl
  have hP : va_P (dC, dI) vwCl (pic cA al [] st0) s.heap := fun k q h => by simp [pI] at h
  have hD : va_D (LA s) (pic cA al [] st0) := ⟨fun i j p q h => by simp [pI] at h, fun k q h => by simp [pI] at h⟩
  have key : WW p l e room_1 s m #[Value.ref b] below meth c (lw_Z below #[Value.ref b] s) dC dI cA (LA s) 4 0 0 al [] 0 [(0, .ref 1002)] [] st0 := by
    refine ww_newO (n := 0) (ci := 7) (fsd := [some (some none), some (some none), some (some none), some (some none), some (some none), some (some none), some (some none), some (some none), some (some none), some none]) (vs := [.null, .null, .null, .null, .null, .null, .null, .null, .null, .long 0]) (sh2 := [.inr (7, [some (some none), some (some none), some (some none), some (some none), some (some none), some (some none), some (some none), some (some none), some (some none), some none])]) C inG8 tyX8 tyX8_ok nq_0 nq_1 nq_2 rfl (fun j hj => by rcases (show j = 0 ∨ j = 1 ∨ j = 2 ∨ j = 3 ∨ j = 4 ∨ j = 5 ∨ j = 6 ∨ j = 7 ∨ j = 8 ∨ j = 9 by omega) with rfl | rfl | rfl | rfl | rfl | rfl | rfl | rfl | rfl | rfl <;> rfl) (fun al2 => by simp [cF, fV, st0]) rfl rfl (rsB (by decide +kernel)) (lvN rfl) (stN rfl) (Nat.le_of_ble_eq_true rfl) (Nat.le_of_ble_eq_true rfl) dL_law_0 (fun q1 => ?_)
    have C := fx_au (n := 0) (q := q1) C (by omega)
    refine ww_dup C rfl dL_law_3 ?_
    refine ww_ci (E := fun U => va_AO "LockWatch$Row" U) C (c_X8_init JJ_0) (fun a U g mk w => va_AO.moved (u := U) (U := U.calling g mk a) (Vm.Alike.refl U.vm) w) (fun U hW => va_AO.moved hW.alike hAO) nq_7 nq_8 nq_2 nq_9 rfl (by decide +kernel) ⟨Nat.le_of_ble_eq_true rfl, Nat.le_of_ble_eq_true rfl, Nat.le_of_ble_eq_true rfl, Nat.le_of_ble_eq_true rfl⟩ (Nat.le_of_ble_eq_true rfl) dL_law_4 (fun u hu => by show [(0, Value.ref (u.1 1002))] = _; rw [hu.1 1002 (by omega)]; rfl) (fun u hu => by show [Value.ref (u.1 0)] = _; rw [hu.1 0 (by omega)]; rfl) (fun u1 hu1 => ?_)
    have C := fx_al (al2 := u1.1) C (hu1.1 1000 (by omega)) (hu1.1 1001 (by omega))
    refine ww_astore_n (lv' := [(1, .ref 0), (0, .ref 1002)]) C dL_law_7 rfl (by decide) rfl ?_
    refine ww_newO (n := 61) (ci := 8) (fsd := [some (some none), some (some none), none, none, some (some none), some (some none), none, some (some none), some (some none), some (some none), none, none, some (some none), none, none, none, none, none, some (some none), none, none, some (some none), some (some none), some (some none), none, some (some none), some (some none), some (some none), some (some none), some (some none), some none, some (some none), none, some (some none), some (some none), some (some none), some none, some (some none), some (some none)]) (vs := [.null, .null, .int 0, .int 0, .null, .null, .int 0, .null, .null, .null, .int 0, .int 0, .null, .int 0, .int 0, .int 0, .int 0, .int 0, .null, .int 0, .int 0, .null, .null, .null, .int 0, .null, .null, .null, .null, .null, .long 0, .null, .int 0, .null, .null, .null, .long 0, .null, .null]) (sh2 := [.inr (7, [some (some (some 1)), some (some (some 3)), some (some (some 13)), some (some (some 23)), some (some (some 44)), some (some (some 45)), some (some (some 48)), some (some (some 52)), some (some (some 58)), some none]), .inr (5, [none, some (some (some 2))]), .inl (0, 64, []), .inr (3, [none, some (some (some 4)), some (some (some 5)), some (some (some 6)), some (some (some 7)), some (some (some 8)), some (some (some 9)), none, some (some (some 10))]), .inl (0, 20, []), .inl (0, 20, []), .inl (0, 20, []), .inl (0, 20, []), .inl (0, 20, []), .inl (0, 4, []), .inr (6, [none, none, some (some (some 11)), some (some (some 12))]), .inl (0, 4, []), .inl (0, 4, []), .inr (3, [none, some (some (some 14)), some (some (some 15)), some (some (some 16)), some (some (some 17)), some (some (some 18)), some (some (some 19)), none, some (some (some 20))]), .inl (0, 20, []), .inl (0, 20, []), .inl (0, 20, []), .inl (0, 20, []), .inl (0, 20, []), .inl (0, 4, []), .inr (6, [none, none, some (some (some 21)), some (some (some 22))]), .inl (0, 4, []), .inl (0, 4, []), .inl (3, 2, [some 24, some 34]), .inr (3, [none, some (some (some 25)), some (some (some 26)), some (some (some 27)), some (some (some 28)), some (some (some 29)), some (some (some 30)), none, some (some (some 31))]), .inl (0, 20, []), .inl (0, 20, []), .inl (0, 20, []), .inl (0, 20, []), .inl (0, 20, []), .inl (0, 4, []), .inr (6, [none, none, some (some (some 32)), some (some (some 33))]), .inl (0, 4, []), .inl (0, 4, []), .inr (3, [none, some (some (some 35)), some (some (some 36)), some (some (some 37)), some (some (some 38)), some (some (some 39)), some (some (some 40)), none, some (some (some 41))]), .inl (0, 20, []), .inl (0, 20, []), .inl (0, 20, []), .inl (0, 20, []), .inl (0, 20, []), .inl (0, 4, []), .inr (6, [none, none, some (some (some 42)), some (some (some 43))]), .inl (0, 4, []), .inl (0, 4, []), .inl (2, 2, []), .inr (0, [none, some (some (some 46)), some (some (some 47))]), .inl (0, 14, []), .inl (0, 14, []), .inr (4, [none, some (some (some 49)), some (some (some 50)), some (some (some 51))]), .inl (0, 6, []), .inl (0, 6, []), .inl (2, 6, []), .inr (2, [none, some (some (some 53)), some (some (some 54)), some (some (some 55)), some (some (some 56)), none, some (some (some 57))]), .inl (0, 80, []), .inl (0, 80, []), .inl (0, 80, []), .inl (0, 20, []), .inl (0, 4, []), .inr (1, [some none, some (some (some 59)), some (some (some 60))]), .inl (1, 64, []), .inl (1, 64, [])] ++ [.inr (8, [some (some none), some (some none), none, none, some (some none), some (some none), none, some (some none), some (some none), some (some none), none, none, some (some none), none, none, none, none, none, some (some none), none, none, some (some none), some (some none), some (some none), none, some (some none), some (some none), some (some none), some (some none), some (some none), some none, some (some none), none, some (some none), some (some none), some (some none), some none, some (some none), some (some none)])]) C inG9 tyX9 tyX9_ok nq_3 nq_4 nq_5 rfl (fun j hj => by rcases (show j = 0 ∨ j = 1 ∨ j = 2 ∨ j = 3 ∨ j = 4 ∨ j = 5 ∨ j = 6 ∨ j = 7 ∨ j = 8 ∨ j = 9 ∨ j = 10 ∨ j = 11 ∨ j = 12 ∨ j = 13 ∨ j = 14 ∨ j = 15 ∨ j = 16 ∨ j = 17 ∨ j = 18 ∨ j = 19 ∨ j = 20 ∨ j = 21 ∨ j = 22 ∨ j = 23 ∨ j = 24 ∨ j = 25 ∨ j = 26 ∨ j = 27 ∨ j = 28 ∨ j = 29 ∨ j = 30 ∨ j = 31 ∨ j = 32 ∨ j = 33 ∨ j = 34 ∨ j = 35 ∨ j = 36 ∨ j = 37 ∨ j = 38 by omega) with rfl | rfl | rfl | rfl | rfl | rfl | rfl | rfl | rfl | rfl | rfl | rfl | rfl | rfl | rfl | rfl | rfl | rfl | rfl | rfl | rfl | rfl | rfl | rfl | rfl | rfl | rfl | rfl | rfl | rfl | rfl | rfl | rfl | rfl | rfl | rfl | rfl | rfl | rfl <;> rfl) (fun al2 => by simp [cF, fV, hu1.2.1.z1 61 (by omega), hu1.2.1.z2 61 (by omega)]) rfl rfl (rsB (by decide +kernel)) (lvN rfl) (stN rfl) (Nat.le_of_ble_eq_true rfl) (Nat.le_of_ble_eq_true rfl) dL_law_8 (fun q2 => ?_)
    have C := fx_au (n := 61) (q := q2) C (by omega)
    refine ww_dup C rfl dL_law_11 ?_
    refine ww_ci (E := fun _ => True) C (c_X9_init (sh1 := [.inr (7, [some (some (some 1)), some (some (some 3)), some (some (some 13)), some (some (some 23)), some (some (some 44)), some (some (some 45)), some (some (some 48)), some (some (some 52)), some (some (some 58)), some none]), .inr (5, [none, some (some (some 2))]), .inl (0, 64, []), .inr (3, [none, some (some (some 4)), some (some (some 5)), some (some (some 6)), some (some (some 7)), some (some (some 8)), some (some (some 9)), none, some (some (some 10))]), .inl (0, 20, []), .inl (0, 20, []), .inl (0, 20, []), .inl (0, 20, []), .inl (0, 20, []), .inl (0, 4, []), .inr (6, [none, none, some (some (some 11)), some (some (some 12))]), .inl (0, 4, []), .inl (0, 4, []), .inr (3, [none, some (some (some 14)), some (some (some 15)), some (some (some 16)), some (some (some 17)), some (some (some 18)), some (some (some 19)), none, some (some (some 20))]), .inl (0, 20, []), .inl (0, 20, []), .inl (0, 20, []), .inl (0, 20, []), .inl (0, 20, []), .inl (0, 4, []), .inr (6, [none, none, some (some (some 21)), some (some (some 22))]), .inl (0, 4, []), .inl (0, 4, []), .inl (3, 2, [some 24, some 34]), .inr (3, [none, some (some (some 25)), some (some (some 26)), some (some (some 27)), some (some (some 28)), some (some (some 29)), some (some (some 30)), none, some (some (some 31))]), .inl (0, 20, []), .inl (0, 20, []), .inl (0, 20, []), .inl (0, 20, []), .inl (0, 20, []), .inl (0, 4, []), .inr (6, [none, none, some (some (some 32)), some (some (some 33))]), .inl (0, 4, []), .inl (0, 4, []), .inr (3, [none, some (some (some 35)), some (some (some 36)), some (some (some 37)), some (some (some 38)), some (some (some 39)), some (some (some 40)), none, some (some (some 41))]), .inl (0, 20, []), .inl (0, 20, []), .inl (0, 20, []), .inl (0, 20, []), .inl (0, 20, []), .inl (0, 4, []), .inr (6, [none, none, some (some (some 42)), some (some (some 43))]), .inl (0, 4, []), .inl (0, 4, []), .inl (2, 2, []), .inr (0, [none, some (some (some 46)), some (some (some 47))]), .inl (0, 14, []), .inl (0, 14, []), .inr (4, [none, some (some (some 49)), some (some (some 50)), some (some (some 51))]), .inl (0, 6, []), .inl (0, 6, []), .inl (2, 6, []), .inr (2, [none, some (some (some 53)), some (some (some 54)), some (some (some 55)), some (some (some 56)), none, some (some (some 57))]), .inl (0, 80, []), .inl (0, 80, []), .inl (0, 80, []), .inl (0, 20, []), .inl (0, 4, []), .inr (1, [some none, some (some (some 59)), some (some (some 60))]), .inl (1, 64, []), .inl (1, 64, [])]) (b := 61) rfl (by omega) (rlB (by decide +kernel)) (fun k h1 _ => hu1.2.1.z1 k (by omega))) (fun _ _ _ _ w => w) (fun _ _ => trivial) nq_117 nq_118 nq_5 nq_119 rfl (by decide +kernel) ⟨Nat.le_of_ble_eq_true rfl, Nat.le_of_ble_eq_true rfl, Nat.le_of_ble_eq_true rfl, Nat.le_of_ble_eq_true rfl⟩ (Nat.le_of_ble_eq_true rfl) dL_law_12 (fun u hu => by show [(1, Value.ref (u.1 0)), (0, Value.ref (u.1 1002))] = _; rw [hu.1 0 (by omega), hu.1 1002 (by omega)]; rfl) (fun u hu => by show [Value.ref (u.1 61)] = _; rw [hu.1 61 (by omega)]; rfl) (fun u2 hu2 => ?_)
    have C := fx_al (al2 := u2.1) C (hu2.1 1000 (by omega)) (hu2.1 1001 (by omega))
    have ha2 : u2.1 1002 = b := by rw [hu2.1 1002 (by omega), au_ne (by omega), hu1.1 1002 (by omega), au_ne (by omega), hal]
    have hI : Inv u2.2 := by rw [hu2.2]; exact P8_inv hu1.2
    have S : Scr u2.1 L xs (LA s) s := by
      unfold Scr
      rw [ha2]
      exact ⟨hX, hbl, Nat.not_le.mpr hbl⟩
    refine ww_astore_n (lv' := [(2, .ref 61), (1, .ref 0), (0, .ref 1002)]) C dL_law_15 rfl (by decide) rfl ?_
    refine ww_iconst (v := 0) C dL_law_16 (by decide) ?_
    refine ww_istore_n (lv' := lvL 0) C dL_law_17 rfl (by decide) rfl ?_
    exact law_loop C S hr hlocks hL L 0 u2.2 (by omega) (by omega) hI
  exact key s.heap [] ls hP hD va_S.rf hl
set_option maxHeartbeats 4000000 in
theorem lw_walk (l : Launch) (hflags : l.flags = flags0) (b : Addr) (xs : List Int32) : MetFree l x (headSpec (Jvm.Cond.code x code maxLocals ret :: tables_1) room_1) (lw_P b xs) (fun _ _ _ _ _ => True) lw_Q := by
  refine MetFree.of_bodyS (code := code) (maxLocals := maxLocals) (ret := ret) (by decide) ?_ ?_
  · intro args s m h hn
    obtain ⟨meth, c, h1, h2, h3, h4, h5, h6, -, -⟩ := Cond.code_spec hn (atoms_spec (ws := Jvm.Cond.code x code maxLocals ret :: tables_1) h _ List.mem_cons_self)
    exact ⟨meth, c, h1, h2, h3, h4, h5, h6⟩
  · intro p e s m args below meth c s₁ B hml0 hP _
    obtain ⟨rfl, hx, hbd, hgv⟩ := hP
    obtain ⟨scr, harrAt, hlist, hof, hsmall⟩ := hx
    obtain ⟨hcb, hkn, -, -⟩ := State.arrayAt?_spec harrAt
    have hown : s.vm.findClass R_law = some m.cls := findClass_of_methodNamed B.named
    have hts0 : ∀ c ∈ (Jvm.Cond.code x code maxLocals ret :: tables_1), c.before #[Value.ref b] s = true := atoms_spec (ws := Jvm.Cond.code x code maxLocals ret :: tables_1) B.pre
    have hts : ∀ w ∈ lw_tbl, w.before #[Value.ref b] s = true := k2_hts_sels lw_privs (fun w hw => hts0 w (List.mem_cons_of_mem _ hw)) lw_privs_ok
    have hml : c.maxLocals = 4 := B.maxLocals_eq (hts0 _ List.mem_cons_self)
    have X₀ : Stand p l e room_1 s m #[Value.ref b] below meth c s₁ [] 0 0 := Stand.of_body B
    have hh0 : s₁.heap = s.heap := by rw [B.state]; rfl
    have hsz : scr.slots.size = xs.length := by rw [← Array.length_toList, hlist, List.length_map]
    have hval : ∀ j : Nat, j < xs.length → scr.slots[j]? = some (.int (xs.getD j 0)) := fun j hj => by
      rw [← Array.getElem?_toList, hlist]
      simp [hj]
    have hbl : b < s.heap.size := (Array.getElem?_eq_some_iff.mp hcb).1
    have hX : va_X b xs.length (fun j => xs.getD j 0) s s.heap := ⟨scr, hcb, hof, hkn, hsz, hval⟩
    have K : W p l e room_1 s m #[Value.ref b] below meth c s₁.heap [] 0 0 (lw_Z below #[Value.ref b] s) (entryFrame m ([Value.ref b] : List Value).toArray 4) := by
      rw [hh0]
      exact whole_start l hflags hbd ⟨B.exec, B.bytes, B.returns, hml, hown, hts, hX, hbl, B.notSynchronized, hgv⟩
    obtain ⟨t, a1, o, b1, b2, b3⟩ := K s₁ rfl X₀
    exact ⟨t, o, a1, b1, b2, b3⟩
theorem lw_pre_spec {args : Array Value} {s : State} (h : (Jvm.Cond.and given_1 narrow_1).before args s = true) (hr : rest_1_c.before args s = true) : ∃ (b : Addr) (xs : List Int32), lw_P b xs args s := by
  have hs := flat_of_before _ h
  have hq := flat_of_before _ hr
  have hc : (Cond.count 1).before args s = true := hs _ (by decide +kernel)
  have harr : (Cond.arrayOf (.arg 0) .int).before args s = true := hs _ (by decide +kernel)
  have hle : (Cond.le (.length (.arg 0)) (.int 2048)).before args s = true := hs _ (by decide +kernel)
  have hlen : (Cond.isInt (.length (.arg 0))).before args s = true := hq _ (by decide +kernel)
  have hall : (Cond.all (.arg 0) (.isInt (.elem (.arg 0) (.index 0)))).before args s = true := hq _ (by decide +kernel)
  obtain ⟨b, xs, hb, hx⟩ := State.ints_of_pre rfl harr hlen hall
  have hsm : xs.length < 2 ^ 31 := hx.choose_spec.2.2.2
  have hev : (Term.length (.arg 0)).eval args s none [] s = some (.int xs.length.toInt32) := hx.length_eval hb
  have hv := Cond.le_ints hev (show (Term.int 2048).eval args s none [] s = some (.int 2048) from rfl)
  have hd : xs.length.toInt32 ≤ 2048 := by
    simpa [Cond.before, Cond.holds, hv] using hle
  have hN : xs.length ≤ 2048 := (Int32.ofNat_le_ofNat hsm (by decide)).mp (show Int32.ofNat xs.length ≤ Int32.ofNat 2048 from hd)
  exact ⟨b, xs, Cond.one_arg hc (show args[0]? = some (.ref b) from hb), hx, hN, h⟩
theorem lw_comes (l : Launch) (hflags : l.flags = flags0) : Comes l x (Jvm.Cond.code x code maxLocals ret :: tables_1) room_1 (fun tb e args s => Calls_1 tb e args s ∧ rest_1 tb e args s ∧ Pre_1 tb e args s)
    (fun _ _ args s o t => lw_Q args s o t) := by
  intro p e ha hc hk s m args below hf hfit hheap happ hpre
  obtain ⟨b, xs, hP⟩ := lw_pre_spec hpre.2.2 hpre.2.1
  obtain ⟨k, o, h1, h2, h3, hQ⟩ := lw_walk l hflags b xs p e ha hc hk s m args below hf ((Spec.applies_iff_loose hf).mp happ).1 hP trivial
  exact ⟨k, o, h1, h2, h3, hQ⟩
theorem lw_frame {s t : State} {o : Outcome} {args : Array Value} (h : Framed s o t [] 600000 7302249) :
    Framed s o t (fieldLocs frame_1_writes args s ++ arrayLocs frame_1_arrays args s ++ staticLocs frame_1_statics s) 600000 7302249 := h
theorem lw_limb (L : Cond) (hL : ∀ (args : Array Value) (s t : State), L.after args s (.returned (some (.int 1))) t = true) :
    ArmFor flags0 classFile x code maxLocals ret World_1 tables_1 room_1 Calls_1 rest_1 Pre_1
      (fun tb e a s o t => postC L tb e a s o t ∧ Framed s o t (fieldLocs frame_1_writes a s ++ arrayLocs frame_1_arrays a s ++ staticLocs frame_1_statics s) 600000 7302249) := by
  intro l hflags _ _ p e ha hc hk s m args below hf hfit hheap happ hpre
  obtain ⟨k, o, h1, h2, h3, rfl, hF⟩ := lw_comes l hflags p e ha hc hk s m args below hf hfit hheap happ hpre
  exact ⟨k, _, h1, h2, h3, hL args s _, lw_frame hF⟩
theorem i_vc : Claimed_1_1 ∧ Claimed_1_2 := ⟨lw_limb limb_1_1 (fun args s t => by simp [limb_1_1, Cond.after, Cond.holds, Cond.value]), lw_limb limb_1_2 (fun args s t => Cond.after_iff.mpr (by
  first | (rw [show limb_1_2 = Cond.eq .result (.int 1) from rfl, Cond.eq_ints (x := 1) (y := 1) rfl rfl]; simp; done) | (simp [limb_1_2, Cond.value, Term.eval]; done)))⟩
