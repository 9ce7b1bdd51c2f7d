/-! ===== cells that come: rows for constructors ===== -/
section WWN
variable {p : Program} {l : Launch} {e : Env} {R : Room} {s : State} {m : MethodId} {args : Array Value} {below : List Frame} {meth : Method} {c : Code} {Q : State → Prop} {dC : Nat → ClassId} {dI : Nat → Nat → Nat} {cA : Nat → ClassId} {A : Nat → Prop} {nL kc ks : Nat} {al : Nat → Nat} {sh : List Kd} {cc : ByteArray} {own : String} {pc : Nat} {lv : List (Nat × Value)} {rest : List Value} {σ : St}
def au (al : Nat → Nat) (n q : Nat) : Nat → Nat := fun k => if k = n then q else al k
theorem au_in (al : Nat → Nat) (n q : Nat) : au al n q n = q := if_pos rfl
theorem au_ne {al : Nat → Nat} {n q k : Nat} (h : k ≠ n) : au al n q k = al k := if_neg h
def rfF : Fk → Option Nat
  | some (some (some r)) => some r
  | _ => none
def rfK : Kd → List Nat
  | .inl (_, _, rs) => rs.filterMap id
  | .inr (_, fs) => fs.filterMap rfF
def rsN (sh : List Kd) (n : Nat) : Prop := ∀ d, d ∈ sh → ∀ r, r ∈ rfK d → r ≠ n
theorem cF_au {n q : Nat} (k : Nat) : ∀ (fs : List Fk) (j : Nat), (∀ r, r ∈ fs.filterMap rfF → r ≠ n) → cF (au al n q) σ k j fs = cF al σ k j fs
  | [], _, _ => rfl
  | f :: fs, j, h => by
    rw [cF, cF, cF_au k fs (j + 1) (fun r hr => h r ?_)]
    · rcases f with _ | _ | _ | r
      · rfl
      · rfl
      · rfl
      · have : r ≠ n := h r (by simp [rfF])
        simp [fV, au_ne this]
    · rw [List.filterMap_cons]
      split
      · exact hr
      · exact List.mem_cons_of_mem _ hr
theorem cE_au {n q : Nat} (k : Nat) (d : Kd) (h : ∀ r, r ∈ rfK d → r ≠ n) : cE cA (au al n q) σ k d = cE cA al σ k d := by
  rcases d with ⟨t, N, rs⟩ | ⟨ci, fs⟩
  · rcases t with _ | _ | _ | t
    · rfl
    · rfl
    · rfl
    · simp only [cE]
      congr 7
      funext j
      cases hj : rs[j]? with
      | none => rfl
      | some o =>
        cases o with
        | none => rfl
        | some r =>
          have : r ≠ n := h r (by
            show r ∈ rs.filterMap id
            rw [List.mem_filterMap]
            exact ⟨some r, List.mem_of_getElem? hj, rfl⟩)
          simp [au_ne this]
  · simp only [cE]
    rw [cF_au k fs 0 h]
theorem pI_au {n q : Nat} : ∀ (ds : List Kd) (j : Nat), rsN ds n → j + ds.length ≤ n → pI cA (au al n q) σ j ds = pI cA al σ j ds
  | [], _, _, _ => rfl
  | d :: ds, j, h, hj => by
    rw [List.length_cons] at hj
    rw [pI, pI, pI_au ds (j + 1) (fun x hx => h x (List.mem_cons_of_mem _ hx)) (by omega), cE_au j d (h d List.mem_cons_self), au_ne (by omega)]
theorem pI_app (d : Kd) : ∀ (ds : List Kd) (j : Nat), pI cA al σ j (ds ++ [d]) = pI cA al σ j ds ++ [(al (j + ds.length), cE cA al σ (j + ds.length) d)]
  | [], j => by simp [pI]
  | x :: ds, j => by
    rw [List.cons_append, pI, pI, pI_app d ds (j + 1), List.length_cons, show j + 1 + ds.length = j + (ds.length + 1) by omega]
    rfl
theorem pic_push {n q : Nat} {d : Kd} (hn : sh.length = n) (hr : rsN sh n) : pic cA (au al n q) (sh ++ [d]) σ = pic cA al sh σ ++ [(q, cE cA (au al n q) σ n d)] := by
  subst hn
  rw [pic, pI_app, pI_au sh 0 hr (by omega), Nat.zero_add, au_in]
def neV (n : Nat) : Value → Prop
  | .ref k => k ≠ n
  | _ => True
theorem cv_au {n q : Nat} {v : Value} (h : neV n v) : cv (au al n q) v = cv al v := by
  cases v with
  | ref k => show Value.ref _ = Value.ref _; rw [au_ne h]
  | _ => rfl
theorem lv_au {n q : Nat} (h : ∀ x, x ∈ lv → neV n x.2) : lv.map (cp (au al n q)) = lv.map (cp al) := List.map_congr_left (fun x hx => by unfold cp; rw [cv_au (h x hx)])
theorem st_au {n q : Nat} (h : ∀ x, x ∈ rest → neV n x) : rest.map (cv (au al n q)) = rest.map (cv al) := List.map_congr_left (fun x hx => cv_au (h x hx))
theorem fx_au {n q : Nat} (C : Fx p s m args c cc nL own dC dI cA A al) (hn : n < 1000) : Fx p s m args c cc nL own dC dI cA A (au al n q) := by
  obtain ⟨c1, c2, c3, c4, c5, c6, c7, c8, c9⟩ := C
  refine ⟨c1, c2, c3, c4, c5, c6, c7, ?_, c9⟩
  unfold SX
  rw [au_ne (by omega), au_ne (by omega)]
  exact c8
theorem fx_al {al2 : Nat → Nat} (C : Fx p s m args c cc nL own dC dI cA A al) (h0 : al2 1000 = al 1000) (h1 : al2 1001 = al 1001) : Fx p s m args c cc nL own dC dI cA A al2 := by
  obtain ⟨c1, c2, c3, c4, c5, c6, c7, c8, c9⟩ := C
  refine ⟨c1, c2, c3, c4, c5, c6, c7, ?_, c9⟩
  unfold SX
  rw [h0, h1]
  exact c8
theorem ww_newG (C : Fx p s m args c cc nL own dC dI cA A al) {sh2 : List Kd} {tag N n : Nat} {at0 : ArrayType} {ty : FieldType} {x : Int32} {a0 : vp_A} (harr : Cond.arrayClass (newarray.typeOf at0) ∈ wsG) (hty : newarray.typeOf at0 = ty) (htys : (tysW cA)[tag]? = some (cA tag, ty)) (hinj : ∀ c1 c2 : ClassId, va_RA s c1 ty → va_RA s c2 ty → c1 = c2) (hE : ∀ al' : Nat → Nat, cE cA al' σ n (.inl (tag, N, [])) = .inl (cA tag, a0)) (ha : ∀ k : ClassId, vp_cell k a0 = arrV k N (fun _ => defaultValue ty)) (hx : ¬ x < 0) (hN : x.toNatClampNeg = N) (hby : N * componentBytes ty ≤ 536870912) (hn : sh.length = n) (hs2 : sh ++ [.inl (tag, N, [])] = sh2) (hrs : rsN sh n) (hlv : ∀ x, x ∈ lv → neV n x.2) (hst : ∀ x, x ∈ rest → neV n x) (hcells : kc + 1 ≤ R.cells) (hslots : ks + N ≤ R.slots) (hd : decode cc pc = .ok (.newarray at0, 2)) (kk : ∀ q : Nat, WW p l e R s m args below meth c Q dC dI cA A nL (kc + 1) (ks + N) (au al n q) sh2 (pc + 2) lv (.ref n :: rest) σ) : WW p l e R s m args below meth c Q dC dI cA A nL kc ks al sh pc lv (.int x :: rest) σ := by
  intro H locs ls hP hD hS hl
  refine va_newa (D := (dC, dI)) (atype := at0) C.1 C.2.1 (C.2.2.2.2.1 _ harr) hty C.2.2.2.2.2.1 hP hD hS C.2.2.2.2.2.2.2.2 ha hx hN hby hcells hslots hd (fun q cA' H1 hK1 hP1 hD1 hS1 => ?_)
  have e : cA' = cA tag := hinj _ _ (hK1.2 4 (cA', ty) rfl).2 (C.2.2.2.2.2.1.2 tag _ htys).2
  rw [e, ← hE (au al n q), ← pic_push hn hrs, hs2] at hP1 hD1
  have k1 := kk q H1 locs ls hP1 hD1 hS1 (by rw [lv_au hlv]; exact hl)
  rw [List.map_cons, st_au hst] at k1
  have e2 : cv (au al n q) (.ref n) = .ref q := by show Value.ref _ = _; rw [au_in]
  rw [e2] at k1
  exact k1
theorem ra_i {c1 c2 : ClassId} (h1 : va_RA s c1 .int) (h2 : va_RA s c2 .int) : c1 = c2 := Option.some.inj (Eq.trans (Eq.symm h1) h2)
theorem ra_l {c1 c2 : ClassId} (h1 : va_RA s c1 .long) (h2 : va_RA s c2 .long) : c1 = c2 := Option.some.inj (Eq.trans (Eq.symm h1) h2)
theorem ra_b {c1 c2 : ClassId} (h1 : va_RA s c1 .boolean) (h2 : va_RA s c2 .boolean) : c1 = c2 := Option.some.inj (Eq.trans (Eq.symm h1) h2)
theorem ww_newI (C : Fx p s m args c cc nL own dC dI cA A al) {sh2 : List Kd} {N n : Nat} {x : Int32} (hz : ∀ j, σ.1 n j = 0) (hx : ¬ x < 0) (hN : x.toNatClampNeg = N) (hby : N * componentBytes .int ≤ 536870912) (hn : sh.length = n) (hs2 : sh ++ [.inl (0, N, [])] = sh2) (hrs : rsN sh n) (hlv : ∀ x, x ∈ lv → neV n x.2) (hst : ∀ x, x ∈ rest → neV n x) (hcells : kc + 1 ≤ R.cells) (hslots : ks + N ≤ R.slots) (hd : decode cc pc = .ok (.newarray .int, 2)) (kk : ∀ q : Nat, WW p l e R s m args below meth c Q dC dI cA A nL (kc + 1) (ks + N) (au al n q) sh2 (pc + 2) lv (.ref n :: rest) σ) : WW p l e R s m args below meth c Q dC dI cA A nL kc ks al sh pc lv (.int x :: rest) σ :=
  ww_newG (tag := 0) (at0 := .int) (ty := .int) (a0 := (N, .inl (σ.1 n))) C nq_46 rfl rfl (fun _ _ => ra_i) (fun _ => rfl) (fun k => by rw [vp_cell_i]; congr 1; funext j; rw [hz j]; rfl) hx hN hby hn hs2 hrs hlv hst hcells hslots hd kk
theorem ww_newZ (C : Fx p s m args c cc nL own dC dI cA A al) {sh2 : List Kd} {N n : Nat} {x : Int32} (hz : ∀ j, σ.1 n j = 0) (hx : ¬ x < 0) (hN : x.toNatClampNeg = N) (hby : N * componentBytes .boolean ≤ 536870912) (hn : sh.length = n) (hs2 : sh ++ [.inl (2, N, [])] = sh2) (hrs : rsN sh n) (hlv : ∀ x, x ∈ lv → neV n x.2) (hst : ∀ x, x ∈ rest → neV n x) (hcells : kc + 1 ≤ R.cells) (hslots : ks + N ≤ R.slots) (hd : decode cc pc = .ok (.newarray .boolean, 2)) (kk : ∀ q : Nat, WW p l e R s m args below meth c Q dC dI cA A nL (kc + 1) (ks + N) (au al n q) sh2 (pc + 2) lv (.ref n :: rest) σ) : WW p l e R s m args below meth c Q dC dI cA A nL kc ks al sh pc lv (.int x :: rest) σ :=
  ww_newG (tag := 2) (at0 := .boolean) (ty := .boolean) (a0 := (N, .inl (σ.1 n))) C nq_23 rfl rfl (fun _ _ => ra_b) (fun _ => rfl) (fun k => by rw [vp_cell_i]; congr 1; funext j; rw [hz j]; rfl) hx hN hby hn hs2 hrs hlv hst hcells hslots hd kk
theorem ww_newJ (C : Fx p s m args c cc nL own dC dI cA A al) {sh2 : List Kd} {N n : Nat} {x : Int32} (hz : ∀ j, σ.2 n j = 0) (hx : ¬ x < 0) (hN : x.toNatClampNeg = N) (hby : N * componentBytes .long ≤ 536870912) (hn : sh.length = n) (hs2 : sh ++ [.inl (1, N, [])] = sh2) (hrs : rsN sh n) (hlv : ∀ x, x ∈ lv → neV n x.2) (hst : ∀ x, x ∈ rest → neV n x) (hcells : kc + 1 ≤ R.cells) (hslots : ks + N ≤ R.slots) (hd : decode cc pc = .ok (.newarray .long, 2)) (kk : ∀ q : Nat, WW p l e R s m args below meth c Q dC dI cA A nL (kc + 1) (ks + N) (au al n q) sh2 (pc + 2) lv (.ref n :: rest) σ) : WW p l e R s m args below meth c Q dC dI cA A nL kc ks al sh pc lv (.int x :: rest) σ :=
  ww_newG (tag := 1) (at0 := .long) (ty := .long) (a0 := (N, .inr (.inl (σ.2 n)))) C nq_113 rfl rfl (fun _ _ => ra_l) (fun _ => rfl) (fun k => by rw [vp_cell_l]; congr 1; funext j; rw [hz j]; rfl) hx hN hby hn hs2 hrs hlv hst hcells hslots hd kk
theorem ww_newO (C : Fx p s m args c cc nL own dC dI cA A al) {sh2 : List Kd} {ci N idx n : Nat} {Cn : String} {T : u_T} {fsd : List Fk} {vs : List Value} (hin : ∀ w ∈ u_ws Cn T N, w ∈ wsG) (ty0 : Nat → FieldType) (hty : ∀ k, k < N → parseFieldDescriptor (T k).2.2.1 = some (ty0 k)) (hcl : Cond.classLink own idx Cn ∈ wsG) (hinst : Cond.instantiable Cn N ∈ wsG) (hini : Cond.initialized Cn ∈ wsG) (hc : vwCl[ci]? = some (Cn, T, N)) (hvs : ∀ j, j < N → defaultValue (ty0 j) = vp_V vs j) (hF : ∀ al' : Nat → Nat, cF al' σ n 0 fsd = vs) (hn : sh.length = n) (hs2 : sh ++ [.inr (ci, fsd)] = sh2) (hrs : rsN sh n) (hlv : ∀ x, x ∈ lv → neV n x.2) (hst : ∀ x, x ∈ rest → neV n x) (hcells : kc + 1 ≤ R.cells) (hslots : ks + N ≤ R.slots) (hd : decode cc pc = .ok (.new idx, 3)) (kk : ∀ q : Nat, WW p l e R s m args below meth c Q dC dI cA A nL (kc + 1) (ks + N) (au al n q) sh2 (pc + 3) lv (.ref n :: rest) σ) : WW p l e R s m args below meth c Q dC dI cA A nL kc ks al sh pc lv rest σ := by
  intro H locs ls hP hD hS hl
  refine va_new (D := (dC, dI)) (ci := ci) (fs := vs) (C := Cn) (T := T) (N := N) C.1 C.2.1 C.2.2.2.2.1 hin ty0 hty C.2.2.2.1 (C.2.2.2.2.1 _ hcl) (C.2.2.2.2.1 _ hinst) (C.2.2.2.2.1 _ hini) C.2.2.2.2.2.1 hP hD hS C.2.2.2.2.2.2.2.2 hc hvs hcells hslots hd (fun q H1 hP1 hD1 hS1 => ?_)
  have e : (Sum.inr (ci, vs) : va_E) = cE cA (au al n q) σ n (.inr (ci, fsd)) := by show _ = Sum.inr (ci, cF _ _ _ _ _); rw [hF]
  rw [e, ← pic_push hn hrs, hs2] at hP1 hD1
  have k1 := kk q H1 locs ls hP1 hD1 hS1 (by rw [lv_au hlv]; exact hl)
  rw [List.map_cons, st_au hst] at k1
  have e2 : cv (au al n q) (.ref n) = .ref q := by show Value.ref _ = _; rw [au_in]
  rw [e2] at k1
  exact k1
theorem ww_putF (C : Fx p s m args c cc nL own dC dI cA A al) (hme : meth.name = "<init>") {sh2 : List Kd} {r ci q idx N : Nat} {fs : List Fk} {Cn : String} {T : u_T} {ty : FieldType} (hsh : sh[q]? = some (.inr (ci, fs))) (hc : vwCl[ci]? = some (Cn, T, N)) (hin : ∀ w ∈ u_ws Cn T N, w ∈ wsG) (k : Nat) (hk : k < N) (hlink : Cond.fieldLink own idx (T k).1 (T k).2.1 (T k).2.2.1 ∈ wsG) (ty0 : Nat → FieldType) (hty : ∀ k, k < N → parseFieldDescriptor (T k).2.2.1 = some (ty0 k)) (hnm : ∀ a, a < N → ∀ b, b < N → a ≠ b → (T a).2.1 ≠ (T b).2.1) (hfin : (T k).2.2.2 = true) (hdecl : (T k).1 = own) (hpd : parseFieldDescriptor (T k).2.2.1 = some ty) (hnar : ∀ a : Nat, narrow ty (.ref a) = .ref a) (hfit : ∀ a : Nat, fits ty (.ref a) = true) (hkl : k < fs.length) (hs2 : sh.set q (.inr (ci, fs.set k (some (some (some r))))) = sh2) (hd : decode cc pc = .ok (.putfield idx, 3)) (kk : WW p l e R s m args below meth c Q dC dI cA A nL kc ks al sh2 (pc + 3) lv rest σ) : WW p l e R s m args below meth c Q dC dI cA A nL kc ks al sh pc lv (.ref r :: .ref q :: rest) σ := fun H locs ls hP hD hS hl => va_putF (D := (dC, dI)) (ty := ty) (v := .ref (al r)) C.1 C.2.1 C.2.2.2.2.1 hin ty0 hty hnm C.2.2.2.1 C.2.2.2.2.2.1 hP hD hS q (pic_get hsh) hc k hk (C.2.2.2.2.1 _ hlink) (fun _ h9 => h9) hfin hme hdecl hpd (hnar _) (hfit _) (by rw [cF_len]; exact hkl) hd (fun H1 locs1 hP1 hD1 hS1 => by
  rw [cF_setR hkl, pic_shape (x := Sum.inr (ci, cF al σ q 0 (fs.set k (some (some (some r)))))) (d2 := .inr (ci, fs.set k (some (some (some r))))) (List.getElem?_eq_some_iff.mp hsh).1 rfl, hs2] at hP1 hD1
  exact kk H1 locs1 ls hP1 hD1 hS1 hl)
theorem ww_obj (C : Fx p s m args c cc nL own dC dI cA A al) {idx q : Nat} (h1 : Cond.methodLink own idx objectInit ∈ wsG) (hd : decode cc pc = .ok (.invokespecial idx, 3)) (hR : 1 ≤ R.frames ∧ 12 ≤ R.locals) (kk : WW p l e R s m args below meth c Q dC dI cA A nL kc ks al sh (pc + 3) lv [] σ) : WW p l e R s m args below meth c Q dC dI cA A nL kc ks al sh pc lv [.ref q] σ := by
  intro H locs ls hP hD hS hl
  refine W.objInit (a := al q) (rest := []) C.1 C.2.1 C.2.2.2.1 (C.2.2.2.2.1 _ h1) (C.2.2.2.2.1 _ nq_11) (C.2.2.2.2.1 _ nq_12) rfl (by rw [C.2.2.1]; exact hl.1) rfl hd hR.1 hR.2 ?_
  exact W.eq (g2 := F0 m (pc + 3) ls []) rfl (kk H locs ls hP hD hS hl)
abbrev RMc (d mc ms : Nat) : Room := { frames := d, cells := mc, slots := ms, locals := 40 * d }
abbrev AS : Type := (Nat → Nat) × St
theorem ww_ci (C : Fx p s m args c cc nL own dC dI cA A al) {E : State → Prop} {y : MethodName} {bytes : ByteArray} {maxL d idx mc ms q : Nat} {Qk : AS → Prop} {sh2 : List Kd} (hM : ∀ sz, Met l y (wd y bytes maxL none) (RMc d mc ms) (va_Pc ([.ref q].map (cv al)) (fun U => WPre dC dI cA al sh σ sz U ∧ E U)) (va_Qv Qk (fun (u : AS) t => WPost dC dI cA u.1 sh2 (AW al sh sz) u.2 t) (AW al sh sz)) mc ms (AW al sh sz)) (hbl : FrameBlind (fun (_ : Array Value) U => E U)) (hEw : ∀ U : State, s.WarmedH U.vm → E U) (h1 : Cond.methodLink own idx y ∈ wsG) (h2 : Cond.instanceMethod y ∈ wsG) (h4 : Cond.initialized y.cls ∈ wsG) (h5 : Cond.code y bytes maxL none ∈ wsG) (hy1 : y.name = "<init>") (hy : y.cls ≠ "java/lang/invoke/MethodHandle" ∧ y.cls ≠ "java/lang/invoke/VarHandle" ∧ (parseMethodDescriptor y.desc).map (fun d => d.parameters.length) = some 0) (hR : d + 1 ≤ R.frames ∧ 8 + (maxL + 11) + 40 * d ≤ R.locals ∧ kc + mc ≤ R.cells ∧ ks + ms ≤ R.slots) (hr : (rest.map fun v => v.category).sum ≤ 8) (hd : decode cc pc = .ok (.invokespecial idx, 3)) (hlv : ∀ u, Qk u → lv.map (cp u.1) = lv.map (cp al)) (hst : ∀ u, Qk u → rest.map (cv u.1) = rest.map (cv al)) (kk : ∀ u : AS, Qk u → WW p l e R s m args below meth c Q dC dI cA A nL (kc + mc) (ks + ms) u.1 sh2 (pc + 3) lv rest u.2) : WW p l e R s m args below meth c Q dC dI cA A nL kc ks al sh pc lv (.ref q :: rest) σ := by
  intro H locs ls hP hD hS hl
  refine va_callv (A1 := AW al sh H.size) (va_runI (As := []) (rest := rest.map (cv al)) (n := 0) (bytes := bytes) (maxL := maxL) (b := al q) ⟨C.1, C.2.1, C.2.2.1, C.2.2.2.1, C.2.2.2.2.1⟩ (hM H.size) (cwI 0 C.2.2.2.2.1 (gd_wd h5) rfl rfl rfl (C.2.2.2.2.1 _ h4) (C.2.2.2.2.1 _ h1) (C.2.2.2.2.1 _ h2) hy1 hy ⟨hR.1, hR.2.1⟩) ⟨fun a U g mk w => ⟨w.1, (wpre_blind (av := [.ref q].map (cv al)) a U g mk ⟨w.1, w.2.1⟩).2, hbl a U g mk w.2.2⟩, fun U hU hW => ⟨rfl, ww_pre C hP hD hS U hU hW, hEw U hW⟩⟩ rfl rfl hl.1 rfl (lv_room (by rw [cv_sum]; exact hr)) hd ⟨hR.2.2.1, hR.2.2.2⟩) hS (fun q _ h => ww_subA C hD hS q h) (fun q h => ww_subA C hD hS q h) (fun u t H1 locs1 ht hvm hw hB _ hk1 hS1 => ?_)
  obtain ⟨hP1, hD1⟩ := hB
  rw [ht] at hP1
  have k1 := kk u hw H1 locs1 ls hP1 (hD1.weaken fun _ _ _ h => ww_subA C hD hS _ h) hS1 (by rw [hlv u hw]; exact hl)
  rw [hst u hw] at k1
  exact k1
theorem ww_metI {y : MethodName} {bytes : ByteArray} {maxL mc ms : Nat} {rm : Room} {E : State → Prop} {As : List Value} {Qc : (Nat → Prop) → Array Value → State → Outcome → State → Prop} (hy : plainName y.cls = true) (hlen : (lg_sl (As.map (cv al))).length ≤ maxL) (hnm : y.name = "<init>")
    (body : ∀ (p : Program) (e : Env) (s : State) (m : MethodId) (args : Array Value) (below : List Frame) (meth : Method) (c : Code) (A : Nat → Prop), Fx p s m args c bytes maxL y.cls dC dI cA A al → meth.sig.returnType = none → meth.locks = false → meth.name = "<init>" → E s → WW p l e rm s m args below meth c (MQ below (Qc A) args s mc ms A) dC dI cA A maxL 0 0 al sh 0 (lv_args 0 As) [] σ) :
    ∀ sz, Met l y (wd y bytes maxL none) rm (va_Pc (As.map (cv al)) (fun U => WPre dC dI cA al sh σ sz U ∧ E U)) (Qc (AW al sh sz)) mc ms (AW al sh sz) := by
  intro sz
  refine Met.ofW (cc := bytes) (maxL := maxL) (ret := none) hy rfl ?_
  intro p e s m args below meth c s₁ B hml hv
  obtain ⟨rfl, ⟨hsz, hP, hK, hD0, hN, hZ⟩, hEs⟩ := hv
  subst hsz
  have hD : va_D (AW al sh s.heap.size) (pic cA al sh σ) := by
    refine ⟨hD0.1, fun k q hk => ?_⟩
    rw [pI_get] at hk
    cases hf : sh[k]? with
    | none => rw [hf] at hk; cases hk
    | some d => rw [hf] at hk; cases hk; exact Or.inl ⟨k, (List.getElem?_eq_some_iff.mp hf).1, by simp⟩
  have hts := atoms_spec (ws := wd y bytes maxL none) B.pre
  have hl := lv_entry (As.map (cv al)) (n := maxL) hlen
  have hme : meth.name = "<init>" := ((name_of_methodNamed B.named B.method).1).trans hnm
  rw [lg_entry_eq]
  rw [lv_args_map] at hl
  exact body p e s m _ below meth c (AW al sh s.heap.size) ⟨B.exec, B.bytes, hml, findClass_of_methodNamed B.named, fun w hw => hts w (List.mem_cons_of_mem _ hw), hK, hN, hZ, fun q h => Or.inr h⟩ B.returns B.notSynchronized hme hEs s.heap [] _ hP hD va_S.rf hl
theorem ww_vretI (C : Fx p s m args c cc nL own dC dI cA A al) (hr : meth.sig.returnType = none) (hlocks : meth.locks = false) {Qk : AS → Prop} (hq : Qk (al, σ)) (hd : decode cc pc = .ok (.return_, 1)) : WW p l e R s m args below meth c (MQ below (va_Qv Qk (fun (u : AS) t => WPost dC dI cA u.1 sh A u.2 t) A) args s kc ks A) dC dI cA A nL kc ks al sh pc lv [] σ := fun H locs ls hP hD hS hl => W.vret C.1 C.2.1 hr (fun t ht hW => ⟨⟨(al, σ), rfl, hq, by rw [ht]; exact hP, hD⟩, hS.F ht⟩) hS.2.2 hd hlocks
end WWN
