/-! ===== the world: cells by number, numbers in a store ===== -/
abbrev St : Type := (Nat → Nat → Int32) × (Nat → Nat → Int64)
def sI (σ : St) (c i : Nat) (v : Int32) : St := (fun a => if a = c then upd (σ.1 c) i v else σ.1 a, σ.2)
def sL (σ : St) (c i : Nat) (v : Int64) : St := (σ.1, fun a => if a = c then vp_updL (σ.2 c) i v else σ.2 a)
def sLf (σ : St) (c : Nat) (f : Nat → Int64) : St := (σ.1, fun a => if a = c then f else σ.2 a)
abbrev Fk : Type := Option (Option (Option Nat))
abbrev Kd : Type := (Nat × Nat × List (Option Nat)) ⊕ (Nat × List Fk)
def cv (al : Nat → Nat) : Value → Value
  | .ref k => .ref (al k)
  | v => v
def cp (al : Nat → Nat) (q : Nat × Value) : Nat × Value := (q.1, cv al q.2)
theorem cv_cat (al : Nat → Nat) (v : Value) : (cv al v).category = v.category := by cases v <;> rfl
def fV (al : Nat → Nat) (σ : St) (k j : Nat) : Fk → Value
  | none => .int (σ.1 k j)
  | some none => .long (σ.2 k j)
  | some (some none) => .null
  | some (some (some r)) => .ref (al r)
def cF (al : Nat → Nat) (σ : St) (k : Nat) : Nat → List Fk → List Value
  | _, [] => []
  | j, f :: fs => fV al σ k j f :: cF al σ k (j + 1) fs
def cE (cA : Nat → ClassId) (al : Nat → Nat) (σ : St) (k : Nat) : Kd → va_E
  | .inl (0, n, _) => .inl (cA 0, n, .inl (σ.1 k))
  | .inl (1, n, _) => .inl (cA 1, n, .inr (.inl (σ.2 k)))
  | .inl (2, n, _) => .inl (cA 2, n, .inl (σ.1 k))
  | .inl (_, n, rs) => .inl (cA 3, n, .inr (.inr (.inr (.inr (fun j => ((rs[j]?).getD none).map al)))))
  | .inr (ci, fs) => .inr (ci, cF al σ k 0 fs)
def pI (cA : Nat → ClassId) (al : Nat → Nat) (σ : St) : Nat → List Kd → va_W
  | _, [] => []
  | k, d :: ds => (al k, cE cA al σ k d) :: pI cA al σ (k + 1) ds
abbrev pic (cA : Nat → ClassId) (al : Nat → Nat) (sh : List Kd) (σ : St) : va_W := pI cA al σ 0 sh
theorem pI_get (cA : Nat → ClassId) (al : Nat → Nat) (σ : St) : ∀ (ds : List Kd) (j i : Nat), (pI cA al σ j ds)[i]? = (ds[i]?).map (fun d => (al (j + i), cE cA al σ (j + i) d))
  | [], j, i => by simp [pI]
  | d :: ds, j, 0 => by simp [pI]
  | d :: ds, j, i + 1 => by
    have h := pI_get cA al σ ds (j + 1) i
    simp only [pI, List.getElem?_cons_succ]
    rw [h, show j + 1 + i = j + (i + 1) by omega]
theorem pic_get {cA : Nat → ClassId} {al : Nat → Nat} {σ : St} {sh : List Kd} {k : Nat} {d : Kd} (h : sh[k]? = some d) : (pic cA al sh σ)[k]? = some (al k, cE cA al σ k d) := by
  rw [pI_get, h]; simp
theorem cF_get (al : Nat → Nat) (σ : St) (k : Nat) : ∀ (fs : List Fk) (j i : Nat), (cF al σ k j fs)[i]? = (fs[i]?).map (fun f => fV al σ k (j + i) f)
  | [], j, i => by simp [cF]
  | f :: fs, j, 0 => by simp [cF]
  | f :: fs, j, i + 1 => by
    have h := cF_get al σ k fs (j + 1) i
    simp only [cF, List.getElem?_cons_succ]
    rw [h, show j + 1 + i = j + (i + 1) by omega]
theorem cF_len (al : Nat → Nat) (σ : St) (k : Nat) : ∀ (fs : List Fk) (j : Nat), (cF al σ k j fs).length = fs.length
  | [], _ => rfl
  | _ :: fs, j => by simp [cF, cF_len al σ k fs (j + 1)]
theorem cF_setI {al : Nat → Nat} {σ : St} {k i : Nat} {fs : List Fk} (h : fs[i]? = some none) (v : Int32) : (cF al σ k 0 fs).set i (.int v) = cF al (sI σ k i v) k 0 fs := by
  apply List.ext_getElem?
  intro j
  rw [List.getElem?_set, cF_get, cF_get, cF_len]
  have hi : i < fs.length := (List.getElem?_eq_some_iff.mp h).1
  by_cases e : i = j
  · subst e; rw [h]; simp [hi, fV, sI, upd]
  · rw [if_neg e]
    cases hf : fs[j]? with
    | none => rfl
    | some f =>
      have e' : j ≠ i := fun q => e q.symm
      rcases f with _ | _ | _ | r <;> simp [fV, sI, upd, e']
theorem cF_setL {al : Nat → Nat} {σ : St} {k i : Nat} {fs : List Fk} (h : fs[i]? = some (some none)) (v : Int64) : (cF al σ k 0 fs).set i (.long v) = cF al (sL σ k i v) k 0 fs := by
  apply List.ext_getElem?
  intro j
  rw [List.getElem?_set, cF_get, cF_get, cF_len]
  have hi : i < fs.length := (List.getElem?_eq_some_iff.mp h).1
  by_cases e : i = j
  · subst e; rw [h]; simp [hi, fV, sL, vp_updL]
  · rw [if_neg e]
    cases hf : fs[j]? with
    | none => rfl
    | some f =>
      have e' : j ≠ i := fun q => e q.symm
      rcases f with _ | _ | _ | r <;> simp [fV, sL, vp_updL, e']
theorem cF_setR {al : Nat → Nat} {σ : St} {k i : Nat} {fs : List Fk} (hi : i < fs.length) (r : Nat) : (cF al σ k 0 fs).set i (.ref (al r)) = cF al σ k 0 (fs.set i (some (some (some r)))) := by
  apply List.ext_getElem?
  intro j
  rw [List.getElem?_set, cF_get, cF_get, cF_len, List.getElem?_set]
  by_cases e : i = j
  · subst e; simp [hi, fV]
  · rw [if_neg e, if_neg e]
def oth (k : Nat) (σ τ : St) : Prop := ∀ a, a ≠ k → τ.1 a = σ.1 a ∧ τ.2 a = σ.2 a
theorem oth_I (σ : St) (k i : Nat) (v : Int32) : oth k σ (sI σ k i v) := fun a h => by simp [sI, h]
theorem oth_L (σ : St) (k i : Nat) (v : Int64) : oth k σ (sL σ k i v) := fun a h => by simp [sL, h]
theorem oth_Lf (σ : St) (k : Nat) (f : Nat → Int64) : oth k σ (sLf σ k f) := fun a h => by simp [sLf, h]
theorem cF_oth {al : Nat → Nat} {σ τ : St} {a : Nat} (h : τ.1 a = σ.1 a ∧ τ.2 a = σ.2 a) : ∀ (fs : List Fk) (j : Nat), cF al τ a j fs = cF al σ a j fs
  | [], _ => rfl
  | f :: fs, j => by
    rw [cF, cF, cF_oth h fs (j + 1)]
    rcases f with _ | _ | _ | r <;> simp [fV, h.1, h.2]
theorem cE_oth {cA : Nat → ClassId} {al : Nat → Nat} {σ τ : St} {a : Nat} (h : τ.1 a = σ.1 a ∧ τ.2 a = σ.2 a) (d : Kd) : cE cA al τ a d = cE cA al σ a d := by
  rcases d with ⟨t, n, rs⟩ | ⟨ci, fs⟩
  · rcases t with _ | _ | _ | t <;> simp [cE, h.1, h.2]
  · simp [cE, cF_oth h]
theorem pic_set {cA : Nat → ClassId} {al : Nat → Nat} {σ τ : St} {sh : List Kd} {k : Nat} {d : Kd} (h : sh[k]? = some d) (ho : oth k σ τ) {x : va_E} (hx : x = cE cA al τ k d) : (pic cA al sh σ).set k (al k, x) = pic cA al sh τ := by
  subst hx
  apply List.ext_getElem?
  intro j
  rw [List.getElem?_set, pI_get, pI_get]
  by_cases e : k = j
  · subst e
    have hl : k < (pI cA al σ 0 sh).length := by
      have := pic_get (cA := cA) (al := al) (σ := σ) h
      exact (List.getElem?_eq_some_iff.mp this).1
    simp [h, hl]
  · rw [if_neg e]
    cases hf : sh[j]? with
    | none => rfl
    | some d2 =>
      have := cE_oth (cA := cA) (al := al) (ho j (fun q => e q.symm)) d2
      simp [this]
/-- the shape changes at one cell, not the numbers -/
theorem pic_shape {cA : Nat → ClassId} {al : Nat → Nat} {σ : St} {sh : List Kd} {k : Nat} {d2 : Kd} (hk : k < sh.length) {x : va_E} (hx : x = cE cA al σ k d2) : (pic cA al sh σ).set k (al k, x) = pic cA al (sh.set k d2) σ := by
  subst hx
  apply List.ext_getElem?
  intro j
  rw [List.getElem?_set, pI_get, pI_get, List.getElem?_set]
  by_cases e : k = j
  · subst e
    have hl : k < (pI cA al σ 0 sh).length := by
      have := pic_get (cA := cA) (al := al) (σ := σ) (List.getElem?_eq_getElem hk)
      exact (List.getElem?_eq_some_iff.mp this).1
    simp [hk, hl]
  · rw [if_neg e, if_neg e]
abbrev tysW (cA : Nat → ClassId) : List (ClassId × FieldType) := [(cA 0, .int), (cA 1, .long), (cA 2, .boolean), (cA 3, .object "LockWatch$Row")]
def nwF : List (String × Nat × String × String × String) := [(RX8, 103, "LockWatch$Row", "heldToRead", "[I"), (RX8, 106, "LockWatch$Row", "code", "[I"), (RX8, 164, "LockWatch$Rings", "size", "I"), (RX8, 172, "LockWatch$Rings", "tally", "[I"), (RX8, 175, "LockWatch$Rings", "least", "I"), (RX8, 188, "LockWatch$Seen", "size", "I"), (RX8, 220, "LockWatch$Chances", "whole", "J"), (RX8, 236, "LockWatch$Row", "world", "LLockWatch$World;"), (RX8, 240, "LockWatch$World", "started", "I"), (RX8, 245, "LockWatch$World", "ended", "I"), (RX8, 70, "LockWatch$Text", "length", "I"), (RX8, 82, "LockWatch$Acts", "size", "I"), (RX8, 85, "LockWatch$Row", "size", "I"), (RX8, 99, "LockWatch$Row", "heldToWrite", "[I"), (RX1, 24, "LockWatch$Row", "guards", "[I"), (RX1, 28, "LockWatch$Row", "size", "I"), (RX2, 30, "LockWatch$Row", "size", "I"), (RX3, 34, "LockWatch$Row", "size", "I"), (RX3, 76, "LockWatch$Row", "heldToRead", "[I"), (RX3, 79, "LockWatch$Row", "heldToWrite", "[I"), (RX4, 58, "LockWatch$World", "toWrite", "[I"), (RX4, 61, "LockWatch$World", "toRead", "[I"), (RX5, 32, "LockWatch$Row", "size", "I"), (RX6, 28, "LockWatch$Row", "size", "I"), (RX6, 31, "LockWatch$Row", "world", "LLockWatch$World;")]
def NW (U : State) : Prop := (∀ q ∈ nwF, va_Nw (.fieldLinkNest q.1 q.2.1 q.2.2.1 q.2.2.2.1 q.2.2.2.2 "LockWatch") U) ∧ va_Nw (.methodLinkNest RX6 49 yX8_isOneOfFour RX8) U
def fDO (j : Nat) : Int64 := ([1, 10000, 100000000, 1000000000000, 10000000000000000] : List Int64).getD j 0
def fOR (j : Nat) : Int32 := ([6, 2, 2, 6] : List Int32).getD j 0
def SX (al : Nat → Nat) (A : Nat → Prop) (U : State) (H : Heap) : Prop := va_Z "LockWatch" "DOINGS" "[J" (.ref (al 1000)) A U H ∧ va_T .long (al 1000) 5 (fun j => .long (fDO j)) A U H ∧ va_Z "LockWatch" "ORDERS" "[I" (.ref (al 1001)) A U H ∧ va_T .int (al 1001) 4 (fun j => .int (fOR j)) A U H
def AW (al : Nat → Nat) (sh : List Kd) (sz : Nat) : Nat → Prop := fun q => (∃ k, k < sh.length ∧ q = al k) ∨ sz ≤ q
def WPre (dC : Nat → ClassId) (dI : Nat → Nat → Nat) (cA : Nat → ClassId) (al : Nat → Nat) (sh : List Kd) (σ : St) (sz : Nat) (U : State) : Prop := U.heap.size = sz ∧ va_P (dC, dI) vwCl (pic cA al sh σ) U.heap ∧ va_K (dC, dI) vwCl (tysW cA) U ∧ va_D (fun _ => True) (pic cA al sh σ) ∧ NW U ∧ SX al (AW al sh sz) U U.heap
def WPost (dC : Nat → ClassId) (dI : Nat → Nat → Nat) (cA : Nat → ClassId) (al : Nat → Nat) (sh : List Kd) (A : Nat → Prop) (σ : St) (t : State) : Prop := va_P (dC, dI) vwCl (pic cA al sh σ) t.heap ∧ va_D A (pic cA al sh σ)
def wd (y : MethodName) (bytes : ByteArray) (maxL : Nat) (ret : Option FieldType) : List Cond := Cond.code y bytes maxL ret :: wsG
abbrev RM (d : Nat) : Room := { frames := d, cells := 0, slots := 0, locals := 40 * d }
theorem NW.warm {s U : State} (hW : s.WarmedH U.vm) (h : NW s) : NW U := ⟨fun q hq => va_Nw.warmF hW (h.1 q hq), va_Nw.warmM hW h.2⟩
theorem NW.same {s U : State} (hv : s.vm = U.vm) (h : NW s) : NW U := ⟨fun q hq => va_Nw.same rfl hv (h.1 q hq), va_Nw.same rfl hv h.2⟩
theorem gd_mem {w : Cond} (h : w ∈ wsG) : w ∈ wsG ∧ ((w.onTables && w.keeps) = true ∨ ∃ ty, w = .arrayClass ty) := ⟨h, good_of_word (List.mem_filter.mp h).2⟩
theorem gd_wd {y : MethodName} {bytes : ByteArray} {maxL : Nat} {ret : Option FieldType} (h5 : Cond.code y bytes maxL ret ∈ wsG) : GoodIn wsG (wd y bytes maxL ret) := fun w hw => (List.mem_cons.mp hw).elim (fun e => e ▸ gd_mem h5) gd_mem
theorem gd_V {own C : String} {idx : Nat} {y : MethodName} {bytes : ByteArray} {maxL : Nat} {ret : Option FieldType} (h1 : Cond.methodLink own idx y ∈ wsG) (h2 : Cond.instanceMethod y ∈ wsG) (h3 : Cond.selects C y y ∈ wsG) (h4 : Cond.initialized C ∈ wsG) (h5 : Cond.code y bytes maxL ret ∈ wsG) : GoodIn wsG (wsV own idx C y (wd y bytes maxL ret)) := by
  intro w hw
  rcases List.mem_append.mp hw with h | h
  · simp only [List.mem_cons, List.not_mem_nil, or_false] at h
    rcases h with rfl | rfl | rfl | rfl
    · exact gd_mem h1
    · exact gd_mem h2
    · exact gd_mem h3
    · exact gd_mem h4
  · exact gd_wd h5 w h
theorem gd_S {own : String} {idx : Nat} {y : MethodName} {bytes : ByteArray} {maxL : Nat} {ret : Option FieldType} (h1 : Cond.methodLink own idx y ∈ wsG) (h2 : Cond.static y ∈ wsG) (h4 : Cond.initialized y.cls ∈ wsG) (h5 : Cond.code y bytes maxL ret ∈ wsG) : GoodIn wsG (va_wsS own idx y (wd y bytes maxL ret)) := by
  intro w hw
  rcases List.mem_append.mp hw with h | h
  · simp only [List.mem_cons, List.not_mem_nil, or_false] at h
    rcases h with rfl | rfl | rfl
    · exact gd_mem h1
    · exact gd_mem h2
    · exact gd_mem h4
  · exact gd_wd h5 w h
theorem wpre_blind {dC : Nat → ClassId} {dI : Nat → Nat → Nat} {cA : Nat → ClassId} {al : Nat → Nat} {sh : List Kd} {σ : St} {sz : Nat} {av : List Value} : FrameBlind (va_Pc av (WPre dC dI cA al sh σ sz)) := fun a U g mk q => by
  obtain ⟨q0, q1, qP, qK, qD, qN, z1, z2, z3, z4⟩ := q
  exact ⟨q0, q1, qP, va_K.moved (u := U) (U := U.calling g mk a) (Vm.Alike.refl U.vm) qK, qD, NW.same (s := U) (U := U.calling g mk a) rfl qN, va_Z.moved (u := U) (U := U.calling g mk a) (Vm.Alike.refl U.vm) z1, va_T.moved (u := U) (U := U.calling g mk a) (Vm.Alike.refl U.vm) z2, va_Z.moved (u := U) (U := U.calling g mk a) (Vm.Alike.refl U.vm) z3, va_T.moved (u := U) (U := U.calling g mk a) (Vm.Alike.refl U.vm) z4⟩
theorem SX.to {al : Nat → Nat} {A B : Nat → Prop} {s U : State} {H0 H : Heap} (h : SX al A s H0) (hk : ∀ a : Nat, a < H0.size → ¬ A a → H[a]? = H0[a]?) (hAB : ∀ q, B q → A q) (hv : s.vm.Alike U.vm) : SX al B U H :=
  ⟨((h.1.kept hk).narrow hAB).moved hv, ((h.2.1.kept hk).narrow hAB).moved hv, ((h.2.2.1.kept hk).narrow hAB).moved hv, ((h.2.2.2.kept hk).narrow hAB).moved hv⟩
theorem pic_D {cA : Nat → ClassId} {al : Nat → Nat} {sh : List Kd} {σ : St} {A : Nat → Prop} (h : va_D A (pic cA al sh σ)) {k : Nat} (hk : k < sh.length) : A (al k) := h.2 k _ (pic_get (List.getElem?_eq_getElem hk))
theorem pic_D2 {cA : Nat → ClassId} {al : Nat → Nat} {sh : List Kd} {σ τ : St} {A : Nat → Prop} (h : va_D A (pic cA al sh σ)) : va_D A (pic cA al sh τ) := by
  have key : ∀ (k : Nat) (q : Nat × va_E), (pic cA al sh τ)[k]? = some q → ∃ q', (pic cA al sh σ)[k]? = some q' ∧ q'.1 = q.1 := by
    intro k q hq
    rw [pI_get] at hq
    cases hf : sh[k]? with
    | none => rw [hf] at hq; cases hq
    | some d => rw [hf] at hq; cases hq; exact ⟨_, pic_get hf, by simp⟩
  refine ⟨fun i j x y hi hj hxy => ?_, fun k q hk => ?_⟩
  · obtain ⟨a, h1, h2⟩ := key i x hi
    obtain ⟨b, h3, h4⟩ := key j y hj
    exact h.1 i j a b h1 h3 (by rw [h2, h4, hxy])
  · obtain ⟨a, h1, h2⟩ := key k q hk
    rw [← h2]; exact h.2 k a h1
theorem lv_args_map (al : Nat → Nat) : ∀ (vs : List Value) (i : Nat), lv_args i (vs.map (cv al)) = (lv_args i vs).map (cp al)
  | [], _ => rfl
  | v :: vs, i => by
    simp only [List.map_cons, lv_args, cv_cat, lv_args_map al vs]
    rfl
