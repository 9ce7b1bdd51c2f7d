/-! ===== traces, as mathematics ===== -/
abbrev Tp : Type := Nat × Nat × Nat
abbrev Tr : Type := List Tp
def th (T : Tr) (k : Nat) : Nat := (T.getD k (0, 0, 0)).1
def sg (T : Tr) (k : Nat) : Nat := (T.getD k (0, 0, 0)).2.1
def ab (T : Tr) (k : Nat) : Nat := (T.getD k (0, 0, 0)).2.2
/-- what the four threads hold to write, to read; the started, the ended -/
abbrev W4 : Type := (Nat → Int32) × (Nat → Int32) × Int32 × Int32
def w0 : W4 := (fun _ => 0, fun _ => 0, 1, 0)
def wgo (w : W4) (t g o : Nat) : W4 :=
  if g = 0 then (upd w.1 t (w.1 t ||| bitI o), w.2)
  else if g = 1 then (w.1, upd w.2.1 t (w.2.1 t ||| bitI o), w.2.2)
  else if g = 2 then (upd w.1 t (w.1 t &&& (bitI o ^^^ (-1))), upd w.2.1 t (w.2.1 t &&& (bitI o ^^^ (-1))), w.2.2)
  else if g = 5 then (w.1, w.2.1, w.2.2.1 ||| bitI o, w.2.2.2)
  else if g = 6 then (w.1, w.2.1, w.2.2.1, w.2.2.2 ||| bitI o)
  else w
def wrun (w : W4) (t : Nat) : Bool := bt w.2.2.1 t && !bt w.2.2.2 t
def aw (w : W4) : Int32 := ((w.1 0 ||| w.1 1) ||| w.1 2) ||| w.1 3
def ar (w : W4) : Int32 := ((w.2.1 0 ||| w.2.1 1) ||| w.2.1 2) ||| w.2.1 3
def wmay (w : W4) (t g o : Nat) : Bool :=
  if g = 0 then !bt (aw w ||| ar w) o
  else if g = 1 then !bt (aw w ||| w.2.1 t) o
  else if g = 2 then bt (w.1 t ||| w.2.1 t) o
  else if g < 5 then true
  else if g = 5 then !bt w.2.2.1 o
  else decide (o ≠ t) && wrun w o && decide ((w.1 o ||| w.2.1 o) = 0)
def wany (w : W4) (t g : Nat) : Bool := wmay w t g 0 || wmay w t g 1 || wmay w t g 2 || wmay w t g 3
def okS (w : W4) (t g o : Nat) : Bool := wrun w t && wmay w t g o
def wl (T : Tr) : Nat → W4
  | 0 => w0
  | k + 1 => wgo (wl T k) (th T k) (sg T k) (ab T k)
def Val (T : Tr) : Prop := ∀ k, k < T.length → th T k < 4 ∧ sg T k < 7 ∧ ab T k < 4 ∧ okS (wl T k) (th T k) (sg T k) (ab T k) = true
/-- the world of a store: arrays a, b, scalars s i, s j -/
def WR (σ : St) (a b s i j : Nat) (w : W4) : Prop := (∀ t, t < 4 → σ.1 a t = w.1 t) ∧ (∀ t, t < 4 → σ.1 b t = w.2.1 t) ∧ σ.1 s i = w.2.2.1 ∧ σ.1 s j = w.2.2.2
abbrev WM (σ : St) (w : W4) : Prop := WR σ 62 63 61 2 3 w
abbrev WC (v : Nat) (σ : St) (w : W4) : Prop := WR σ (v + 1) (v + 2) v 0 1 w
theorem getD_app_lt {α : Type} (l m : List α) (d : α) {k : Nat} (h : k < l.length) : (l ++ m).getD k d = l.getD k d := by
  simp [List.getD_eq_getElem?_getD, List.getElem?_append_left h]
theorem th_app (T U : Tr) {k : Nat} (h : k < T.length) : th (T ++ U) k = th T k := by unfold th; rw [getD_app_lt _ _ _ h]
theorem sg_app (T U : Tr) {k : Nat} (h : k < T.length) : sg (T ++ U) k = sg T k := by unfold sg; rw [getD_app_lt _ _ _ h]
theorem ab_app (T U : Tr) {k : Nat} (h : k < T.length) : ab (T ++ U) k = ab T k := by unfold ab; rw [getD_app_lt _ _ _ h]
theorem wl_app (T U : Tr) : ∀ {k : Nat}, k ≤ T.length → wl (T ++ U) k = wl T k
  | 0, _ => rfl
  | k + 1, h => by
    show wgo (wl (T ++ U) k) _ _ _ = wgo (wl T k) _ _ _
    rw [wl_app T U (Nat.le_of_succ_le h), th_app T U h, sg_app T U h, ab_app T U h]
theorem th_last (T : Tr) (s : Tp) : th (T ++ [s]) T.length = s.1 := by simp [th, List.getD_eq_getElem?_getD]
theorem sg_last (T : Tr) (s : Tp) : sg (T ++ [s]) T.length = s.2.1 := by simp [sg, List.getD_eq_getElem?_getD]
theorem ab_last (T : Tr) (s : Tp) : ab (T ++ [s]) T.length = s.2.2 := by simp [ab, List.getD_eq_getElem?_getD]
theorem Val_app {T : Tr} {s : Tp} (h : Val T) (h1 : s.1 < 4) (h2 : s.2.1 < 7) (h3 : s.2.2 < 4) (h4 : okS (wl T T.length) s.1 s.2.1 s.2.2 = true) : Val (T ++ [s]) := by
  intro k hk
  rw [List.length_append, List.length_singleton] at hk
  rcases Nat.lt_or_ge k T.length with q | q
  · rw [th_app T _ q, sg_app T _ q, ab_app T _ q, wl_app T _ (Nat.le_of_lt q)]
    exact h k q
  · have e : k = T.length := by omega
    subst e
    rw [th_last, sg_last, ab_last, wl_app T _ (Nat.le_refl _)]
    exact ⟨h1, h2, h3, h4⟩
theorem Val_pre {T U : Tr} (h : Val (T ++ U)) : Val T := by
  intro k hk
  have := h k (by rw [List.length_append]; omega)
  rwa [th_app T _ hk, sg_app T _ hk, ab_app T _ hk, wl_app T _ (Nat.le_of_lt hk)] at this
