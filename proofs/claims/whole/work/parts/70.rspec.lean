/-! ===== rings, as mathematics ===== -/
abbrev RS : Type := (Nat → Int32) × Int32
def fldN {S : Type} (g : Nat → S → S) : Nat → S → S
  | 0, s => s
  | n + 1, s => g n (fldN g n s)
theorem fldN_congr {S : Type} {g g2 : Nat → S → S} : ∀ {n : Nat} (s : S), (∀ i, i < n → ∀ s, g i s = g2 i s) → fldN g n s = fldN g2 n s
  | 0, _, _ => rfl
  | n + 1, s, h => by rw [fldN, fldN, fldN_congr s (fun i hi s => h i (by omega) s), h n (by omega)]
theorem fldN_id {S : Type} {g : Nat → S → S} : ∀ {n : Nat} (s : S), (∀ i, i < n → ∀ s, g i s = s) → fldN g n s = s
  | 0, _, _ => rfl
  | n + 1, s, h => by rw [fldN, h n (by omega), fldN_id s (fun i hi s => h i (by omega) s)]
def ea (T : Tr) (j : Nat) : Nat := (Eat (EL T) j).1
def ef (T : Tr) (j : Nat) : Nat := (Eat (EL T) j).2.1
def et (T : Tr) (j : Nat) : Nat := (Eat (EL T) j).2.2
def eh (T : Tr) (j : Nat) : Nat := th T (ea T j)
def lk (T : Tr) (i j : Nat) : Bool := decide (et T i = ef T j) && !(decide (sg T (ea T i) = 1) && bt (hr T (ea T j)) (ef T j))
/-! pairs of a ring's steps -/
def pin (p : Nat → Nat → Bool) (i : Nat) (b : Bool) : Nat → Bool
  | 0 => b
  | j + 1 => pin p i b j || p i j
def pou (p : Nat → Nat → Bool) (n : Nat) : Nat → Bool
  | 0 => false
  | i + 1 => pin p i (pou p n i) n
theorem pin_iff (p : Nat → Nat → Bool) (i : Nat) (b : Bool) : ∀ n, pin p i b n = true ↔ (b = true ∨ ∃ j, j < n ∧ p i j = true)
  | 0 => by simp [pin]
  | n + 1 => by
    rw [pin, Bool.or_eq_true, pin_iff p i b n]
    constructor
    · rintro ((h | ⟨j, h1, h2⟩) | h)
      · exact Or.inl h
      · exact Or.inr ⟨j, by omega, h2⟩
      · exact Or.inr ⟨n, by omega, h⟩
    · rintro (h | ⟨j, h1, h2⟩)
      · exact Or.inl (Or.inl h)
      · by_cases e : j = n
        · subst e; exact Or.inr h2
        · exact Or.inl (Or.inr ⟨j, by omega, h2⟩)
theorem pou_iff (p : Nat → Nat → Bool) (n : Nat) : ∀ m, pou p n m = true ↔ ∃ i j, i < m ∧ j < n ∧ p i j = true
  | 0 => by simp [pou]
  | m + 1 => by
    rw [pou, pin_iff, pou_iff p n m]
    constructor
    · rintro (⟨i, j, h1, h2, h3⟩ | ⟨j, h2, h3⟩)
      · exact ⟨i, j, by omega, h2, h3⟩
      · exact ⟨m, j, by omega, h2, h3⟩
    · rintro ⟨i, j, h1, h2, h3⟩
      by_cases e : i = m
      · subst e; exact Or.inr ⟨j, h2, h3⟩
      · exact Or.inl ⟨i, j, by omega, h2, h3⟩
abbrev cg (ch : List Nat) (j : Nat) : Nat := ch.getD j 0
def hd (T : Tr) (k : Nat) : Int32 := hw T k ||| hr T k
/-- the class's pairs -/
def gC (T : Tr) (ch : List Nat) (i j : Nat) : Bool := decide (i ≠ j) && !decide ((hw T (ea T (cg ch i)) &&& hd T (ea T (cg ch j))) = 0)
def oC (T : Tr) (ch : List Nat) (i j : Nat) : Bool := bt (bf T (ea T (cg ch j))) (ea T (cg ch i))
/-- the reference's -/
def gM (T : Tr) (ch : List Nat) (i j : Nat) : Bool := decide (i ≠ j) && !decide (((hd T (ea T (cg ch i)) &&& hd T (ea T (cg ch j))) &&& (hw T (ea T (cg ch i)) ||| hw T (ea T (cg ch j)))) = 0)
def oM (T : Tr) (ch : List Nat) (i j : Nat) : Bool := bt (bf T (ea T (cg ch i))) (ea T (cg ch j))
theorem nz_iff (x : Int32) : ¬ x = 0 ↔ ∃ i, i < 32 ∧ bt x i = true := by
  constructor
  · intro h
    refine Classical.byContradiction (fun q => h (b_ext (fun i hi => ?_)))
    rw [b_0]
    cases e : bt x i
    · rfl
    · exact absurd ⟨i, hi, e⟩ q
  · rintro ⟨i, _, h⟩ rfl
    rw [b_0] at h; cases h
theorem pou_swap {p q : Nat → Nat → Bool} {n : Nat} (h : ∀ i j, i < n → j < n → ((p i j = true → (q i j = true ∨ q j i = true)) ∧ (q i j = true → (p i j = true ∨ p j i = true)))) : pou p n n = pou q n n := by
  rw [Bool.eq_iff_iff, pou_iff, pou_iff]
  constructor
  · rintro ⟨i, j, h1, h2, h3⟩
    rcases (h i j h1 h2).1 h3 with w | w
    · exact ⟨i, j, h1, h2, w⟩
    · exact ⟨j, i, h2, h1, w⟩
  · rintro ⟨i, j, h1, h2, h3⟩
    rcases (h i j h1 h2).2 h3 with w | w
    · exact ⟨i, j, h1, h2, w⟩
    · exact ⟨j, i, h2, h1, w⟩
theorem gCM (T : Tr) (ch : List Nat) (n : Nat) : pou (gC T ch) n n = pou (gM T ch) n n := by
  refine pou_swap (fun i j _ _ => ⟨fun h => ?_, fun h => ?_⟩)
  · left
    simp only [gC, gM, Bool.and_eq_true, Bool.not_eq_true', decide_eq_false_iff_not, decide_eq_true_eq] at h ⊢
    refine ⟨h.1, ?_⟩
    obtain ⟨k, hk, q⟩ := (nz_iff _).mp h.2
    refine (nz_iff _).mpr ⟨k, hk, ?_⟩
    rw [b_and, Bool.and_eq_true] at q
    have q3 : bt (hd T (ea T (cg ch i))) k = true := by unfold hd; rw [b_or, q.1]; rfl
    rw [b_and, b_and, b_or, q.1, q.2, q3]
    rfl
  · simp only [gC, gM, Bool.and_eq_true, Bool.not_eq_true', decide_eq_false_iff_not, decide_eq_true_eq] at h ⊢
    obtain ⟨k, hk, q⟩ := (nz_iff _).mp h.2
    rw [b_and, b_and, Bool.and_eq_true, Bool.and_eq_true, b_or, Bool.or_eq_true] at q
    rcases q.2 with w | w
    · left; exact ⟨h.1, (nz_iff _).mpr ⟨k, hk, by rw [b_and, w, q.1.2]; rfl⟩⟩
    · right; exact ⟨fun e => h.1 e.symm, (nz_iff _).mpr ⟨k, hk, by rw [b_and, w, q.1.1]; rfl⟩⟩
theorem oCM (T : Tr) (ch : List Nat) (n : Nat) : pou (oC T ch) n n = pou (oM T ch) n n := pou_swap (fun _ _ _ _ => ⟨fun h => Or.inr h, fun h => Or.inr h⟩)
def rnum (T : Tr) (ch : List Nat) : Nat → Nat
  | 0 => 0
  | j + 1 => rnum T ch j * 100 + ea T (cg ch j) + 1
def i01 (b : Bool) : Int32 := if b then 1 else 0
def lst (x y : Int32) : Int32 := if x = -9 then y else if y < x then y else x
def tak (T : Tr) (ch : List Nat) (s : RS) : RS :=
  let n := ch.length
  let g := pou (gC T ch) n n
  let o := pou (oC T ch) n n
  (fun k => if k = 4 * n then s.1 k + 1 else if k = 4 * n + 1 then s.1 k + i01 g else if k = 4 * n + 2 then s.1 k + i01 o else if k = 4 * n + 3 ∧ g = false ∧ o = false then s.1 k + 1 else s.1 k,
   if g = false ∧ o = false then lst s.2 (nI (rnum T ch n)) else s.2)
/-! the class's way -/
def lat (T : Tr) (ch : List Nat) (i : Nat) : Bool := decide (ea T (cg ch 0) < ea T i) && ch.all (fun x => decide (eh T x ≠ eh T i))
def lfr (T : Tr) (ch : List Nat) (i : Nat) : Bool := ch.all (fun x => decide (ef T x ≠ et T i))
abbrev cl (ch : List Nat) : Nat := cg ch (ch.length - 1)
def gw (T : Tr) : Nat → List Nat → RS → RS
  | 0 => fun _ s => s
  | f + 1 => fun ch s => fldN (fun i s => if lat T ch i && lk T (cl ch) i then (if lk T i (cg ch 0) then tak T (ch ++ [i]) s else if lfr T ch i then gw T f (ch ++ [i]) s else s) else s) (EL T).length s
/-! the reference's way -/
def unl (T : Tr) (ch : List Nat) (i : Nat) : Bool := ch.all (fun x => decide (et T x ≠ et T i) && decide (eh T x ≠ eh T i))
def gon (T : Tr) (ch : List Nat) (i : Nat) : Bool := decide (cg ch 0 < i) && (lk T (cl ch) i && unl T ch i)
def gr (T : Tr) : Nat → List Nat → RS → RS
  | 0 => fun _ s => s
  | f + 1 => fun ch s => fldN (fun i s => if gon T ch i then gr T f (ch ++ [i]) (if lk T i (cg ch 0) then tak T (ch ++ [i]) s else s) else s) (EL T).length s
def rs0 : RS := (fun _ => 0, -9)
def RC (T : Tr) : RS := fldN (fun a s => gw T 3 [a] s) (EL T).length rs0
def RgR (T : Tr) : RS := fldN (fun a s => gr T 3 [a] s) (EL T).length rs0
theorem cg_app0 (ch : List Nat) (i : Nat) (h : ch ≠ []) : cg (ch ++ [i]) 0 = cg ch 0 := by
  cases ch with
  | nil => exact absurd rfl h
  | cons a l => rfl
theorem cg_app (ch : List Nat) (i : Nat) {j : Nat} (h : j < ch.length) : cg (ch ++ [i]) j = cg ch j := by
  unfold cg; rw [List.getD_eq_getElem?_getD, List.getD_eq_getElem?_getD, List.getElem?_append_left h]
theorem cg_last (ch : List Nat) (i : Nat) : cg (ch ++ [i]) ch.length = i := by
  simp [cg, List.getD_eq_getElem?_getD]
theorem cl_app (ch : List Nat) (i : Nat) : cl (ch ++ [i]) = i := by
  simp [cl, cg, List.getD_eq_getElem?_getD]
theorem lk_to {T : Tr} {i j : Nat} (h : lk T i j = true) : et T i = ef T j := by
  rw [lk, Bool.and_eq_true, decide_eq_true_eq] at h; exact h.1
/-- past an edge that goes to where the first one is from there are no rings -/
theorem gr_dead (T : Tr) : ∀ (f : Nat) (ch : List Nat) (s : RS), ch ≠ [] → (∃ x, x ∈ ch ∧ et T x = ef T (cg ch 0)) → gr T f ch s = s
  | 0, _, _, _, _ => rfl
  | f + 1, ch, s, hne, ⟨x, hx, hxe⟩ => by
    rw [gr]
    refine fldN_id s (fun i hi s => ?_)
    cases hg : gon T ch i
    · rfl
    · rw [if_pos rfl]
      have hl : lk T i (cg ch 0) = false := by
        cases h : lk T i (cg ch 0)
        · rfl
        · have w := lk_to h
          rw [gon, Bool.and_eq_true, Bool.and_eq_true] at hg
          have u := hg.2.2
          rw [unl, List.all_eq_true] at u
          have := u x hx
          rw [Bool.and_eq_true, decide_eq_true_eq] at this
          exact absurd (hxe.trans w.symm) this.1
      rw [hl, if_neg (by simp)]
      exact gr_dead T f (ch ++ [i]) s (by simp) ⟨x, List.mem_append_left _ hx, by rw [cg_app0 _ _ hne]; exact hxe⟩
/-! the order of edges -/
theorem er_pw (T : Tr) (k : Nat) (l : List Tp) (h : l.Pairwise (fun x y => x.1 ≤ y.1)) (hl : ∀ x, x ∈ l → x.1 ≤ k) : ∀ o, (er T k l o).Pairwise (fun x y => x.1 ≤ y.1) ∧ ∀ x, x ∈ er T k l o → x.1 ≤ k
  | 0 => ⟨h, hl⟩
  | o + 1 => by
    have ih := er_pw T k l h hl o
    rw [er]
    split
    · refine ⟨List.pairwise_append.mpr ⟨ih.1, List.pairwise_singleton _ _, fun x hx y hy => ?_⟩, fun x hx => ?_⟩
      · rw [List.mem_singleton] at hy; subst hy; exact ih.2 x hx
      · rw [List.mem_append, List.mem_singleton] at hx
        rcases hx with hx | rfl
        · exact ih.2 x hx
        · exact Nat.le_refl _
    · exact ih
theorem el_pw (T : Tr) : ∀ k, (el T k).Pairwise (fun x y => x.1 ≤ y.1)
  | 0 => List.Pairwise.nil
  | k + 1 => (er_pw T k (el T k) (el_pw T k) (fun x hx => by have := (el_ok T k x hx).1; omega) 4).1
theorem ea_mono (T : Tr) {i j : Nat} (h : i ≤ j) (hj : j < (EL T).length) : ea T i ≤ ea T j := by
  rcases Nat.lt_or_ge i j with q | q
  · have := List.pairwise_iff_getElem.mp (el_pw T T.length) i j (Nat.lt_trans q hj) hj q
    unfold ea Eat
    rw [List.getD_eq_getElem?_getD, List.getD_eq_getElem?_getD, List.getElem?_eq_getElem hj, List.getElem?_eq_getElem (Nat.lt_trans q hj)]
    exact this
  · have e : i = j := by omega
    subst e; exact Nat.le_refl _
theorem aw_sub {w : W4} {t o : Nat} (ht : t < 4) (h : bt (w.1 t) o = true) : bt (aw w) o = true := by
  unfold aw
  rw [b_or, b_or, b_or]
  have : t = 0 ∨ t = 1 ∨ t = 2 ∨ t = 3 := by omega
  rcases this with rfl | rfl | rfl | rfl <;> simp [h]
theorem ar_sub {w : W4} {t o : Nat} (ht : t < 4) (h : bt (w.2.1 t) o = true) : bt (ar w) o = true := by
  unfold ar
  rw [b_or, b_or, b_or]
  have : t = 0 ∨ t = 1 ∨ t = 2 ∨ t = 3 := by omega
  rcases this with rfl | rfl | rfl | rfl <;> simp [h]
/-- nobody takes what it has -/
theorem ef_ne_et {T : Tr} (hV : Val T) {j : Nat} (h : j < (EL T).length) : ef T j ≠ et T j := by
  obtain ⟨h1, h2, h3, h4⟩ := Eat_ok T h
  intro e
  unfold ef et at e
  rw [h4] at e
  obtain ⟨v1, v2, v3, v4⟩ := hV _ h1
  rw [edg, Bool.and_eq_true, decide_eq_true_eq, e, b_or, Bool.or_eq_true] at h3
  rw [okS, Bool.and_eq_true] at v4
  have m := v4.2
  have g01 : sg T (Eat (EL T) j).1 = 0 ∨ sg T (Eat (EL T) j).1 = 1 := by omega
  rcases g01 with g | g
  · rw [g] at m
    simp only [wmay, if_true, Bool.not_eq_true'] at m
    rw [b_or, Bool.or_eq_false_iff] at m
    rcases h3.2 with w | w
    · have := aw_sub v1 w; rw [m.1] at this; cases this
    · have := ar_sub v1 w; rw [m.2] at this; cases this
  · rw [g] at m
    simp only [wmay, if_true, Bool.not_eq_true', Nat.succ_ne_zero, if_false] at m
    rw [b_or, Bool.or_eq_false_iff] at m
    rcases h3.2 with w | w
    · have := aw_sub v1 w; rw [m.1] at this; cases this
    · have w2 : bt ((wl T (Eat (EL T) j).1).2.1 (th T (Eat (EL T) j).1)) (ab T (Eat (EL T) j).1) = true := w
      rw [m.2] at w2; cases w2
/-- a chain in the making -/
def Gd (T : Tr) (ch : List Nat) : Prop := ch ≠ [] ∧ (∀ x, x ∈ ch → x < (EL T).length) ∧ (∀ x, x ∈ ch → et T x = et T (cl ch) ∨ ∃ y, y ∈ ch ∧ ef T y = et T x) ∧ (∀ y, y ∈ ch → ef T y = ef T (cg ch 0) ∨ ∃ x, x ∈ ch ∧ et T x = ef T y) ∧ (∀ y, y ∈ ch → ef T y ≠ et T (cl ch)) ∧ ∀ x, x ∈ ch → et T x ≠ ef T (cg ch 0)
theorem cg_mem {ch : List Nat} {j : Nat} (h : j < ch.length) : cg ch j ∈ ch := by
  unfold cg
  rw [List.getD_eq_getElem?_getD, List.getElem?_eq_getElem h]
  exact List.getElem_mem h
theorem pos_ne {ch : List Nat} (h : ch ≠ []) : 0 < ch.length := by
  cases ch with
  | nil => exact absurd rfl h
  | cons a l => exact Nat.succ_pos _
theorem Gd1 {T : Tr} (hV : Val T) {a : Nat} (h : a < (EL T).length) : Gd T [a] := by
  have e : ∀ x, x ∈ [a] → x = a := fun x hx => List.mem_singleton.mp hx
  refine ⟨by simp, fun x hx => ?_, fun x hx => ?_, fun x hx => ?_, fun x hx => ?_, fun x hx => ?_⟩
  · rw [e x hx]; exact h
  · rw [e x hx]; exact Or.inl rfl
  · rw [e x hx]; exact Or.inl rfl
  · rw [e x hx]; exact ef_ne_et hV h
  · rw [e x hx]; exact fun q => ef_ne_et hV h q.symm
theorem gw_gr {T : Tr} (hV : Val T) : ∀ (f : Nat) (ch : List Nat) (s : RS), Gd T ch → gw T f ch s = gr T f ch s
  | 0, _, _, _ => rfl
  | f + 1, ch, s, hG => by
    rw [gw, gr]
    obtain ⟨g0, g1, g2, g3, g4, g5⟩ := id hG
    have hpos := pos_ne g0
    have m0 : cg ch 0 ∈ ch := cg_mem hpos
    have ml : cl ch ∈ ch := cg_mem (by omega)
    refine fldN_congr s (fun i hi s => ?_)
    have thr : lat T ch i = true ↔ (cg ch 0 < i ∧ ∀ x, x ∈ ch → eh T x ≠ eh T i) := by
      rw [lat, Bool.and_eq_true, decide_eq_true_eq, List.all_eq_true]
      constructor
      · rintro ⟨a, b⟩
        refine ⟨?_, fun x hx => by simpa using b x hx⟩
        refine Nat.lt_of_not_le (fun q => ?_)
        have := ea_mono T q (g1 _ m0)
        omega
      · rintro ⟨a, b⟩
        refine ⟨?_, fun x hx => by simpa using b x hx⟩
        have := ea_mono T (Nat.le_of_lt a) hi
        refine Nat.lt_of_le_of_ne this (fun q => ?_)
        refine b _ m0 ?_
        unfold eh; rw [q]
    have gn : gon T ch i = true ↔ (lat T ch i = true ∧ lk T (cl ch) i = true ∧ ∀ x, x ∈ ch → et T x ≠ et T i) := by
      rw [thr, gon, Bool.and_eq_true, Bool.and_eq_true, decide_eq_true_eq, unl, List.all_eq_true]
      constructor
      · rintro ⟨a, b, c⟩
        refine ⟨⟨a, fun x hx => ?_⟩, b, fun x hx => ?_⟩
        · have := c x hx; rw [Bool.and_eq_true, decide_eq_true_eq, decide_eq_true_eq] at this; exact this.2
        · have := c x hx; rw [Bool.and_eq_true, decide_eq_true_eq, decide_eq_true_eq] at this; exact this.1
      · rintro ⟨⟨a, b⟩, c, d⟩
        exact ⟨a, c, fun x hx => by rw [Bool.and_eq_true, decide_eq_true_eq, decide_eq_true_eq]; exact ⟨d x hx, b x hx⟩⟩
    by_cases hA : lat T ch i = true ∧ lk T (cl ch) i = true
    · have hA2 : (lat T ch i && lk T (cl ch) i) = true := by rw [hA.1, hA.2]; rfl
      rw [if_pos hA2]
      have fi : et T (cl ch) = ef T i := lk_to hA.2
      have nfe := ef_ne_et hV hi
      by_cases hC : lk T i (cg ch 0) = true
      · rw [if_pos hC, if_pos (gn.mpr ⟨hA.1, hA.2, fun x hx => by rw [lk_to hC]; exact g5 x hx⟩), if_pos hC]
        refine (gr_dead T f _ _ (by simp) ⟨i, by simp, ?_⟩).symm
        rw [cg_app0 _ _ g0]; exact lk_to hC
      · rw [if_neg hC]
        by_cases hF : lfr T ch i = true
        · rw [if_pos hF]
          rw [lfr, List.all_eq_true] at hF
          have hF2 : ∀ x, x ∈ ch → ef T x ≠ et T i := fun x hx => by simpa using hF x hx
          have un : ∀ x, x ∈ ch → et T x ≠ et T i := by
            intro x hx q
            rcases g2 x hx with w | ⟨y, hy, w⟩
            · exact nfe (by rw [← fi, ← w, q])
            · exact hF2 y hy (w.trans q)
          rw [if_pos (gn.mpr ⟨hA.1, hA.2, un⟩), if_neg hC]
          refine gw_gr hV f (ch ++ [i]) s ⟨by simp, fun x hx => ?_, fun x hx => ?_, fun y hy => ?_, fun y hy => ?_, fun x hx => ?_⟩
          · rw [List.mem_append, List.mem_singleton] at hx
            rcases hx with hx | rfl
            · exact g1 x hx
            · exact hi
          · rw [List.mem_append, List.mem_singleton] at hx
            rw [cl_app]
            rcases hx with hx | rfl
            · right
              rcases g2 x hx with w | ⟨y, hy, w⟩
              · exact ⟨i, by simp, by rw [w, fi]⟩
              · exact ⟨y, List.mem_append_left _ hy, w⟩
            · exact Or.inl rfl
          · rw [List.mem_append, List.mem_singleton] at hy
            rw [cg_app0 _ _ g0]
            rcases hy with hy | rfl
            · rcases g3 y hy with w | ⟨x, hx, w⟩
              · exact Or.inl w
              · exact Or.inr ⟨x, List.mem_append_left _ hx, w⟩
            · exact Or.inr ⟨cl ch, List.mem_append_left _ ml, fi⟩
          · rw [List.mem_append, List.mem_singleton] at hy
            rw [cl_app]
            rcases hy with hy | rfl
            · exact hF2 y hy
            · exact nfe
          · rw [List.mem_append, List.mem_singleton] at hx
            rw [cg_app0 _ _ g0]
            rcases hx with hx | rfl
            · exact g5 x hx
            · exact fun q => hF2 _ m0 q.symm
        · rw [if_neg hF]
          have : ∃ y, y ∈ ch ∧ ef T y = et T i := by
            refine Classical.byContradiction (fun q => hF ?_)
            rw [lfr, List.all_eq_true]
            intro x hx
            have : ef T x ≠ et T i := fun w => q ⟨x, hx, w⟩
            simpa using this
          obtain ⟨y, hy, hye⟩ := this
          by_cases hgo : gon T ch i = true
          · rw [if_pos hgo, if_neg hC]
            refine (gr_dead T f _ _ (by simp) ⟨i, by simp, ?_⟩).symm
            rw [cg_app0 _ _ g0]
            rcases g3 y hy with w | ⟨x, hx, w⟩
            · rw [← hye, w]
            · exact absurd (w.trans hye) ((gn.mp hgo).2.2 x hx)
          · rw [if_neg hgo]
    · have hA2 : ¬ (lat T ch i && lk T (cl ch) i) = true := by rw [Bool.and_eq_true]; exact hA
      rw [if_neg hA2, if_neg (fun q => hA ⟨(gn.mp q).1, (gn.mp q).2.1⟩)]
theorem RC_RM {T : Tr} (hV : Val T) : RC T = RgR T := fldN_congr _ (fun _ ha s => gw_gr hV 3 _ s (Gd1 hV ha))
