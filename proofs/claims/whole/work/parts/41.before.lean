/-! ===== what comes ahead of what ===== -/
/-- steps of a thread among the first k, and what is ahead of them -/
def allB (T : Tr) (B : Nat → Int32) (t : Nat) : Nat → Int32
  | 0 => 0
  | e + 1 => allB T B t e ||| (if th T e = t then bitI e ||| B e else 0)
/-- likewise the steps that start it, put to x -/
def stB (T : Tr) (B : Nat → Int32) (t : Nat) (x : Int32) : Nat → Int32
  | 0 => x
  | e + 1 => stB T B t x e ||| (if sg T e = 5 ∧ ab T e = t then bitI e ||| B e else 0)
def bfOne (T : Tr) (B : Nat → Int32) (k : Nat) : Int32 := stB T B (th T k) (allB T B (th T k) k) k ||| (if sg T k = 6 then allB T B (ab T k) k else 0)
def bfA (T : Tr) : Nat → (Nat → Int32)
  | 0 => fun _ => 0
  | k + 1 => upd (bfA T k) k (bfOne T (bfA T k) k)
def bf (T : Tr) (k : Nat) : Int32 := bfOne T (bfA T k) k
theorem bfA_lt (T : Tr) : ∀ {k j : Nat}, j < k → bfA T k j = bf T j
  | k + 1, j, h => by
    show upd (bfA T k) k (bfOne T (bfA T k) k) j = _
    rw [upd_get]
    by_cases e : j = k
    · subst e; rw [if_pos rfl]; rfl
    · rw [if_neg e]; exact bfA_lt T (by omega)
theorem allB_congr (T U : Tr) (B C : Nat → Int32) (t : Nat) : ∀ {k : Nat}, (∀ e, e < k → B e = C e ∧ th T e = th U e) → allB T B t k = allB U C t k
  | 0, _ => rfl
  | k + 1, h => by
    rw [allB, allB, allB_congr T U B C t (fun e he => h e (by omega)), (h k (by omega)).1, (h k (by omega)).2]
theorem stB_congr (T U : Tr) (B C : Nat → Int32) (t : Nat) (x : Int32) : ∀ {k : Nat}, (∀ e, e < k → B e = C e ∧ sg T e = sg U e ∧ ab T e = ab U e) → stB T B t x k = stB U C t x k
  | 0, _ => rfl
  | k + 1, h => by
    rw [stB, stB, stB_congr T U B C t x (fun e he => h e (by omega)), (h k (by omega)).1, (h k (by omega)).2.1, (h k (by omega)).2.2]
theorem bf_eq (T : Tr) (k : Nat) : bf T k = stB T (bf T) (th T k) (allB T (bf T) (th T k) k) k ||| (if sg T k = 6 then allB T (bf T) (ab T k) k else 0) := by
  have e1 : ∀ t, allB T (bfA T k) t k = allB T (bf T) t k := fun t => allB_congr T T _ _ t (fun e he => ⟨bfA_lt T he, rfl⟩)
  have e2 : ∀ t x, stB T (bfA T k) t x k = stB T (bf T) t x k := fun t x => stB_congr T T _ _ t x (fun e he => ⟨bfA_lt T he, rfl, rfl⟩)
  show bfOne T (bfA T k) k = _
  unfold bfOne
  rw [e1, e2, e1]
theorem bfA_app (T U : Tr) : ∀ {k : Nat}, k ≤ T.length → ∀ j, bfA (T ++ U) k j = bfA T k j
  | 0, _, j => rfl
  | k + 1, h, j => by
    show upd (bfA (T ++ U) k) k (bfOne (T ++ U) (bfA (T ++ U) k) k) j = upd (bfA T k) k (bfOne T (bfA T k) k) j
    have e : bfOne (T ++ U) (bfA (T ++ U) k) k = bfOne T (bfA T k) k := by
      unfold bfOne
      rw [th_app T U h, sg_app T U h, ab_app T U h]
      rw [allB_congr (T ++ U) T _ (bfA T k) (th T k) (fun e he => ⟨bfA_app T U (by omega) e, th_app T U (by omega)⟩)]
      rw [stB_congr (T ++ U) T _ (bfA T k) (th T k) _ (fun e he => ⟨bfA_app T U (by omega) e, sg_app T U (by omega), ab_app T U (by omega)⟩)]
      rw [allB_congr (T ++ U) T _ (bfA T k) (ab T k) (fun e he => ⟨bfA_app T U (by omega) e, th_app T U (by omega)⟩)]
    rw [e, upd_get, upd_get]
    split
    · rfl
    · exact bfA_app T U (by omega) j
theorem bf_app (T U : Tr) {k : Nat} (h : k < T.length) : bf (T ++ U) k = bf T k := by
  have := bfA_app T U (k := k + 1) h k
  rwa [bfA_lt _ (by omega), bfA_lt _ (by omega)] at this
/-- bits of these -/
theorem allB_bt (T : Tr) (B : Nat → Int32) (t i : Nat) : ∀ k, bt (allB T B t k) i = true ↔ ∃ e, e < k ∧ th T e = t ∧ bt (bitI e ||| B e) i = true
  | 0 => by rw [allB, b_0]; simp
  | k + 1 => by
    rw [allB, b_or, Bool.or_eq_true, allB_bt T B t i k]
    constructor
    · rintro (⟨e, h1, h2, h3⟩ | h)
      · exact ⟨e, by omega, h2, h3⟩
      · by_cases q : th T k = t
        · rw [if_pos q] at h; exact ⟨k, by omega, q, h⟩
        · rw [if_neg q, b_0] at h; cases h
    · rintro ⟨e, h1, h2, h3⟩
      by_cases q : e = k
      · subst q; right; rw [if_pos h2]; exact h3
      · left; exact ⟨e, by omega, h2, h3⟩
theorem stB_bt (T : Tr) (B : Nat → Int32) (t i : Nat) (x : Int32) : ∀ k, bt (stB T B t x k) i = true ↔ bt x i = true ∨ ∃ e, e < k ∧ (sg T e = 5 ∧ ab T e = t) ∧ bt (bitI e ||| B e) i = true
  | 0 => by rw [stB]; simp
  | k + 1 => by
    rw [stB, b_or, Bool.or_eq_true, stB_bt T B t i x k]
    constructor
    · rintro ((h | ⟨e, h1, h2, h3⟩) | h)
      · exact Or.inl h
      · exact Or.inr ⟨e, by omega, h2, h3⟩
      · by_cases q : sg T k = 5 ∧ ab T k = t
        · rw [if_pos q] at h; exact Or.inr ⟨k, by omega, q, h⟩
        · rw [if_neg q, b_0] at h; cases h
    · rintro (h | ⟨e, h1, h2, h3⟩)
      · exact Or.inl (Or.inl h)
      · by_cases q : e = k
        · subst q; right; rw [if_pos h2]; exact h3
        · left; right; exact ⟨e, by omega, h2, h3⟩
/-- what is started stays so -/
theorem started_go {w : W4} {t g o i : Nat} (h : bt w.2.2.1 i = true) : bt (wgo w t g o).2.2.1 i = true := by
  unfold wgo
  repeat' split
  all_goals first | exact h | (show bt (w.2.2.1 ||| bitI o) i = true; rw [b_or, h]; rfl)
theorem started_up {T : Tr} {i : Nat} : ∀ {k : Nat} (d : Nat), bt (wl T k).2.2.1 i = true → bt (wl T (k + d)).2.2.1 i = true
  | _, 0, h => h
  | k, d + 1, h => started_go (started_up d h)
/-- a thread that has a step has been started: nobody starts it later -/
theorem no_restart {T : Tr} (hv : Val T) {e k t : Nat} (hk : k < T.length) (he : e ≤ k) (h1 : th T e = t) (h2 : sg T k = 5 ∧ ab T k = t) : False := by
  have a := (hv e (by omega)).2.2.2
  have b := (hv k hk).2.2.2
  rw [okS, Bool.and_eq_true] at a b
  have a1 := a.1
  rw [h1, wrun, Bool.and_eq_true] at a1
  have a2 := started_up (T := T) (k - e) a1.1
  rw [show e + (k - e) = k by omega] at a2
  have b2 := b.2
  simp [wmay, h2.1, h2.2, a2] at b2
/-- where a thread has acted, its start is ahead of one of its steps -/
theorem st_in_all {T : Tr} (hv : Val T) {t : Nat} : ∀ {k : Nat}, k ≤ T.length → (∃ e, e < k ∧ th T e = t) → ∀ i, (∃ e, e < k ∧ (sg T e = 5 ∧ ab T e = t) ∧ bt (bitI e ||| bf T e) i = true) → bt (allB T (bf T) t k) i = true
  | 0, _, ⟨e, he, _⟩, _, _ => by omega
  | k + 1, hk, ⟨e0, he0, ht0⟩, i, ⟨e, he, hs, hb⟩ => by
    by_cases q : e = k
    · subst q
      exact absurd (no_restart hv (by omega) (by omega) ht0 hs) id
    · rw [allB, b_or, Bool.or_eq_true]
      by_cases r : th T k = t
      · right
        rw [if_pos r, b_or, Bool.or_eq_true]
        right
        rw [bf_eq, b_or, Bool.or_eq_true]
        left
        rw [stB_bt]
        right
        exact ⟨e, by omega, by rw [r]; exact hs, hb⟩
      · left
        refine st_in_all hv (by omega) ⟨e0, ?_, ht0⟩ i ⟨e, by omega, hs, hb⟩
        have : e0 ≠ k := fun z => r (by rw [← z]; exact ht0)
        omega
/-- what will be ahead of a thread's next step -/
def pst (T : Tr) (k t : Nat) : Int32 := stB T (bf T) t (allB T (bf T) t k) k
def acd (T : Tr) (k t : Nat) : Bool := match k with
  | 0 => false
  | e + 1 => acd T e t || decide (th T e = t)
theorem acd_iff (T : Tr) (t : Nat) : ∀ k, acd T k t = true ↔ ∃ e, e < k ∧ th T e = t
  | 0 => by simp [acd]
  | k + 1 => by
    rw [acd, Bool.or_eq_true, acd_iff T t k, decide_eq_true_iff]
    constructor
    · rintro (⟨e, h1, h2⟩ | h)
      · exact ⟨e, by omega, h2⟩
      · exact ⟨k, by omega, h⟩
    · rintro ⟨e, h1, h2⟩
      by_cases q : e = k
      · subst q; exact Or.inr h2
      · exact Or.inl ⟨e, by omega, h2⟩
/-- the class's way to what is ahead of a step -/
theorem bf_past {T : Tr} (hv : Val T) {k : Nat} (hk : k < T.length) : bf T k = (if sg T k = 6 ∧ acd T k (ab T k) = true then pst T k (th T k) ||| pst T k (ab T k) else pst T k (th T k)) := by
  rw [bf_eq]
  apply b_ext
  intro i hi
  by_cases q : sg T k = 6
  · rw [if_pos q]
    cases ha : acd T k (ab T k)
    · rw [if_neg (by simp)]
      rw [b_or]
      have : bt (allB T (bf T) (ab T k) k) i = false := by
        cases hb : bt (allB T (bf T) (ab T k) k) i
        · rfl
        · obtain ⟨e, h1, h2, _⟩ := (allB_bt _ _ _ _ _).mp hb
          have := (acd_iff T (ab T k) k).mpr ⟨e, h1, h2⟩
          rw [ha] at this; cases this
      rw [this, Bool.or_false]
      rfl
    · rw [if_pos ⟨q, rfl⟩]
      rw [b_or, b_or]
      congr 1
      rw [Bool.eq_iff_iff]
      constructor
      · intro h; rw [pst, stB_bt]; exact Or.inl h
      · intro h
        rw [pst, stB_bt] at h
        rcases h with h | h
        · exact h
        · exact st_in_all hv (by omega) ((acd_iff _ _ _).mp ha) i h
  · rw [if_neg q, if_neg (fun z => q z.1), b_or, b_0, Bool.or_false]
    rfl
/-- how that goes on behind a step -/
theorem pst_step {T : Tr} (hv : Val T) {k : Nat} (hk : k < T.length) (t : Nat) : pst T (k + 1) t = if sg T k = 5 ∧ ab T k = t then bf T k ||| bitI k else if th T k = t then bf T k ||| bitI k else pst T k t := by
  apply b_ext
  intro i hi
  have base : bt (pst T (k + 1) t) i = true ↔ (bt (pst T k t) i = true ∨ ((th T k = t ∨ (sg T k = 5 ∧ ab T k = t)) ∧ bt (bitI k ||| bf T k) i = true)) := by
    rw [pst, stB_bt, allB_bt, pst, stB_bt, allB_bt]
    constructor
    · rintro (⟨e, h1, h2, h3⟩ | ⟨e, h1, h2, h3⟩)
      · by_cases q : e = k
        · subst q; exact Or.inr ⟨Or.inl h2, h3⟩
        · exact Or.inl (Or.inl ⟨e, by omega, h2, h3⟩)
      · by_cases q : e = k
        · subst q; exact Or.inr ⟨Or.inr h2, h3⟩
        · exact Or.inl (Or.inr ⟨e, by omega, h2, h3⟩)
    · rintro ((⟨e, h1, h2, h3⟩ | ⟨e, h1, h2, h3⟩) | ⟨h | h, h3⟩)
      · exact Or.inl ⟨e, by omega, h2, h3⟩
      · exact Or.inr ⟨e, by omega, h2, h3⟩
      · exact Or.inl ⟨k, by omega, h, h3⟩
      · exact Or.inr ⟨k, by omega, h, h3⟩
  have orc : ∀ x y : Int32, bt (x ||| y) i = bt (y ||| x) i := fun x y => by rw [b_or, b_or, Bool.or_comm]
  rw [Bool.eq_iff_iff, base]
  by_cases q : sg T k = 5 ∧ ab T k = t
  · rw [if_pos q, orc (bf T k) (bitI k)]
    constructor
    · rintro (h | h)
      · exfalso
        rw [pst, stB_bt, allB_bt] at h
        rcases h with ⟨e, h1, h2, _⟩ | ⟨e, h1, h2, _⟩
        · exact no_restart hv hk (by omega) h2 q
        · have b := (hv k hk).2.2.2
          rw [okS, Bool.and_eq_true] at b
          have s1 : bt (wl T (e + 1)).2.2.1 t = true := by
            show bt (wgo (wl T e) (th T e) (sg T e) (ab T e)).2.2.1 t = true
            have ht4 := (hv e (by omega)).2.2.1
            rw [h2.1, h2.2]
            show bt ((wl T e).2.2.1 ||| bitI t) t = true
            rw [h2.2] at ht4
            rw [b_or, b_bit (by omega) (by omega)]; simp
          have s2 := started_up (T := T) (k - (e + 1)) s1
          rw [show e + 1 + (k - (e + 1)) = k by omega] at s2
          have b2 := b.2
          simp [wmay, q.1, q.2, s2] at b2
      · exact h.2
    · intro h; exact Or.inr ⟨Or.inr q, h⟩
  · rw [if_neg q]
    by_cases r : th T k = t
    · rw [if_pos r, orc (bf T k) (bitI k)]
      constructor
      · rintro (h | h)
        · rw [b_or, Bool.or_eq_true]; right
          rw [bf_eq, b_or, Bool.or_eq_true]; left
          rw [r]; exact h
        · exact h.2
      · intro h; exact Or.inr ⟨Or.inl r, h⟩
    · rw [if_neg r]
      constructor
      · rintro (h | ⟨h | h, _⟩)
        · exact h
        · exact absurd h r
        · exact absurd h q
      · intro h; exact Or.inl h
