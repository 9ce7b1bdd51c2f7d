/-! ===== touches lost by chance, as mathematics ===== -/
def smN (f : Nat → Nat) : Nat → Nat
  | 0 => 0
  | n + 1 => smN f n + f n
theorem smN_congr {f g : Nat → Nat} : ∀ {n : Nat}, (∀ j, j < n → f j = g j) → smN f n = smN g n
  | 0, _ => rfl
  | n + 1, h => by rw [smN, smN, smN_congr (fun j hj => h j (by omega)), h n (by omega)]
theorem smN_split (f : Nat → Nat) (a : Nat) : ∀ n, smN f (a + n) = smN f a + smN (fun j => f (a + j)) n
  | 0 => rfl
  | n + 1 => by show smN f (a + n) + f (a + n) = _; rw [smN_split f a n, smN, Nat.add_assoc]
theorem smN_mul (f : Nat → Nat) (x : Nat) : ∀ n, smN (fun j => f j * x) n = smN f n * x
  | 0 => by simp [smN]
  | n + 1 => by rw [smN, smN, smN_mul f x n, Nat.add_mul]
theorem smN_add (f g : Nat → Nat) : ∀ n, smN (fun j => f j + g j) n = smN f n + smN g n
  | 0 => rfl
  | n + 1 => by rw [smN, smN, smN, smN_add f g n]; omega
theorem smN_zero {f : Nat → Nat} : ∀ {n : Nat}, (∀ j, j < n → f j = 0) → smN f n = 0
  | 0, _ => rfl
  | n + 1, h => by rw [smN, smN_zero (fun j hj => h j (by omega)), h n (by omega)]
theorem smN_le {f g : Nat → Nat} : ∀ {n : Nat}, (∀ j, j < n → f j ≤ g j) → smN f n ≤ smN g n
  | 0, _ => Nat.le_refl _
  | n + 1, h => by have := smN_le (f := f) (g := g) (n := n) (fun j hj => h j (by omega)); have := h n (by omega); rw [smN, smN]; omega
theorem smN_point (a : Nat) (v : Nat) : ∀ n, smN (fun i => if a = i then v else 0) n = if a < n then v else 0
  | 0 => by simp [smN]
  | n + 1 => by
    rw [smN, smN_point a v n]
    by_cases h1 : a < n
    · rw [if_pos h1, if_neg (by omega), if_pos (by omega), Nat.add_zero]
    · rw [if_neg h1]
      by_cases h2 : a = n
      · rw [if_pos h2, if_pos (by omega)]; omega
      · rw [if_neg h2, if_neg (by omega)]
theorem smN_pos {f : Nat → Nat} : ∀ {n : Nat}, smN f n ≠ 0 → ∃ j, j < n ∧ f j ≠ 0
  | 0, h => absurd rfl h
  | n + 1, h => by
    by_cases q : smN f n = 0
    · rw [smN, q] at h; exact ⟨n, by omega, by omega⟩
    · obtain ⟨j, hj, hf⟩ := smN_pos q; exact ⟨j, by omega, hf⟩
/-! a watched cell, as a number below 64 -/
def dcW (i : Nat) : W5 := if i < 16 then (0, 15, -9, -9, 0) else if i < 32 then (1, 15, nI (i - 16), -9, 0) else (i / 16, nI (i % 16), -9, -9, 0)
def cdW (s : W5) : Nat := if s.1 = 0 then 0 else if s.1 = 1 then 16 + s.2.2.1.toNatClampNeg else 16 * s.1 + s.2.1.toNatClampNeg
def nxt (T : Tr) (k i : Nat) : Nat := cdW (w5s T 15 (dcW i) k)
theorem WCd.cd {s : W5} {x : Int32} (h : WCd s x) : x = nI (cdW s) ∧ cdW s < 64 := by
  rcases h with ⟨a, b⟩ | ⟨a, o, ho, c, b⟩ | ⟨m, hm, a, c, b⟩
  · rw [b, cdW, if_pos a]; exact ⟨rfl, by omega⟩
  · rw [b, cdW, if_neg (by omega), if_pos a, c, nI_cl (by omega)]; exact ⟨rfl, by omega⟩
  · rw [b, cdW, if_neg (by omega), if_neg (by omega), c, nI_cl (by omega)]; exact ⟨rfl, by omega⟩
theorem gd_15 {T : Tr} (hV : Val T) {k : Nat} (hk : k < T.length) (y : Int32) : ∃ m, m < 16 ∧ gd T k &&& y = nI m := sm_nat (sm_and (sm_gd hV hk))
theorem W_step {T : Tr} (hV : Val T) {k : Nat} (hk : k < T.length) {s : W5} {x lk : Int32} (h : WCd s x) : ∃ y, WCd (w5s T lk s k) y := by
  have ht := (hV k hk).1
  have e1 : (w5s T lk s k).1 = (w3 T lk s k).1 := rfl
  have e2 : (w5s T lk s k).2.1 = (w3 T lk s k).2.1 := rfl
  have e3 : (w5s T lk s k).2.2.1 = (w3 T lk s k).2.2 := rfl
  unfold WCd
  rw [e1, e2, e3]
  obtain ⟨m, hm, hg⟩ := gd_15 hV hk lk
  unfold w3
  rcases h with ⟨a, b⟩ | ⟨a, o, ho, c, b⟩ | ⟨m2, hm2, a, c, b⟩
  · rw [if_pos a]
    exact ⟨nI (16 + th T k), Or.inr (Or.inl ⟨rfl, th T k, ht, rfl, rfl⟩)⟩
  · rw [if_neg (by omega)]
    by_cases q : s.1 = 1 ∧ nI (th T k) ≠ s.2.2.1
    · rw [if_pos q]
      refine ⟨nI (16 * (if sg T k = 4 then 3 else 2) + m), Or.inr (Or.inr ⟨m, hm, ?_, hg, rfl⟩)⟩
      dsimp only; split <;> omega
    · rw [if_neg q, if_neg (by omega)]
      exact ⟨nI (16 + o), Or.inr (Or.inl ⟨a, o, ho, c, rfl⟩)⟩
  · rw [if_neg (by omega), if_neg (by omega), if_pos (by omega)]
    obtain ⟨m3, hm3, hg3⟩ : ∃ m, m < 16 ∧ s.2.1 &&& (gd T k &&& lk) = nI m := sm_nat (sm_and (by rw [c]; exact sm_nI hm2))
    refine ⟨nI (16 * (if sg T k = 4 then 3 else s.1) + m3), Or.inr (Or.inr ⟨m3, hm3, ?_, hg3, rfl⟩)⟩
    dsimp only; split <;> omega
def SameW (s t : W5) : Prop := s.1 = t.1 ∧ (s.1 = 1 → s.2.2.1 = t.2.2.1) ∧ (1 < s.1 → s.2.1 = t.2.1)
theorem SameW_cd {s t : W5} (h : SameW s t) (h4 : s.1 < 4) : cdW s = cdW t := by
  obtain ⟨a, b, c⟩ := h
  unfold cdW
  rw [← a]
  by_cases q0 : s.1 = 0
  · rw [if_pos q0, if_pos q0]
  · rw [if_neg q0, if_neg q0]
    by_cases q1 : s.1 = 1
    · rw [if_pos q1, if_pos q1, b q1]
    · rw [if_neg q1, if_neg q1, c (by omega)]
theorem SameW_step {T : Tr} {lk : Int32} {k : Nat} {s t : W5} (h : SameW s t) : SameW (w5s T lk s k) (w5s T lk t k) := by
  obtain ⟨a, b, c⟩ := h
  show (w3 T lk s k).1 = (w3 T lk t k).1 ∧ ((w3 T lk s k).1 = 1 → (w3 T lk s k).2.2 = (w3 T lk t k).2.2) ∧ (1 < (w3 T lk s k).1 → (w3 T lk s k).2.1 = (w3 T lk t k).2.1)
  unfold w3
  rw [← a]
  by_cases q0 : s.1 = 0
  · rw [if_pos q0, if_pos q0]; exact ⟨rfl, fun _ => rfl, fun z => absurd z (by dsimp only; omega)⟩
  · rw [if_neg q0, if_neg q0]
    by_cases q1 : s.1 = 1
    · rw [← b q1]
      by_cases q2 : s.1 = 1 ∧ nI (th T k) ≠ s.2.2.1
      · rw [if_pos q2, if_pos q2]; exact ⟨rfl, fun _ => rfl, fun _ => rfl⟩
      · rw [if_neg q2, if_neg q2, if_neg (by omega), if_neg (by omega)]
        exact ⟨rfl, fun _ => rfl, fun z => absurd z (by dsimp only; omega)⟩
    · have q3 : ¬ (s.1 = 1 ∧ nI (th T k) ≠ s.2.2.1) := fun z => q1 z.1
      have q4 : ¬ (s.1 = 1 ∧ nI (th T k) ≠ t.2.2.1) := fun z => q1 z.1
      rw [if_neg q3, if_neg q4]
      by_cases q2 : 1 < s.1
      · rw [if_pos q2, if_pos q2, c q2]
        refine ⟨rfl, fun z => ?_, fun _ => rfl⟩
        dsimp only at z
        split at z <;> omega
      · omega
theorem SameW_dc {s : W5} {i : Nat} (hi : i < 64) (h : WCd s (nI i)) : SameW s (dcW i) := by
  rcases h with ⟨a, b⟩ | ⟨a, o, ho, c, b⟩ | ⟨m, hm, a, c, b⟩
  · rw [nI_eq' (by omega) (by omega)] at b
    subst b
    exact ⟨a, fun z => by omega, fun z => by omega⟩
  · rw [nI_eq' (by omega) (by omega)] at b
    subst b
    unfold dcW
    rw [if_neg (by omega), if_pos (by omega)]
    exact ⟨a, fun _ => by rw [c]; congr 1; omega, fun z => by omega⟩
  · rw [nI_eq' (by omega) (by omega)] at b
    subst b
    unfold dcW
    rw [if_neg (by omega), if_neg (by omega)]
    exact ⟨by dsimp only; omega, fun z => by omega, fun _ => by dsimp only; rw [c]; congr 1; omega⟩
theorem nxt_ok {T : Tr} (hV : Val T) {k : Nat} (hk : k < T.length) {s : W5} {i : Nat} (hi : i < 64) (h : WCd s (nI i)) : WCd (w5s T 15 s k) (nI (nxt T k i)) ∧ nxt T k i < 64 := by
  obtain ⟨y, hy⟩ := W_step hV hk (lk := 15) h
  have e : cdW (w5s T 15 s k) = nxt T k i := SameW_cd (SameW_step (SameW_dc hi h)) hy.st.2
  obtain ⟨c1, c2⟩ := hy.cd
  rw [e] at c1 c2
  exact ⟨c1 ▸ hy, c2⟩
/-! the choices -/
def nn (T : Tr) (c : Nat) : Nat → Nat
  | 0 => 0
  | k + 1 => nn T c k + (if tcof T k c then 1 else 0)
def mn (T : Tr) (c : Nat) : Nat → Nat
  | 0 => 0
  | k + 1 => if tcof T k c then mn T c k + 2 ^ k else mn T c k
/-- mask of what is not watched, its size, where the cell comes to, its weight -/
def tri (T : Tr) (c x : Nat) : Nat → Nat → Nat × Nat × Nat × Nat
  | 0 => fun _ => (0, 0, 0, 1)
  | k + 1 => fun j => if tcof T k c then (if j < 2 ^ nn T c k then ((tri T c x k j).1, (tri T c x k j).2.1, nxt T k (tri T c x k j).2.2.1, (tri T c x k j).2.2.2 * (10 - x)) else ((tri T c x k (j - 2 ^ nn T c k)).1 + 2 ^ k, (tri T c x k (j - 2 ^ nn T c k)).2.1 + 1, (tri T c x k (j - 2 ^ nn T c k)).2.2.1, (tri T c x k (j - 2 ^ nn T c k)).2.2.2 * x)) else tri T c x k j
theorem tri_lo {T : Tr} {c x k j : Nat} (h : tcof T k c = true) (hj : j < 2 ^ nn T c k) : tri T c x (k + 1) j = ((tri T c x k j).1, (tri T c x k j).2.1, nxt T k (tri T c x k j).2.2.1, (tri T c x k j).2.2.2 * (10 - x)) := by
  rw [tri]; dsimp only; rw [if_pos h, if_pos hj]
theorem tri_hi {T : Tr} {c x k j : Nat} (h : tcof T k c = true) : tri T c x (k + 1) (2 ^ nn T c k + j) = ((tri T c x k j).1 + 2 ^ k, (tri T c x k j).2.1 + 1, (tri T c x k j).2.2.1, (tri T c x k j).2.2.2 * x) := by
  rw [tri]; dsimp only; rw [if_pos h, if_neg (by omega), Nat.add_sub_cancel_left]
theorem tri_no {T : Tr} {c x k j : Nat} (h : tcof T k c = false) : tri T c x (k + 1) j = tri T c x k j := by
  rw [tri]; dsimp only; rw [h]; rfl
theorem nn_y {T : Tr} {c k : Nat} (h : tcof T k c = true) : nn T c (k + 1) = nn T c k + 1 := by rw [nn, h]; rfl
theorem nn_n {T : Tr} {c k : Nat} (h : tcof T k c = false) : nn T c (k + 1) = nn T c k := by rw [nn, h]; rfl
theorem mn_y {T : Tr} {c k : Nat} (h : tcof T k c = true) : mn T c (k + 1) = mn T c k + 2 ^ k := by rw [mn, h]; rfl
theorem mn_n {T : Tr} {c k : Nat} (h : tcof T k c = false) : mn T c (k + 1) = mn T c k := by rw [mn, h]; rfl
/-- an index below twice as much: low, or high -/
theorem two_cases {n j : Nat} (h : j < 2 ^ (n + 1)) : j < 2 ^ n ∨ ∃ i, i < 2 ^ n ∧ j = 2 ^ n + i := by
  rw [Nat.pow_succ] at h
  rcases Nat.lt_or_ge j (2 ^ n) with q | q
  · exact Or.inl q
  · exact Or.inr ⟨j - 2 ^ n, by omega, by omega⟩
theorem mn_lt (T : Tr) (c : Nat) : ∀ k, mn T c k < 2 ^ k
  | 0 => by show 0 < 1; omega
  | k + 1 => by
    have := mn_lt T c k
    rw [Nat.pow_succ]
    cases h : tcof T k c
    · rw [mn_n h]; omega
    · rw [mn_y h]; omega
theorem tri_lt (T : Tr) (c x : Nat) : ∀ k j, j < 2 ^ nn T c k → (tri T c x k j).1 < 2 ^ k ∧ (tri T c x k j).2.1 ≤ nn T c k
  | 0, _, _ => ⟨by show 0 < 1; omega, Nat.le_refl _⟩
  | k + 1, j, hj => by
    rw [Nat.pow_succ 2 k]
    cases h : tcof T k c
    · rw [tri_no h]; rw [nn_n h] at hj ⊢
      have := tri_lt T c x k j hj; exact ⟨by omega, this.2⟩
    · rw [nn_y h] at hj ⊢
      rcases two_cases hj with q | ⟨i, q, rfl⟩
      · rw [tri_lo h q]; have := tri_lt T c x k j q; exact ⟨by dsimp only; omega, by dsimp only; omega⟩
      · rw [tri_hi h]; have := tri_lt T c x k i q; exact ⟨by dsimp only; omega, by dsimp only; omega⟩
/-! bits of numbers -/
theorem tb_add {b k : Nat} (h : b < 2 ^ k) (i : Nat) : (b + 2 ^ k).testBit i = (b.testBit i || decide (i = k)) := by
  have e : b + 2 ^ k = 2 ^ k * 1 ||| b := by rw [← Nat.two_pow_add_eq_or_of_lt h 1]; omega
  rw [e, Nat.mul_one, Nat.testBit_or, Nat.testBit_two_pow, Bool.or_comm]
  congr 1
  by_cases q : i = k
  · subst q; simp
  · have : ¬ k = i := fun z => q z.symm
    simp [q, this]
theorem tb_lt {b k i : Nat} (h : b < 2 ^ k) (hi : k ≤ i) : b.testBit i = false := Nat.testBit_lt_two_pow (Nat.lt_of_lt_of_le h (Nat.pow_le_pow_right (by omega) hi))
theorem and_lo {a b k : Nat} (ha : a < 2 ^ k) (hb : b < 2 ^ k) : a &&& (b + 2 ^ k) = a &&& b := by
  apply Nat.eq_of_testBit_eq
  intro i
  rw [Nat.testBit_and, Nat.testBit_and, tb_add hb]
  by_cases q : i = k
  · subst q; rw [tb_lt ha (Nat.le_refl _)]; rfl
  · simp [q]
theorem and_hi {a b k : Nat} (ha : a < 2 ^ k) (hb : b < 2 ^ k) : (a + 2 ^ k) &&& (b + 2 ^ k) = (a &&& b) + 2 ^ k := by
  apply Nat.eq_of_testBit_eq
  intro i
  have hab : a &&& b < 2 ^ k := Nat.lt_of_le_of_lt Nat.and_le_left ha
  rw [Nat.testBit_and, tb_add ha, tb_add hb, tb_add hab, Nat.testBit_and]
  by_cases q : i = k
  · subst q; simp
  · simp [q]
/-- the mask before a mask -/
theorem tri_prev (T : Tr) (c x : Nat) : ∀ k, (tri T c x k 0).1 = 0 ∧ (tri T c x k (2 ^ nn T c k - 1)).1 = mn T c k ∧ ∀ j, 0 < j → j < 2 ^ nn T c k → 0 < (tri T c x k j).1 ∧ ((tri T c x k j).1 - 1) &&& mn T c k = (tri T c x k (j - 1)).1
  | 0 => ⟨rfl, rfl, fun j h1 h2 => by have : j < 1 := h2; omega⟩
  | k + 1 => by
    obtain ⟨i1, i2, i3⟩ := tri_prev T c x k
    have hm := mn_lt T c k
    have p0 : 0 < 2 ^ nn T c k := Nat.two_pow_pos _
    have pk : 0 < 2 ^ k := Nat.two_pow_pos _
    cases h : tcof T k c
    · rw [nn_n h, mn_n h]
      simp only [tri_no h]
      exact ⟨i1, i2, i3⟩
    · rw [nn_y h, mn_y h]
      refine ⟨?_, ?_, fun j h1 h2 => ?_⟩
      · rw [tri_lo h p0]; exact i1
      · rw [show 2 ^ (nn T c k + 1) - 1 = 2 ^ nn T c k + (2 ^ nn T c k - 1) by rw [Nat.pow_succ]; omega, tri_hi h]
        dsimp only; rw [i2]
      · rcases two_cases h2 with q | ⟨i, q, rfl⟩
        · rw [tri_lo h q, tri_lo h (by omega)]
          have t1 := (tri_lt T c x k j q).1
          have := i3 j h1 q
          refine ⟨this.1, ?_⟩
          dsimp only
          rw [and_lo (by omega) hm]; exact this.2
        · rw [tri_hi h]
          by_cases e : i = 0
          · subst e
            dsimp only
            rw [i1, Nat.zero_add, show 2 ^ nn T c k + 0 - 1 = 2 ^ nn T c k - 1 by omega, tri_lo h (by omega)]
            dsimp only
            refine ⟨pk, ?_⟩
            rw [and_lo (by omega) hm, i2, Nat.and_comm, Nat.and_two_pow_sub_one_eq_mod, Nat.mod_eq_of_lt hm]
          · have t1 := (tri_lt T c x k i q).1
            obtain ⟨j1, j2⟩ := i3 i (by omega) q
            rw [show 2 ^ nn T c k + i - 1 = 2 ^ nn T c k + (i - 1) by omega, tri_hi h]
            dsimp only
            refine ⟨by omega, ?_⟩
            rw [show (tri T c x k i).1 + 2 ^ k - 1 = ((tri T c x k i).1 - 1) + 2 ^ k by omega, and_hi (by omega) hm, j2]
/-- where the cell comes to -/
theorem tri_code {T : Tr} (hV : Val T) (c x : Nat) : ∀ k, k ≤ T.length → ∀ j, j < 2 ^ nn T c k → (tri T c x k j).2.2.1 < 64 ∧ ∀ u : Nat → Bool, (∀ i, i < k → u i = (tri T c x k j).1.testBit i) → WCd (wf T c 15 u k) (nI (tri T c x k j).2.2.1)
  | 0, _, _, _ => ⟨by show 0 < 64; omega, fun u _ => Or.inl ⟨rfl, rfl⟩⟩
  | k + 1, hk, j, hj => by
    have ht := tri_lt T c x k
    cases h : tcof T k c
    · rw [nn_n h] at hj
      rw [tri_no h]
      obtain ⟨a, b⟩ := tri_code hV c x k (by omega) j hj
      refine ⟨a, fun u hu => ?_⟩
      rw [wf_succ, h]
      exact b u (fun i hi => hu i (by omega))
    · rw [nn_y h] at hj
      rcases two_cases hj with q | ⟨i, q, rfl⟩
      · obtain ⟨a, b⟩ := tri_code hV c x k (by omega) j q
        rw [tri_lo h q]
        have n0 := b (fun i => (tri T c x k j).1.testBit i) (fun _ _ => rfl)
        refine ⟨(nxt_ok hV (by omega) a n0).2, fun u hu => ?_⟩
        dsimp only at hu ⊢
        have uk : u k = false := by rw [hu k (by omega)]; exact tb_lt (ht j q).1 (Nat.le_refl _)
        rw [wf_succ, h, uk]
        exact (nxt_ok hV (by omega) a (b u (fun i hi => hu i (by omega)))).1
      · obtain ⟨a, b⟩ := tri_code hV c x k (by omega) i q
        rw [tri_hi h]
        refine ⟨a, fun u hu => ?_⟩
        dsimp only at hu ⊢
        have uk : u k = true := by rw [hu k (by omega), tb_add (ht i q).1]; simp
        rw [wf_succ, h, uk]
        refine b u (fun e he => ?_)
        rw [hu e (by omega), tb_add (ht i q).1]
        have : ¬ e = k := by omega
        simp [this]
theorem tri_wt (T : Tr) (c x : Nat) : ∀ k j, j < 2 ^ nn T c k → (tri T c x k j).2.2.2 = x ^ (tri T c x k j).2.1 * (10 - x) ^ (nn T c k - (tri T c x k j).2.1)
  | 0, _, _ => rfl
  | k + 1, j, hj => by
    cases h : tcof T k c
    · rw [nn_n h] at hj ⊢; rw [tri_no h]; exact tri_wt T c x k j hj
    · rw [nn_y h] at hj ⊢
      rcases two_cases hj with q | ⟨i, q, rfl⟩
      · rw [tri_lo h q]
        have l := (tri_lt T c x k j q).2
        dsimp only
        rw [tri_wt T c x k j q, show nn T c k + 1 - (tri T c x k j).2.1 = (nn T c k - (tri T c x k j).2.1) + 1 by omega, Nat.pow_succ, Nat.mul_assoc]
      · rw [tri_hi h]
        dsimp only
        rw [tri_wt T c x k i q, show nn T c k + 1 - ((tri T c x k i).2.1 + 1) = nn T c k - (tri T c x k i).2.1 by omega, Nat.pow_succ, Nat.mul_assoc, Nat.mul_assoc, Nat.mul_comm x]
theorem two2 (n : Nat) : 2 ^ (n + 1) = 2 ^ n + 2 ^ n := by rw [Nat.pow_succ]; omega
theorem tri_sum (T : Tr) (c : Nat) {x : Nat} (hx : x ≤ 10) : ∀ k, smN (fun j => (tri T c x k j).2.2.2) (2 ^ nn T c k) = 10 ^ nn T c k
  | 0 => rfl
  | k + 1 => by
    have ih := tri_sum T c hx k
    cases h : tcof T k c
    · rw [nn_n h]; simp only [tri_no h]; exact ih
    · rw [nn_y h, two2, smN_split]
      rw [smN_congr (g := fun j => (tri T c x k j).2.2.2 * (10 - x)) (fun j hj => by rw [tri_lo h hj]), smN_congr (f := fun j => (tri T c x (k + 1) (2 ^ nn T c k + j)).2.2.2) (g := fun j => (tri T c x k j).2.2.2 * x) (fun j hj => by rw [tri_hi h])]
      rw [smN_mul, smN_mul, ih, ← Nat.mul_add, show 10 - x + x = 10 by omega, Nat.pow_succ]
/-- how much comes to a number -/
def fk (T : Tr) (c x k t : Nat) : Nat := smN (fun j => if (tri T c x k j).2.2.1 = t then (tri T c x k j).2.2.2 else 0) (2 ^ nn T c k)
theorem fk_le (T : Tr) (c : Nat) {x : Nat} (hx : x ≤ 10) (k t : Nat) : fk T c x k t ≤ 10 ^ nn T c k := by
  rw [← tri_sum T c hx k]
  refine smN_le (fun j _ => ?_)
  split
  · exact Nat.le_refl _
  · exact Nat.zero_le _
theorem smN_ex (code w : Nat → Nat) (nx : Nat → Nat) (t m N : Nat) (y : Nat) (hc : ∀ j, j < N → code j < m) : smN (fun i => if nx i = t then smN (fun j => if code j = i then w j else 0) N * y else 0) m = smN (fun j => if nx (code j) = t then w j * y else 0) N := by
  induction N with
  | zero =>
    refine smN_zero (fun i _ => ?_)
    split
    · show 0 * y = 0; omega
    · rfl
  | succ N ih =>
    rw [smN, ← ih (fun j hj => hc j (by omega))]
    have e : ∀ i, i < m → (fun i => if nx i = t then smN (fun j => if code j = i then w j else 0) (N + 1) * y else 0) i = (fun i => (if nx i = t then smN (fun j => if code j = i then w j else 0) N * y else 0) + (if code N = i then (if nx (code N) = t then w N * y else 0) else 0)) i := by
      intro i _
      dsimp only
      rw [smN]
      by_cases q : code N = i
      · rw [if_pos q, if_pos q, q]
        by_cases z : nx i = t
        · rw [if_pos z, if_pos z, if_pos z, Nat.add_mul]
        · rw [if_neg z, if_neg z, if_neg z]
      · rw [if_neg q, if_neg q, Nat.add_zero, Nat.add_zero]
    rw [smN_congr e, smN_add, smN_point, if_pos (hc N (by omega))]
theorem fk_step {T : Tr} (hV : Val T) (c x : Nat) {k : Nat} (hk : k < T.length) (h : tcof T k c = true) (t : Nat) : fk T c x (k + 1) t = fk T c x k t * x + smN (fun i => if nxt T k i = t then fk T c x k i * (10 - x) else 0) 64 := by
  unfold fk
  rw [nn_y h, two2, smN_split]
  rw [smN_ex (fun j => (tri T c x k j).2.2.1) (fun j => (tri T c x k j).2.2.2) (nxt T k) t 64 (2 ^ nn T c k) (10 - x) (fun j hj => (tri_code hV c x k (by omega) j hj).1)]
  rw [smN_congr (f := fun j => if (tri T c x (k + 1) j).2.2.1 = t then (tri T c x (k + 1) j).2.2.2 else 0) (g := fun j => if nxt T k (tri T c x k j).2.2.1 = t then (tri T c x k j).2.2.2 * (10 - x) else 0) (fun j hj => by rw [tri_lo h hj])]
  rw [smN_congr (f := fun j => if (tri T c x (k + 1) (2 ^ nn T c k + j)).2.2.1 = t then (tri T c x (k + 1) (2 ^ nn T c k + j)).2.2.2 else 0) (g := fun j => (if (tri T c x k j).2.2.1 = t then (tri T c x k j).2.2.2 else 0) * x) (fun j hj => by rw [tri_hi h]; dsimp only; split <;> simp)]
  rw [smN_mul, Nat.add_comm]
theorem fk_no {T : Tr} {c x k : Nat} (h : tcof T k c = false) (t : Nat) : fk T c x (k + 1) t = fk T c x k t := by
  unfold fk
  rw [nn_n h]
  simp only [tri_no h]
/-! numbers and their bits in 32 -/
theorem bt_nI (m i : Nat) : bt (nI m) i = (decide (i < 32) && m.testBit i) := by
  unfold bt
  show (BitVec.ofNat 32 m).getLsbD i = _
  rw [BitVec.getLsbD_ofNat]
theorem nI_and (a b : Nat) : nI a &&& nI b = nI (a &&& b) := by
  apply b_ext
  intro i hi
  rw [b_and, bt_nI, bt_nI, bt_nI, Nat.testBit_and, decide_eq_true hi]
  rfl
theorem nI_bit {k : Nat} (hk : k < 32) : bitI k = nI (2 ^ k) := by
  apply b_ext
  intro i hi
  rw [b_bit hk hi, bt_nI, Nat.testBit_two_pow, decide_eq_true hi, Bool.true_and]
  by_cases q : i = k
  · subst q; simp
  · have : ¬ k = i := fun z => q z.symm
    simp [q, this]
theorem nI_or_bit {b k : Nat} (hb : b < 2 ^ k) (hk : k < 32) : nI b ||| bitI k = nI (b + 2 ^ k) := by
  apply b_ext
  intro i hi
  rw [b_or, bt_nI, b_bit hk hi, bt_nI, tb_add hb, decide_eq_true hi]
  rfl
theorem cntb_up {b k : Nat} (hb : b < 2 ^ k) (hk : k < 32) : ∀ n, cntb (nI (b + 2 ^ k)) n = cntb (nI b) n + (if k < n then 1 else 0)
  | 0 => rfl
  | n + 1 => by
    rw [cntb, cntb, cntb_up hb hk n, bt_nI, bt_nI, tb_add hb]
    by_cases q : n = k
    · subst q
      rw [if_neg (show ¬ n < n by omega), if_pos (show n < n + 1 by omega), tb_lt hb (Nat.le_refl _), decide_eq_true hk]
      simp
    · by_cases q2 : k < n
      · rw [if_pos q2, if_pos (show k < n + 1 by omega)]; simp [q]; omega
      · rw [if_neg q2, if_neg (show ¬ k < n + 1 by omega)]; simp [q]
theorem mn_cnt (T : Tr) (c : Nat) : ∀ k, k ≤ 20 → cntb (nI (mn T c k)) 20 = nn T c k
  | 0, _ => by show cntb (nI 0) 20 = 0; decide
  | k + 1, hk => by
    have ih := mn_cnt T c k (by omega)
    cases h : tcof T k c
    · rw [mn_n h, nn_n h]; exact ih
    · rw [mn_y h, nn_y h, cntb_up (mn_lt T c k) (by omega), ih, if_pos (by omega)]
theorem tri_cnt (T : Tr) (c x : Nat) : ∀ k, k ≤ 20 → ∀ j, j < 2 ^ nn T c k → cntb (nI (tri T c x k j).1) 20 = (tri T c x k j).2.1
  | 0, _, _, _ => by show cntb (nI 0) 20 = 0; decide
  | k + 1, hk, j, hj => by
    cases h : tcof T k c
    · rw [nn_n h] at hj; rw [tri_no h]; exact tri_cnt T c x k (by omega) j hj
    · rw [nn_y h] at hj
      rcases two_cases hj with q | ⟨i, q, rfl⟩
      · rw [tri_lo h q]; exact tri_cnt T c x k (by omega) j q
      · rw [tri_hi h]
        dsimp only
        rw [cntb_up (tri_lt T c x k i q).1 (by omega), tri_cnt T c x k (by omega) i q, if_pos (by omega)]
theorem nn_wf (T : Tr) (c : Nat) (lk : Int32) : ∀ k, (wf T c lk (fun _ => false) k).2.2.2.2 = nn T c k
  | 0 => rfl
  | k + 1 => by
    have ih := nn_wf T c lk k
    rw [wf_succ]
    cases h : tcof T k c
    · rw [nn_n h]; exact ih
    · rw [nn_y h]
      show (wf T c lk (fun _ => false) k).2.2.2.2 + 1 = _
      rw [ih]
theorem nn_le (T : Tr) (c : Nat) : ∀ k, nn T c k ≤ k
  | 0 => Nat.le_refl _
  | k + 1 => by have := nn_le T c k; rw [nn]; split <;> omega
