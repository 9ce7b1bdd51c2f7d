/-! ===== fractions ===== -/
theorem q_fraction {σ : St} {p q : Nat} {a4 : Int32} {Q : Int32 → St → Prop} (hp : p < 2147483648) (hq : q < 2147483648) (hq0 : 0 < q) (h : Q (if a4 = 0 then nI (q / Nat.gcd p q) else nI (p / Nat.gcd p q)) σ) : m_X8_fraction σ (lN p) (lN q) a4 Q := by
  unfold m_X8_fraction
  have gp : 0 < Nat.gcd p q := Nat.gcd_pos_of_pos_right p hq0
  have gq : Nat.gcd p q ≤ q := Nat.gcd_le_right p hq0
  refine lpE3 (m_X8_fraction_L9b (lN p) (lN q) a4 Q (fun σ x5 => m_X8_fraction_J44 (lN p) (lN q) a4 Q σ x5)) (fun _ => rfl) (fun m τ x y w => ∃ a b i, τ = σ ∧ x = lN a ∧ y = lN b ∧ w = nI i ∧ b = m ∧ a < 2147483648 ∧ b < 2147483648 ∧ Nat.gcd b a = Nat.gcd p q ∧ ((∃ k, i + 2 * k ≤ 62 ∧ b < 2 ^ k) ∨ (∃ k, i + 2 * k + 1 ≤ 62 ∧ b < a ∧ a < 2 ^ (k + 1)))) ?_ (n := p) ⟨q, p, 0, rfl, rfl, rfl, rfl, rfl, hq, hp, rfl, Or.inl ⟨31, by omega, hp⟩⟩
  rintro m τ x y w Rc ⟨a, b, i, rfl, rfl, rfl, rfl, rfl, ha, hb, hg, hk⟩ hRc
  have hi : i ≤ 62 := by
    rcases hk with ⟨k, h1, _⟩ | ⟨k, h1, _⟩ <;> omega
  unfold m_X8_fraction_L9b
  rw [show (100 : Int32) = nI 100 from rfl, nI_le' (by omega) (by omega), lg_cmp_eq, show (0 : Int64) = lN 0 from rfl, pk_lEQ (by omega) (by omega)]
  refine ⟨fun z => by omega, fun _ => ⟨fun z => ?_, fun z => ⟨z, bL_i ?_⟩⟩⟩
  · subst z
    rw [Nat.gcd_zero_left] at hg
    subst hg
    unfold m_X8_fraction_J44
    rw [lg_cmp_eq, show (0 : Int64) = lN 0 from rfl, pk_lEQ (by omega) (by omega), pk_lDiv (by omega) gp (by omega), pk_lDiv (by omega) gp (by omega), lN_i, lN_i]
    refine ⟨fun _ => ⟨fun z2 => ⟨by omega, ?_⟩, fun z2 => ⟨by omega, ?_⟩⟩, fun z => by omega⟩
    · rw [if_pos z2] at h; exact h
    · rw [if_neg z2] at h; exact h
  · have b0 : 0 < b := by omega
    have rl : a % b < b := Nat.mod_lt _ b0
    rw [pk_lRem (by omega) b0 (by omega), nI_1]
    refine hRc (a % b) _ _ _ _ rl ⟨b, a % b, i + 1, rfl, rfl, rfl, rfl, rfl, hb, by omega, ?_, ?_⟩
    · rw [← hg, Nat.gcd_rec b a]
    · rcases hk with ⟨k, h1, h2⟩ | ⟨k, h1, h2, h3⟩
      · cases k with
        | zero => rw [Nat.pow_zero] at h2; omega
        | succ k => exact Or.inr ⟨k, by omega, rl, h2⟩
      · left
        refine ⟨k, by omega, ?_⟩
        have hd := Nat.div_add_mod a b
        have d1 : 0 < a / b := Nat.div_pos (by omega) b0
        have : b * 1 ≤ b * (a / b) := Nat.mul_le_mul_left b d1
        rw [Nat.pow_succ] at h3
        omega
theorem p_common {σ : St} {p q : Nat} {Q : Int32 → St → Prop} (hp : p < 2147483648) (hq : q < 2147483648) (h : Q (nI (Nat.gcd p q)) σ) : m_X9_common σ (nI p) (nI q) Q := by
  unfold m_X9_common
  refine ⟨fun _ => ?_, fun z => absurd (nI_pos' hp) z⟩
  unfold m_X9_common_J10
  refine lpE2 (m_X9_common_L13b (nI p) (nI q) Q (fun σ x2 => m_X9_common_J30 (nI p) (nI q) Q σ x2)) (fun _ => rfl) (fun m τ x y => ∃ a b, τ = σ ∧ x = nI a ∧ y = nI b ∧ b = m ∧ a < 2147483648 ∧ b < 2147483648 ∧ Nat.gcd a b = Nat.gcd p q) ?_ (n := q) ⟨p, q, rfl, rfl, rfl, rfl, hp, hq, rfl⟩
  rintro m τ x y Rc ⟨a, b, rfl, rfl, rfl, rfl, ha, hb, hg⟩ hRc
  unfold m_X9_common_L13b
  rw [show (0 : Int32) = nI 0 from rfl, nI_eq' (by omega) (by omega)]
  refine ⟨fun z => ?_, fun z => ⟨z, bI_i ?_⟩⟩
  · subst z
    rw [Nat.gcd_zero_right] at hg
    subst hg
    exact h
  · have b0 : 0 < b := by omega
    have rl : a % b < b := Nat.mod_lt _ b0
    rw [pk_rem ha b0 hb]
    refine hRc (a % b) _ _ _ rl ⟨b, a % b, rfl, rfl, rfl, rfl, hb, by omega, ?_⟩
    rw [← hg, Nat.gcd_comm a b, Nat.gcd_rec b a, Nat.gcd_comm]
/-! ===== shares ===== -/
def sub32 (x y : Int32) : Prop := ∀ i, i < 32 → bt x i = true → bt y i = true
theorem sub_and {x y z w : Int32} (h1 : sub32 x y) (h2 : sub32 z w) : sub32 (x &&& z) (y &&& w) := by
  intro i hi q
  rw [b_and, Bool.and_eq_true] at q ⊢
  exact ⟨h1 i hi q.1, h2 i hi q.2⟩
theorem sub_rfl (x : Int32) : sub32 x x := fun _ _ h => h
theorem sub_zero {x y : Int32} (h : sub32 x y) (hy : y = 0) : x = 0 := by
  apply b_ext
  intro i hi
  rw [b_0]
  cases e : bt x i
  · rfl
  · have := h i hi e; rw [hy, b_0] at this; cases this
/-- fewer locks: the same states, fewer candidates -/
theorem wf_sub (T : Tr) (c : Nat) {l1 l2 : Int32} (h : sub32 l1 l2) (u : Nat → Bool) : ∀ n, (wf T c l1 u n).1 = (wf T c l2 u n).1 ∧ sub32 (wf T c l1 u n).2.1 (wf T c l2 u n).2.1 ∧ (wf T c l1 u n).2.2.1 = (wf T c l2 u n).2.2.1
  | 0 => ⟨rfl, sub_rfl _, rfl⟩
  | k + 1 => by
    obtain ⟨i1, i2, i3⟩ := wf_sub T c h u k
    rw [wf_succ, wf_succ]
    split
    · show (w3 T l1 _ k).1 = (w3 T l2 _ k).1 ∧ sub32 (w3 T l1 _ k).2.1 (w3 T l2 _ k).2.1 ∧ (w3 T l1 _ k).2.2 = (w3 T l2 _ k).2.2
      unfold w3
      rw [i1, i3]
      by_cases q0 : (wf T c l2 u k).1 = 0
      · rw [if_pos q0, if_pos q0]; exact ⟨rfl, i2, rfl⟩
      · rw [if_neg q0, if_neg q0]
        by_cases q1 : (wf T c l2 u k).1 = 1 ∧ nI (th T k) ≠ (wf T c l2 u k).2.2.1
        · rw [if_pos q1, if_pos q1]; exact ⟨rfl, sub_and (sub_rfl _) h, rfl⟩
        · rw [if_neg q1, if_neg q1]
          by_cases q2 : 1 < (wf T c l2 u k).1
          · rw [if_pos q2, if_pos q2]; exact ⟨rfl, sub_and i2 (sub_and (sub_rfl _) h), rfl⟩
          · rw [if_neg q2, if_neg q2]; exact ⟨rfl, i2, rfl⟩
    · exact ⟨i1, i2, i3⟩
theorem fbt_sub (T : Tr) (hl : T.length ≤ 20) {l1 l2 : Int32} (h : sub32 l1 l2) : ∀ c, sub32 (fbt T l2 c) (fbt T l1 c)
  | 0 => sub_rfl _
  | c + 1 => by
    intro i hi q
    rw [fbt, b_or, Bool.or_eq_true] at q ⊢
    rcases q with q | q
    · exact Or.inl (fbt_sub T hl h c i hi q)
    · right
      obtain ⟨i1, i2, i3⟩ := wf_sub T c h (fun _ => false) T.length
      by_cases z : (wf T c l2 (fun _ => false) T.length).2.2.2.1 = -9
      · rw [if_pos z, b_0] at q; cases q
      · rw [if_neg z] at q
        have f2 := (flg_iff T c l2 (fun _ => false) T.length (by omega)).mp z
        have f1 := (flg_iff T c l1 (fun _ => false) T.length (by omega)).mpr ⟨i1.trans f2.1, sub_zero i2 f2.2⟩
        rw [if_neg f1]; exact q
theorem cntb_sub {x y : Int32} (h : sub32 x y) : ∀ n, n ≤ 32 → cntb x n ≤ cntb y n
  | 0, _ => Nat.le_refl _
  | k + 1, hk => by
    have ih := cntb_sub h k (by omega)
    rw [cntb, cntb]
    cases e : bt x k
    · simp; omega
    · rw [h k (by omega) e]; simp; omega
theorem cntb_sm {x : Int32} (h : sm x) : ∀ n, 4 ≤ n → n ≤ 32 → cntb x n ≤ 4
  | 0, h1, _ => by omega
  | k + 1, h1, h2 => by
    rcases Nat.lt_or_ge k 4 with q | q
    · have := cntb_le x (k + 1); omega
    · have ih := cntb_sm h k q (by omega)
      rw [cntb, h k q (by omega)]; simpa using ih
def fcn (T : Tr) (lk : Int32) : Nat := cntb (fbt T lk 4) 20
theorem fcn_le (T : Tr) (lk : Int32) : fcn T lk ≤ 4 := cntb_sm (sm_fbt T lk 4 (by omega)) 20 (by omega) (by omega)
theorem fcn_sub (T : Tr) (hl : T.length ≤ 20) {l1 l2 : Int32} (h : sub32 l1 l2) : fcn T l2 ≤ fcn T l1 := cntb_sub (fbt_sub T hl h 4) 20 (by omega)
theorem sub_or (x y : Int32) : sub32 x (x ||| y) := fun i _ h => by rw [b_or, h]; rfl
def ordN (k : Nat) : Nat := ([6, 2, 2, 6] : List Nat).getD k 0
def shN (T : Tr) (l : Nat) : Nat → Nat
  | 0 => 0
  | s + 1 => shN T l s + (if bt (nI s) l then 0 else ordN (cntb (nI s) 20) * (fcn T (nI s) - fcn T (nI s ||| bitI l)))
theorem ord_le : ∀ k, ordN k ≤ 6
  | 0 => by decide
  | 1 => by decide
  | 2 => by decide
  | 3 => by decide
  | k + 4 => by show ([] : List Nat).getD k 0 ≤ 6; simp
theorem shN_le (T : Tr) (l : Nat) : ∀ s, shN T l s ≤ 24 * s
  | 0 => Nat.le_refl _
  | s + 1 => by
    have ih := shN_le T l s
    have h1 := ord_le (cntb (nI s) 20)
    have h2 := fcn_le T (nI s)
    have : ordN (cntb (nI s) 20) * (fcn T (nI s) - fcn T (nI s ||| bitI l)) ≤ 6 * 4 := Nat.mul_le_mul h1 (by omega)
    rw [shN]
    split <;> omega
theorem ones3 : ∀ s, s < 16 → ∀ l, l < 4 → bt (nI s) l = false → cntb (nI s) 20 ≤ 3 := by decide +kernel
def facN : Nat → Nat
  | 0 => 1
  | k + 1 => (k + 1) * facN k
theorem fac_ord : ∀ o, o ≤ 3 → facN o * facN (3 - o) = ordN o := by decide
theorem p_factorial {σ : St} {o : Nat} {Q : Int32 → St → Prop} (ho : o ≤ 3) (h : Q (nI (facN o)) σ) : m_X9_factorial σ (nI o) Q := by
  unfold m_X9_factorial
  refine lpE2 (m_X9_factorial_L4b (nI o) Q (fun σ x1 => m_X9_factorial_J19 (nI o) Q σ x1)) (fun _ => rfl) (fun m τ x y => ∃ k, 1 ≤ k ∧ (k ≤ o ∨ k = 1) ∧ y = nI (k + 1) ∧ m = 4 - k ∧ τ = σ ∧ x = nI (facN k)) ?_ (n := 3) ⟨1, by omega, by omega, rfl, rfl, rfl, rfl⟩
  rintro m τ x y Rc ⟨k, hk, hk2, rfl, hm, rfl, rfl⟩ hRc
  unfold m_X9_factorial_L4b
  rw [nI_lt' (by omega) (by omega)]
  refine ⟨fun z => ?_, fun z => bI_i ?_⟩
  · have : facN k = facN o := by
      by_cases e : o = 0
      · subst e
        have : k = 1 := by omega
        subst this; rfl
      · have : k = o := by omega
        rw [this]
    rw [this]; exact h
  · rw [pk_mul, nI_1]
    refine hRc (4 - (k + 1)) _ _ _ (by omega) ⟨k + 1, by omega, by omega, rfl, rfl, rfl, ?_⟩
    rw [facN, Nat.mul_comm]
theorem fOR_n {o : Nat} (h : o ≤ 3) : fOR (nI o &&& 3).toNatClampNeg = nI (ordN o) ∧ vp_in (nI o &&& 3) 4 := by
  rw [pk_andN (by omega) 2 (by decide), Nat.mod_eq_of_lt (by omega)]
  refine ⟨?_, vp_n (by omega) (by omega)⟩
  rw [nI_cl (by omega)]
  have : o = 0 ∨ o = 1 ∨ o = 2 ∨ o = 3 := by omega
  rcases this with rfl | rfl | rfl | rfl <;> rfl
theorem k_share {σ : St} (h : Inv σ) (a b : Int32) : m_X8_share σ a b (fun r σ1 => m_X9_share σ1 a b (fun r2 σ2 => r = r2 ∧ Inv σ2)) := by
  obtain ⟨X, n, T, B, nx, hI⟩ := h
  have hI0 : Inv σ := ⟨X, n, T, B, nx, hI⟩
  obtain ⟨i1, i2, i3, i4, i5, i6, i7, i8, i9, i10, i11⟩ := id hI
  have hB := i5.bnd i6
  unfold m_X8_share
  rcases arg4 a with ⟨l, hl4, rfl⟩ | ha
  rotate_left
  · refine q_one4n ha ⟨fun z => absurd rfl z, fun _ => ?_⟩
    unfold m_X9_share
    exact p_isFour_n ha ⟨fun z => absurd rfl z, fun _ => ⟨rfl, hI0⟩⟩
  refine q_one4 hl4 ⟨fun _ => bI_i ?_, fun z => absurd z (by decide)⟩
  have bb : ((1 : Int32) <<< (nI l &&& 31)) = bitI l := rfl
  rw [bb]
  have sl := shN_le T l 16
  -- the reference
  have M : ∀ r : Int32, r = (if b = 0 then nI (24 / Nat.gcd (shN T l 16) 24) else nI (shN T l 16 / Nat.gcd (shN T l 16) 24)) → m_X9_share σ (nI l) b (fun r2 σ2 => r = r2 ∧ Inv σ2) := by
    intro r hr
    unfold m_X9_share
    refine p_isFour hl4 ⟨fun _ => ?_, fun z => absurd z (by decide)⟩
    refine p_findHeld (L := 0) i4 hB (by omega) (fun σ1 hW hH hf1 => ?_)
    have hI1 := hI.keep (hf1.keep Xh_keep)
    refine lpE2 (m_X9_share_L19b (nI l) b (fun r2 σ2 => r = r2 ∧ Inv σ2) (fun σ x3 => m_X9_share_J93 (nI l) b (fun r2 σ2 => r = r2 ∧ Inv σ2) σ x3)) (fun _ => rfl) (fun m τ x y => ∃ s, s ≤ 16 ∧ y = nI s ∧ m = 16 - s ∧ fr XW σ1 τ ∧ x = nI (shN T l s)) ?_ (n := 16) ⟨0, by omega, rfl, rfl, fr_rfl, rfl⟩
    rintro m τ x y Rc ⟨s, hs, rfl, hm, hf, rfl⟩ hRc
    have hIt := hI1.keep (hf.keep XW_keep)
    have hHt := hH.fr hf (fun _ => rfl) (fun _ => rfl)
    unfold m_X9_share_L19b
    rw [show (16 : Int32) = nI 16 from rfl, nI_le' (by omega) (by omega)]
    refine ⟨fun z => ?_, fun z => ?_⟩
    · have e : s = 16 := by omega
      subst e
      unfold m_X9_share_J93
      refine p_common (p := shN T l 16) (q := 24) (by omega) (by omega) ?_
      have g0 : 0 < Nat.gcd (shN T l 16) 24 := Nat.gcd_pos_of_pos_right _ (by omega)
      have g1 : Nat.gcd (shN T l 16) 24 ≤ 24 := Nat.gcd_le_right _ (by omega)
      have ng : ¬ nI (Nat.gcd (shN T l 16) 24) = 0 := by
        rw [show (0 : Int32) = nI 0 from rfl, nI_eq' (by omega) (by omega)]; omega
      refine ⟨fun z2 => ⟨ng, ?_, X, n, T, B, nx, hIt⟩, fun z2 => ⟨ng, ?_, X, n, T, B, nx, hIt⟩⟩
      · rw [hr, if_pos z2, show (24 : Int32) = nI 24 from rfl, pk_div (by omega) g0 (by omega)]
      · rw [hr, if_neg z2, pk_div (by omega) g0 (by omega)]
    · refine p_has (by omega) ?_
      rw [nI_1]
      cases hb : bt (nI s) l
      · refine ⟨fun w => absurd rfl w, fun _ => ?_⟩
        have o3 := ones3 s (by omega) l hl4 hb
        refine p_ones (p_factorial o3 (p_ones ?_))
        rw [show (3 : Int32) = nI 3 from rfl, pk_sub o3]
        refine p_factorial (by omega) (bI_i ?_)
        refine p_flaggedOn (L := 0) hIt.2.2.2.1 hB hHt (by omega) (fun υ hfu => p_ones ?_)
        have hIu := hIt.keep (hfu.keep XW_keep)
        refine p_flaggedOn (L := 0) hIu.2.2.2.1 hB (hHt.fr hfu (fun _ => rfl) (fun _ => rfl)) (by omega) (fun ω hfw => p_ones (bI_i ?_))
        rw [bb]
        have fs : fcn T (nI s ||| bitI l) ≤ fcn T (nI s) := fcn_sub T i6 (sub_or _ _)
        have e1 : nI (cntb (fbt T (nI s) 4) 20) - nI (cntb (fbt T (nI s ||| bitI l) 4) 20) = nI (fcn T (nI s) - fcn T (nI s ||| bitI l)) := pk_sub fs
        rw [e1, pk_mul, fac_ord _ o3, pk_mul, nI_add]
        refine hRc (16 - (s + 1)) _ _ _ (by omega) ⟨s + 1, by omega, rfl, rfl, fr_tr hf (fr_tr hfu hfw), ?_⟩
        rw [shN, hb]; rfl
      · refine ⟨fun _ => hRc (16 - (s + 1)) _ _ _ (by omega) ⟨s + 1, by omega, rfl, rfl, hf, ?_⟩, fun w => absurd w (by decide)⟩
        rw [shN, hb]; rfl
  refine lpE2 (m_X8_share_L19b (nI l) b (fun r σ1 => m_X9_share σ1 (nI l) b (fun r2 σ2 => r = r2 ∧ Inv σ2)) (bitI l) (fun σ x4 => m_X8_share_J81 (nI l) b (fun r σ1 => m_X9_share σ1 (nI l) b (fun r2 σ2 => r = r2 ∧ Inv σ2)) σ x4)) (fun _ => rfl) (fun m τ x y => ∃ s, s ≤ 16 ∧ y = nI s ∧ m = 16 - s ∧ τ = σ ∧ x = nI (shN T l s)) ?_ (n := 16) ⟨0, by omega, rfl, rfl, rfl, rfl⟩
  rintro m τ x y Rc ⟨s, hs, rfl, hm, rfl, rfl⟩ hRc
  unfold m_X8_share_L19b
  rw [show (15 : Int32) = nI 15 from rfl, nI_lt' (by omega) (by omega), and_bit0 (by omega)]
  refine ⟨fun z => ?_, fun z => ⟨fun z2 => ?_, fun z2 => ?_⟩⟩
  · have e : s = 16 := by omega
    subst e
    unfold m_X8_share_J81
    dsimp only
    rw [nI_l (by omega), show (24 : Int64) = lN 24 from rfl]
    refine q_fraction (by omega) (by omega) (by omega) ?_
    exact M _ rfl
  · rw [nI_1]
    have hb : bt (nI s) l = true := by simpa using z2
    refine hRc (16 - (s + 1)) _ _ _ (by omega) ⟨s + 1, by omega, rfl, rfl, rfl, ?_⟩
    rw [shN, hb]; rfl
  · have o3 := ones3 s (by omega) l hl4 z2
    refine q_flaggedCount i3 i5 i6 (q_flaggedCount i3 i5 i6 (bI_i ?_))
    have fs : fcn T (nI s ||| bitI l) ≤ fcn T (nI s) := fcn_sub T i6 (sub_or _ _)
    have e1 : nI (cntb (fbt T (nI s) 4) 20) - nI (cntb (fbt T (nI s ||| bitI l) 4) 20) = nI (fcn T (nI s) - fcn T (nI s ||| bitI l)) := pk_sub fs
    refine q_bitCount (sm_nI (by omega)) ⟨(fOR_n o3).2, bI_i ?_⟩
    rw [(fOR_n o3).1, e1, pk_mul, nI_add, nI_1]
    refine hRc (16 - (s + 1)) _ _ _ (by omega) ⟨s + 1, by omega, rfl, rfl, rfl, ?_⟩
    rw [shN, z2]; rfl
