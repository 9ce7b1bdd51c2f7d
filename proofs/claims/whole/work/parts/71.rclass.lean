/-! ===== rings: the class ===== -/
def RSC (s : RS) (σ : St) : Prop := (∀ k, k < 20 → σ.1 56 k = s.1 k) ∧ σ.1 52 5 = s.2
def Xty (c i : Nat) : Bool := c == 56 || (c == 52 && i == 5)
def XgC (c i : Nat) : Bool := c == 56 || c == 57 || (c == 52 && i == 5)
theorem Xty_g : ∀ c i, XgC c i = false → Xty c i = false := by
  intro c i h
  simp only [Xty, XgC, Bool.or_eq_false_iff] at h ⊢
  exact ⟨h.1.1, h.2⟩
theorem q_links {b : Nat} {T : Tr} {σ : St} {i j : Nat} {Q : Int32 → St → Prop} (hR : RowOK b T σ) (hV : Val T) (hl : T.length ≤ 20) (hE : EdC (EL T) σ) (hi : i < (EL T).length) (hj : j < (EL T).length) (h : Q (if lk T i j then 1 else 0) σ) : m_X3_links b σ (nI i) (nI j) Q := by
  unfold m_X3_links
  have ell : (EL T).length ≤ 4 * T.length := el_len T T.length
  obtain ⟨w1, w2, w3, w4⟩ := Eat_ok T hi
  obtain ⟨u1, u2, u3, u4⟩ := Eat_ok T hj
  have w5 := (hV _ w1).2.2.1
  have wg := (hV _ w1).2.1
  refine ⟨vp_n (by omega) (by omega), vp_n (by omega) (by omega), ?_⟩
  rw [nI_cl (by omega), nI_cl (by omega), (hE.2 i hi).2.2, (hE.2 j hj).2.1, nI_eq' (by omega) (by omega), (hE.2 i hi).1]
  have el1 : et T i = (Eat (EL T) i).2.2 := rfl
  have el2 : ef T j = (Eat (EL T) j).2.1 := rfl
  have el3 : ea T i = (Eat (EL T) i).1 := rfl
  have el4 : ea T j = (Eat (EL T) j).1 := rfl
  unfold lk at h
  rw [el1, el2, el3, el4] at h
  refine ⟨fun q => ⟨vp_n (by omega) (by omega), ?_⟩, fun q => by simpa [q] using h⟩
  rw [decide_eq_true q, Bool.true_and] at h
  have J : ∀ t : Bool, decide (sg T (Eat (EL T) i).1 = 1) = t → m_X3_links_J37 b (nI i) (nI j) Q σ (i01 t) := by
    intro t ht
    unfold m_X3_links_J37
    refine ⟨vp_n (by omega) (by omega), ?_⟩
    rw [nI_cl (by omega), (hE.2 j hj).1, (hE.2 j hj).2.1, nI_cl (by omega), (hR.2.1 _ u1).2.2.1, hb_val _ (by omega)]
    refine ⟨vp_n (by omega) (by omega), vp_n (by omega) (by omega), ?_⟩
    rw [ht] at h
    unfold m_X3_links_J68
    cases t
    · cases hb : bt (hr T (Eat (EL T) j).1) (Eat (EL T) j).2.1
      · exact ⟨fun _ => ⟨fun _ => h, fun z => absurd rfl z⟩, fun z => absurd z (by decide)⟩
      · exact ⟨fun z => absurd rfl z, fun _ => ⟨fun _ => h, fun z => absurd rfl z⟩⟩
    · cases hb : bt (hr T (Eat (EL T) j).1) (Eat (EL T) j).2.1
      · rw [hb] at h
        exact ⟨fun _ => ⟨fun z => absurd z (by decide), fun _ => ⟨fun z => absurd rfl z, fun _ => h⟩⟩, fun z => absurd z (by decide)⟩
      · rw [hb] at h
        exact ⟨fun z => absurd rfl z, fun _ => ⟨fun z => absurd z (by decide), fun _ => ⟨fun _ => h, fun z => absurd z (by decide)⟩⟩⟩
  refine r_signAt hR hV hl w1 ?_
  rw [show (115 : Int32) = nI 115 from rfl, ltr_eq wg (g2 := 1) rfl (by omega)]
  exact ⟨fun z => J false (decide_eq_false z), fun z => J true (decide_eq_true z)⟩
theorem q_tallyEnd {b : Nat} {T : Tr} {σ : St} {ch : List Nat} {s : RS} {n : Nat} {Q : St → Prop} (hn : ch.length = n) (h2 : 2 ≤ n) (h4 : n ≤ 4) (hs : RSC s σ) {g o : Bool} (hg : pou (gC T ch) n n = g) (ho : pou (oC T ch) n n = o) (h : ∀ τ, RSC (tak T ch s) τ → fr Xty σ τ → Q τ) : m_X3_tallyRing_J135 b (nI n) Q σ (i01 g) (i01 o) (nI (rnum T ch n)) := by
  unfold m_X3_tallyRing_J135
  refine bI_i ?_
  have e4 : nI n * 4 = nI (4 * n) := by rw [show (4 : Int32) = nI 4 from rfl, pk_mul, Nat.mul_comm]
  have v0 : vp_in (nI (4 * n)) 20 := vp_n (by omega) (by omega)
  have v1 : vp_in (nI (4 * n + 1)) 20 := vp_n (by omega) (by omega)
  have v2 : vp_in (nI (4 * n + 2)) 20 := vp_n (by omega) (by omega)
  have v3 : vp_in (nI (4 * n + 3)) 20 := vp_n (by omega) (by omega)
  have a1 : nI (4 * n) + 1 = nI (4 * n + 1) := nI_1 _
  have a2 : nI (4 * n) + 2 = nI (4 * n + 2) := nI_add _ 2
  have a3 : nI (4 * n) + 3 = nI (4 * n + 3) := nI_add _ 3
  have K : ∀ k, k < 20 → σ.1 56 k = s.1 k := hs.1
  have tk : tak T ch s = ((fun k => if k = 4 * n then s.1 k + 1 else if k = 4 * n + 1 then s.1 k + i01 g else if k = 4 * n + 2 then s.1 k + i01 o else if k = 4 * n + 3 ∧ g = false ∧ o = false then s.1 k + 1 else s.1 k), if g = false ∧ o = false then lst s.2 (nI (rnum T ch n)) else s.2) := by
    unfold tak
    rw [hn]
    simp only [hg, ho]
  rw [e4]
  refine ⟨v0, v0, ?_⟩
  unfold sIB
  rw [a1]
  refine ⟨v1, ?_⟩
  have J : ∀ τ : St, τ = sI (sI σ 56 (4 * n) (s.1 (4 * n) + 1)) 56 (4 * n + 1) (s.1 (4 * n + 1) + i01 g) → ∀ t3 : Int32, t3 = i01 o → m_X3_tallyRing_J192 b (nI n) Q τ (i01 g) (i01 o) (nI (rnum T ch n)) (nI (4 * n)) (nI (4 * n + 2)) (s.1 (4 * n + 2)) t3 := by
    rintro τ rfl t3 rfl
    unfold m_X3_tallyRing_J192
    refine ⟨v2, ?_⟩
    unfold sIB
    rw [nI_cl (by omega), a3]
    have hf2 : fr Xty σ (sI (sI (sI σ 56 (4 * n) (s.1 (4 * n) + 1)) 56 (4 * n + 1) (s.1 (4 * n + 1) + i01 g)) 56 (4 * n + 2) (s.1 (4 * n + 2) + i01 o)) := fr_sI (fr_sI (fr_sI fr_rfl _ rfl) _ rfl) _ rfl
    have stop : ¬ (g = false ∧ o = false) → Q (sI (sI (sI σ 56 (4 * n) (s.1 (4 * n) + 1)) 56 (4 * n + 1) (s.1 (4 * n + 1) + i01 g)) 56 (4 * n + 2) (s.1 (4 * n + 2) + i01 o)) := by
      intro hno
      refine h _ ⟨fun k hk => ?_, ?_⟩ hf2
      · rw [tk]
        simp only [sI_get, true_and]
        by_cases q0 : k = 4 * n
        · subst q0
          rw [if_neg (by omega), if_neg (by omega), if_pos rfl, if_pos rfl]
        · rw [if_neg q0, if_neg q0]
          by_cases q1 : k = 4 * n + 1
          · subst q1
            rw [if_neg (by omega), if_pos rfl, if_pos rfl]
          · rw [if_neg q1, if_neg q1]
            by_cases q2 : k = 4 * n + 2
            · subst q2
              rw [if_pos rfl, if_pos rfl]
            · rw [if_neg q2, if_neg q2, if_neg (fun z => hno z.2)]
              exact K k hk
      · rw [tk, sI_out _ _ (by omega), sI_out _ _ (by omega), sI_out _ _ (by omega)]
        dsimp only
        rw [if_neg hno]
        exact hs.2
    refine ⟨fun z => stop (fun w => z (by rw [w.1]; rfl)), fun z => ⟨fun z2 => stop (fun w => z2 (by rw [w.2]; rfl)), fun z2 => ⟨v3, v3, ?_⟩⟩⟩
    have g0 : g = false := by cases g; rfl; exact absurd z (by decide)
    have o0 : o = false := by cases o; rfl; exact absurd z2 (by decide)
    subst g0; subst o0
    rw [nI_cl (by omega)]
    dsimp only
    rw [sI_out (a := 56) (j := 4 * n + 3) (i := 4 * n + 2) _ _ (by omega), sI_out (a := 56) (j := 4 * n + 3) (i := 4 * n + 1) _ _ (by omega), sI_out (a := 56) (j := 4 * n + 3) (i := 4 * n) _ _ (by omega), K (4 * n + 3) (by omega)]
    rw [sI_out (a := 52) (j := 5) (i := 4 * n + 3) _ _ (by omega), sI_out (a := 52) (j := 5) (i := 4 * n + 2) _ _ (by omega), sI_out (a := 52) (j := 5) (i := 4 * n + 1) _ _ (by omega), sI_out (a := 52) (j := 5) (i := 4 * n) _ _ (by omega), hs.2]
    have fin : ∀ v, v = lst s.2 (nI (rnum T ch n)) → Q (sI (sI (sI (sI (sI σ 56 (4 * n) (s.1 (4 * n) + 1)) 56 (4 * n + 1) (s.1 (4 * n + 1) + i01 false)) 56 (4 * n + 2) (s.1 (4 * n + 2) + i01 false)) 56 (4 * n + 3) (s.1 (4 * n + 3) + 1)) 52 5 v) := by
      intro v hv
      refine h _ ⟨fun k hk => ?_, ?_⟩ (fr_sI (fr_sI hf2 _ rfl) _ rfl)
      · rw [tk, sI_out _ _ (by omega)]
        simp only [sI_get, true_and]
        by_cases q0 : k = 4 * n
        · subst q0
          rw [if_neg (by omega), if_neg (by omega), if_neg (by omega), if_pos rfl, if_pos rfl]
        · rw [if_neg q0, if_neg q0]
          by_cases q1 : k = 4 * n + 1
          · subst q1
            rw [if_neg (by omega), if_neg (by omega), if_pos rfl, if_pos rfl]
          · rw [if_neg q1, if_neg q1]
            by_cases q2 : k = 4 * n + 2
            · subst q2
              rw [if_neg (by omega), if_pos rfl, if_pos rfl]
            · rw [if_neg q2, if_neg q2]
              by_cases q3 : k = 4 * n + 3
              · subst q3
                rw [if_pos rfl]; simp
              · rw [if_neg q3, if_neg (fun z => q3 z.1)]
                exact K k hk
      · rw [tk, sI_in]
        dsimp only
        rw [if_pos ⟨rfl, rfl⟩]
        exact hv
    refine ⟨fun z => fin _ ?_, fun z => fin _ ?_⟩
    · rw [lst, if_neg z]
    · rw [lst, if_pos z]
  have J2 : ∀ t3 : Int32, t3 = i01 g → m_X3_tallyRing_J170 b (nI n) Q (sI σ 56 (4 * n) (s.1 (4 * n) + 1)) (i01 g) (i01 o) (nI (rnum T ch n)) (nI (4 * n)) (nI (4 * n + 1)) (s.1 (4 * n + 1)) t3 := by
    rintro t3 rfl
    unfold m_X3_tallyRing_J170
    refine ⟨v1, ?_⟩
    unfold sIB
    rw [nI_cl (by omega), a2]
    refine ⟨v2, ?_⟩
    rw [nI_cl (by omega), sI_out (a := 56) (j := 4 * n + 2) (i := 4 * n + 1) _ _ (by omega), sI_out (a := 56) (j := 4 * n + 2) (i := 4 * n) _ _ (by omega), K (4 * n + 2) (by omega)]
    refine ⟨fun z => J _ rfl 0 z.symm, fun z => J _ rfl 1 ?_⟩
    cases o
    · exact absurd rfl z
    · rfl
  rw [nI_cl (by omega), nI_cl (by omega), K (4 * n) (by omega), sI_out (a := 56) (j := 4 * n + 1) (i := 4 * n) _ _ (by omega), K (4 * n + 1) (by omega)]
  refine ⟨fun z => J2 0 z.symm, fun z => J2 1 ?_⟩
  cases g
  · exact absurd rfl z
  · rfl
theorem rnum_le {T : Tr} (hl : T.length ≤ 20) {ch : List Nat} {n : Nat} (hx : ∀ j, j < n → ea T (cg ch j) < 20) : ∀ j, j ≤ n → j ≤ 4 → rnum T ch j + 1 ≤ 100 ^ j
  | 0, _, _ => Nat.le_refl _
  | j + 1, h1, h2 => by
    have ih := rnum_le hl hx j (by omega) (by omega)
    have := hx j (by omega)
    rw [rnum, Nat.pow_succ]
    omega
theorem q_tallyRing {b : Nat} {T : Tr} {σ : St} {ch : List Nat} {s : RS} {n : Nat} {Q : St → Prop} (hR : RowOK b T σ) (hV : Val T) (hl : T.length ≤ 20) (hE : EdC (EL T) σ) (hn : ch.length = n) (h2 : 2 ≤ n) (h4 : n ≤ 4) (hx : ∀ x, x ∈ ch → x < (EL T).length) (h57 : ∀ j, j < n → σ.1 57 j = nI (cg ch j)) (hs : RSC s σ) (h : ∀ τ, RSC (tak T ch s) τ → fr Xty σ τ → Q τ) : m_X3_tallyRing b σ (nI n) Q := by
  unfold m_X3_tallyRing
  have ell : (EL T).length ≤ 4 * T.length := el_len T T.length
  have hc : ∀ j, j < n → cg ch j < (EL T).length := fun j hj => hx _ (cg_mem (by omega))
  have hst : ∀ j, j < n → (Eat (EL T) (cg ch j)).1 < T.length := fun j hj => (Eat_ok T (hc j hj)).1
  refine lpE4 (m_X3_tallyRing_L11b b (nI n) Q (fun σ x3 x4 x5 => m_X3_tallyRing_J135 b (nI n) Q σ x3 x4 x5)) (fun _ => rfl) (fun m τ x y z u => ∃ i, i ≤ n ∧ u = nI i ∧ m = n - i ∧ τ = σ ∧ x = i01 (pou (gC T ch) n i) ∧ y = i01 (pou (oC T ch) n i) ∧ z = nI (rnum T ch i)) ?_ (n := n) ⟨0, by omega, rfl, rfl, rfl, rfl, rfl, rfl⟩
  rintro m τ x y z u Rc ⟨i, hi, rfl, hm, rfl, rfl, rfl, rfl⟩ hRc
  unfold m_X3_tallyRing_L11b
  rw [nI_le' (by omega) (by omega)]
  refine ⟨fun q => ?_, fun q => ⟨vp_n (by omega) (by omega), ?_⟩⟩
  · have e : i = n := by omega
    subst e
    exact q_tallyEnd hn h2 h4 hs rfl rfl h
  have hin : i < n := by omega
  have hci := hc i hin
  have hsi := hst i hin
  rw [nI_cl (by omega), h57 i hin]
  refine ⟨vp_n (by omega) (by omega), bI_i (bI_i ?_)⟩
  rw [nI_cl (by omega), (hE.2 _ hci).1]
  have en : nI (rnum T ch i) * 100 + nI (Eat (EL T) (cg ch i)).1 + 1 = nI (rnum T ch (i + 1)) := by
    rw [show (100 : Int32) = nI 100 from rfl, pk_mul, nI_add, nI_1]
    rfl
  rw [en]
  refine lpE3 (m_X3_tallyRing_L46b b (nI n) Q (nI (rnum T ch (i + 1))) (nI i) (nI (Eat (EL T) (cg ch i)).1) (fun σ x3 x4 => m_X3_tallyRing_J129 b (nI n) Q (fun σ x3 x4 x5 => m_X3_tallyRing_J135 b (nI n) Q σ x3 x4 x5) Rc σ x3 x4 (nI (rnum T ch (i + 1))) (nI i))) (fun _ => rfl) (fun m τ' x y z => ∃ j, j ≤ n ∧ z = nI j ∧ m = n - j ∧ τ' = τ ∧ x = i01 (pin (gC T ch) i (pou (gC T ch) n i) j) ∧ y = i01 (pin (oC T ch) i (pou (oC T ch) n i) j)) ?_ (n := n) ⟨0, by omega, rfl, rfl, rfl, rfl, rfl⟩
  rintro m2 υ x y z Rc2 ⟨j, hj, rfl, hm2, rfl, rfl, rfl⟩ hR2
  unfold m_X3_tallyRing_L46b
  rw [nI_le' (by omega) (by omega)]
  refine ⟨fun q2 => ?_, fun q2 => ⟨vp_n (by omega) (by omega), ?_⟩⟩
  · have e : j = n := by omega
    subst e
    unfold m_X3_tallyRing_J129
    rw [nI_1]
    exact hRc (j - (i + 1)) _ _ _ _ _ (by omega) ⟨i + 1, by omega, rfl, rfl, rfl, rfl, rfl, rfl⟩
  have hjn : j < n := by omega
  have hcj := hc j hjn
  have hsj := hst j hjn
  rw [nI_cl (by omega), h57 j hjn]
  refine ⟨vp_n (by omega) (by omega), bI_i ?_⟩
  rw [nI_cl (by omega), (hE.2 _ hcj).1]
  -- the order
  have J : ∀ g2 : Bool, pin (gC T ch) i (pou (gC T ch) n i) (j + 1) = g2 → m_X3_tallyRing_J99 b (nI n) Q (nI (rnum T ch (i + 1))) (nI i) (nI (Eat (EL T) (cg ch i)).1) (fun σ x3 x4 => m_X3_tallyRing_J129 b (nI n) Q (fun σ x3 x4 x5 => m_X3_tallyRing_J135 b (nI n) Q σ x3 x4 x5) Rc σ x3 x4 (nI (rnum T ch (i + 1))) (nI i)) Rc2 υ (i01 (pin (oC T ch) i (pou (oC T ch) n i) j)) (nI j) (nI (Eat (EL T) (cg ch j)).1) (i01 g2) := by
    intro g2 hg2
    unfold m_X3_tallyRing_J99
    rw [nI_1]
    have po : pin (oC T ch) i (pou (oC T ch) n i) (j + 1) = (pin (oC T ch) i (pou (oC T ch) n i) j || oC T ch i j) := rfl
    have G : ∀ v : Int32, v = i01 (pin (oC T ch) i (pou (oC T ch) n i) (j + 1)) → Rc2 υ (i01 g2) v (nI (j + 1)) := by
      rintro v rfl
      exact hR2 (n - (j + 1)) _ _ _ _ (by omega) ⟨j + 1, by omega, rfl, rfl, rfl, by rw [hg2], rfl⟩
    cases ho : pin (oC T ch) i (pou (oC T ch) n i) j
    · refine ⟨fun z => absurd rfl z, fun _ => ?_⟩
      refine r_isAhead hR hl hsj (Nat.lt_of_lt_of_le hsi (by omega)) ?_
      have oe : oC T ch i j = bt (bf T (Eat (EL T) (cg ch j)).1) (Eat (EL T) (cg ch i)).1 := rfl
      cases hb : bt (bf T (Eat (EL T) (cg ch j)).1) (Eat (EL T) (cg ch i)).1
      · exact ⟨fun _ => G _ (by rw [po, ho, oe, hb]; rfl), fun z => absurd rfl z⟩
      · exact ⟨fun z => absurd z (by decide), fun _ => G _ (by rw [po, ho, oe, hb]; rfl)⟩
    · exact ⟨fun _ => G _ (by rw [po, ho]; rfl), fun z => absurd z (by decide)⟩
  have pg : pin (gC T ch) i (pou (gC T ch) n i) (j + 1) = (pin (gC T ch) i (pou (gC T ch) n i) j || gC T ch i j) := rfl
  cases hg : pin (gC T ch) i (pou (gC T ch) n i) j
  · refine ⟨fun z => absurd rfl z, fun _ => ?_⟩
    rw [nI_eq' (by omega) (by omega)]
    refine ⟨fun z => J false (by rw [pg, hg, gC, decide_eq_false (fun w => w z)]; rfl), fun z => ⟨vp_n (by omega) (by omega), ?_⟩⟩
    refine r_heldAt hR hl hsj ?_
    rw [nI_cl (by omega), (hR.2.1 _ hsi).2.1]
    have ge : gC T ch i j = !decide ((hw T (Eat (EL T) (cg ch i)).1 &&& (hw T (Eat (EL T) (cg ch j)).1 ||| hr T (Eat (EL T) (cg ch j)).1)) = 0) := by
      rw [gC, decide_eq_true z, Bool.true_and]; rfl
    refine ⟨fun w => J false ?_, fun w => J true ?_⟩
    · rw [pg, hg, ge, decide_eq_true w]; rfl
    · rw [pg, hg, ge, decide_eq_false w]; rfl
  · exact ⟨fun _ => J true (by rw [pg, hg]; rfl), fun z => absurd z (by decide)⟩
theorem and_bit0 {x : Int32} {t : Nat} (ht : t < 32) : (x &&& bitI t) = 0 ↔ bt x t = false := by
  constructor
  · intro h
    have : bt (x &&& bitI t) t = false := by rw [h, b_0]
    rw [b_and, b_bit ht ht] at this
    simpa using this
  · intro h
    apply b_ext
    intro i hi
    rw [b_and, b_bit ht hi, b_0]
    by_cases e : i = t
    · subst e; rw [h]; rfl
    · simp [e]
theorem rowG {b : Nat} {T : Tr} {σ τ : St} (hb : b + 9 < 52) (h : RowOK b T σ) (hf : fr XgC σ τ) : RowOK b T τ := h.fr hf (fun c i h1 h2 => by
  simp only [XgC, Bool.or_eq_false_iff, Bool.and_eq_false_iff, beq_eq_false_iff_ne]; omega)
theorem edG {E : List Tp} {σ τ : St} (h : EdC E σ) (hf : fr XgC σ τ) : EdC E τ := EdS.fr h hf rfl (fun _ => rfl) (fun _ => rfl) (fun _ => rfl)
def bset (x : Int32) (ch : List Nat) (f : Nat → Nat) : Prop := ∀ t, t < 4 → (bt x t = true ↔ ∃ y, y ∈ ch ∧ f y = t)
theorem bset_app {x : Int32} {ch : List Nat} {f : Nat → Nat} {i : Nat} (h : bset x ch f) (hi : f i < 4) : bset (x ||| bitI (f i)) (ch ++ [i]) f := by
  intro t ht
  rw [b_or, Bool.or_eq_true, h t ht, b_bit (by omega) (by omega), decide_eq_true_eq]
  constructor
  · rintro (⟨y, hy, e⟩ | e)
    · exact ⟨y, List.mem_append_left _ hy, e⟩
    · exact ⟨i, by simp, e.symm⟩
  · rintro ⟨y, hy, e⟩
    rw [List.mem_append, List.mem_singleton] at hy
    rcases hy with hy | rfl
    · exact Or.inl ⟨y, hy, e⟩
    · exact Or.inr e.symm
theorem bset1 {f : Nat → Nat} {i : Nat} (hi : f i < 4) : bset (bitI (f i)) [i] f := by
  intro t ht
  rw [b_bit (by omega) (by omega), decide_eq_true_eq]
  constructor
  · intro e; exact ⟨i, by simp, e.symm⟩
  · rintro ⟨y, hy, e⟩
    rw [List.mem_singleton] at hy; subst hy; exact e.symm
theorem q_grow {b : Nat} {T : Tr} (hb : b + 9 < 52) (hV : Val T) (hl : T.length ≤ 20) : ∀ (D d : Nat) (ch : List Nat) (s : RS) (σ : St) (a3 a4 : Int32) (Q : St → Prop), ch.length = d → 1 ≤ d → d ≤ 4 → 5 ≤ D + d → (∀ x, x ∈ ch → x < (EL T).length) → (∀ j, j < d → σ.1 57 j = nI (cg ch j)) → bset a3 ch (eh T) → bset a4 ch (ef T) → RowOK b T σ → EdC (EL T) σ → RSC s σ → (∀ τ, RSC (gw T (4 - d) ch s) τ → fr XgC σ τ → (∀ j, j < d → τ.1 57 j = σ.1 57 j) → Q τ) → m_X3_grow D b σ (nI d) a3 a4 Q
  | 0, d, ch, s, σ, a3, a4, Q, hd, h1, h4, h5, hx, h57, hB3, hB4, hR, hE, hs, h => by omega
  | D + 1, d, ch, s, σ, a3, a4, Q, hd, h1, h4, h5, hx, h57, hB3, hB4, hR, hE, hs, h => by
    have ell : (EL T).length ≤ 4 * T.length := el_len T T.length
    show m_X3_growB (m_X3_grow D) b σ (nI d) a3 a4 Q
    unfold m_X3_growB
    rw [show (1 : Int32) = nI 1 from rfl, show (4 : Int32) = nI 4 from rfl, nI_lt' (by omega) (by omega), nI_lt' (by omega) (by omega)]
    refine ⟨fun z => by omega, fun _ => ⟨fun z => bI_i ?_, fun z => ?_⟩⟩
    rotate_left
    · have e : d = 4 := by omega
      subst e
      exact h σ hs fr_rfl (fun _ _ => rfl)
    obtain ⟨f, hf⟩ : ∃ f, 4 - d = f + 1 := ⟨3 - d, by omega⟩
    rw [hf, gw] at h
    have hne : ch ≠ [] := by intro q; rw [q] at hd; simp at hd; omega
    have h0m : cg ch 0 ∈ ch := cg_mem (by omega)
    have hlm : cl ch ∈ ch := cg_mem (by omega)
    have h0n := hx _ h0m
    have hln := hx _ hlm
    have el0 : cl ch = cg ch (d - 1) := by rw [cl, hd]
    rw [cl0, h57 0 (by omega)]
    refine lpE1 (m_X3_grow_L22b b (nI d) a3 a4 Q (m_X3_grow D) (nI (cg ch 0)) (fun σ => m_X3_grow_J176 b (nI d) a3 a4 Q (m_X3_grow D) σ)) (fun _ => rfl) (fun m τ x => ∃ i, i ≤ (EL T).length ∧ x = nI i ∧ m = (EL T).length - i ∧ RSC (fldN (fun i s => if lat T ch i && lk T (cl ch) i then (if lk T i (cg ch 0) then tak T (ch ++ [i]) s else if lfr T ch i then gw T f (ch ++ [i]) s else s) else s) i s) τ ∧ fr XgC σ τ ∧ ∀ j, j < d → τ.1 57 j = σ.1 57 j) ?_ (n := (EL T).length) ⟨0, by omega, rfl, rfl, hs, fr_rfl, fun _ _ => rfl⟩
    rintro m τ x Rc ⟨i, hi, rfl, hm, hst, hfr, h57t⟩ hRc
    unfold m_X3_grow_L22b
    have hRt := rowG hb hR hfr
    have hEt := edG hE hfr
    rw [hEt.1, nI_le' (by omega) (by omega)]
    refine ⟨fun q => ?_, fun q => ⟨vp_n (by omega) (by omega), ?_⟩⟩
    · have e : i = (EL T).length := by omega
      subst e
      exact h τ hst hfr h57t
    have hin : i < (EL T).length := by omega
    obtain ⟨w1, w2, w3, w4⟩ := Eat_ok T hin
    obtain ⟨v1, v2, v3, v4⟩ := Eat_ok T h0n
    have wt := (hV _ w1).1
    have w5 := (hV _ w1).2.2.1
    rw [nI_cl (by omega), (hEt.2 i hin).1]
    refine r_threadAt hRt hV hl w1 (bI_i ?_)
    have next : ∀ (υ : St) (s2 : RS), RSC s2 υ → fr XgC σ υ → (∀ j, j < d → υ.1 57 j = σ.1 57 j) → s2 = fldN (fun i s => if lat T ch i && lk T (cl ch) i then (if lk T i (cg ch 0) then tak T (ch ++ [i]) s else if lfr T ch i then gw T f (ch ++ [i]) s else s) else s) (i + 1) s → Rc υ (nI i + 1) := by
      rintro υ s2 k1 k2 k3 rfl
      rw [nI_1]
      exact hRc ((EL T).length - (i + 1)) _ _ (by omega) ⟨i + 1, by omega, rfl, rfl, k1, k2, k3⟩
    refine ⟨vp_n (by omega) (by omega), vp_n (by omega) (by omega), ?_⟩
    rw [nI_cl (by omega), (hEt.2 _ h0n).1, (hEt.2 i hin).1, nI_le' (by omega) (by omega)]
    have latE : lat T ch i = (decide (ea T (cg ch 0) < ea T i) && ch.all (fun x => decide (eh T x ≠ eh T i))) := rfl
    have thE : ch.all (fun x => decide (eh T x ≠ eh T i)) = !bt a3 (eh T i) := by
      rw [Bool.eq_iff_iff, List.all_eq_true, Bool.not_eq_true']
      constructor
      · intro w
        cases e : bt a3 (eh T i)
        · rfl
        · obtain ⟨y, hy, e2⟩ := (hB3 (eh T i) wt).mp e
          have := w y hy
          rw [decide_eq_true_eq] at this
          exact absurd e2 this
      · intro w y hy
        rw [decide_eq_true_eq]
        intro e2
        have := (hB3 (eh T i) wt).mpr ⟨y, hy, e2⟩
        rw [w] at this; cases this
    have skip : (lat T ch i && lk T (cl ch) i) = false → Rc τ (nI i + 1) := by
      intro w
      refine next τ _ hst hfr h57t ?_
      rw [fldN, w]
      rfl
    have J74 : lat T ch i = false → ∀ y, m_X3_grow_J74 b (nI d) a3 a4 Q (m_X3_grow D) (nI (cg ch 0)) (fun σ => m_X3_grow_J176 b (nI d) a3 a4 Q (m_X3_grow D) σ) Rc τ (nI i) y := by
      intro w y
      unfold m_X3_grow_J74 m_X3_grow_J75
      exact ⟨fun _ => skip (by rw [w]; rfl), fun z => absurd rfl z⟩
    refine ⟨fun z2 => J74 ?_ _, fun z2 => ?_⟩
    · rw [latE, decide_eq_false (by show ¬ (Eat (EL T) (cg ch 0)).1 < (Eat (EL T) i).1; omega)]; rfl
    have d1 : decide (ea T (cg ch 0) < ea T i) = true := decide_eq_true (by show (Eat (EL T) (cg ch 0)).1 < (Eat (EL T) i).1; omega)
    have bb : ((1 : Int32) <<< (nI (th T (Eat (EL T) i).1) &&& 31)) = bitI (eh T i) := rfl
    have wt32 : eh T i < 32 := Nat.lt_trans wt (by omega)
    rw [bb, and_bit0 wt32]
    refine ⟨fun z3 => J74 ?_ _, fun z3 => ?_⟩
    · rw [latE, thE]; simp [z3]
    have hlat : lat T ch i = true := by rw [latE, thE, d1, z3]; rfl
    unfold m_X3_grow_J75
    refine ⟨fun z4 => absurd z4 (by decide), fun _ => ?_⟩
    have ed : nI d - 1 = nI (d - 1) := by rw [show (1 : Int32) = nI 1 from rfl, pk_sub (by omega)]
    rw [ed, nI_cl (by omega), h57t (d - 1) (by omega), h57 (d - 1) (by omega), ← el0]
    refine ⟨vp_n (by omega) (by omega), ?_⟩
    refine q_links hRt hV hl hEt hln hin ?_
    cases hlk : lk T (cl ch) i
    · exact ⟨fun _ => skip (by rw [hlk, Bool.and_false]), fun z => absurd rfl z⟩
    refine ⟨fun z => absurd z (by decide), fun _ => ⟨vp_n (by omega) (by omega), ?_⟩⟩
    unfold sIB
    rw [nI_cl (n := d) (by omega)]
    have hfu : fr XgC τ (sI τ 57 d (nI i)) := fr_sI fr_rfl _ rfl
    have hfu2 : fr XgC σ (sI τ 57 d (nI i)) := fr_tr hfr hfu
    have hRu := rowG hb hR hfu2
    have hEu := edG hE hfu2
    have h57u : ∀ j, j < d → (sI τ 57 d (nI i)).1 57 j = σ.1 57 j := fun j hj => by rw [sI_out _ _ (by omega)]; exact h57t j hj
    have h57v : ∀ j, j < d + 1 → (sI τ 57 d (nI i)).1 57 j = nI (cg (ch ++ [i]) j) := by
      intro j hj
      by_cases e : j = d
      · subst e; rw [sI_in, ← hd, cg_last]
      · rw [h57u j (by omega), h57 j (by omega), cg_app ch i (by omega)]
    have hsu : RSC (fldN (fun i s => if lat T ch i && lk T (cl ch) i then (if lk T i (cg ch 0) then tak T (ch ++ [i]) s else if lfr T ch i then gw T f (ch ++ [i]) s else s) else s) i s) (sI τ 57 d (nI i)) := ⟨fun k hk => by rw [sI_out _ _ (by omega)]; exact hst.1 k hk, by rw [sI_out _ _ (by omega)]; exact hst.2⟩
    have hxa : ∀ x, x ∈ ch ++ [i] → x < (EL T).length := by
      intro x hx2
      rw [List.mem_append, List.mem_singleton] at hx2
      rcases hx2 with hx2 | rfl
      · exact hx x hx2
      · exact hin
    have hla : (ch ++ [i]).length = d + 1 := by rw [List.length_append, hd]; rfl
    refine q_links hRu hV hl hEu hin h0n ?_
    have stepE : fldN (fun i s => if lat T ch i && lk T (cl ch) i then (if lk T i (cg ch 0) then tak T (ch ++ [i]) s else if lfr T ch i then gw T f (ch ++ [i]) s else s) else s) (i + 1) s = (if lk T i (cg ch 0) then tak T (ch ++ [i]) (fldN (fun i s => if lat T ch i && lk T (cl ch) i then (if lk T i (cg ch 0) then tak T (ch ++ [i]) s else if lfr T ch i then gw T f (ch ++ [i]) s else s) else s) i s) else if lfr T ch i then gw T f (ch ++ [i]) (fldN (fun i s => if lat T ch i && lk T (cl ch) i then (if lk T i (cg ch 0) then tak T (ch ++ [i]) s else if lfr T ch i then gw T f (ch ++ [i]) s else s) else s) i s) else fldN (fun i s => if lat T ch i && lk T (cl ch) i then (if lk T i (cg ch 0) then tak T (ch ++ [i]) s else if lfr T ch i then gw T f (ch ++ [i]) s else s) else s) i s) := by
      rw [fldN, hlat, hlk]
      rfl
    cases hcl : lk T i (cg ch 0)
    · refine ⟨fun _ => ⟨vp_n (by omega) (by omega), ?_⟩, fun z => absurd rfl z⟩
      rw [hcl] at stepE
      rw [nI_cl (by omega), (hEu.2 i hin).2.2, hb_val a4 (by omega)]
      have lfE : lfr T ch i = !bt a4 (et T i) := by
        rw [Bool.eq_iff_iff, lfr, List.all_eq_true, Bool.not_eq_true']
        have e4 : et T i < 4 := by show (Eat (EL T) i).2.2 < 4; omega
        constructor
        · intro w
          cases e : bt a4 (et T i)
          · rfl
          · obtain ⟨y, hy, e2⟩ := (hB4 (et T i) e4).mp e
            have := w y hy
            rw [decide_eq_true_eq] at this
            exact absurd e2 this
        · intro w y hy
          rw [decide_eq_true_eq]
          intro e2
          have := (hB4 (et T i) e4).mpr ⟨y, hy, e2⟩
          rw [w] at this; cases this
      have ete : (Eat (EL T) i).2.2 = et T i := rfl
      rw [ete]
      cases hbt : bt a4 (et T i)
      · refine ⟨fun z => absurd rfl z, fun _ => ⟨vp_n (by omega) (by omega), ?_⟩⟩
        rw [hbt] at lfE
        have b2 : ((1 : Int32) <<< (nI (Eat (EL T) i).2.1 &&& 31)) = bitI (ef T i) := rfl
        rw [(hEu.2 i hin).2.1, nI_1, b2]
        refine q_grow hb hV hl D (d + 1) (ch ++ [i]) _ (sI τ 57 d (nI i)) (a3 ||| bitI (eh T i)) (a4 ||| bitI (ef T i)) _ hla (by omega) (by omega) (by omega) hxa h57v (bset_app hB3 wt) (bset_app hB4 w2) hRu hEu hsu (fun υ k1 k2 k3 => ?_)
        refine next υ _ k1 (fr_tr hfu2 k2) (fun j hj => (k3 j (by omega)).trans (h57u j hj)) ?_
        rw [stepE, lfE, show 4 - (d + 1) = f by omega]
        rfl
      · refine ⟨fun _ => ?_, fun z => absurd z (by decide)⟩
        rw [hbt] at lfE
        refine next _ _ hsu hfu2 h57u ?_
        rw [stepE, lfE]
        rfl
    · refine ⟨fun z => absurd z (by decide), fun _ => ?_⟩
      rw [hcl] at stepE
      rw [nI_1]
      refine q_tallyRing hRu hV hl hEu hla (by omega) (by omega) hxa h57v hsu (fun υ k1 k2 => ?_)
      refine next υ _ k1 (fr_tr hfu2 (fr_mono k2 Xty_g)) (fun j hj => (k2.1 57 j rfl).trans (h57u j hj)) ?_
      rw [stepE]
      rfl
def XfC (c i : Nat) : Bool := XeC c i || XgC c i
theorem XfC_keep : ∀ c i, PF c i = true → XfC c i = false := by
  intro c i h
  simp only [PF, XfC, XeC, XgC, Bool.or_eq_true, Bool.and_eq_true, beq_iff_eq, decide_eq_true_eq, Bool.or_eq_false_iff, Bool.and_eq_false_iff, beq_eq_false_iff_ne] at h ⊢
  omega
theorem q_find {b : Nat} {T : Tr} {σ : St} {Q : St → Prop} (hb : b + 9 < 52) (hR : RowOK b T σ) (hV : Val T) (hl : T.length ≤ 20) (h : ∀ τ, RSC (RC T) τ → fr XfC σ τ → Q τ) : m_X3_find b σ Q := by
  unfold m_X3_find
  have ell : (EL T).length ≤ 4 * T.length := el_len T T.length
  refine q_collect hb hR hV hl (fun σ1 hE1 hf1 => ?_)
  have hR1 : RowOK b T σ1 := hR.fr hf1 (fun c i h1 h2 => by simp only [XeC, Bool.or_eq_false_iff, Bool.and_eq_false_iff, beq_eq_false_iff_ne]; omega)
  refine q_fill (q0 := 56) (n := 20) (by omega) (fun σ2 h56 hf2 => ?_)
  unfold sIB
  have hf2g : fr XgC σ1 σ2 := fr_mono hf2 (fun c i w => by
    simp only [XgC, Bool.or_eq_false_iff] at w
    rw [w.1.1]; rfl)
  have hf3 : fr XgC σ1 (sI σ2 52 5 (-9)) := fr_sI hf2g _ rfl
  refine lpE1 (m_X3_find_L21b b Q (fun σ => m_X3_find_J68 b Q σ)) (fun _ => rfl) (fun m τ x => ∃ a, a ≤ (EL T).length ∧ x = nI a ∧ m = (EL T).length - a ∧ RSC (fldN (fun a s => gw T 3 [a] s) a rs0) τ ∧ fr XgC σ1 τ) ?_ (n := (EL T).length) ⟨0, by omega, rfl, rfl, ⟨fun k hk => by rw [sI_out _ _ (by omega)]; exact h56 k hk, sI_in _ _ _ _⟩, hf3⟩
  rintro m τ x Rc ⟨a, ha, rfl, hm, hst, hfr⟩ hRc
  unfold m_X3_find_L21b
  have hRt := rowG hb hR1 hfr
  have hEt := edG hE1 hfr
  rw [hEt.1, nI_le' (by omega) (by omega)]
  refine ⟨fun q => ?_, fun q => ⟨vp_n (n := 0) (by omega) (by omega), ?_⟩⟩
  · have e : a = (EL T).length := by omega
    subst e
    refine h τ hst (fr_tr (fr_mono hf1 (fun c i w => ?_)) (fr_mono hfr (fun c i w => ?_)))
    · simp only [XfC, Bool.or_eq_false_iff] at w; exact w.1
    · simp only [XfC, Bool.or_eq_false_iff] at w; exact w.2
  have han : a < (EL T).length := by omega
  obtain ⟨w1, w2, w3, w4⟩ := Eat_ok T han
  have wt := (hV _ w1).1
  unfold sIB
  rw [cl0]
  have hfu : fr XgC σ1 (sI τ 57 0 (nI a)) := fr_sI hfr _ rfl
  have hRu := rowG hb hR1 hfu
  have hEu := edG hE1 hfu
  refine ⟨vp_n (by omega) (by omega), ?_⟩
  rw [nI_cl (by omega), (hEu.2 a han).1]
  refine r_threadAt hRu hV hl w1 ⟨vp_n (by omega) (by omega), ?_⟩
  have b1 : ((1 : Int32) <<< (nI (th T (Eat (EL T) a).1) &&& 31)) = bitI (eh T a) := rfl
  have b2 : ((1 : Int32) <<< (nI (Eat (EL T) a).2.1 &&& 31)) = bitI (ef T a) := rfl
  rw [(hEu.2 a han).2.1, b1, b2]
  refine q_grow hb hV hl 5 1 [a] _ (sI τ 57 0 (nI a)) (bitI (eh T a)) (bitI (ef T a)) _ rfl (by omega) (by omega) (by omega) (fun x hx => ?_) (fun j hj => ?_) (bset1 (f := eh T) wt) (bset1 (f := ef T) w2) hRu hEu ⟨fun k hk => by rw [sI_out _ _ (by omega)]; exact hst.1 k hk, by rw [sI_out _ _ (by omega)]; exact hst.2⟩ (fun υ k1 k2 _ => ?_)
  · rw [List.mem_singleton] at hx; subst hx; exact han
  · have e : j = 0 := by omega
    subst e; rw [sI_in]; rfl
  · rw [nI_1]
    exact hRc ((EL T).length - (a + 1)) _ _ (by omega) ⟨a + 1, by omega, rfl, rfl, k1, fr_tr hfu k2⟩
def fsb (s : RS) : Int32 := ((0 + s.1 11) + s.1 15) + s.1 19
theorem q_feasible {σ : St} {s : RS} {Q : Int32 → St → Prop} (hs : RSC s σ) (h : Q (fsb s) σ) : m_X3_feasible σ Q := by
  unfold m_X3_feasible
  refine lpE2 (m_X3_feasible_L4b Q (fun σ x1 => m_X3_feasible_J28 Q σ x1)) (fun _ => rfl) (fun m τ x y => τ = σ ∧ ((m = 3 ∧ y = nI 2 ∧ x = 0) ∨ (m = 2 ∧ y = nI 3 ∧ x = 0 + s.1 11) ∨ (m = 1 ∧ y = nI 4 ∧ x = (0 + s.1 11) + s.1 15) ∨ (m = 0 ∧ y = nI 5 ∧ x = fsb s))) ?_ (n := 3) ⟨rfl, Or.inl ⟨rfl, rfl, rfl⟩⟩
  rintro m τ x y Rc ⟨rfl, hh⟩ hR
  unfold m_X3_feasible_L4b
  rcases hh with ⟨rfl, rfl, rfl⟩ | ⟨rfl, rfl, rfl⟩ | ⟨rfl, rfl, rfl⟩ | ⟨rfl, rfl, rfl⟩
  · refine ⟨fun z => absurd z (by decide), fun _ => ⟨vp_n (n := 11) (by omega) (by omega), bI_i ?_⟩⟩
    rw [show ((nI 2 * 4 + 3 : Int32)).toNatClampNeg = 11 by decide, hs.1 11 (by omega)]
    exact hR 2 _ _ _ (by omega) ⟨rfl, Or.inr (Or.inl ⟨rfl, rfl, rfl⟩)⟩
  · refine ⟨fun z => absurd z (by decide), fun _ => ⟨vp_n (n := 15) (by omega) (by omega), bI_i ?_⟩⟩
    rw [show ((nI 3 * 4 + 3 : Int32)).toNatClampNeg = 15 by decide, hs.1 15 (by omega)]
    exact hR 1 _ _ _ (by omega) ⟨rfl, Or.inr (Or.inr (Or.inl ⟨rfl, rfl, rfl⟩))⟩
  · refine ⟨fun z => absurd z (by decide), fun _ => ⟨vp_n (n := 19) (by omega) (by omega), bI_i ?_⟩⟩
    rw [show ((nI 4 * 4 + 3 : Int32)).toNatClampNeg = 19 by decide, hs.1 19 (by omega)]
    exact hR 0 _ _ _ (by omega) ⟨rfl, Or.inr (Or.inr (Or.inr ⟨rfl, rfl, rfl⟩))⟩
  · exact ⟨fun _ => h, fun z => absurd (by decide) z⟩
