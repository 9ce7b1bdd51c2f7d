/-! ===== rings: the reference ===== -/
def fr30 (X : Nat → Nat → Bool) (σ τ : St) : Prop := (∀ c i, X c i = false → τ.1 c i = σ.1 c i) ∧ ∀ c i, ¬ (c = 61 ∧ i = 30) → τ.2 c i = σ.2 c i
theorem fr30_rfl {X : Nat → Nat → Bool} {σ : St} : fr30 X σ σ := ⟨fun _ _ _ => rfl, fun _ _ _ => rfl⟩
theorem fr30_tr {X : Nat → Nat → Bool} {σ τ υ : St} (h1 : fr30 X σ τ) (h2 : fr30 X τ υ) : fr30 X σ υ := ⟨fun c i h => (h2.1 c i h).trans (h1.1 c i h), fun c i h => (h2.2 c i h).trans (h1.2 c i h)⟩
theorem fr30_mono {X Y : Nat → Nat → Bool} {σ τ : St} (h : fr30 X σ τ) (hXY : ∀ c i, Y c i = false → X c i = false) : fr30 Y σ τ := ⟨fun c i q => h.1 c i (hXY c i q), h.2⟩
theorem fr30_of {X : Nat → Nat → Bool} {σ τ : St} (h : fr X σ τ) : fr30 X σ τ := ⟨h.1, fun c i _ => by rw [h.2]⟩
theorem fr30_sI {X : Nat → Nat → Bool} {σ τ : St} (h : fr30 X σ τ) {c i : Nat} (v : Int32) (hX : X c i = true) : fr30 X σ (sI τ c i v) := by
  refine ⟨fun a j q => ?_, h.2⟩
  rw [sI_out _ _ (fun e => by rw [e.1, e.2, hX] at q; cases q)]
  exact h.1 a j q
theorem fr30_sL {X : Nat → Nat → Bool} {σ τ : St} (h : fr30 X σ τ) (v : Int64) : fr30 X σ (sL τ 61 30 v) := by
  refine ⟨h.1, fun c i q => ?_⟩
  rw [sL_get, if_neg q]
  exact h.2 c i q
def Xk (n c i : Nat) : Bool := (c == 74 && decide (n ≤ i)) || (decide (75 ≤ c) && decide (c ≤ 78))
theorem Xk_mono {n m : Nat} (h : n ≤ m) : ∀ c i, Xk n c i = false → Xk m c i = false := by
  intro c i q
  simp only [Xk, Bool.or_eq_false_iff, Bool.and_eq_false_iff, decide_eq_false_iff_not, beq_eq_false_iff_ne] at q ⊢
  omega
theorem Xk_74 {n i : Nat} (h : i < n) : Xk n 74 i = false := by simp [Xk]; omega
theorem Xk_74' {n i : Nat} (h : n ≤ i) : Xk n 74 i = true := by simp [Xk, h]
theorem Xk_lo {n c i : Nat} (h : c < 74) : Xk n c i = false := by
  simp only [Xk, Bool.or_eq_false_iff, Bool.and_eq_false_iff, decide_eq_false_iff_not, beq_eq_false_iff_ne]
  omega
def RgM (L : Nat) (T : Tr) (σ : St) : Prop := NowOK L T σ ∧ HeldM T σ ∧ (∀ k, k < T.length → σ.1 70 k = bf T k) ∧ EdM (EL T) σ ∧ σ.1 61 24 = nI L
theorem rgK {L : Nat} {T : Tr} {σ τ : St} {n : Nat} (h : RgM L T σ) (hf : fr30 (Xk n) σ τ) : RgM L T τ := by
  obtain ⟨h1, h2, h3, h4, h5⟩ := h
  have g : fr (Xk n) σ (τ.1, σ.2) := ⟨hf.1, rfl⟩
  exact ⟨NowOK.fr (τ := (τ.1, σ.2)) h1 g (fun _ => Xk_lo (by omega)), HeldM.fr (τ := (τ.1, σ.2)) h2 g (fun _ => Xk_lo (by omega)) (fun _ => Xk_lo (by omega)), fun k hk => (hf.1 70 k (Xk_lo (by omega))).trans (h3 k hk), EdS.fr (τ := (τ.1, σ.2)) h4 g (Xk_lo (by omega)) (fun _ => Xk_lo (by omega)) (fun _ => Xk_lo (by omega)) (fun _ => Xk_lo (by omega)), (hf.1 61 24 (Xk_lo (by omega))).trans h5⟩
def RSM (s : RS) (σ : St) : Prop := (∀ n, n < 5 → σ.1 75 n = s.1 (4 * n) ∧ σ.1 76 n = s.1 (4 * n + 1) ∧ σ.1 77 n = s.1 (4 * n + 2) ∧ σ.1 78 n = s.1 (4 * n + 3)) ∧ σ.2 61 30 = s.2.toInt64
theorem p_follows {σ : St} {L : Nat} {T : Tr} {i j : Nat} {Q : Int32 → St → Prop} (hC : RgM L T σ) (hB : Bnd T) (hL : L < 2) (hi : i < (EL T).length) (hj : j < (EL T).length) (h : Q (if lk T i j then 1 else 0) σ) : m_X9_follows σ (nI i) (nI j) Q := by
  obtain ⟨hN, hH, hb, hE, h24⟩ := hC
  have hl := hB.1
  have ell : (EL T).length ≤ 4 * T.length := el_len T T.length
  obtain ⟨w1, w2, w3, w4⟩ := Eat_ok T hi
  obtain ⟨u1, u2, u3, u4⟩ := Eat_ok T hj
  have w5 := (hB.2 _ w1).2.2
  have wg := (hB.2 _ w1).2.1
  unfold m_X9_follows
  refine ⟨vp_n (by omega) (by omega), ?_⟩
  rw [nI_cl (by omega), h24, (hE.2 i hi).1]
  have el1 : et T i = (Eat (EL T) i).2.2 := rfl
  have el2 : ef T j = (Eat (EL T) j).2.1 := rfl
  have el3 : ea T i = (Eat (EL T) i).1 := rfl
  have el4 : ea T j = (Eat (EL T) j).1 := rfl
  unfold lk at h
  rw [el1, el2, el3, el4] at h
  have J : ∀ t : Bool, (decide (sg T (Eat (EL T) i).1 = 1) && bt (hr T (Eat (EL T) j).1) (Eat (EL T) j).2.1) = t → m_X9_follows_J46 (nI i) (nI j) Q σ (i01 t) := by
    intro t ht
    unfold m_X9_follows_J46
    refine ⟨vp_n (by omega) (by omega), vp_n (by omega) (by omega), ?_⟩
    rw [nI_cl (by omega), nI_cl (by omega), (hE.2 i hi).2.2, (hE.2 j hj).2.1, nI_eq' (by omega) (by omega)]
    rw [ht] at h
    refine ⟨fun q => ?_, fun q => ?_⟩
    · rw [decide_eq_false q] at h; exact h
    · rw [decide_eq_true q] at h
      cases t
      · exact ⟨fun z => absurd rfl z, fun _ => h⟩
      · exact ⟨fun _ => h, fun z => absurd z (by decide)⟩
  refine p_signAt hN hB hL w1 ?_
  rw [show (1 : Int32) = nI 1 from rfl, nI_eq' (by omega) (by omega)]
  refine ⟨fun z => J false (by rw [decide_eq_false z]; rfl), fun z => ⟨vp_n (by omega) (by omega), ?_⟩⟩
  rw [nI_cl (by omega), (hE.2 j hj).1, (hE.2 j hj).2.1, nI_cl (by omega), (hH _ u1).2]
  refine ⟨vp_n (by omega) (by omega), vp_n (by omega) (by omega), ?_⟩
  refine p_has (by omega) ?_
  cases hb : bt (hr T (Eat (EL T) j).1) (Eat (EL T) j).2.1
  · exact ⟨fun _ => J false (by rw [hb, Bool.and_false]), fun z => absurd rfl z⟩
  · exact ⟨fun z => absurd z (by decide), fun _ => J true (by rw [hb, decide_eq_true z]; rfl)⟩
def unk (T : Tr) (ch : List Nat) (i : Nat) : Nat → Bool
  | 0 => true
  | k + 1 => unk T ch i k && (decide (et T (cg ch k) ≠ et T i) && decide (eh T (cg ch k) ≠ eh T i))
theorem unk_iff (T : Tr) (ch : List Nat) (i : Nat) : ∀ n, unk T ch i n = true ↔ ∀ k, k < n → (et T (cg ch k) ≠ et T i ∧ eh T (cg ch k) ≠ eh T i)
  | 0 => by simp [unk]
  | n + 1 => by
    rw [unk, Bool.and_eq_true, unk_iff T ch i n, Bool.and_eq_true, decide_eq_true_eq, decide_eq_true_eq]
    constructor
    · rintro ⟨a, b⟩ k hk
      by_cases e : k = n
      · subst e; exact b
      · exact a k (by omega)
    · intro a
      exact ⟨fun k hk => a k (by omega), a n (by omega)⟩
theorem unk_unl (T : Tr) (ch : List Nat) (i : Nat) : unk T ch i ch.length = unl T ch i := by
  rw [Bool.eq_iff_iff, unk_iff, unl, List.all_eq_true]
  constructor
  · intro h x hx
    obtain ⟨k, hk, e⟩ := List.getElem_of_mem hx
    have := h k hk
    rw [cg, List.getD_eq_getElem?_getD, List.getElem?_eq_getElem hk] at this
    rw [Bool.and_eq_true, decide_eq_true_eq, decide_eq_true_eq, ← e]
    exact this
  · intro h k hk
    have := h _ (cg_mem hk)
    rw [Bool.and_eq_true, decide_eq_true_eq, decide_eq_true_eq] at this
    exact this
theorem p_isUnlike {σ : St} {L : Nat} {T : Tr} {ch : List Nat} {i : Nat} {Q : Int32 → St → Prop} (hC : RgM L T σ) (hB : Bnd T) (hL : L < 2) (hn : ch.length ≤ 4) (hx : ∀ x, x ∈ ch → x < (EL T).length) (h74 : ∀ j, j < ch.length → σ.1 74 j = nI (cg ch j)) (hi : i < (EL T).length) (h : Q (if unl T ch i then 1 else 0) σ) : m_X9_isUnlike σ (nI ch.length) (nI i) Q := by
  obtain ⟨hN, hH, hb, hE, h24⟩ := hC
  have hl := hB.1
  have ell : (EL T).length ≤ 4 * T.length := el_len T T.length
  obtain ⟨w1, w2, w3, w4⟩ := Eat_ok T hi
  have w5 := (hB.2 _ w1).2.2
  have wt := (hB.2 _ w1).1
  unfold m_X9_isUnlike
  refine lpE2 (m_X9_isUnlike_L5b (nI ch.length) (nI i) Q (fun σ x3 => m_X9_isUnlike_J85 (nI ch.length) (nI i) Q σ x3)) (fun _ => rfl) (fun m τ x y => ∃ k, k ≤ ch.length ∧ y = nI k ∧ m = ch.length - k ∧ τ = σ ∧ x = i01 (unk T ch i k)) ?_ (n := ch.length) ⟨0, by omega, rfl, rfl, rfl, rfl⟩
  rintro m τ x y Rc ⟨k, hk, rfl, hm, rfl, rfl⟩ hRc
  unfold m_X9_isUnlike_L5b
  rw [nI_le' (by omega) (by omega)]
  refine ⟨fun q => ?_, fun q => ?_⟩
  · have e : k = ch.length := by omega
    subst e
    rw [← unk_unl] at h
    exact ⟨bool01 _, h⟩
  have hkn : k < ch.length := by omega
  have hcn := hx _ (cg_mem hkn)
  obtain ⟨u1, u2, u3, u4⟩ := Eat_ok T hcn
  have u5 := (hB.2 _ u1).2.2
  have ut := (hB.2 _ u1).1
  have ue : unk T ch i (k + 1) = (unk T ch i k && (decide (et T (cg ch k) ≠ et T i) && decide (eh T (cg ch k) ≠ eh T i))) := rfl
  have G : ∀ v : Int32, v = i01 (unk T ch i (k + 1)) → Rc τ v (nI k + 1) := by
    rintro v rfl
    rw [nI_1]
    exact hRc (ch.length - (k + 1)) _ _ _ (by omega) ⟨k + 1, by omega, rfl, rfl, rfl, rfl⟩
  cases hu : unk T ch i k
  · exact ⟨fun _ => G 0 (by rw [ue, hu]; rfl), fun z => absurd rfl z⟩
  rw [hu, Bool.true_and] at ue
  refine ⟨fun z => absurd z (by decide), fun _ => ⟨vp_n (by omega) (by omega), ?_⟩⟩
  rw [nI_cl (n := k) (by omega), h74 k hkn, nI_cl (n := cg ch k) (by omega), nI_cl (n := i) (by omega), (hE.2 _ hcn).2.2, (hE.2 _ hi).2.2, nI_eq' (by omega) (by omega)]
  refine ⟨vp_n (by omega) (by omega), vp_n (by omega) (by omega), fun z => G 0 ?_, fun z => ⟨vp_n (by omega) (by omega), vp_n (by omega) (by omega), ?_⟩⟩
  · rw [ue, decide_eq_false (fun w => w z)]; rfl
  rw [h24, (hE.2 _ hcn).1]
  refine p_threadAt hN hB hL u1 ⟨vp_n (by omega) (by omega), ?_⟩
  rw [h24, (hE.2 _ hi).1]
  refine p_threadAt hN hB hL w1 ?_
  rw [nI_eq' (by omega) (by omega)]
  have zt : decide (et T (cg ch k) ≠ et T i) = true := decide_eq_true z
  refine ⟨fun z2 => G 0 ?_, fun z2 => G 1 ?_⟩
  · rw [ue, decide_eq_false (p := eh T (cg ch k) ≠ eh T i) (fun w => w z2), Bool.and_false]; rfl
  · rw [ue, zt, decide_eq_true (p := eh T (cg ch k) ≠ eh T i) z2]; rfl
theorem p_goesOn {σ : St} {L : Nat} {T : Tr} {ch : List Nat} {i : Nat} {Q : Int32 → St → Prop} (hC : RgM L T σ) (hB : Bnd T) (hL : L < 2) (h0 : 0 < ch.length) (hn : ch.length ≤ 4) (hx : ∀ x, x ∈ ch → x < (EL T).length) (h74 : ∀ j, j < ch.length → σ.1 74 j = nI (cg ch j)) (hi : i < (EL T).length) (h : Q (if gon T ch i then 1 else 0) σ) : m_X9_goesOn σ (nI ch.length) (nI i) Q := by
  have hl := hB.1
  have ell : (EL T).length ≤ 4 * T.length := el_len T T.length
  have c0 := hx _ (cg_mem h0)
  have cl' := hx _ (cg_mem (j := ch.length - 1) (by omega))
  unfold m_X9_goesOn
  unfold gon at h
  rw [cl0, h74 0 h0, nI_le' (by omega) (by omega)]
  refine ⟨fun z => ?_, fun z => ?_⟩
  · rw [decide_eq_false (by omega)] at h; exact h
  have ed : nI ch.length - 1 = nI (ch.length - 1) := by rw [show (1 : Int32) = nI 1 from rfl, pk_sub (by omega)]
  rw [ed, nI_cl (by omega), h74 _ (by omega)]
  refine ⟨vp_n (by omega) (by omega), ?_⟩
  rw [decide_eq_true (by omega), Bool.true_and] at h
  refine p_follows hC hB hL cl' hi ?_
  cases hf : lk T (cg ch (ch.length - 1)) i
  · rw [hf] at h; exact ⟨fun _ => h, fun z => absurd rfl z⟩
  · rw [hf, Bool.true_and] at h
    refine ⟨fun z => absurd z (by decide), fun _ => ?_⟩
    refine p_isUnlike hC hB hL hn hx h74 hi ?_
    cases hu : unl T ch i
    · rw [hu] at h; exact ⟨fun _ => h, fun z => absurd rfl z⟩
    · rw [hu] at h; exact ⟨fun z => absurd z (by decide), fun _ => h⟩
theorem p_areGated {σ : St} {T : Tr} {k e : Nat} {Q : Int32 → St → Prop} (hH : HeldM T σ) (hl : T.length ≤ 20) (hk : k < T.length) (he : e < T.length) (h : Q (if decide (((hd T k &&& hd T e) &&& (hw T k ||| hw T e)) = 0) then 0 else 1) σ) : m_X9_areGated σ (nI k) (nI e) Q := by
  unfold m_X9_areGated
  have v1 : vp_in (nI k) 20 := vp_n (by omega) (by omega)
  have v2 : vp_in (nI e) 20 := vp_n (by omega) (by omega)
  refine ⟨v1, v1, v2, v2, bI_i ⟨v1, v2, ?_⟩⟩
  rw [nI_cl (by omega), nI_cl (by omega), (hH k hk).1, (hH k hk).2, (hH e he).1, (hH e he).2]
  refine ⟨fun z => ?_, fun z => ?_⟩
  · have z2 : ((hd T k &&& hd T e) &&& (hw T k ||| hw T e)) = 0 := z
    rw [decide_eq_true z2] at h; exact h
  · have z2 : ¬ ((hd T k &&& hd T e) &&& (hw T k ||| hw T e)) = 0 := z
    rw [decide_eq_false z2] at h; exact h
theorem tak_0 {T : Tr} {ch : List Nat} {s : RS} {n : Nat} (hn : ch.length = n) : (tak T ch s).1 (4 * n) = s.1 (4 * n) + 1 := by
  unfold tak; rw [hn]; dsimp only; rw [if_pos rfl]
theorem tak_1 {T : Tr} {ch : List Nat} {s : RS} {n : Nat} (hn : ch.length = n) : (tak T ch s).1 (4 * n + 1) = s.1 (4 * n + 1) + i01 (pou (gC T ch) n n) := by
  unfold tak; rw [hn]; dsimp only; rw [if_neg (by omega), if_pos rfl]
theorem tak_2 {T : Tr} {ch : List Nat} {s : RS} {n : Nat} (hn : ch.length = n) : (tak T ch s).1 (4 * n + 2) = s.1 (4 * n + 2) + i01 (pou (oC T ch) n n) := by
  unfold tak; rw [hn]; dsimp only; rw [if_neg (by omega), if_neg (by omega), if_pos rfl]
theorem tak_3 {T : Tr} {ch : List Nat} {s : RS} {n : Nat} (hn : ch.length = n) : (tak T ch s).1 (4 * n + 3) = if pou (gC T ch) n n = false ∧ pou (oC T ch) n n = false then s.1 (4 * n + 3) + 1 else s.1 (4 * n + 3) := by
  unfold tak; rw [hn]; dsimp only; rw [if_neg (by omega), if_neg (by omega), if_neg (by omega)]
  by_cases z : pou (gC T ch) n n = false ∧ pou (oC T ch) n n = false
  · rw [if_pos z, if_pos ⟨rfl, z⟩]
  · rw [if_neg z, if_neg (fun w => z w.2)]
theorem tak_n {T : Tr} {ch : List Nat} {s : RS} {n k : Nat} (hn : ch.length = n) (h : k < 4 * n ∨ 4 * n + 3 < k) : (tak T ch s).1 k = s.1 k := by
  unfold tak; rw [hn]; dsimp only; rw [if_neg (by omega), if_neg (by omega), if_neg (by omega), if_neg (fun w => by have := w.1; omega)]
theorem tak_l {T : Tr} {ch : List Nat} {s : RS} {n : Nat} (hn : ch.length = n) : (tak T ch s).2 = if pou (gC T ch) n n = false ∧ pou (oC T ch) n n = false then lst s.2 (nI (rnum T ch n)) else s.2 := by
  unfold tak; rw [hn]
theorem toI64_inj {x y : Int32} (h : x.toInt64 = y.toInt64) : x = y := by
  have := congrArg Int64.toInt32 h
  rwa [lg_l2i_i2l, lg_l2i_i2l] at this
theorem p_takeEnd {L : Nat} {T : Tr} {σ : St} {ch : List Nat} {s : RS} {n : Nat} {Q : St → Prop} (hC : RgM L T σ) (hB : Bnd T) (hn : ch.length = n) (h2 : 2 ≤ n) (h4 : n ≤ 4) (hx : ∀ x, x ∈ ch → x < (EL T).length) (h74 : ∀ j, j < n → σ.1 74 j = nI (cg ch j)) (hs : RSM s σ) {g o : Bool} (hg : pou (gC T ch) n n = g) (ho : pou (oC T ch) n n = o) (h : ∀ τ, RSM (tak T ch s) τ → fr30 (Xk 4) σ τ → Q τ) : m_X9_takeRing_J166 (nI n) Q σ (i01 g) (i01 o) (nI 0) := by
  unfold m_X9_takeRing_J166
  have hl := hB.1
  have ell : (EL T).length ≤ 4 * T.length := el_len T T.length
  have v : vp_in (nI n) 5 := vp_n (by omega) (by omega)
  refine ⟨v, v, ?_⟩
  unfold sIB
  rw [nI_cl (by omega)]
  have S := hs.1 n (by omega)
  refine ⟨v, ?_⟩
  rw [S.1, sI_out (a := 76) (j := n) (c := 75) _ _ (by omega), S.2.1]
  have R0 : ∀ m, m < 5 → (sI (sI (sI σ 75 n (s.1 (4 * n) + 1)) 76 n (s.1 (4 * n + 1) + i01 g)) 77 n (s.1 (4 * n + 2) + i01 o)).1 75 m = (tak T ch s).1 (4 * m) ∧ (sI (sI (sI σ 75 n (s.1 (4 * n) + 1)) 76 n (s.1 (4 * n + 1) + i01 g)) 77 n (s.1 (4 * n + 2) + i01 o)).1 76 m = (tak T ch s).1 (4 * m + 1) ∧ (sI (sI (sI σ 75 n (s.1 (4 * n) + 1)) 76 n (s.1 (4 * n + 1) + i01 g)) 77 n (s.1 (4 * n + 2) + i01 o)).1 77 m = (tak T ch s).1 (4 * m + 2) := by
    intro m hm
    have Sm := hs.1 m hm
    by_cases e : m = n
    · subst e
      refine ⟨?_, ?_, ?_⟩
      · rw [sI_out _ _ (by omega), sI_out _ _ (by omega), sI_in, tak_0 hn]
      · rw [sI_out _ _ (by omega), sI_in, tak_1 hn, hg]
      · rw [sI_in, tak_2 hn, ho]
    · refine ⟨?_, ?_, ?_⟩
      · rw [sI_out _ _ (by omega), sI_out _ _ (by omega), sI_out _ _ (by omega), tak_n hn (by omega)]; exact Sm.1
      · rw [sI_out _ _ (by omega), sI_out _ _ (by omega), sI_out _ _ (by omega), tak_n hn (by omega)]; exact Sm.2.1
      · rw [sI_out _ _ (by omega), sI_out _ _ (by omega), sI_out _ _ (by omega), tak_n hn (by omega)]; exact Sm.2.2.1
  have hf3 : fr30 (Xk 4) σ (sI (sI (sI σ 75 n (s.1 (4 * n) + 1)) 76 n (s.1 (4 * n + 1) + i01 g)) 77 n (s.1 (4 * n + 2) + i01 o)) := fr30_sI (fr30_sI (fr30_sI fr30_rfl _ rfl) _ rfl) _ rfl
  have J210 : ∀ τ : St, τ = sI (sI σ 75 n (s.1 (4 * n) + 1)) 76 n (s.1 (4 * n + 1) + i01 g) → ∀ t3 : Int32, t3 = i01 o → m_X9_takeRing_J210 (nI n) Q τ (i01 g) (i01 o) (nI 0) (nI n) (s.1 (4 * n + 2)) t3 := by
    rintro τ rfl t3 rfl
    unfold m_X9_takeRing_J210
    refine ⟨v, ?_⟩
    unfold sIB
    rw [nI_cl (by omega)]
    have stop : ¬ (g = false ∧ o = false) → Q (sI (sI (sI σ 75 n (s.1 (4 * n) + 1)) 76 n (s.1 (4 * n + 1) + i01 g)) 77 n (s.1 (4 * n + 2) + i01 o)) := by
      intro hno
      refine h _ ⟨fun m hm => ⟨(R0 m hm).1, (R0 m hm).2.1, (R0 m hm).2.2, ?_⟩, ?_⟩ hf3
      · rw [sI_out _ _ (by omega), sI_out _ _ (by omega), sI_out _ _ (by omega), (hs.1 m hm).2.2.2]
        by_cases e : m = n
        · subst e; rw [tak_3 hn, hg, ho, if_neg hno]
        · rw [tak_n hn (by omega)]
      · rw [tak_l hn, hg, ho, if_neg hno]; exact hs.2
    refine ⟨fun z => stop (fun w => z (by rw [w.1]; rfl)), fun z => ⟨fun z2 => ⟨v, v, ?_⟩, fun z2 => stop (fun w => z2 (by rw [w.2]; rfl))⟩⟩
    have g0 : g = false := by cases g; rfl; exact absurd z (by decide)
    have o0 : o = false := by cases o; rfl; exact absurd z2 (by decide)
    rw [sI_out (a := 78) (j := n) (c := 77) _ _ (by omega), sI_out (a := 78) (j := n) (c := 76) _ _ (by omega), sI_out (a := 78) (j := n) (c := 75) _ _ (by omega), S.2.2.2]
    have hf4 : fr30 (Xk 4) σ (sI (sI (sI (sI σ 75 n (s.1 (4 * n) + 1)) 76 n (s.1 (4 * n + 1) + i01 g)) 77 n (s.1 (4 * n + 2) + i01 o)) 78 n (s.1 (4 * n + 3) + 1)) := fr30_sI hf3 _ rfl
    have R1 : ∀ m, m < 5 → (sI (sI (sI (sI σ 75 n (s.1 (4 * n) + 1)) 76 n (s.1 (4 * n + 1) + i01 g)) 77 n (s.1 (4 * n + 2) + i01 o)) 78 n (s.1 (4 * n + 3) + 1)).1 78 m = (tak T ch s).1 (4 * m + 3) := by
      intro m hm
      by_cases e : m = n
      · subst e; rw [sI_in, tak_3 hn, hg, ho, if_pos ⟨g0, o0⟩]
      · rw [sI_out _ _ (by omega), sI_out _ _ (by omega), sI_out _ _ (by omega), sI_out _ _ (by omega), tak_n hn (by omega)]; exact (hs.1 m hm).2.2.2
    have R2 : ∀ m, m < 5 → (sI (sI (sI (sI σ 75 n (s.1 (4 * n) + 1)) 76 n (s.1 (4 * n + 1) + i01 g)) 77 n (s.1 (4 * n + 2) + i01 o)) 78 n (s.1 (4 * n + 3) + 1)).1 75 m = (tak T ch s).1 (4 * m) ∧ (sI (sI (sI (sI σ 75 n (s.1 (4 * n) + 1)) 76 n (s.1 (4 * n + 1) + i01 g)) 77 n (s.1 (4 * n + 2) + i01 o)) 78 n (s.1 (4 * n + 3) + 1)).1 76 m = (tak T ch s).1 (4 * m + 1) ∧ (sI (sI (sI (sI σ 75 n (s.1 (4 * n) + 1)) 76 n (s.1 (4 * n + 1) + i01 g)) 77 n (s.1 (4 * n + 2) + i01 o)) 78 n (s.1 (4 * n + 3) + 1)).1 77 m = (tak T ch s).1 (4 * m + 2) := by
      intro m hm
      rw [sI_out (a := 75) (c := 78) _ _ (by omega), sI_out (a := 76) (c := 78) _ _ (by omega), sI_out (a := 77) (c := 78) _ _ (by omega)]
      exact R0 m hm
    have l30 : (sI (sI (sI (sI σ 75 n (s.1 (4 * n) + 1)) 76 n (s.1 (4 * n + 1) + i01 g)) 77 n (s.1 (4 * n + 2) + i01 o)) 78 n (s.1 (4 * n + 3) + 1)).2 61 30 = s.2.toInt64 := hs.2
    have h74' : ∀ j, j < n → (sI (sI (sI (sI σ 75 n (s.1 (4 * n) + 1)) 76 n (s.1 (4 * n + 1) + i01 g)) 77 n (s.1 (4 * n + 2) + i01 o)) 78 n (s.1 (4 * n + 3) + 1)).1 74 j = nI (cg ch j) := fun j hj => (hf4.1 74 j (Xk_74 (by omega))).trans (h74 j hj)
    have hE := (rgK hC hf4).2.2.2.1
    generalize sI (sI (sI (sI σ 75 n (s.1 (4 * n) + 1)) 76 n (s.1 (4 * n + 1) + i01 g)) 77 n (s.1 (4 * n + 2) + i01 o)) 78 n (s.1 (4 * n + 3) + 1) = w at *
    have hea : ∀ j, j < n → ea T (cg ch j) < 20 := fun j hj => Nat.lt_of_lt_of_le (Eat_ok T (hx _ (cg_mem (by omega)))).1 hl
    have rb := rnum_le hl hea
    have rN : rnum T ch n < 2147483648 := by
      have := rb n (Nat.le_refl _) h4
      have : 100 ^ n ≤ 100 ^ 4 := Nat.pow_le_pow_right (by omega) h4
      omega
    refine lpE2 (m_X9_takeRing_L237b (nI n) Q (nI 0) (fun σ x5 => m_X9_takeRing_J278 (nI n) Q σ x5)) (fun _ => rfl) (fun m τ x y => ∃ j, j ≤ n ∧ y = nI j ∧ m = n - j ∧ τ = w ∧ x = lN (rnum T ch j)) ?_ (n := n) ⟨0, by omega, rfl, rfl, rfl, rfl⟩
    rintro m τ x y Rc ⟨j, hj, rfl, hm, rfl, rfl⟩ hRc
    unfold m_X9_takeRing_L237b
    rw [nI_le' (by omega) (by omega)]
    refine ⟨fun q => ?_, fun q => ?_⟩
    · have e : j = n := by omega
      subst e
      unfold m_X9_takeRing_J278
      have fin : ∀ v : Int64, v = (lst s.2 (nI (rnum T ch j))).toInt64 → sLB τ 61 30 v Q := by
        rintro v rfl
        refine h _ ⟨fun m hm => ⟨(R2 m hm).1, (R2 m hm).2.1, (R2 m hm).2.2, R1 m hm⟩, ?_⟩ (fr30_sL hf4 _)
        rw [sL_get, if_pos ⟨rfl, rfl⟩, tak_l hn, hg, ho, if_pos ⟨g0, o0⟩]
      dsimp only
      rw [lg_cmp_eq, lg_cmp_ge, l30, show (-9 : Int64) = (-9 : Int32).toInt64 by decide, ← nI_l rN]
      refine ⟨fun z => fin _ ?_, fun z => ⟨fun z2 => fin _ ?_, fun z2 => fin _ ?_⟩⟩
      · rw [lst, if_pos (toI64_inj z)]
      · rw [i64_le] at z2
        rw [lst, if_neg (fun e => z (by rw [e])), if_neg (fun e => by rw [Int32.lt_iff_toInt_lt] at e; rw [Int32.le_iff_toInt_le] at z2; omega)]
      · rw [i64_le] at z2
        rw [lst, if_neg (fun e => z (by rw [e])), if_pos (by rw [Int32.lt_iff_toInt_lt]; rw [Int32.le_iff_toInt_le] at z2; omega)]
    · have hjn : j < n := by omega
      have hcn := hx _ (cg_mem (j := j) (by omega))
      refine ⟨fun z => ?_, ?_⟩
      · rw [show (0 : Int32) = nI 0 from rfl, nI_eq' (by omega) (by omega)] at z; omega
      rw [nI_add, pk_rem (by omega) (by omega) (by omega), Nat.zero_add, Nat.mod_eq_of_lt hjn, nI_cl (n := j) (by omega), h74' j hjn, nI_cl (by omega), (hE.2 _ hcn).1]
      refine ⟨vp_n (by omega) (by omega), vp_n (by omega) (by omega), bL_i ?_⟩
      have hc20 : (Eat (EL T) (cg ch j)).1 < 20 := hea j hjn
      rw [nI_l (by omega), show (100 : Int64) = lN 100 from rfl, lN_mul, lN_add, lN_1, nI_1]
      refine hRc (n - (j + 1)) _ _ _ (by omega) ⟨j + 1, by omega, rfl, rfl, rfl, ?_⟩
      rw [rnum, Nat.mul_comm (rnum T ch j) 100]
      rfl
  have J192 : ∀ t3 : Int32, t3 = i01 g → m_X9_takeRing_J192 (nI n) Q (sI σ 75 n (s.1 (4 * n) + 1)) (i01 g) (i01 o) (nI 0) (nI n) (s.1 (4 * n + 1)) t3 := by
    rintro t3 rfl
    unfold m_X9_takeRing_J192
    refine ⟨v, ?_⟩
    unfold sIB
    rw [nI_cl (by omega)]
    refine ⟨v, ?_⟩
    rw [sI_out (a := 77) (j := n) (c := 76) _ _ (by omega), sI_out (a := 77) (j := n) (c := 75) _ _ (by omega), S.2.2.1]
    refine ⟨fun z => J210 _ rfl 0 z.symm, fun z => J210 _ rfl 1 ?_⟩
    cases o
    · exact absurd rfl z
    · rfl
  refine ⟨fun z => J192 0 z.symm, fun z => J192 1 ?_⟩
  cases g
  · exact absurd rfl z
  · rfl
theorem p_takeRing {L : Nat} {T : Tr} {σ : St} {ch : List Nat} {s : RS} {n : Nat} {Q : St → Prop} (hC : RgM L T σ) (hB : Bnd T) (hn : ch.length = n) (h2 : 2 ≤ n) (h4 : n ≤ 4) (hx : ∀ x, x ∈ ch → x < (EL T).length) (hmin : ∀ x, x ∈ ch → cg ch 0 ≤ x) (h74 : ∀ j, j < n → σ.1 74 j = nI (cg ch j)) (hs : RSM s σ) (h : ∀ τ, RSM (tak T ch s) τ → fr30 (Xk 4) σ τ → Q τ) : m_X9_takeRing σ (nI n) Q := by
  have hl := hB.1
  have ell : (EL T).length ≤ 4 * T.length := el_len T T.length
  have hc : ∀ j, j < n → cg ch j < (EL T).length := fun j hj => hx _ (cg_mem (by omega))
  have hst : ∀ j, j < n → (Eat (EL T) (cg ch j)).1 < T.length := fun j hj => (Eat_ok T (hc j hj)).1
  have hE := hC.2.2.2.1
  have hH := hC.2.1
  have hbf := hC.2.2.1
  unfold m_X9_takeRing
  refine lpE4 (m_X9_takeRing_L10b (nI n) Q (fun σ x2 x3 x4 => m_X9_takeRing_J166 (nI n) Q σ x2 x3 x4)) (fun _ => rfl) (fun m τ x y z u => ∃ i, i ≤ n ∧ u = nI i ∧ m = n - i ∧ τ = σ ∧ x = i01 (pou (gM T ch) n i) ∧ y = i01 (pou (oM T ch) n i) ∧ z = nI 0) ?_ (n := n) ⟨0, by omega, rfl, rfl, rfl, rfl, rfl, rfl⟩
  rintro m τ x y z u Rc ⟨i, hi, rfl, hm, rfl, rfl, rfl, rfl⟩ hRc
  unfold m_X9_takeRing_L10b
  rw [nI_le' (by omega) (by omega)]
  refine ⟨fun q => ?_, fun q => ⟨vp_n (by omega) (by omega), ?_⟩⟩
  · have e : i = n := by omega
    subst e
    rw [← gCM, ← oCM]
    exact p_takeEnd hC hB hn h2 h4 hx h74 hs rfl rfl h
  have hin : i < n := by omega
  have hci := hc i hin
  have hsi := hst i hin
  have hc0 := hc 0 (by omega)
  have hs0 := hst 0 (by omega)
  have mono : (Eat (EL T) (cg ch 0)).1 ≤ (Eat (EL T) (cg ch i)).1 := ea_mono T (hmin _ (cg_mem (by omega))) hci
  rw [nI_cl (n := i) (by omega), nI_cl (n := 0) (by omega), h74 i hin, h74 0 (by omega), nI_cl (n := cg ch i) (by omega), nI_cl (n := cg ch 0) (by omega), (hE.2 _ hci).1, (hE.2 _ hc0).1, nI_le' (by omega) (by omega)]
  refine ⟨vp_n (by omega) (by omega), vp_n (by omega) (by omega), vp_n (by omega) (by omega), fun _ => ?_, fun z => absurd mono z⟩
  unfold m_X9_takeRing_J50
  refine lpE3 (m_X9_takeRing_L55b (nI n) Q (nI 0) (nI i) (fun σ x2 x3 => m_X9_takeRing_J160 (nI n) Q (fun σ x2 x3 x4 => m_X9_takeRing_J166 (nI n) Q σ x2 x3 x4) Rc σ x2 x3 (nI 0) (nI i))) (fun _ => rfl) (fun m τ' x y z => ∃ j, j ≤ n ∧ z = nI j ∧ m = n - j ∧ τ' = τ ∧ x = i01 (pin (gM T ch) i (pou (gM T ch) n i) j) ∧ y = i01 (pin (oM T ch) i (pou (oM T ch) n i) j)) ?_ (n := n) ⟨0, by omega, rfl, rfl, rfl, rfl, rfl⟩
  rintro m2 υ x y z Rc2 ⟨j, hj, rfl, hm2, rfl, rfl, rfl⟩ hR2
  unfold m_X9_takeRing_L55b
  rw [nI_le' (by omega) (by omega)]
  refine ⟨fun q2 => ?_, fun q2 => ?_⟩
  · have e : j = n := by omega
    subst e
    unfold m_X9_takeRing_J160
    rw [nI_1]
    exact hRc (j - (i + 1)) _ _ _ _ _ (by omega) ⟨i + 1, by omega, rfl, rfl, rfl, rfl, rfl, rfl⟩
  have hjn : j < n := by omega
  have hcj := hc j hjn
  have hsj := hst j hjn
  have J : ∀ g2 : Bool, pin (gM T ch) i (pou (gM T ch) n i) (j + 1) = g2 → m_X9_takeRing_J108 (nI n) Q (nI 0) (nI i) (fun σ x2 x3 => m_X9_takeRing_J160 (nI n) Q (fun σ x2 x3 x4 => m_X9_takeRing_J166 (nI n) Q σ x2 x3 x4) Rc σ x2 x3 (nI 0) (nI i)) Rc2 υ (i01 (pin (oM T ch) i (pou (oM T ch) n i) j)) (nI j) (i01 g2) := by
    intro g2 hg2
    unfold m_X9_takeRing_J108
    rw [nI_1]
    have po : pin (oM T ch) i (pou (oM T ch) n i) (j + 1) = (pin (oM T ch) i (pou (oM T ch) n i) j || oM T ch i j) := rfl
    have G : ∀ v : Int32, v = i01 (pin (oM T ch) i (pou (oM T ch) n i) (j + 1)) → Rc2 υ (i01 g2) v (nI (j + 1)) := by
      rintro v rfl
      exact hR2 (n - (j + 1)) _ _ _ _ (by omega) ⟨j + 1, by omega, rfl, rfl, rfl, by rw [hg2], rfl⟩
    cases ho : pin (oM T ch) i (pou (oM T ch) n i) j
    · refine ⟨fun z => absurd rfl z, fun _ => ⟨vp_n (by omega) (by omega), ?_⟩⟩
      rw [nI_cl (n := i) (by omega), h74 i hin, nI_cl (n := cg ch i) (by omega), (hE.2 _ hci).1, nI_cl (n := j) (by omega), h74 j hjn, nI_cl (n := cg ch j) (by omega), (hE.2 _ hcj).1, nI_cl (by omega), hbf _ hsi]
      refine ⟨vp_n (by omega) (by omega), vp_n (by omega) (by omega), vp_n (by omega) (by omega), vp_n (by omega) (by omega), ?_⟩
      refine p_has (Nat.lt_of_lt_of_le hsj (by omega)) ?_
      have oe : oM T ch i j = bt (bf T (Eat (EL T) (cg ch i)).1) (Eat (EL T) (cg ch j)).1 := rfl
      cases hb : bt (bf T (Eat (EL T) (cg ch i)).1) (Eat (EL T) (cg ch j)).1
      · exact ⟨fun _ => G _ (by rw [po, ho, oe, hb]; rfl), fun z => absurd rfl z⟩
      · exact ⟨fun z => absurd z (by decide), fun _ => G _ (by rw [po, ho, oe, hb]; rfl)⟩
    · exact ⟨fun _ => G _ (by rw [po, ho]; rfl), fun z => absurd z (by decide)⟩
  have pg : pin (gM T ch) i (pou (gM T ch) n i) (j + 1) = (pin (gM T ch) i (pou (gM T ch) n i) j || gM T ch i j) := rfl
  cases hg : pin (gM T ch) i (pou (gM T ch) n i) j
  · refine ⟨fun z => absurd rfl z, fun _ => ?_⟩
    rw [nI_eq' (by omega) (by omega)]
    refine ⟨fun z => J false (by rw [pg, hg, gM, decide_eq_false (fun w => w z)]; rfl), fun z => ⟨vp_n (by omega) (by omega), ?_⟩⟩
    rw [nI_cl (n := i) (by omega), h74 i hin, nI_cl (n := cg ch i) (by omega), (hE.2 _ hci).1, nI_cl (n := j) (by omega), h74 j hjn, nI_cl (n := cg ch j) (by omega), (hE.2 _ hcj).1]
    refine ⟨vp_n (by omega) (by omega), vp_n (by omega) (by omega), vp_n (by omega) (by omega), ?_⟩
    refine p_areGated hH hl hsi hsj ?_
    have ge : gM T ch i j = !decide (((hd T (Eat (EL T) (cg ch i)).1 &&& hd T (Eat (EL T) (cg ch j)).1) &&& (hw T (Eat (EL T) (cg ch i)).1 ||| hw T (Eat (EL T) (cg ch j)).1)) = 0) := by
      rw [gM, decide_eq_true z, Bool.true_and]; rfl
    cases hd2 : decide (((hd T (Eat (EL T) (cg ch i)).1 &&& hd T (Eat (EL T) (cg ch j)).1) &&& (hw T (Eat (EL T) (cg ch i)).1 ||| hw T (Eat (EL T) (cg ch j)).1)) = 0)
    · exact ⟨fun z => absurd z (by decide), fun _ => J true (by rw [pg, hg, ge, hd2]; rfl)⟩
    · exact ⟨fun _ => J false (by rw [pg, hg, ge, hd2]; rfl), fun z => absurd rfl z⟩
  · exact ⟨fun _ => J true (by rw [pg, hg]; rfl), fun z => absurd z (by decide)⟩
theorem p_close {L : Nat} {T : Tr} {σ : St} {ch : List Nat} {s : RS} {n : Nat} {Q : St → Prop} (hC : RgM L T σ) (hB : Bnd T) (hL : L < 2) (hn : ch.length = n) (h2 : 2 ≤ n) (h4 : n ≤ 4) (hx : ∀ x, x ∈ ch → x < (EL T).length) (hmin : ∀ x, x ∈ ch → cg ch 0 ≤ x) (h74 : ∀ j, j < n → σ.1 74 j = nI (cg ch j)) (hs : RSM s σ) (h : ∀ τ, RSM (if lk T (cl ch) (cg ch 0) then tak T ch s else s) τ → fr30 (Xk 4) σ τ → Q τ) : m_X9_close σ (nI n) Q := by
  unfold m_X9_close
  have ed : nI n - 1 = nI (n - 1) := by rw [show (1 : Int32) = nI 1 from rfl, pk_sub (by omega)]
  rw [ed, nI_cl (by omega), h74 _ (by omega), cl0, h74 0 (by omega)]
  refine ⟨vp_n (by omega) (by omega), ?_⟩
  have e : cg ch (n - 1) = cl ch := by rw [cl, hn]
  rw [e]
  refine p_follows hC hB hL (hx _ (cg_mem (by omega))) (hx _ (cg_mem (by omega))) ?_
  cases hf : lk T (cl ch) (cg ch 0)
  · rw [hf] at h
    exact ⟨fun _ => h σ hs fr30_rfl, fun z => absurd rfl z⟩
  · rw [hf] at h
    exact ⟨fun z => absurd z (by decide), fun _ => p_takeRing hC hB hn h2 h4 hx hmin h74 hs h⟩
