/-! ===== acts on both sides ===== -/
def Xpu (c i : Nat) : Bool := (c == 45 && i == 0) || c == 46 || c == 47
theorem q_push {σ : St} {s : Nat} {a v : Int32} {Q : St → Prop} (hs : s ≤ 14) (h0 : σ.1 45 0 = nI s)
    (h : ∀ τ, fr Xpu σ τ → (s < 14 → τ.1 45 0 = nI (s + 1) ∧ τ.1 46 s = a ∧ τ.1 47 s = v ∧ ∀ j, j < s → τ.1 46 j = σ.1 46 j ∧ τ.1 47 j = σ.1 47 j) → (s = 14 → τ.1 45 0 = nI 14 ∧ τ.1 46 13 = a ∧ τ.1 47 13 = v ∧ ∀ j, j < 13 → τ.1 46 j = σ.1 46 (j + 1) ∧ τ.1 47 j = σ.1 47 (j + 1)) → Q τ) : m_X0_push σ a v Q := by
  have J : ∀ (τ : St) (m : Nat), m < 14 → τ.1 45 0 = nI m → (∀ υ, υ.1 45 0 = nI (m + 1) → υ.1 46 m = a → υ.1 47 m = v → (∀ j, j ≠ m → υ.1 46 j = τ.1 46 j ∧ υ.1 47 j = τ.1 47 j) → fr Xpu τ υ → Q υ) → m_X0_push_J57 a v Q τ := by
    intro τ m hm hz hq
    unfold m_X0_push_J57 sIB
    dsimp only
    rw [hz, nI_cl (by omega), sI_out (a := 45) (j := 0) _ _ (by omega), hz, nI_cl (by omega), sI_out (a := 45) (j := 0) _ _ (by omega), sI_out (a := 45) (j := 0) _ _ (by omega), hz, nI_1]
    refine ⟨vp_n hm (by omega), vp_n hm (by omega), hq _ (sI_in _ _ _ _) ?_ ?_ (fun j hj => ⟨?_, ?_⟩) (fr_sI (fr_sI (fr_sI fr_rfl _ rfl) _ rfl) _ rfl)⟩
    · rw [sI_out _ _ (by omega), sI_out _ _ (by omega), sI_in]
    · rw [sI_out _ _ (by omega), sI_in]
    · rw [sI_out _ _ (by omega), sI_out _ _ (by omega), sI_out _ _ (by omega)]
    · rw [sI_out _ _ (by omega), sI_out _ _ (by omega), sI_out _ _ (by omega)]
  unfold m_X0_push
  rw [h0, show (14 : Int32) = nI 14 from rfl, nI_lt' (by omega) (by omega)]
  refine ⟨fun q => J σ s q h0 (fun υ u1 u2 u3 u4 hf => h υ hf (fun _ => ⟨u1, u2, u3, fun j hj => u4 j (by omega)⟩) (fun z => by omega)), fun q => ?_⟩
  have e14 : s = 14 := by omega
  subst e14
  refine lpE1 (m_X0_push_L11b a v Q (fun σ => m_X0_push_J51 a v Q σ)) (fun _ => rfl) (fun m τ x => ∃ k, 1 ≤ k ∧ k ≤ 14 ∧ x = nI k ∧ m = 14 - k ∧ fr Xpu σ τ ∧ (∀ j, j + 1 < k → τ.1 46 j = σ.1 46 (j + 1) ∧ τ.1 47 j = σ.1 47 (j + 1)) ∧ ∀ j, k ≤ j + 1 → τ.1 46 j = σ.1 46 j ∧ τ.1 47 j = σ.1 47 j) ?_ (n := 13) ⟨1, by omega, by omega, rfl, rfl, fr_rfl, fun j q => by omega, fun j _ => ⟨rfl, rfl⟩⟩
  rintro m τ x Rc ⟨k, hk0, hk, rfl, hm, hf, ha, hb⟩ hR
  unfold m_X0_push_L11b
  rw [show (14 : Int32) = nI 14 from rfl, nI_le' (by omega) (by omega)]
  refine ⟨fun q2 => ?_, fun q2 => ?_⟩
  · have e : k = 14 := by omega
    subst e
    unfold m_X0_push_J51 sIB
    refine J (sI τ 45 0 13) 13 (by omega) (sI_in _ _ _ _) (fun υ u1 u2 u3 u4 hf2 => h υ (fr_tr (fr_sI hf _ rfl) hf2) (fun z => by omega) (fun _ => ⟨u1, u2, u3, fun j hj => ?_⟩))
    have u := u4 j (by omega)
    rw [sI_out _ _ (by omega), sI_out _ _ (by omega)] at u
    have w := ha j (by omega)
    exact ⟨u.1.trans w.1, u.2.trans w.2⟩
  · have e1 : nI k - 1 = nI (k - 1) := by rw [show (1 : Int32) = nI 1 from rfl, pk_sub (by omega)]
    rw [e1, nI_cl (by omega), nI_cl (by omega), nI_1]
    unfold sIB
    refine ⟨vp_n (by omega) (by omega), vp_n (by omega) (by omega), vp_n (by omega) (by omega), vp_n (by omega) (by omega), ?_⟩
    refine hR (14 - (k + 1)) _ _ (by omega) ⟨k + 1, by omega, by omega, rfl, rfl, fr_sI (fr_sI hf _ rfl) _ rfl, fun j hj => ?_, fun j hj => ?_⟩
    · by_cases e : j = k - 1
      · subst e
        have w := hb k (by omega)
        rw [show k - 1 + 1 = k by omega]
        constructor
        · rw [sI_out _ _ (by omega), sI_in]; exact w.1
        · rw [sI_in, sI_out _ _ (by omega)]; exact w.2
      · rw [sI_out _ _ (by omega), sI_out _ _ (by omega), sI_out _ _ (by omega), sI_out _ _ (by omega)]
        exact ha j (by omega)
    · rw [sI_out _ _ (by omega), sI_out _ _ (by omega), sI_out _ _ (by omega), sI_out _ _ (by omega)]
      exact hb j (by omega)
theorem pushA_lt {B : List Tr} {T : Tr} (h : B.length < 14) : pushA B T = B ++ [T] := by simp [pushA, h]
theorem pushA_ge {B : List Tr} {T : Tr} (h : B.length = 14) : pushA B T = B.drop 1 ++ [T] := by simp [pushA, h]
theorem ActC_push {B : List Tr} {T V : Tr} {σ τ : St} {p : Nat} {v : Int32} (hB : B.length ≤ 14) (hA : ActC B T σ) (hV : Val T) (hl : T.length ≤ 20) (hp : (p < T.length ∧ V = T.eraseIdx p ∧ v = nI (cod (T.getD p (0, 0, 0)))) ∨ (p + 1 < T.length ∧ V = swp T p ∧ v = -1))
    (h1 : B.length < 14 → τ.1 45 0 = nI (B.length + 1) ∧ τ.1 46 B.length = nI p ∧ τ.1 47 B.length = v ∧ ∀ j, j < B.length → τ.1 46 j = σ.1 46 j ∧ τ.1 47 j = σ.1 47 j) (h2 : B.length = 14 → τ.1 45 0 = nI 14 ∧ τ.1 46 13 = nI p ∧ τ.1 47 13 = v ∧ ∀ j, j < 13 → τ.1 46 j = σ.1 46 (j + 1) ∧ τ.1 47 j = σ.1 47 (j + 1)) : ActC (pushA B T) V τ := by
  rcases Nat.lt_or_ge B.length 14 with q | q
  · obtain ⟨c1, c2, c3, c4⟩ := h1 q
    rw [pushA_lt q]
    have hlen : (B ++ [T]).length = B.length + 1 := by simp
    refine ⟨by rw [hlen]; exact c1, fun j hj => ?_⟩
    rw [hlen] at hj
    by_cases e : j = B.length
    · subst e
      have e1 : (B ++ [T]).getD B.length [] = T := by simp [List.getD_eq_getElem?_getD]
      have e2 : nxT (B ++ [T]) V B.length = V := by
        unfold nxT
        rw [show B.length + 1 = (B ++ [T]).length from hlen.symm]
        simp [List.getD_eq_getElem?_getD]
      rw [e1, e2, c2, c3]
      refine ⟨hV, hl, p, rfl, ?_⟩
      rcases hp with ⟨a, b, c⟩ | ⟨a, b, c⟩
      · exact Or.inl ⟨a, b, c⟩
      · exact Or.inr ⟨a, b, c⟩
    · have hj' : j < B.length := by omega
      have e1 : (B ++ [T]).getD j [] = B.getD j [] := getD_app_lt _ _ _ hj'
      have e2 : nxT (B ++ [T]) V j = nxT B T j := by
        unfold nxT
        exact getD_app_lt _ _ _ (by rw [hlen]; omega)
      rw [e1, e2, (c4 j hj').1, (c4 j hj').2]
      exact hA.2 j hj'
  · have q : B.length = 14 := by omega
    obtain ⟨c1, c2, c3, c4⟩ := h2 q
    rw [pushA_ge q]
    have hlen : (B.drop 1 ++ [T]).length = 14 := by simp [q]
    have hd : (B.drop 1).length = 13 := by simp [q]
    refine ⟨by rw [hlen]; exact c1, fun j hj => ?_⟩
    rw [hlen] at hj
    by_cases e : j = 13
    · subst e
      have e1 : (B.drop 1 ++ [T]).getD 13 [] = T := by
        rw [List.getD_eq_getElem?_getD, List.getElem?_append_right (by omega), hd]; rfl
      have e2 : nxT (B.drop 1 ++ [T]) V 13 = V := by
        unfold nxT
        rw [List.getD_eq_getElem?_getD, List.getElem?_append_right (by omega), hlen]; rfl
      rw [e1, e2, c2, c3]
      refine ⟨hV, hl, p, rfl, ?_⟩
      rcases hp with ⟨a, b, c⟩ | ⟨a, b, c⟩
      · exact Or.inl ⟨a, b, c⟩
      · exact Or.inr ⟨a, b, c⟩
    · have hj' : j < 13 := by omega
      have e1 : (B.drop 1 ++ [T]).getD j [] = B.getD (j + 1) [] := by
        rw [getD_app_lt _ _ _ (by omega), List.getD_eq_getElem?_getD, List.getElem?_drop, List.getD_eq_getElem?_getD, Nat.add_comm]
      have e2 : nxT (B.drop 1 ++ [T]) V j = nxT B T (j + 1) := by
        unfold nxT
        rw [getD_app_lt _ _ _ (by rw [hlen]; omega)]
        by_cases z : j + 1 = 13
        · have hz : j = 12 := by omega
          subst hz
          rw [List.getD_eq_getElem?_getD, List.getElem?_append_right (by omega), hd, List.getD_eq_getElem?_getD, List.getElem?_append_right (by omega), q]
        · rw [getD_app_lt _ _ _ (by omega), getD_app_lt _ _ _ (by omega), List.getD_eq_getElem?_getD, List.getElem?_drop, List.getD_eq_getElem?_getD, Nat.add_comm]
      rw [e1, e2, (c4 j hj').1, (c4 j hj').2]
      exact hA.2 (j + 1) (by omega)
theorem XR3_keepM : ∀ c i, (c = 61 ∨ c = 64 ∨ c = 65 ∨ c = 69) → XR 3 c i = false := fun c i h => XR_out (by omega)
theorem push_inv {X : Nat → Nat} {n : Nat} {T V : Tr} {B : List Tr} {nx : Nat} {σ σ2 σ3 : St} (hI : InvP X n T B nx σ) {Y : Nat → Nat → Bool} (hf : fr Y σ σ2) (hY : ∀ c i, Y c i = true → (3 ≤ c ∧ c ≤ 12) ∨ (c = 45 ∧ i = 0) ∨ c = 46 ∨ c = 47) (hR : RowOK 3 V σ2) (hVV : Val V) (hVl : V.length ≤ 20) (hA : ActC (pushA B T) V σ2) (hf3 : fr Xac σ2 σ3) (hN3 : NowOK 0 V σ3) (hA3 : ActM (pushA B T) ((nx + 1) % 14) σ3) : InvP X n V (pushA B T) ((nx + 1) % 14) σ3 := by
  obtain ⟨i1, i2, i3, i4, i5, i6, i7, i8, i9, i10, i11⟩ := hI
  have yn : ∀ c i, ¬ ((3 ≤ c ∧ c ≤ 12) ∨ (c = 45 ∧ i = 0) ∨ c = 46 ∨ c = 47) → Y c i = false := fun c i q => by
    cases h : Y c i
    · rfl
    · exact absurd (hY c i h) q
  have hx : ∀ c i, ¬ (c = 62 ∨ c = 63 ∨ c = 64 ∨ c = 69 ∨ c = 61) → Xac c i = false := fun c i q => by
    simp only [Xac, Bool.or_eq_false_iff, Bool.and_eq_false_iff, beq_eq_false_iff_ne]; omega
  refine ⟨(i1.fr hf (yn _ _ (by omega)) (fun _ => yn _ _ (by omega))).fr hf3 rfl (fun _ => rfl), (i2.fr hf (yn _ _ (by omega)) (fun _ => yn _ _ (by omega))).fr hf3 rfl (fun _ => rfl), hR.fr hf3 (fun c i a b => hx c i (by omega)), hN3, hVV, hVl, hA3, hA.fr hf3 rfl (fun _ => rfl) (fun _ => rfl), (i9.fr hf (fun _ => yn _ _ (by omega)) (fun _ => yn _ _ (by omega)) (fun c j a b => yn _ _ (by omega)) (fun _ => yn _ _ (by omega))).fr hf3 (fun _ => rfl) (fun _ => rfl) (fun c j a b => hx _ _ (by omega)) (fun _ => rfl), (i10.fr hf (yn _ _ (by omega)) (yn _ _ (by omega)) (fun c j a b => yn _ _ (by omega)) (fun c j a b => yn _ _ (by omega))).fr hf3 rfl rfl (fun c j a b => hx _ _ (by omega)) (fun c j a b => hx _ _ (by omega)), ?_⟩
  rw [hf3.2, hf.2]; exact i11
def Xd (c i : Nat) : Bool := (decide (3 ≤ c) && decide (c ≤ 12)) || (c == 45 && i == 0) || c == 46 || c == 47
theorem Xd_ok : ∀ c i, Xd c i = true → (3 ≤ c ∧ c ≤ 12) ∨ (c = 45 ∧ i = 0) ∨ c = 46 ∨ c = 47 := by
  intro c i h
  simp only [Xd, Bool.or_eq_true, Bool.and_eq_true, beq_iff_eq, decide_eq_true_eq] at h; omega
theorem XR3_d : ∀ c i, Xd c i = false → XR 3 c i = false := by
  intro c i h
  simp only [Xd, XR, Bool.or_eq_false_iff, Bool.and_eq_false_iff, beq_eq_false_iff_ne, decide_eq_false_iff_not] at h ⊢; omega
theorem Xpu_d : ∀ c i, Xd c i = false → Xpu c i = false := by
  intro c i h
  simp only [Xd, Xpu, Bool.or_eq_false_iff, Bool.and_eq_false_iff, beq_eq_false_iff_ne, decide_eq_false_iff_not] at h ⊢; omega
/-- the class's row comes back as it was: all holds on -/
theorem InvP.row {X : Nat → Nat} {n : Nat} {T : Tr} {B : List Tr} {nx : Nat} {σ τ : St} (hI : InvP X n T B nx σ) (hR : RowOK 3 T τ) (hf : fr (XR 3) σ τ) : InvP X n T B nx τ := by
  obtain ⟨i1, i2, i3, i4, i5, i6, i7, i8, i9, i10, i11⟩ := hI
  refine ⟨i1.fr hf rfl (fun _ => rfl), i2.fr hf rfl (fun _ => rfl), hR, i4.fr hf (fun _ => rfl), i5, i6, i7.fr hf rfl rfl (fun _ => rfl), i8.fr hf rfl (fun _ => rfl) (fun _ => rfl), i9.fr hf (fun _ => rfl) (fun _ => rfl) (fun c j a b => XR_out (by omega)) (fun _ => rfl), i10.fr hf rfl rfl (fun c j a b => XR_out (by omega)) (fun c j a b => XR_out (by omega)), ?_⟩
  rw [hf.2]; exact i11
theorem k_drop {σ : St} (h : Inv σ) (a : Int32) : m_X8_drop σ a (fun r σ1 => m_X9_drop σ1 a (fun r2 σ2 => r = r2 ∧ Inv σ2)) := by
  obtain ⟨X, n, T, B, nx, hI⟩ := h
  obtain ⟨i1, i2, i3, i4, i5, i6, i7, i8, i9, i10, i11⟩ := id hI
  unfold m_X8_drop
  refine q_has i3.1 i6 (fun k hk e => ?_) (fun hno => ⟨fun z => absurd rfl z, fun _ => ?_⟩)
  rotate_left
  · refine p_drop i4 i5 i6 i7 (fun k hk e => absurd e (hno k hk)) (fun k hk e => absurd e (hno k hk)) (fun _ => ⟨rfl, X, n, T, B, nx, hI⟩)
  subst e
  refine ⟨fun _ => ⟨vp_n (by omega) (by omega), bI_i ?_⟩, fun z => absurd z (by decide)⟩
  rw [nI_cl (by omega), (i3.2.1 k hk).1]
  refine q_takeOut i3 i5 i6 (fun k' hk' e hv σ1 hR1 hf1 => ⟨fun _ => ?_, fun z => absurd z (by decide)⟩) (fun hno σ1 hR1 hf1 => ⟨fun z => absurd rfl z, fun _ => ?_⟩)
  · rw [nI_eq' (by omega) (by omega)] at e
    subst e
    have h45 : σ1.1 45 0 = nI B.length := (hf1.1 _ _ rfl).trans i8.1
    have i8' : ActC B T σ1 := i8.fr hf1 rfl (fun _ => rfl) (fun _ => rfl)
    refine q_push i7.1 h45 (fun σ2 hf2 c1 c2 => ?_)
    have hA := ActC_push (V := T.eraseIdx k) (p := k) (v := nI (cod (T.getD k (0, 0, 0)))) i7.1 i8' i5 i6 (Or.inl ⟨hk, rfl, rfl⟩) c1 c2
    have hR2 : RowOK 3 (T.eraseIdx k) σ2 := hR1.fr hf2 (fun c i a b => by
      simp only [Xpu, Bool.or_eq_false_iff, Bool.and_eq_false_iff, beq_eq_false_iff_ne]; omega)
    have hf12 : fr Xd σ σ2 := fr_tr (fr_mono hf1 XR3_d) (fr_mono hf2 Xpu_d)
    have hN2 : NowOK 0 T σ2 := i4.fr hf12 (fun _ => rfl)
    have hA2 : ActM B nx σ2 := i7.fr hf12 rfl rfl (fun _ => rfl)
    rw [hR2.1, erase_len T hk]
    refine p_drop hN2 i5 i6 hA2 (fun k' hk' e hv' σ3 hN3 hA3 hf3 => ?_) (fun k' hk' e hv' => ?_) (fun hno => absurd rfl (hno k hk))
    · rw [nI_eq' (by omega) (by omega)] at e
      subst e
      exact ⟨rfl, X, n, _, _, _, push_inv hI hf12 Xd_ok hR2 hv (by rw [erase_len T hk]; omega) hA hf3 hN3 hA3⟩
    · rw [nI_eq' (by omega) (by omega)] at e
      subst e; exact absurd hv hv'
  · have hI1 := hI.row hR1 hf1
    refine p_drop hI1.2.2.2.1 i5 i6 hI1.2.2.2.2.2.2.1 (fun k' hk' e hv => absurd hv (hno k' hk' e)) (fun k' hk' e hv σ3 hK => ⟨rfl, X, n, T, B, nx, hI1.keep hK⟩) (fun hno => absurd rfl (hno k hk))
theorem k_swap {σ : St} (h : Inv σ) (a : Int32) : m_X8_swap σ a (fun r σ1 => m_X9_swap σ1 a (fun r2 σ2 => r = r2 ∧ Inv σ2)) := by
  obtain ⟨X, n, T, B, nx, hI⟩ := h
  obtain ⟨i1, i2, i3, i4, i5, i6, i7, i8, i9, i10, i11⟩ := id hI
  unfold m_X8_swap
  refine q_hasPair i3.1 i6 (fun k hk e => ?_) (fun hno => ⟨fun z => absurd rfl z, fun _ => ?_⟩)
  rotate_left
  · refine p_swap i4 i5 i6 i7 (fun k hk e => absurd e (hno k hk)) (fun k hk e => absurd e (hno k hk)) (fun _ => ⟨rfl, X, n, T, B, nx, hI⟩)
  subst e
  refine ⟨fun _ => ?_, fun z => absurd z (by decide)⟩
  have bk := i5 k (by omega)
  have hth : m_X4_threadAt 3 σ (nI k) = fun Q => vp_in (nI k) 20 ∧ Q (nI (th T k)) σ := by
    funext Q
    unfold m_X4_threadAt
    rw [nI_cl (by omega), (i3.2.1 k (by omega)).1, cod_t bk.1 bk.2.2.1]
    rfl
  rw [hth]
  refine ⟨vp_n (by omega) (by omega), ?_⟩
  refine q_changePlaces i3 i5 i6 (fun k' hk' e hv σ1 hR1 hf1 => ⟨fun _ => ?_, fun z => absurd z (by decide)⟩) (fun hno σ1 hR1 hf1 => ⟨fun z => absurd rfl z, fun _ => ?_⟩)
  · rw [nI_eq' (by omega) (by omega)] at e
    subst e
    have h45 : σ1.1 45 0 = nI B.length := (hf1.1 _ _ rfl).trans i8.1
    have i8' : ActC B T σ1 := i8.fr hf1 rfl (fun _ => rfl) (fun _ => rfl)
    refine q_push i7.1 h45 (fun σ2 hf2 c1 c2 => ?_)
    have hA := ActC_push (V := swp T k) (p := k) (v := -1) i7.1 i8' i5 i6 (Or.inr ⟨hk, rfl, rfl⟩) c1 c2
    have hR2 : RowOK 3 (swp T k) σ2 := hR1.fr hf2 (fun c i a b => by
      simp only [Xpu, Bool.or_eq_false_iff, Bool.and_eq_false_iff, beq_eq_false_iff_ne]; omega)
    have hf12 : fr Xd σ σ2 := fr_tr (fr_mono hf1 XR3_d) (fr_mono hf2 Xpu_d)
    have hN2 : NowOK 0 T σ2 := i4.fr hf12 (fun _ => rfl)
    have hA2 : ActM B nx σ2 := i7.fr hf12 rfl rfl (fun _ => rfl)
    refine p_swap hN2 i5 i6 hA2 (fun k' hk' e hv' σ3 hN3 hA3 hf3 => ?_) (fun k' hk' e hv' => ?_) (fun hno => absurd rfl (hno k hk))
    · rw [nI_eq' (by omega) (by omega)] at e
      subst e
      exact ⟨rfl, X, n, _, _, _, push_inv hI hf12 Xd_ok hR2 hv (by rw [swp_len]; exact i6) hA hf3 hN3 hA3⟩
    · rw [nI_eq' (by omega) (by omega)] at e
      subst e; exact absurd hv hv'
  · have hI1 := hI.row hR1 hf1
    refine p_swap hI1.2.2.2.1 i5 i6 hI1.2.2.2.2.2.2.1 (fun k' hk' e hv => absurd hv (hno k' hk' e)) (fun k' hk' e hv σ3 hK => ⟨rfl, X, n, T, B, nx, hI1.keep hK⟩) (fun hno => absurd rfl (hno k hk))
