/-! ===== Int32 by its bits: bt x i ===== -/
def bt (x : Int32) (i : Nat) : Bool := x.toBitVec.getLsbD i
theorem b_ext {x y : Int32} (h : ∀ i, i < 32 → bt x i = bt y i) : x = y := Int32.toBitVec_inj.mp (BitVec.eq_of_getLsbD_eq (fun i hi => h i hi))
theorem b_or (x y : Int32) (i : Nat) : bt (x ||| y) i = (bt x i || bt y i) := by unfold bt; rw [Int32.toBitVec_or, BitVec.getLsbD_or]
theorem b_and (x y : Int32) (i : Nat) : bt (x &&& y) i = (bt x i && bt y i) := by unfold bt; rw [Int32.toBitVec_and, BitVec.getLsbD_and]
theorem b_xor (x y : Int32) (i : Nat) : bt (x ^^^ y) i = (bt x i ^^ bt y i) := by unfold bt; rw [Int32.toBitVec_xor, BitVec.getLsbD_xor]
theorem b_big {x : Int32} {i : Nat} (h : 32 ≤ i) : bt x i = false := BitVec.getLsbD_of_ge _ _ h
theorem b_m1 : ∀ i, i < 32 → bt (-1) i = true := by decide +kernel
theorem b_0 (i : Nat) : bt 0 i = false := BitVec.getLsbD_zero
theorem s_l : ∀ n, n < 32 → ((nI n &&& 31).toBitVec.smod 32).toNat = n := by decide +kernel
theorem s_u : ∀ n, n < 32 → (((nI n).toUInt32 &&& Int32.toUInt32 31).toBitVec % 32).toNat = n := by decide +kernel
theorem b_shl (n : Nat) (hn : n < 32) (x : Int32) {i : Nat} (hi : i < 32) : bt (x <<< (nI n &&& 31)) i = (decide (n ≤ i) && bt x (i - n)) := by
  unfold bt
  rw [Int32.toBitVec_shiftLeft]
  show (x.toBitVec <<< ((nI n &&& 31).toBitVec.smod 32).toNat).getLsbD i = _
  rw [s_l n hn, BitVec.getLsbD_shiftLeft]
  rcases Nat.lt_or_ge i n with h | h
  · simp [h, Nat.not_le.mpr h]
  · simp [hi, h, Nat.not_lt.mpr h]
theorem b_ushr (n : Nat) (hn : n < 32) (x : Int32) (i : Nat) : bt ((x.toUInt32 >>> ((nI n).toUInt32 &&& Int32.toUInt32 31)).toInt32) i = bt x (n + i) := by
  show (x.toUInt32 >>> ((nI n).toUInt32 &&& Int32.toUInt32 31)).toBitVec.getLsbD i = x.toUInt32.toBitVec.getLsbD (n + i)
  rw [UInt32.toBitVec_shiftRight]
  show (x.toUInt32.toBitVec >>> (((nI n).toUInt32 &&& Int32.toUInt32 31).toBitVec % 32).toNat).getLsbD i = _
  rw [s_u n hn, BitVec.getLsbD_ushiftRight]
theorem b_sshr (n : Nat) (hn : n < 32) (x : Int32) {i : Nat} (hi : i < 32) : bt (x >>> (nI n &&& 31)) i = if n + i < 32 then bt x (n + i) else bt x 31 := by
  unfold bt
  rw [Int32.toBitVec_shiftRight]
  show (x.toBitVec.sshiftRight ((nI n &&& 31).toBitVec.smod 32).toNat).getLsbD i = _
  rw [s_l n hn, BitVec.getLsbD_sshiftRight, BitVec.msb_eq_getLsbD_last]
  simp [hi]
theorem b_1 : ∀ i, i < 32 → bt 1 i = decide (i = 0) := by decide +kernel
theorem b_15 : ∀ i, i < 32 → bt 15 i = decide (i < 4) := by decide +kernel
theorem hb_val (x : Int32) {o : Nat} (ho : o < 32) : (x >>> (nI o &&& 31)) &&& 1 = if bt x o then 1 else 0 := by
  apply b_ext
  intro i hi
  rw [b_and, b_1 i hi, b_sshr o ho x hi]
  by_cases e : i = 0
  · subst e
    simp only [Nat.add_zero, ho, if_true, decide_true, Bool.and_true]
    cases bt x o
    · rw [if_neg (by simp), b_0]
    · rw [if_pos rfl, b_1 0 (by omega)]; rfl
  · simp only [e, decide_false, Bool.and_false]
    cases bt x o
    · rw [if_neg (by simp), b_0]
    · rw [if_pos rfl, b_1 i hi]; simp [e]
def bitI (o : Nat) : Int32 := (1 : Int32) <<< (nI o &&& 31)
theorem b_bit {o i : Nat} (ho : o < 32) (hi : i < 32) : bt (bitI o) i = decide (i = o) := by
  unfold bitI
  rw [b_shl o ho 1 hi]
  rcases Nat.lt_or_ge i o with h | h
  · have h1 : ¬ o ≤ i := by omega
    have h2 : ¬ i = o := by omega
    simp [h1, h2]
  · rw [b_1 (i - o) (by omega)]
    by_cases e : i = o
    · subst e; simp
    · have h1 : ¬ i - o = 0 := by omega
      simp [e, h1]
/-! ===== the store ===== -/
theorem sI_get (σ : St) (c i : Nat) (v : Int32) (a j : Nat) : (sI σ c i v).1 a j = if a = c ∧ j = i then v else σ.1 a j := by
  unfold sI upd
  by_cases h : a = c
  · subst h; simp
  · simp [h]
theorem sI_2 (σ : St) (c i : Nat) (v : Int32) : (sI σ c i v).2 = σ.2 := rfl
theorem sI_in (σ : St) (c i : Nat) (v : Int32) : (sI σ c i v).1 c i = v := by rw [sI_get, if_pos ⟨rfl, rfl⟩]
theorem sI_out (σ : St) {c i a j : Nat} (v : Int32) (h : ¬ (a = c ∧ j = i)) : (sI σ c i v).1 a j = σ.1 a j := by rw [sI_get, if_neg h]
theorem sL_get (σ : St) (c i : Nat) (v : Int64) (a j : Nat) : (sL σ c i v).2 a j = if a = c ∧ j = i then v else σ.2 a j := by
  unfold sL vp_updL
  by_cases h : a = c
  · subst h; simp
  · simp [h]
theorem sL_1 (σ : St) (c i : Nat) (v : Int64) : (sL σ c i v).1 = σ.1 := rfl
def fr (X : Nat → Nat → Bool) (σ τ : St) : Prop := (∀ c i, X c i = false → τ.1 c i = σ.1 c i) ∧ τ.2 = σ.2
theorem fr_rfl {X : Nat → Nat → Bool} {σ : St} : fr X σ σ := ⟨fun _ _ _ => rfl, rfl⟩
theorem fr_tr {X : Nat → Nat → Bool} {σ τ υ : St} (h1 : fr X σ τ) (h2 : fr X τ υ) : fr X σ υ := ⟨fun c i h => (h2.1 c i h).trans (h1.1 c i h), h2.2.trans h1.2⟩
theorem fr_mono {X Y : Nat → Nat → Bool} {σ τ : St} (h : fr X σ τ) (hXY : ∀ c i, Y c i = false → X c i = false) : fr Y σ τ := ⟨fun c i q => h.1 c i (hXY c i q), h.2⟩
theorem fr_sI {X : Nat → Nat → Bool} {σ τ : St} (h : fr X σ τ) {c i : Nat} (v : Int32) (hX : X c i = true) : fr X σ (sI τ c i v) := by
  refine ⟨fun a j q => ?_, h.2⟩
  rw [sI_out _ _ (fun e => by rw [e.1, e.2, hX] at q; cases q)]
  exact h.1 a j q
/-! ===== loops by a measure ===== -/
theorem lpE0 {L : Nat → St → Prop} (b : (St → Prop) → St → Prop) (hL : ∀ f, L (f + 1) = b (L f)) (I : Nat → St → Prop) (hs : ∀ n σ (Rc : St → Prop), I n σ → (∀ m σ', m < n → I m σ' → Rc σ') → b Rc σ) {n : Nat} {σ : St} (h : I n σ) : ∃ f, L f σ := by
  have key : ∀ f n σ, n < f → I n σ → L f σ := by
    intro f
    induction f with
    | zero => intro n σ h; omega
    | succ f ih => intro n σ hn hI; rw [hL]; exact hs n σ (L f) hI (fun m σ' hm hI' => ih m σ' (by omega) hI')
  exact ⟨n + 1, key (n + 1) n σ (by omega) h⟩
theorem lpE1 {A1 : Type} {L : Nat → St → A1 → Prop} (b : (St → A1 → Prop) → St → A1 → Prop) (hL : ∀ f, L (f + 1) = b (L f)) (I : Nat → St → A1 → Prop) (hs : ∀ n σ x (Rc : St → A1 → Prop), I n σ x → (∀ m σ' x', m < n → I m σ' x' → Rc σ' x') → b Rc σ x) {n : Nat} {σ : St} {x : A1} (h : I n σ x) : ∃ f, L f σ x := by
  have key : ∀ f n σ x, n < f → I n σ x → L f σ x := by
    intro f
    induction f with
    | zero => intro n σ x h; omega
    | succ f ih => intro n σ x hn hI; rw [hL]; exact hs n σ x (L f) hI (fun m σ' x' hm hI' => ih m σ' x' (by omega) hI')
  exact ⟨n + 1, key (n + 1) n σ x (by omega) h⟩
theorem lpE2 {A1 A2 : Type} {L : Nat → St → A1 → A2 → Prop} (b : (St → A1 → A2 → Prop) → St → A1 → A2 → Prop) (hL : ∀ f, L (f + 1) = b (L f)) (I : Nat → St → A1 → A2 → Prop) (hs : ∀ n σ x y (Rc : St → A1 → A2 → Prop), I n σ x y → (∀ m σ' x' y', m < n → I m σ' x' y' → Rc σ' x' y') → b Rc σ x y) {n : Nat} {σ : St} {x : A1} {y : A2} (h : I n σ x y) : ∃ f, L f σ x y := by
  have key : ∀ f n σ x y, n < f → I n σ x y → L f σ x y := by
    intro f
    induction f with
    | zero => intro n σ x y h; omega
    | succ f ih => intro n σ x y hn hI; rw [hL]; exact hs n σ x y (L f) hI (fun m σ' x' y' hm hI' => ih m σ' x' y' (by omega) hI')
  exact ⟨n + 1, key (n + 1) n σ x y (by omega) h⟩
theorem lpE3 {A1 A2 A3 : Type} {L : Nat → St → A1 → A2 → A3 → Prop} (b : (St → A1 → A2 → A3 → Prop) → St → A1 → A2 → A3 → Prop) (hL : ∀ f, L (f + 1) = b (L f)) (I : Nat → St → A1 → A2 → A3 → Prop) (hs : ∀ n σ x y z (Rc : St → A1 → A2 → A3 → Prop), I n σ x y z → (∀ m σ' x' y' z', m < n → I m σ' x' y' z' → Rc σ' x' y' z') → b Rc σ x y z) {n : Nat} {σ : St} {x : A1} {y : A2} {z : A3} (h : I n σ x y z) : ∃ f, L f σ x y z := by
  have key : ∀ f n σ x y z, n < f → I n σ x y z → L f σ x y z := by
    intro f
    induction f with
    | zero => intro n σ x y z h; omega
    | succ f ih => intro n σ x y z hn hI; rw [hL]; exact hs n σ x y z (L f) hI (fun m σ' x' y' z' hm hI' => ih m σ' x' y' z' (by omega) hI')
  exact ⟨n + 1, key (n + 1) n σ x y z (by omega) h⟩
theorem lpE4 {A1 A2 A3 A4 : Type} {L : Nat → St → A1 → A2 → A3 → A4 → Prop} (b : (St → A1 → A2 → A3 → A4 → Prop) → St → A1 → A2 → A3 → A4 → Prop) (hL : ∀ f, L (f + 1) = b (L f)) (I : Nat → St → A1 → A2 → A3 → A4 → Prop) (hs : ∀ n σ x y z u (Rc : St → A1 → A2 → A3 → A4 → Prop), I n σ x y z u → (∀ m σ' x' y' z' u', m < n → I m σ' x' y' z' u' → Rc σ' x' y' z' u') → b Rc σ x y z u) {n : Nat} {σ : St} {x : A1} {y : A2} {z : A3} {u : A4} (h : I n σ x y z u) : ∃ f, L f σ x y z u := by
  have key : ∀ f n σ x y z u, n < f → I n σ x y z u → L f σ x y z u := by
    intro f
    induction f with
    | zero => intro n σ x y z u h; omega
    | succ f ih => intro n σ x y z u hn hI; rw [hL]; exact hs n σ x y z u (L f) hI (fun m σ' x' y' z' u' hm hI' => ih m σ' x' y' z' u' (by omega) hI')
  exact ⟨n + 1, key (n + 1) n σ x y z u (by omega) h⟩
/-! ===== numbers ===== -/
theorem nI_le' {a b : Nat} (ha : a < 2147483648) (hb : b < 2147483648) : nI a ≤ nI b ↔ a ≤ b := nI_leI ha hb
theorem nI_lt' {a b : Nat} (ha : a < 2147483648) (hb : b < 2147483648) : nI a < nI b ↔ a < b := nI_ltI ha hb
theorem nI_eq' {a b : Nat} (ha : a < 2147483648) (hb : b < 2147483648) : nI a = nI b ↔ a = b := nI_eq ha hb
theorem nI_cl {n : Nat} (h : n < 2147483648) : (nI n).toNatClampNeg = n := nI_clamp h
theorem vp_n {n N : Nat} (h : n < N) (hN : N < 2147483648) : vp_in (nI n) N := vp_in_nI h hN
/-- an argument is one of the first n numbers, or below 0, or not below n -/
theorem arg_n (x : Int32) {n : Nat} (hn : n < 2147483648) : (∃ k, k < n ∧ x = nI k) ∨ x < 0 ∨ nI n ≤ x := by
  rcases pk_ix x hn with h | h | ⟨j, h, e⟩
  · exact Or.inr (Or.inl h)
  · exact Or.inr (Or.inr h)
  · exact Or.inl ⟨j, h, e⟩
theorem i64_le (x y : Int32) : x.toInt64 ≤ y.toInt64 ↔ x ≤ y := by
  rw [Int64.le_iff_toInt_le, Int32.le_iff_toInt_le, Int32.toInt_toInt64, Int32.toInt_toInt64]
theorem nI_i64 (n : Nat) (h : n < 2147483648) : (nI n).toInt64 = lN n := nI_l h
