/-! ===== the law's loop (printed by law.py) ===== -/
/-- the law's own end, with 1 on the stack, nothing written that was there before, its room as the claim has it -/
theorem lw_ret {p : Program} {l : Launch} {e : Env} {s : State} {m : MethodId} {below : List Frame} {meth : Method} {c : Code} {b : Nat} (hx : p.tables.exec = Jvm.exec) (hb : c.code = code) (hr : meth.sig.returnType = ret) (hlocks : meth.locks = false) {pc : Nat} {H : Heap} {ls : Array Slot} (hdg : decode code pc = .ok (.ireturn, 1)) : W p l e room_1 s m #[Value.ref b] below meth c H [] 600000 7302249 (lw_Z below #[Value.ref b] s) (F0 m pc ls [.int 1]) := by
  intro T hT X
  obtain ⟨fs, hret, hrun, hended, hW, hframe⟩ := X.leave (v := some (.int 1)) (hlocks := hlocks) (fun h => by rw [hr] at h; cases h)
  have hmeth' : T.vm.method? m = some meth := X.method'
  refine ⟨T.setFrames fs, ?_, .returned (some (.int 1)), hrun, hended, rfl, ⟨_, rfl⟩, hW, hframe⟩
  jvm_step X.here [X.here.top, hx, hb, hdg, hmeth', hr, ret, narrow_b1]
  (try refine ⟨rfl, ?_⟩); (try refine ⟨rfl, ?_⟩)
  first | (intro acts; rw [hret _ acts rfl rfl rfl]) | rw [hret _ _ rfl rfl rfl]
  exact Steps.refl _
theorem sub4_lt {L i : Nat} (hL : L ≤ 2048) (hi : i ≤ 2052) (h : ¬ nI L - 4 < nI i) : i + 4 ≤ L := by
  rcases Nat.lt_or_ge L 4 with q | q
  · exfalso
    apply h
    rw [Int32.lt_iff_toInt_lt, nI_toInt (by omega : i < 2 ^ 31)]
    have e : (nI L - 4).toInt < 0 := by
      rcases (show L = 0 ∨ L = 1 ∨ L = 2 ∨ L = 3 by omega) with rfl | rfl | rfl | rfl <;> decide
    omega
  · obtain ⟨k, rfl⟩ : ∃ k, L = k + 4 := ⟨L - 4, by omega⟩
    have e : nI (k + 4) - 4 = nI k := by
      rw [← nI_add, show nI 4 = 4 from rfl, Int32.add_sub_cancel]
    rw [e, nI_lt' (by omega) (by omega)] at h
    omega
theorem lw_end {p : Program} {l : Launch} {e : Env} {s : State} {m : MethodId} {below : List Frame} {meth : Method} {c : Code} {dC : Nat → ClassId} {dI : Nat → Nat → Nat} {cA : Nat → ClassId} {al : Nat → Nat} {b : Nat} (C : LFx p s m c dC dI cA al b) (hr : meth.sig.returnType = ret) (hlocks : meth.locks = false) {lv : List (Nat × Value)} {σ : St} : LWW p l e s m below meth c dC dI cA al b 882 lv [] σ := by
  refine ww_iconst (v := 1) C dL_law_882 (by decide) ?_
  intro H locs ls hP hD hS hl
  refine va_forget (fun q hq => hS.2.2 q hq) ?_
  refine W.widen (k := 600000) (n := 7302249) (Nat.le_of_ble_eq_true rfl) (Nat.le_of_ble_eq_true rfl) ?_
  exact lw_ret C.1 C.2.1 hr hlocks dL_law_883
set_option maxRecDepth 100000 in
set_option maxHeartbeats 4000000 in
theorem law_head {p : Program} {l : Launch} {e : Env} {s : State} {m : MethodId} {below : List Frame} {meth : Method} {c : Code} {dC : Nat → ClassId} {dI : Nat → Nat → Nat} {cA : Nat → ClassId} {al : Nat → Nat} {b L : Nat} {xs : Nat → Int32} (C : LFx p s m c dC dI cA al b) (S : Scr al L xs (LA s) s) (hr : meth.sig.returnType = ret) (hlocks : meth.locks = false) {i : Nat} (hi4 : i ≤ 2052) (hL : L ≤ 2048) {σ : St} (hI : Inv σ) (kk : i + 4 ≤ L → ∀ τ, Inv τ → LWW p l e s m below meth c dC dI cA al b 18 (lvL (i + 4)) [] τ) : LWW p l e s m below meth c dC dI cA al b 18 (lvL i) [] σ := by
  refine ww_iload_n C 0 rfl dL_law_18 ?_
  refine ww_aload_n C 3 rfl dL_law_19 ?_
  refine ww_scl C S dL_law_20 ?_
  refine ww_iconst (v := 4) C dL_law_21 (by decide) ?_
  refine ww_isub C dL_law_22 ?_
  refine ww_icmp_gt (tgt := 882) C dL_law_23 (by decide) (fun _ => lw_end C hr hlocks) (fun hc => ?_)
  have hi := sub4_lt hL hi4 hc
  have k9 : ∀ τ, Inv τ → LWW p l e s m below meth c dC dI cA al b 876 (lvL i) [] τ := by
    intro τ hτ
    refine ww_iinc (v := nI (i + 4)) (lv' := lvL (i + 4)) C 0 rfl dL_law_876 (by rw [← nI_add]; rfl) (by decide) rfl ?_
    refine ww_goto (tgt := 18) C dL_law_879 (by decide) ?_
    exact kk hi τ hτ
  refine ww_aload_n C 3 rfl dL_law_26 ?_
  refine ww_iload_n C 0 rfl dL_law_27 ?_
  refine ww_scr C S (vp_in_nI (by omega) (by omega)) dL_law_28 ?_
  refine ww_bipush (v := 31) C dL_law_29 (by decide) ?_
  refine ww_iand C dL_law_31 ?_
  refine ww_nmI (K := fun _ => True) (show bI _ (fun _ => True) from trivial) (fun y _ => ?_)
  by_cases h0 : y = 0
  · refine ww_table (off := 116) (tgt := 148) C dL_law_32 (by rw [h0]; decide) (by rw [h0]; decide) (by rw [h0]; rfl) (by decide) ?_
    exact law_write C S hi hL hI k9
  by_cases h1 : y = 1
  · refine ww_table (off := 139) (tgt := 171) C dL_law_32 (by rw [h1]; decide) (by rw [h1]; decide) (by rw [h1]; rfl) (by decide) ?_
    exact law_wipe C S hi hL hI k9
  by_cases h2 : y = 2
  · refine ww_table (off := 152) (tgt := 184) C dL_law_32 (by rw [h2]; decide) (by rw [h2]; decide) (by rw [h2]; rfl) (by decide) ?_
    exact law_fault C S hi hL hI k9
  by_cases h3 : y = 3
  · refine ww_table (off := 165) (tgt := 197) C dL_law_32 (by rw [h3]; decide) (by rw [h3]; decide) (by rw [h3]; rfl) (by decide) ?_
    exact law_trace C S hi hL hI k9
  by_cases h4 : y = 4
  · refine ww_table (off := 178) (tgt := 210) C dL_law_32 (by rw [h4]; decide) (by rw [h4]; decide) (by rw [h4]; rfl) (by decide) ?_
    exact law_step C S hi hL hI k9
  by_cases h5 : y = 5
  · refine ww_table (off := 211) (tgt := 243) C dL_law_32 (by rw [h5]; decide) (by rw [h5]; decide) (by rw [h5]; rfl) (by decide) ?_
    exact law_drop C S hi hL hI k9
  by_cases h6 : y = 6
  · refine ww_table (off := 234) (tgt := 266) C dL_law_32 (by rw [h6]; decide) (by rw [h6]; decide) (by rw [h6]; rfl) (by decide) ?_
    exact law_swap C S hi hL hI k9
  by_cases h7 : y = 7
  · refine ww_table (off := 257) (tgt := 289) C dL_law_32 (by rw [h7]; decide) (by rw [h7]; decide) (by rw [h7]; rfl) (by decide) ?_
    exact law_undo C S hi hL hI k9
  by_cases h8 : y = 8
  · refine ww_table (off := 270) (tgt := 302) C dL_law_32 (by rw [h8]; decide) (by rw [h8]; decide) (by rw [h8]; rfl) (by decide) ?_
    exact law_cell C S hi hL hI k9
  by_cases h9 : y = 9
  · refine ww_table (off := 313) (tgt := 345) C dL_law_32 (by rw [h9]; decide) (by rw [h9]; decide) (by rw [h9]; rfl) (by decide) ?_
    exact law_ahead C S hi hL hI k9
  by_cases h10 : y = 10
  · refine ww_table (off := 346) (tgt := 378) C dL_law_32 (by rw [h10]; decide) (by rw [h10]; decide) (by rw [h10]; rfl) (by decide) ?_
    exact law_meetings C S hi hL hI k9
  by_cases h11 : y = 11
  · refine ww_table (off := 379) (tgt := 411) C dL_law_32 (by rw [h11]; decide) (by rw [h11]; decide) (by rw [h11]; rfl) (by decide) ?_
    exact law_edges C S hi hL hI k9
  by_cases h12 : y = 12
  · refine ww_table (off := 402) (tgt := 434) C dL_law_32 (by rw [h12]; decide) (by rw [h12]; decide) (by rw [h12]; rfl) (by decide) ?_
    exact law_rings C S hi hL hI k9
  by_cases h13 : y = 13
  · refine ww_table (off := 435) (tgt := 467) C dL_law_32 (by rw [h13]; decide) (by rw [h13]; decide) (by rw [h13]; rfl) (by decide) ?_
    exact law_first C S hi hL hI k9
  by_cases h14 : y = 14
  · refine ww_table (off := 448) (tgt := 480) C dL_law_32 (by rw [h14]; decide) (by rw [h14]; decide) (by rw [h14]; rfl) (by decide) ?_
    exact law_judge C S hi hL hI k9
  by_cases h15 : y = 15
  · refine ww_table (off := 511) (tgt := 543) C dL_law_32 (by rw [h15]; decide) (by rw [h15]; decide) (by rw [h15]; rfl) (by decide) ?_
    exact law_see C S hi hL hI k9
  by_cases h16 : y = 16
  · refine ww_table (off := 554) (tgt := 586) C dL_law_32 (by rw [h16]; decide) (by rw [h16]; decide) (by rw [h16]; rfl) (by decide) ?_
    exact law_unsee C S hi hL hI k9
  by_cases h17 : y = 17
  · refine ww_table (off := 567) (tgt := 599) C dL_law_32 (by rw [h17]; decide) (by rw [h17]; decide) (by rw [h17]; rfl) (by decide) ?_
    exact law_which C S hi hL hI k9
  by_cases h18 : y = 18
  · refine ww_table (off := 590) (tgt := 622) C dL_law_32 (by rw [h18]; decide) (by rw [h18]; decide) (by rw [h18]; rfl) (by decide) ?_
    exact law_share C S hi hL hI k9
  by_cases h19 : y = 19
  · refine ww_table (off := 639) (tgt := 671) C dL_law_32 (by rw [h19]; decide) (by rw [h19]; decide) (by rw [h19]; rfl) (by decide) ?_
    exact law_lost C S hi hL hI k9
  by_cases h20 : y = 20
  · refine ww_table (off := 698) (tgt := 730) C dL_law_32 (by rw [h20]; decide) (by rw [h20]; decide) (by rw [h20]; rfl) (by decide) ?_
    exact law_seed C S hi hL hI k9
  by_cases h21 : y = 21
  · refine ww_table (off := 752) (tgt := 784) C dL_law_32 (by rw [h21]; decide) (by rw [h21]; decide) (by rw [h21]; rfl) (by decide) ?_
    exact law_drawn C S hi hL hI k9
  by_cases h22 : y = 22
  · refine ww_table (off := 775) (tgt := 807) C dL_law_32 (by rw [h22]; decide) (by rw [h22]; decide) (by rw [h22]; rfl) (by decide) ?_
    exact law_keep C S hi hL hI k9
  by_cases h23 : y = 23
  · refine ww_table (off := 798) (tgt := 830) C dL_law_32 (by rw [h23]; decide) (by rw [h23]; decide) (by rw [h23]; rfl) (by decide) ?_
    exact law_again C S hi hL hI k9
  by_cases h24 : y = 24
  · refine ww_table (off := 821) (tgt := 853) C dL_law_32 (by rw [h24]; decide) (by rw [h24]; decide) (by rw [h24]; rfl) (by decide) ?_
    exact law_count C S hi hL hI k9
  refine ww_tabD (tgt := 876) C dL_law_32 (tabD_ok [0, 1, 2, 3, 4, 5, 6, 7, 8, 9, 10, 11, 12, 13, 14, 15, 16, 17, 18, 19, 20, 21, 22, 23, 24] (by decide) (List.forall_mem_cons.mpr ⟨ne_toInt (n := 0) h0, (List.forall_mem_cons.mpr ⟨ne_toInt (n := 1) h1, (List.forall_mem_cons.mpr ⟨ne_toInt (n := 2) h2, (List.forall_mem_cons.mpr ⟨ne_toInt (n := 3) h3, (List.forall_mem_cons.mpr ⟨ne_toInt (n := 4) h4, (List.forall_mem_cons.mpr ⟨ne_toInt (n := 5) h5, (List.forall_mem_cons.mpr ⟨ne_toInt (n := 6) h6, (List.forall_mem_cons.mpr ⟨ne_toInt (n := 7) h7, (List.forall_mem_cons.mpr ⟨ne_toInt (n := 8) h8, (List.forall_mem_cons.mpr ⟨ne_toInt (n := 9) h9, (List.forall_mem_cons.mpr ⟨ne_toInt (n := 10) h10, (List.forall_mem_cons.mpr ⟨ne_toInt (n := 11) h11, (List.forall_mem_cons.mpr ⟨ne_toInt (n := 12) h12, (List.forall_mem_cons.mpr ⟨ne_toInt (n := 13) h13, (List.forall_mem_cons.mpr ⟨ne_toInt (n := 14) h14, (List.forall_mem_cons.mpr ⟨ne_toInt (n := 15) h15, (List.forall_mem_cons.mpr ⟨ne_toInt (n := 16) h16, (List.forall_mem_cons.mpr ⟨ne_toInt (n := 17) h17, (List.forall_mem_cons.mpr ⟨ne_toInt (n := 18) h18, (List.forall_mem_cons.mpr ⟨ne_toInt (n := 19) h19, (List.forall_mem_cons.mpr ⟨ne_toInt (n := 20) h20, (List.forall_mem_cons.mpr ⟨ne_toInt (n := 21) h21, (List.forall_mem_cons.mpr ⟨ne_toInt (n := 22) h22, (List.forall_mem_cons.mpr ⟨ne_toInt (n := 23) h23, (List.forall_mem_cons.mpr ⟨ne_toInt (n := 24) h24, fun _ h => absurd h List.not_mem_nil⟩)⟩)⟩)⟩)⟩)⟩)⟩)⟩)⟩)⟩)⟩)⟩)⟩)⟩)⟩)⟩)⟩)⟩)⟩)⟩)⟩)⟩)⟩)⟩)⟩)) (by decide) ?_
  exact k9 σ hI
theorem law_loop {p : Program} {l : Launch} {e : Env} {s : State} {m : MethodId} {below : List Frame} {meth : Method} {c : Code} {dC : Nat → ClassId} {dI : Nat → Nat → Nat} {cA : Nat → ClassId} {al : Nat → Nat} {b L : Nat} {xs : Nat → Int32} (C : LFx p s m c dC dI cA al b) (S : Scr al L xs (LA s) s) (hr : meth.sig.returnType = ret) (hlocks : meth.locks = false) (hL : L ≤ 2048) : ∀ (n i : Nat) (σ : St), L ≤ i + n → i ≤ 2052 → Inv σ → LWW p l e s m below meth c dC dI cA al b 18 (lvL i) [] σ := by
  intro n
  induction n with
  | zero =>
    intro i σ h1 h2 hI
    exact law_head C S hr hlocks h2 hL hI (fun h => absurd h (by omega))
  | succ n ih =>
    intro i σ h1 h2 hI
    exact law_head C S hr hlocks h2 hL hI (fun h τ hτ => ih (i + 4) τ (by omega) (by omega) hτ)
