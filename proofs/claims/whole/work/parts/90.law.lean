/-! ===== the law's cases (printed by law.py) ===== -/
def R_law : String := "LockWatchLaw"
def lw_Q (_ : Array Value) (s : State) (o : Outcome) (t : State) : Prop := o = .returned (some (.int 1)) ∧ Framed s o t [] 600000 7302249
def lw_Z (below : List Frame) (a : Array Value) (s : State) : State → Prop := fun t => ∃ o, t.status = .running ∧ Ended t below o ∧ lw_Q a s o t
section LAWR
variable {p : Program} {l : Launch} {e : Env} {R : Room} {s : State} {m : MethodId} {args : Array Value} {below : List Frame} {meth : Method} {c : Code} {Q : State → Prop} {dC : Nat → ClassId} {dI : Nat → Nat → Nat} {cA : Nat → ClassId} {A : Nat → Prop} {nL kc ks : Nat} {al : Nat → Nat} {sh : List Kd} {cc : ByteArray} {own : String} {pc : Nat} {lv : List (Nat × Value)} {rest : List Value} {σ : St} {L : Nat} {xs : Nat → Int32}
/-- the script: cell 1002 of al -/
def Scr (al : Nat → Nat) (L : Nat) (xs : Nat → Int32) (A : Nat → Prop) (s : State) : Prop := va_X (al 1002) L xs s s.heap ∧ al 1002 < s.heap.size ∧ ¬ A (al 1002)
theorem ww_scr (C : Fx p s m args c cc nL own dC dI cA A al) (S : Scr al L xs A s) {i : Int32} (hin : vp_in i L) (hd : decode cc pc = .ok (.iaload, 1)) (kk : WW p l e R s m args below meth c Q dC dI cA A nL kc ks al sh (pc + 1) lv (.int (xs i.toNatClampNeg) :: rest) σ) : WW p l e R s m args below meth c Q dC dI cA A nL kc ks al sh pc lv (.int i :: .ref 1002 :: rest) σ := fun H locs ls hP hD hS hl => va_sld C.1 C.2.1 S.1 S.2.1 S.2.2 hS hin hd (kk H locs ls hP hD hS hl)
theorem ww_scl (C : Fx p s m args c cc nL own dC dI cA A al) (S : Scr al L xs A s) (hd : decode cc pc = .ok (.arraylength, 1)) (kk : WW p l e R s m args below meth c Q dC dI cA A nL kc ks al sh (pc + 1) lv (.int (nI L) :: rest) σ) : WW p l e R s m args below meth c Q dC dI cA A nL kc ks al sh pc lv (.ref 1002 :: rest) σ := fun H locs ls hP hD hS hl => va_slen C.1 C.2.1 S.1 S.2.1 S.2.2 hS hd (kk H locs ls hP hD hS hl)
theorem ww_bool (C : Fx p s m args c cc nL own dC dI cA A al) {x : Int32} {o1 o2 : Int} {t1 t2 : Nat} (h0 : decode cc pc = .ok (.ifCond .eq o1, 3)) (ht1 : (pc : Int) + o1 = (t1 : Int)) (h1 : decode cc (pc + 3) = .ok (.iconst 1, 1)) (h2 : decode cc (pc + 3 + 1) = .ok (.goto o2, 3)) (ht2 : ((pc + 3 + 1 : Nat) : Int) + o2 = (t2 : Int)) (h3 : decode cc t1 = .ok (.iconst 0, 1)) (ht : t1 + 1 = t2) (kk : WW p l e R s m args below meth c Q dC dI cA A nL kc ks al sh t2 lv (.int (if x = 0 then 0 else 1) :: rest) σ) : WW p l e R s m args below meth c Q dC dI cA A nL kc ks al sh pc lv (.int x :: rest) σ := by
  refine ww_if_eq (tgt := t1) C h0 ht1 (fun hc => ?_) (fun hc => ?_)
  · rw [if_pos hc] at kk
    subst ht
    exact ww_iconst (v := 0) C h3 (by decide) kk
  · rw [if_neg hc] at kk
    exact ww_iconst (v := 1) C h1 (by decide) (ww_goto (tgt := t2) C h2 ht2 kk)
theorem sc_in {i : Nat} (hi : i + 4 ≤ L) (hL : L ≤ 2048) (k : Nat) (hk : k < 4) {v : Int32} (hv : v = nI k) : vp_in (nI i + v) L := by
  rw [hv, nI_add]
  exact vp_in_nI (by omega) (by omega)
end LAWR
abbrev lvL (i : Nat) : List (Nat × Value) := [(3, .int (nI i)), (2, .ref 61), (1, .ref 0), (0, .ref 1002)]
abbrev LA (s : State) : Nat → Prop := fun q => s.heap.size ≤ q
abbrev LWW (p : Program) (l : Launch) (e : Env) (s : State) (m : MethodId) (below : List Frame) (meth : Method) (c : Code) (dC : Nat → ClassId) (dI : Nat → Nat → Nat) (cA : Nat → ClassId) (al : Nat → Nat) (b : Nat) (pc : Nat) (lv : List (Nat × Value)) (st : List Value) (σ : St) : Prop := WW p l e room_1 s m #[Value.ref b] below meth c (lw_Z below #[Value.ref b] s) dC dI cA (LA s) 4 85 1910 al shF pc lv st σ
abbrev LFx (p : Program) (s : State) (m : MethodId) (c : Code) (dC : Nat → ClassId) (dI : Nat → Nat → Nat) (cA : Nat → ClassId) (al : Nat → Nat) (b : Nat) : Prop := Fx p s m #[Value.ref b] c cL_law 4 RL dC dI cA (LA s) al
set_option maxRecDepth 100000 in
set_option maxHeartbeats 4000000 in
theorem law_write {p : Program} {l : Launch} {e : Env} {s : State} {m : MethodId} {below : List Frame} {meth : Method} {c : Code} {dC : Nat → ClassId} {dI : Nat → Nat → Nat} {cA : Nat → ClassId} {al : Nat → Nat} {b L : Nat} {xs : Nat → Int32} (C : LFx p s m c dC dI cA al b) (S : Scr al L xs (LA s) s) {i : Nat} (hi : i + 4 ≤ L) (hL : L ≤ 2048) {σ : St} (hI : Inv σ) (kk : ∀ τ, Inv τ → LWW p l e s m below meth c dC dI cA al b 876 (lvL i) [] τ) : LWW p l e s m below meth c dC dI cA al b 148 (lvL i) [] σ := by
  refine ww_aload_n C 2 rfl dL_law_148 ?_
  refine ww_aload_n C 3 rfl dL_law_149 ?_
  refine ww_iload_n C 0 rfl dL_law_150 ?_
  refine ww_iconst (v := 1) C dL_law_151 (by decide) ?_
  refine ww_iadd C dL_law_152 ?_
  refine ww_scr C S (sc_in hi hL 1 (by decide) (by decide)) dL_law_153 ?_
  refine ww_vi (n := 1) (As := [.int (xs (nI i + 1).toNatClampNeg)]) (rest := []) C (c_X8_write shF_ok (k_write hI _)) (shc_0 shF_ok) rfl nq_144 nq_145 nq_146 nq_2 nq_147 (by decide +kernel) rfl rfl ⟨Nat.le_of_ble_eq_true rfl, Nat.le_of_ble_eq_true rfl, Nat.le_of_ble_eq_true rfl, Nat.le_of_ble_eq_true rfl⟩ (Nat.le_of_ble_eq_true rfl) dL_law_154 (fun r1 σ1 h1 => ?_)
  refine ww_aload_n C 1 rfl dL_law_157 ?_
  refine ww_aload_n C 3 rfl dL_law_158 ?_
  refine ww_iload_n C 0 rfl dL_law_159 ?_
  refine ww_iconst (v := 1) C dL_law_160 (by decide) ?_
  refine ww_iadd C dL_law_161 ?_
  refine ww_scr C S (sc_in hi hL 1 (by decide) (by decide)) dL_law_162 ?_
  refine ww_vi (n := 1) (As := [.int (xs (nI i + 1).toNatClampNeg)]) (rest := [.int r1]) C (c_X9_write shF_ok h1) (shc_61 shF_ok) rfl nq_153 nq_154 nq_155 nq_5 nq_156 (by decide +kernel) rfl rfl ⟨Nat.le_of_ble_eq_true rfl, Nat.le_of_ble_eq_true rfl, Nat.le_of_ble_eq_true rfl, Nat.le_of_ble_eq_true rfl⟩ (Nat.le_of_ble_eq_true rfl) dL_law_163 (fun r2 σ2 h2 => ?_)
  exact ww_icmp_eq (tgt := 876) C dL_law_166 (by decide) (fun _ => kk σ2 h2.2) (fun hc => absurd h2.1 hc)
set_option maxRecDepth 100000 in
set_option maxHeartbeats 4000000 in
theorem law_wipe {p : Program} {l : Launch} {e : Env} {s : State} {m : MethodId} {below : List Frame} {meth : Method} {c : Code} {dC : Nat → ClassId} {dI : Nat → Nat → Nat} {cA : Nat → ClassId} {al : Nat → Nat} {b L : Nat} {xs : Nat → Int32} (C : LFx p s m c dC dI cA al b) (S : Scr al L xs (LA s) s) {i : Nat} (hi : i + 4 ≤ L) (hL : L ≤ 2048) {σ : St} (hI : Inv σ) (kk : ∀ τ, Inv τ → LWW p l e s m below meth c dC dI cA al b 876 (lvL i) [] τ) : LWW p l e s m below meth c dC dI cA al b 171 (lvL i) [] σ := by
  refine ww_aload_n C 2 rfl dL_law_171 ?_
  refine ww_vi (n := 0) (As := []) (rest := []) C (c_X8_wipe shF_ok (k_wipe hI)) (shc_0 shF_ok) rfl nq_162 nq_163 nq_164 nq_2 nq_165 (by decide +kernel) rfl rfl ⟨Nat.le_of_ble_eq_true rfl, Nat.le_of_ble_eq_true rfl, Nat.le_of_ble_eq_true rfl, Nat.le_of_ble_eq_true rfl⟩ (Nat.le_of_ble_eq_true rfl) dL_law_172 (fun r1 σ1 h1 => ?_)
  refine ww_aload_n C 1 rfl dL_law_175 ?_
  refine ww_vi (n := 0) (As := []) (rest := [.int r1]) C (c_X9_wipe shF_ok h1) (shc_61 shF_ok) rfl nq_166 nq_167 nq_168 nq_5 nq_169 (by decide +kernel) rfl rfl ⟨Nat.le_of_ble_eq_true rfl, Nat.le_of_ble_eq_true rfl, Nat.le_of_ble_eq_true rfl, Nat.le_of_ble_eq_true rfl⟩ (Nat.le_of_ble_eq_true rfl) dL_law_176 (fun r2 σ2 h2 => ?_)
  exact ww_icmp_eq (tgt := 876) C dL_law_179 (by decide) (fun _ => kk σ2 h2.2) (fun hc => absurd h2.1 hc)
set_option maxRecDepth 100000 in
set_option maxHeartbeats 4000000 in
theorem law_fault {p : Program} {l : Launch} {e : Env} {s : State} {m : MethodId} {below : List Frame} {meth : Method} {c : Code} {dC : Nat → ClassId} {dI : Nat → Nat → Nat} {cA : Nat → ClassId} {al : Nat → Nat} {b L : Nat} {xs : Nat → Int32} (C : LFx p s m c dC dI cA al b) (S : Scr al L xs (LA s) s) {i : Nat} (hi : i + 4 ≤ L) (hL : L ≤ 2048) {σ : St} (hI : Inv σ) (kk : ∀ τ, Inv τ → LWW p l e s m below meth c dC dI cA al b 876 (lvL i) [] τ) : LWW p l e s m below meth c dC dI cA al b 184 (lvL i) [] σ := by
  refine ww_aload_n C 2 rfl dL_law_184 ?_
  refine ww_vi (n := 0) (As := []) (rest := []) C (c_X8_fault shF_ok (k_fault hI)) (shc_0 shF_ok) rfl nq_170 nq_171 nq_172 nq_2 nq_173 (by decide +kernel) rfl rfl ⟨Nat.le_of_ble_eq_true rfl, Nat.le_of_ble_eq_true rfl, Nat.le_of_ble_eq_true rfl, Nat.le_of_ble_eq_true rfl⟩ (Nat.le_of_ble_eq_true rfl) dL_law_185 (fun r1 σ1 h1 => ?_)
  refine ww_aload_n C 1 rfl dL_law_188 ?_
  refine ww_vi (n := 0) (As := []) (rest := [.int r1]) C (c_X9_fault shF_ok h1) (shc_61 shF_ok) rfl nq_225 nq_226 nq_227 nq_5 nq_228 (by decide +kernel) rfl rfl ⟨Nat.le_of_ble_eq_true rfl, Nat.le_of_ble_eq_true rfl, Nat.le_of_ble_eq_true rfl, Nat.le_of_ble_eq_true rfl⟩ (Nat.le_of_ble_eq_true rfl) dL_law_189 (fun r2 σ2 h2 => ?_)
  exact ww_icmp_eq (tgt := 876) C dL_law_192 (by decide) (fun _ => kk σ2 h2.2) (fun hc => absurd h2.1 hc)
set_option maxRecDepth 100000 in
set_option maxHeartbeats 4000000 in
theorem law_trace {p : Program} {l : Launch} {e : Env} {s : State} {m : MethodId} {below : List Frame} {meth : Method} {c : Code} {dC : Nat → ClassId} {dI : Nat → Nat → Nat} {cA : Nat → ClassId} {al : Nat → Nat} {b L : Nat} {xs : Nat → Int32} (C : LFx p s m c dC dI cA al b) (S : Scr al L xs (LA s) s) {i : Nat} (hi : i + 4 ≤ L) (hL : L ≤ 2048) {σ : St} (hI : Inv σ) (kk : ∀ τ, Inv τ → LWW p l e s m below meth c dC dI cA al b 876 (lvL i) [] τ) : LWW p l e s m below meth c dC dI cA al b 197 (lvL i) [] σ := by
  refine ww_aload_n C 2 rfl dL_law_197 ?_
  refine ww_vi (n := 0) (As := []) (rest := []) C (c_X8_trace shF_ok (k_trace hI)) (shc_0 shF_ok) rfl nq_277 nq_278 nq_279 nq_2 nq_280 (by decide +kernel) rfl rfl ⟨Nat.le_of_ble_eq_true rfl, Nat.le_of_ble_eq_true rfl, Nat.le_of_ble_eq_true rfl, Nat.le_of_ble_eq_true rfl⟩ (Nat.le_of_ble_eq_true rfl) dL_law_198 (fun r1 σ1 h1 => ?_)
  refine ww_aload_n C 1 rfl dL_law_201 ?_
  refine ww_vi (n := 0) (As := []) (rest := [.int r1]) C (c_X9_trace shF_ok h1) (shc_61 shF_ok) rfl nq_286 nq_287 nq_288 nq_5 nq_289 (by decide +kernel) rfl rfl ⟨Nat.le_of_ble_eq_true rfl, Nat.le_of_ble_eq_true rfl, Nat.le_of_ble_eq_true rfl, Nat.le_of_ble_eq_true rfl⟩ (Nat.le_of_ble_eq_true rfl) dL_law_202 (fun r2 σ2 h2 => ?_)
  exact ww_icmp_eq (tgt := 876) C dL_law_205 (by decide) (fun _ => kk σ2 h2.2) (fun hc => absurd h2.1 hc)
set_option maxRecDepth 100000 in
set_option maxHeartbeats 4000000 in
theorem law_step {p : Program} {l : Launch} {e : Env} {s : State} {m : MethodId} {below : List Frame} {meth : Method} {c : Code} {dC : Nat → ClassId} {dI : Nat → Nat → Nat} {cA : Nat → ClassId} {al : Nat → Nat} {b L : Nat} {xs : Nat → Int32} (C : LFx p s m c dC dI cA al b) (S : Scr al L xs (LA s) s) {i : Nat} (hi : i + 4 ≤ L) (hL : L ≤ 2048) {σ : St} (hI : Inv σ) (kk : ∀ τ, Inv τ → LWW p l e s m below meth c dC dI cA al b 876 (lvL i) [] τ) : LWW p l e s m below meth c dC dI cA al b 210 (lvL i) [] σ := by
  refine ww_aload_n C 2 rfl dL_law_210 ?_
  refine ww_aload_n C 3 rfl dL_law_211 ?_
  refine ww_iload_n C 0 rfl dL_law_212 ?_
  refine ww_iconst (v := 1) C dL_law_213 (by decide) ?_
  refine ww_iadd C dL_law_214 ?_
  refine ww_scr C S (sc_in hi hL 1 (by decide) (by decide)) dL_law_215 ?_
  refine ww_aload_n C 3 rfl dL_law_216 ?_
  refine ww_iload_n C 0 rfl dL_law_217 ?_
  refine ww_iconst (v := 2) C dL_law_218 (by decide) ?_
  refine ww_iadd C dL_law_219 ?_
  refine ww_scr C S (sc_in hi hL 2 (by decide) (by decide)) dL_law_220 ?_
  refine ww_vi (n := 2) (As := [.int (xs (nI i + 1).toNatClampNeg), .int (xs (nI i + 2).toNatClampNeg)]) (rest := []) C (c_X8_step shF_ok (k_step hI _ _)) (shc_0 shF_ok) rfl nq_295 nq_296 nq_297 nq_2 nq_298 (by decide +kernel) rfl rfl ⟨Nat.le_of_ble_eq_true rfl, Nat.le_of_ble_eq_true rfl, Nat.le_of_ble_eq_true rfl, Nat.le_of_ble_eq_true rfl⟩ (Nat.le_of_ble_eq_true rfl) dL_law_221 (fun r1 σ1 h1 => ?_)
  refine ww_aload_n C 1 rfl dL_law_224 ?_
  refine ww_aload_n C 3 rfl dL_law_225 ?_
  refine ww_iload_n C 0 rfl dL_law_226 ?_
  refine ww_iconst (v := 1) C dL_law_227 (by decide) ?_
  refine ww_iadd C dL_law_228 ?_
  refine ww_scr C S (sc_in hi hL 1 (by decide) (by decide)) dL_law_229 ?_
  refine ww_aload_n C 3 rfl dL_law_230 ?_
  refine ww_iload_n C 0 rfl dL_law_231 ?_
  refine ww_iconst (v := 2) C dL_law_232 (by decide) ?_
  refine ww_iadd C dL_law_233 ?_
  refine ww_scr C S (sc_in hi hL 2 (by decide) (by decide)) dL_law_234 ?_
  refine ww_vi (n := 2) (As := [.int (xs (nI i + 1).toNatClampNeg), .int (xs (nI i + 2).toNatClampNeg)]) (rest := [.int r1]) C (c_X9_step shF_ok h1) (shc_61 shF_ok) rfl nq_315 nq_316 nq_317 nq_5 nq_318 (by decide +kernel) rfl rfl ⟨Nat.le_of_ble_eq_true rfl, Nat.le_of_ble_eq_true rfl, Nat.le_of_ble_eq_true rfl, Nat.le_of_ble_eq_true rfl⟩ (Nat.le_of_ble_eq_true rfl) dL_law_235 (fun r2 σ2 h2 => ?_)
  exact ww_icmp_eq (tgt := 876) C dL_law_238 (by decide) (fun _ => kk σ2 h2.2) (fun hc => absurd h2.1 hc)
set_option maxRecDepth 100000 in
set_option maxHeartbeats 4000000 in
theorem law_drop {p : Program} {l : Launch} {e : Env} {s : State} {m : MethodId} {below : List Frame} {meth : Method} {c : Code} {dC : Nat → ClassId} {dI : Nat → Nat → Nat} {cA : Nat → ClassId} {al : Nat → Nat} {b L : Nat} {xs : Nat → Int32} (C : LFx p s m c dC dI cA al b) (S : Scr al L xs (LA s) s) {i : Nat} (hi : i + 4 ≤ L) (hL : L ≤ 2048) {σ : St} (hI : Inv σ) (kk : ∀ τ, Inv τ → LWW p l e s m below meth c dC dI cA al b 876 (lvL i) [] τ) : LWW p l e s m below meth c dC dI cA al b 243 (lvL i) [] σ := by
  refine ww_aload_n C 2 rfl dL_law_243 ?_
  refine ww_aload_n C 3 rfl dL_law_244 ?_
  refine ww_iload_n C 0 rfl dL_law_245 ?_
  refine ww_iconst (v := 1) C dL_law_246 (by decide) ?_
  refine ww_iadd C dL_law_247 ?_
  refine ww_scr C S (sc_in hi hL 1 (by decide) (by decide)) dL_law_248 ?_
  refine ww_vi (n := 1) (As := [.int (xs (nI i + 1).toNatClampNeg)]) (rest := []) C (c_X8_drop shF_ok (k_drop hI _)) (shc_0 shF_ok) rfl nq_342 nq_343 nq_344 nq_2 nq_345 (by decide +kernel) rfl rfl ⟨Nat.le_of_ble_eq_true rfl, Nat.le_of_ble_eq_true rfl, Nat.le_of_ble_eq_true rfl, Nat.le_of_ble_eq_true rfl⟩ (Nat.le_of_ble_eq_true rfl) dL_law_249 (fun r1 σ1 h1 => ?_)
  refine ww_aload_n C 1 rfl dL_law_252 ?_
  refine ww_aload_n C 3 rfl dL_law_253 ?_
  refine ww_iload_n C 0 rfl dL_law_254 ?_
  refine ww_iconst (v := 1) C dL_law_255 (by decide) ?_
  refine ww_iadd C dL_law_256 ?_
  refine ww_scr C S (sc_in hi hL 1 (by decide) (by decide)) dL_law_257 ?_
  refine ww_vi (n := 1) (As := [.int (xs (nI i + 1).toNatClampNeg)]) (rest := [.int r1]) C (c_X9_drop shF_ok h1) (shc_61 shF_ok) rfl nq_364 nq_365 nq_366 nq_5 nq_367 (by decide +kernel) rfl rfl ⟨Nat.le_of_ble_eq_true rfl, Nat.le_of_ble_eq_true rfl, Nat.le_of_ble_eq_true rfl, Nat.le_of_ble_eq_true rfl⟩ (Nat.le_of_ble_eq_true rfl) dL_law_258 (fun r2 σ2 h2 => ?_)
  exact ww_icmp_eq (tgt := 876) C dL_law_261 (by decide) (fun _ => kk σ2 h2.2) (fun hc => absurd h2.1 hc)
set_option maxRecDepth 100000 in
set_option maxHeartbeats 4000000 in
theorem law_swap {p : Program} {l : Launch} {e : Env} {s : State} {m : MethodId} {below : List Frame} {meth : Method} {c : Code} {dC : Nat → ClassId} {dI : Nat → Nat → Nat} {cA : Nat → ClassId} {al : Nat → Nat} {b L : Nat} {xs : Nat → Int32} (C : LFx p s m c dC dI cA al b) (S : Scr al L xs (LA s) s) {i : Nat} (hi : i + 4 ≤ L) (hL : L ≤ 2048) {σ : St} (hI : Inv σ) (kk : ∀ τ, Inv τ → LWW p l e s m below meth c dC dI cA al b 876 (lvL i) [] τ) : LWW p l e s m below meth c dC dI cA al b 266 (lvL i) [] σ := by
  refine ww_aload_n C 2 rfl dL_law_266 ?_
  refine ww_aload_n C 3 rfl dL_law_267 ?_
  refine ww_iload_n C 0 rfl dL_law_268 ?_
  refine ww_iconst (v := 1) C dL_law_269 (by decide) ?_
  refine ww_iadd C dL_law_270 ?_
  refine ww_scr C S (sc_in hi hL 1 (by decide) (by decide)) dL_law_271 ?_
  refine ww_vi (n := 1) (As := [.int (xs (nI i + 1).toNatClampNeg)]) (rest := []) C (c_X8_swap shF_ok (k_swap hI _)) (shc_0 shF_ok) rfl nq_389 nq_390 nq_391 nq_2 nq_392 (by decide +kernel) rfl rfl ⟨Nat.le_of_ble_eq_true rfl, Nat.le_of_ble_eq_true rfl, Nat.le_of_ble_eq_true rfl, Nat.le_of_ble_eq_true rfl⟩ (Nat.le_of_ble_eq_true rfl) dL_law_272 (fun r1 σ1 h1 => ?_)
  refine ww_aload_n C 1 rfl dL_law_275 ?_
  refine ww_aload_n C 3 rfl dL_law_276 ?_
  refine ww_iload_n C 0 rfl dL_law_277 ?_
  refine ww_iconst (v := 1) C dL_law_278 (by decide) ?_
  refine ww_iadd C dL_law_279 ?_
  refine ww_scr C S (sc_in hi hL 1 (by decide) (by decide)) dL_law_280 ?_
  refine ww_vi (n := 1) (As := [.int (xs (nI i + 1).toNatClampNeg)]) (rest := [.int r1]) C (c_X9_swap shF_ok h1) (shc_61 shF_ok) rfl nq_406 nq_407 nq_408 nq_5 nq_409 (by decide +kernel) rfl rfl ⟨Nat.le_of_ble_eq_true rfl, Nat.le_of_ble_eq_true rfl, Nat.le_of_ble_eq_true rfl, Nat.le_of_ble_eq_true rfl⟩ (Nat.le_of_ble_eq_true rfl) dL_law_281 (fun r2 σ2 h2 => ?_)
  exact ww_icmp_eq (tgt := 876) C dL_law_284 (by decide) (fun _ => kk σ2 h2.2) (fun hc => absurd h2.1 hc)
set_option maxRecDepth 100000 in
set_option maxHeartbeats 4000000 in
theorem law_undo {p : Program} {l : Launch} {e : Env} {s : State} {m : MethodId} {below : List Frame} {meth : Method} {c : Code} {dC : Nat → ClassId} {dI : Nat → Nat → Nat} {cA : Nat → ClassId} {al : Nat → Nat} {b L : Nat} {xs : Nat → Int32} (C : LFx p s m c dC dI cA al b) (S : Scr al L xs (LA s) s) {i : Nat} (hi : i + 4 ≤ L) (hL : L ≤ 2048) {σ : St} (hI : Inv σ) (kk : ∀ τ, Inv τ → LWW p l e s m below meth c dC dI cA al b 876 (lvL i) [] τ) : LWW p l e s m below meth c dC dI cA al b 289 (lvL i) [] σ := by
  refine ww_aload_n C 2 rfl dL_law_289 ?_
  refine ww_vi (n := 0) (As := []) (rest := []) C (c_X8_undo shF_ok (k_undo hI)) (shc_0 shF_ok) rfl nq_414 nq_415 nq_416 nq_2 nq_417 (by decide +kernel) rfl rfl ⟨Nat.le_of_ble_eq_true rfl, Nat.le_of_ble_eq_true rfl, Nat.le_of_ble_eq_true rfl, Nat.le_of_ble_eq_true rfl⟩ (Nat.le_of_ble_eq_true rfl) dL_law_290 (fun r1 σ1 h1 => ?_)
  refine ww_aload_n C 1 rfl dL_law_293 ?_
  refine ww_vi (n := 0) (As := []) (rest := [.int r1]) C (c_X9_undo shF_ok h1) (shc_61 shF_ok) rfl nq_427 nq_428 nq_429 nq_5 nq_430 (by decide +kernel) rfl rfl ⟨Nat.le_of_ble_eq_true rfl, Nat.le_of_ble_eq_true rfl, Nat.le_of_ble_eq_true rfl, Nat.le_of_ble_eq_true rfl⟩ (Nat.le_of_ble_eq_true rfl) dL_law_294 (fun r2 σ2 h2 => ?_)
  exact ww_icmp_eq (tgt := 876) C dL_law_297 (by decide) (fun _ => kk σ2 h2.2) (fun hc => absurd h2.1 hc)
set_option maxRecDepth 100000 in
set_option maxHeartbeats 4000000 in
theorem law_cell {p : Program} {l : Launch} {e : Env} {s : State} {m : MethodId} {below : List Frame} {meth : Method} {c : Code} {dC : Nat → ClassId} {dI : Nat → Nat → Nat} {cA : Nat → ClassId} {al : Nat → Nat} {b L : Nat} {xs : Nat → Int32} (C : LFx p s m c dC dI cA al b) (S : Scr al L xs (LA s) s) {i : Nat} (hi : i + 4 ≤ L) (hL : L ≤ 2048) {σ : St} (hI : Inv σ) (kk : ∀ τ, Inv τ → LWW p l e s m below meth c dC dI cA al b 876 (lvL i) [] τ) : LWW p l e s m below meth c dC dI cA al b 302 (lvL i) [] σ := by
  refine ww_aload_n C 2 rfl dL_law_302 ?_
  refine ww_aload_n C 3 rfl dL_law_303 ?_
  refine ww_iload_n C 0 rfl dL_law_304 ?_
  refine ww_iconst (v := 1) C dL_law_305 (by decide) ?_
  refine ww_iadd C dL_law_306 ?_
  refine ww_scr C S (sc_in hi hL 1 (by decide) (by decide)) dL_law_307 ?_
  refine ww_aload_n C 3 rfl dL_law_308 ?_
  refine ww_iload_n C 0 rfl dL_law_309 ?_
  refine ww_iconst (v := 2) C dL_law_310 (by decide) ?_
  refine ww_iadd C dL_law_311 ?_
  refine ww_scr C S (sc_in hi hL 2 (by decide) (by decide)) dL_law_312 ?_
  refine ww_aload_n C 3 rfl dL_law_313 ?_
  refine ww_iload_n C 0 rfl dL_law_314 ?_
  refine ww_iconst (v := 3) C dL_law_315 (by decide) ?_
  refine ww_iadd C dL_law_316 ?_
  refine ww_scr C S (sc_in hi hL 3 (by decide) (by decide)) dL_law_317 ?_
  refine ww_vi (n := 3) (As := [.int (xs (nI i + 1).toNatClampNeg), .int (xs (nI i + 2).toNatClampNeg), .int (xs (nI i + 3).toNatClampNeg)]) (rest := []) C (c_X8_cell shF_ok (k_cell hI _ _ _)) (shc_0 shF_ok) rfl nq_431 nq_432 nq_433 nq_2 nq_434 (by decide +kernel) rfl rfl ⟨Nat.le_of_ble_eq_true rfl, Nat.le_of_ble_eq_true rfl, Nat.le_of_ble_eq_true rfl, Nat.le_of_ble_eq_true rfl⟩ (Nat.le_of_ble_eq_true rfl) dL_law_318 (fun r1 σ1 h1 => ?_)
  refine ww_aload_n C 1 rfl dL_law_321 ?_
  refine ww_aload_n C 3 rfl dL_law_322 ?_
  refine ww_iload_n C 0 rfl dL_law_323 ?_
  refine ww_iconst (v := 1) C dL_law_324 (by decide) ?_
  refine ww_iadd C dL_law_325 ?_
  refine ww_scr C S (sc_in hi hL 1 (by decide) (by decide)) dL_law_326 ?_
  refine ww_aload_n C 3 rfl dL_law_327 ?_
  refine ww_iload_n C 0 rfl dL_law_328 ?_
  refine ww_iconst (v := 2) C dL_law_329 (by decide) ?_
  refine ww_iadd C dL_law_330 ?_
  refine ww_scr C S (sc_in hi hL 2 (by decide) (by decide)) dL_law_331 ?_
  refine ww_aload_n C 3 rfl dL_law_332 ?_
  refine ww_iload_n C 0 rfl dL_law_333 ?_
  refine ww_iconst (v := 3) C dL_law_334 (by decide) ?_
  refine ww_iadd C dL_law_335 ?_
  refine ww_scr C S (sc_in hi hL 3 (by decide) (by decide)) dL_law_336 ?_
  refine ww_vi (n := 3) (As := [.int (xs (nI i + 1).toNatClampNeg), .int (xs (nI i + 2).toNatClampNeg), .int (xs (nI i + 3).toNatClampNeg)]) (rest := [.int r1]) C (c_X9_cell shF_ok h1) (shc_61 shF_ok) rfl nq_472 nq_473 nq_474 nq_5 nq_475 (by decide +kernel) rfl rfl ⟨Nat.le_of_ble_eq_true rfl, Nat.le_of_ble_eq_true rfl, Nat.le_of_ble_eq_true rfl, Nat.le_of_ble_eq_true rfl⟩ (Nat.le_of_ble_eq_true rfl) dL_law_337 (fun r2 σ2 h2 => ?_)
  exact ww_icmp_eq (tgt := 876) C dL_law_340 (by decide) (fun _ => kk σ2 h2.2) (fun hc => absurd h2.1 hc)
