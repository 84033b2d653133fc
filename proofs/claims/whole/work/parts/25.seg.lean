/-! THE LAW'S CASES, each over any contracts of its calls -/
section LS
variable {p : Program} {l : Launch} {e : Env} {R : Room} {s : State} {m : MethodId} {args : Array Value} {below : List Frame} {meth : Method} {c : Code} {H : Heap} {locs : List Loc} {cells slots : Nat} {Q : State → Prop}
variable {cc : ByteArray} {pc nL : Nat} {ls : Array Slot} {rest st0 : List Value} {own : String} {G : gT} {F F' : Fs} {o : Int64} {X : va_W} {Y : List (ClassId × FieldType)} {b L : Nat} {xs : Nat → Int32}
theorem g_scr {i v : Int32} {j : Nat} (S : CallFix p m c cc nL s args lw_all own) (g : GB G F o X Y s H locs) (hX : va_X b L xs s s.heap) (hbl : b < s.heap.size) (hbA : ¬ GA G s.heap.size b) (hi : i = nI j) (hj : j < L) (hL : L ≤ 2048) (hv : xs j = v) (hdg : decode cc pc = .ok (.iaload, 1))
    (kk : W p l e R s m args below meth c H locs cells slots Q (F0 m (pc + 1) ls (.int v :: rest))) : W p l e R s m args below meth c H locs cells slots Q (F0 m pc ls (.int i :: .ref b :: rest)) := by
  subst hi
  refine va_sld S.1 S.2.1 hX hbl hbA g.2.2.2.1 (vp_in_nI hj (by omega)) hdg ?_
  rw [nI_clamp (by omega), hv]
  exact kk
theorem lg_same {x y : Int64} (h : x = y) : lg_cmp x y = 0 := by subst h; simp [lg_cmp]
theorem g_Vc {C : String} {y : MethodName} {b : ByteArray} {mL n f k1 index cs ss : Nat} {ret : Option FieldType} {As : List Value} {Qs : Nat → Array Value → State → Outcome → State → Prop} {k : Nat} {ci N : Nat} {T : u_T} {fs : List Value}
    (S : CallFix p m c cc nL s args lw_all own) (g : GB G F o X Y s H locs) (hM : ∀ sz : Nat, Met l y (wsG y b mL ret) (rmC f k1 cs ss) (va_Pc (.ref (gA G k) :: As) (preG G F o sz)) (Qs sz) cs ss (GA G sz)) (hk : k < 28) (hE : cellE G F o k = .inr (ci, fs)) (hc : vwCl[ci]? = some (C, T, N)) (hq : GoodIn lw_all (wsV own index C y (wsG y b mL ret)))
    (hd : y.cls = C ∧ y.cls ≠ "java/lang/invoke/MethodHandle" ∧ y.cls ≠ "java/lang/invoke/VarHandle" ∧ (parseMethodDescriptor y.desc).map (fun d => d.parameters.length) = some n) (hn : As.length = n) (hR : f + 1 ≤ R.frames ∧ 8 + (mL + 11) + k1 ≤ R.locals) (hsz : ls.size = nL) (hW : (rest.map fun v => v.category).sum ≤ 8) (hst : st0 = As.reverse ++ .ref (gA G k) :: rest) (hcs : cells + cs ≤ R.cells ∧ slots + ss ≤ R.slots) (hdg : decode cc pc = .ok (.invokevirtual index, 3)) :
    va_Run p l e R s m args below meth c H locs cells slots cs ss (F0 m pc ls st0) rest (Qs H.size (Value.ref (gA G k) :: As).toArray) (GA G H.size) := by
  exact va_runV (As := As) (rest := rest) S (hM H.size) (cwV n S.2.2.2.2 hq rfl rfl rfl hd hR) ⟨preG_blind, va_recv g.2.2.1 g.1 hc (wld_at G F o X hk hE), fun U hU hW => ⟨rfl, g.pre hU hW⟩⟩ rfl hn hsz hst (lv_room (m := m) (pc := pc) (ls := ls) (rest := st0) hW) hdg hcs
theorem g_clc {RR : Int64} {a : Array Value} {cs ss : Nat} (g : GB G F o X Y s H locs) (hr : va_Run p l e R s m args below meth c H locs cells slots cs ss (F0 m pc ls st0) rest (QL G F' o RR H.size a) (GA G H.size))
    (kk : ∀ (H : Heap) (locs : List Loc), GB G F' o X Y s H locs → W p l e R s m args below meth c H locs (cells + cs) (slots + ss) Q (F0 m (pc + 3) ls (.long RR :: rest))) : W p l e R s m args below meth c H locs cells slots Q (F0 m pc ls st0) := by
  refine va_calll hr g.2.2.2.1 (fun q _ h => GA_up g.2.2.2.1.1 h) (fun q h => GA_up g.2.2.2.1.1 h) (fun r u t H1 l1 ht hvm hw hB hz hk1 hS => ?_)
  subst hw
  exact kk H1 l1 (g.after (by rw [← ht]; exact hB) hk1 hS)
end LS
/-- the law's locals at its loop's head -/
abbrev lwL (G : gT) (b i : Nat) : List (Nat × Value) := [(0, .ref b), (1, .ref (gA G 0)), (2, .ref (gA G 21)), (3, .ref (gA G 27)), (4, .int (nI i))]
set_option maxHeartbeats 4000000 in
set_option maxRecDepth 100000 in
theorem seg_0 {p : Program} {l : Launch} {e : Env} {s : State} {m : MethodId} {args : Array Value} {below : List Frame} {meth : Method} {c : Code} {H : Heap} {locs : List Loc} {cells slots : Nat} {Q : State → Prop} {ls : Array Slot} {G : gT} {F F1 F2 : Fs} {o : Int64} {b L i : Nat} {xs : Nat → Int32} {x y z bv K : Int32} {o1 : Int64} {f k cs ss f2 k2 : Nat} (S : CallFix p m c cL_law 9 s args lw_all "ShadowPoolLaw") (hX : va_X b L xs s s.heap) (hbl : b < s.heap.size) (hbA : ¬ GA G s.heap.size b) (hL : L ≤ 2048) (hiL : i + 4 ≤ L) (e1 : xs (i + 1) = x) (e2 : xs (i + 2) = y) (e3 : xs (i + 3) = z) (g : GB G F o [] [] s H locs) (hl : lv_has ls 9 (lwL G b i)) (hM : MH l yL_addWalker cL_addWalker 6 [((0 : Nat), (12 : Nat), (15 : Nat), (13 : Nat)), ((0 : Nat), (12 : Nat), (19 : Nat), (15 : Nat))] f k cs ss [.ref (gA G 0), .int x, .int y, .int z, .ref (gA G 27)] G F o F1 o1 K) (hR : f + 1 ≤ room_1.frames ∧ 8 + (6 + 11) + k ≤ room_1.locals) (hcs : cells + cs ≤ room_1.cells ∧ slots + ss ≤ room_1.slots) (hN : MI l yX3_addWalker cX3_addWalker 4 (some .int) f2 k2 [.ref (gA G 21), .int x, .int y, .int z] G F1 o1 F2 bv) (hR2 : f2 + 1 ≤ room_1.frames ∧ 8 + (4 + 11) + k2 ≤ room_1.locals) (hK : F2 21 0 = K) (hv : K = 0 → o1 = bv.toInt64) (kk : ∀ (H : Heap) (locs : List Loc) (ls : Array Slot), GB G F2 o1 [] [] s H locs → lv_has ls 9 (lwL G b i) → W p l e room_1 s m args below meth c H locs (cells + cs) (slots + ss) Q (F0 m 1529 ls [])) : W p l e room_1 s m args below meth c H locs cells slots Q (F0 m 196 ls []) := by
  have hx := S.1
  have hb := S.2.1
  refine lv_aload_n hx hb dL_law_196 rfl (lv_at hl 1 rfl) ?_
  refine lv_aload_n hx hb dL_law_197 rfl (lv_at hl 0 rfl) ?_
  refine lv_iload hx hb dL_law_198 (lv_at hl 4 rfl) ?_
  refine lv_iconst (v := 1) hx hb dL_law_200 (by decide) ?_
  refine lv_iadd hx hb dL_law_201 ?_
  refine g_scr (j := i + 1) S g hX hbl hbA (nI_add i 1) (by omega) hL e1 dL_law_202 ?_
  refine lv_aload_n hx hb dL_law_203 rfl (lv_at hl 0 rfl) ?_
  refine lv_iload hx hb dL_law_204 (lv_at hl 4 rfl) ?_
  refine lv_iconst (v := 2) hx hb dL_law_206 (by decide) ?_
  refine lv_iadd hx hb dL_law_207 ?_
  refine g_scr (j := i + 2) S g hX hbl hbA (nI_add i 2) (by omega) hL e2 dL_law_208 ?_
  refine lv_aload_n hx hb dL_law_209 rfl (lv_at hl 0 rfl) ?_
  refine lv_iload hx hb dL_law_210 (lv_at hl 4 rfl) ?_
  refine lv_iconst (v := 3) hx hb dL_law_212 (by decide) ?_
  refine lv_iadd hx hb dL_law_213 ?_
  refine g_scr (j := i + 3) S g hX hbl hbA (nI_add i 3) (by omega) hL e3 dL_law_214 ?_
  refine lv_aload_n hx hb dL_law_215 rfl (lv_at hl 3 rfl) ?_
  refine g_SH (n := 5) (As := [.ref (gA G 0), .int x, .int y, .int z, .ref (gA G 27)]) (rest := []) S g hM q292 q293 q0 q294 ⟨by decide +kernel, by decide +kernel, by decide +kernel⟩ rfl hR hl.1 (Nat.le_of_ble_eq_true rfl) rfl hcs dL_law_216 (fun H locs g => ?_)
  refine lv_istore (lv' := [(5, .int K), (0, .ref b), (1, .ref (gA G 0)), (2, .ref (gA G 21)), (3, .ref (gA G 27)), (4, .int (nI i))]) hx hb dL_law_219 hl (by decide) rfl (fun ls hl => ?_)
  refine lv_aload_n hx hb dL_law_221 rfl (lv_at hl 3 rfl) ?_
  refine lv_aload_n hx hb dL_law_222 rfl (lv_at hl 1 rfl) ?_
  refine lv_iload hx hb dL_law_223 (lv_at hl 5 rfl) ?_
  refine lv_iconst (v := 1) hx hb dL_law_225 (by decide) ?_
  refine lv_iadd hx hb dL_law_226 ?_
  refine g_scr (j := i + 1) S g hX hbl hbA (nI_add i 1) (by omega) hL e1 dL_law_227 ?_
  refine lv_aload_n hx hb dL_law_228 rfl (lv_at hl 1 rfl) ?_
  refine lv_iload hx hb dL_law_229 (lv_at hl 5 rfl) ?_
  refine lv_iconst (v := 2) hx hb dL_law_231 (by decide) ?_
  refine lv_iadd hx hb dL_law_232 ?_
  refine g_scr (j := i + 2) S g hX hbl hbA (nI_add i 2) (by omega) hL e2 dL_law_233 ?_
  refine lv_aload_n hx hb dL_law_234 rfl (lv_at hl 1 rfl) ?_
  refine lv_iload hx hb dL_law_235 (lv_at hl 5 rfl) ?_
  refine lv_iconst (v := 3) hx hb dL_law_237 (by decide) ?_
  refine lv_iadd hx hb dL_law_238 ?_
  refine g_scr (j := i + 3) S g hX hbl hbA (nI_add i 3) (by omega) hL e3 dL_law_239 ?_
  refine g_ci (rest := []) g (g_V (n := 3) (As := [.int x, .int y, .int z]) S g hN (by decide) (cEm G _ _) rfl (lw_V q575 q576 q577 q4 q578) ⟨rfl, by decide +kernel, by decide +kernel, by decide +kernel⟩ rfl hR2 hl.1 (Nat.le_of_ble_eq_true rfl) rfl ⟨hcs.1, hcs.2⟩ dL_law_240) (fun H locs g => ?_)
  refine lv_istore (lv' := [(6, .int bv), (5, .int K), (0, .ref b), (1, .ref (gA G 0)), (2, .ref (gA G 21)), (3, .ref (gA G 27)), (4, .int (nI i))]) hx hb dL_law_243 hl (by decide) rfl (fun ls hl => ?_)
  refine lv_aload_n hx hb dL_law_245 rfl (lv_at hl 4 rfl) ?_
  refine g_ci (rest := []) g (g_V (n := 0) (As := []) S g (m_thrown l G F2 o1) (by decide) (cEm G _ _) rfl (lw_V q571 q572 q573 q4 q574) ⟨rfl, by decide +kernel, by decide +kernel, by decide +kernel⟩ rfl ⟨Nat.le_of_ble_eq_true rfl, Nat.le_of_ble_eq_true rfl⟩ hl.1 (Nat.le_of_ble_eq_true rfl) rfl ⟨hcs.1, hcs.2⟩ dL_law_246) (fun H locs g => ?_)
  refine lv_iload hx hb dL_law_249 (lv_at hl 1 rfl) ?_
  refine lv_icmp_eq (tgt := 256) hx hb dL_law_251 (by decide) (fun _ => ?_) (fun c9 => absurd hK c9)
  refine lv_iload hx hb dL_law_256 (lv_at hl 1 rfl) ?_
  refine lv_if_ne (tgt := 273) hx hb dL_law_258 (by decide) (fun _ => ?_) (fun hk0 => ?_)
  · refine lv_goto (tgt := 1529) hx hb dL_law_273 (by decide) ?_
    exact kk _ _ _ g (lv_sub hl [2, 3, 4, 5, 6] rfl)
  refine lv_aload_n hx hb dL_law_261 rfl (lv_at hl 5 rfl) ?_
  refine lv_iconst (v := 0) hx hb dL_law_262 (by decide) ?_
  refine g_lald S g dL_law_263 ?_
  refine lv_iload hx hb dL_law_264 (lv_at hl 0 rfl) ?_
  refine lv_i2l (v := bv.toInt64) hx hb dL_law_266 rfl ?_
  refine W.lcmp hx hb dL_law_267 ?_
  refine lv_if_eq (tgt := 273) hx hb dL_law_268 (by decide) (fun _ => ?_) (fun c9 => absurd (lg_same (hv hk0)) c9)
  refine lv_goto (tgt := 1529) hx hb dL_law_273 (by decide) ?_
  exact kk _ _ _ g (lv_sub hl [2, 3, 4, 5, 6] rfl)
set_option maxHeartbeats 4000000 in
set_option maxRecDepth 100000 in
theorem seg_1 {p : Program} {l : Launch} {e : Env} {s : State} {m : MethodId} {args : Array Value} {below : List Frame} {meth : Method} {c : Code} {H : Heap} {locs : List Loc} {cells slots : Nat} {Q : State → Prop} {ls : Array Slot} {G : gT} {F F1 F2 : Fs} {o : Int64} {b L i : Nat} {xs : Nat → Int32} {x bv K : Int32} {o1 : Int64} {f k cs ss f2 k2 : Nat} (S : CallFix p m c cL_law 9 s args lw_all "ShadowPoolLaw") (hX : va_X b L xs s s.heap) (hbl : b < s.heap.size) (hbA : ¬ GA G s.heap.size b) (hL : L ≤ 2048) (hiL : i + 4 ≤ L) (e1 : xs (i + 1) = x) (g : GB G F o [] [] s H locs) (hl : lv_has ls 9 (lwL G b i)) (hM : MH l yL_turnMember cL_turnMember 4 [((0 : Nat), (16 : Nat), (19 : Nat), (21 : Nat))] f k cs ss [.ref (gA G 0), .int x, .ref (gA G 27)] G F o F1 o1 K) (hR : f + 1 ≤ room_1.frames ∧ 8 + (4 + 11) + k ≤ room_1.locals) (hcs : cells + cs ≤ room_1.cells ∧ slots + ss ≤ room_1.slots) (hN : MI l yX3_turnMember cX3_turnMember 2 (some .boolean) f2 k2 [.ref (gA G 21), .int x] G F1 o1 F2 bv) (hR2 : f2 + 1 ≤ room_1.frames ∧ 8 + (2 + 11) + k2 ≤ room_1.locals) (hK : F2 21 0 = K) (hv : K = 0 → (bv = 0 → o1 = 0) ∧ (¬ bv = 0 → o1 = 1)) (kk : ∀ (H : Heap) (locs : List Loc) (ls : Array Slot), GB G F2 o1 [] [] s H locs → lv_has ls 9 (lwL G b i) → W p l e room_1 s m args below meth c H locs (cells + cs) (slots + ss) Q (F0 m 1529 ls [])) : W p l e room_1 s m args below meth c H locs cells slots Q (F0 m 276 ls []) := by
  have hx := S.1
  have hb := S.2.1
  refine lv_aload_n hx hb dL_law_276 rfl (lv_at hl 1 rfl) ?_
  refine lv_aload_n hx hb dL_law_277 rfl (lv_at hl 0 rfl) ?_
  refine lv_iload hx hb dL_law_278 (lv_at hl 4 rfl) ?_
  refine lv_iconst (v := 1) hx hb dL_law_280 (by decide) ?_
  refine lv_iadd hx hb dL_law_281 ?_
  refine g_scr (j := i + 1) S g hX hbl hbA (nI_add i 1) (by omega) hL e1 dL_law_282 ?_
  refine lv_aload_n hx hb dL_law_283 rfl (lv_at hl 3 rfl) ?_
  refine g_SH (n := 3) (As := [.ref (gA G 0), .int x, .ref (gA G 27)]) (rest := []) S g hM q398 q399 q0 q400 ⟨by decide +kernel, by decide +kernel, by decide +kernel⟩ rfl hR hl.1 (Nat.le_of_ble_eq_true rfl) rfl hcs dL_law_284 (fun H locs g => ?_)
  refine lv_istore (lv' := [(5, .int K), (0, .ref b), (1, .ref (gA G 0)), (2, .ref (gA G 21)), (3, .ref (gA G 27)), (4, .int (nI i))]) hx hb dL_law_287 hl (by decide) rfl (fun ls hl => ?_)
  refine lv_aload_n hx hb dL_law_289 rfl (lv_at hl 3 rfl) ?_
  refine lv_aload_n hx hb dL_law_290 rfl (lv_at hl 1 rfl) ?_
  refine lv_iload hx hb dL_law_291 (lv_at hl 5 rfl) ?_
  refine lv_iconst (v := 1) hx hb dL_law_293 (by decide) ?_
  refine lv_iadd hx hb dL_law_294 ?_
  refine g_scr (j := i + 1) S g hX hbl hbA (nI_add i 1) (by omega) hL e1 dL_law_295 ?_
  refine g_ci (rest := []) g (g_V (n := 1) (As := [.int x]) S g hN (by decide) (cEm G _ _) rfl (lw_V q586 q587 q588 q4 q589) ⟨rfl, by decide +kernel, by decide +kernel, by decide +kernel⟩ rfl hR2 hl.1 (Nat.le_of_ble_eq_true rfl) rfl ⟨hcs.1, hcs.2⟩ dL_law_296) (fun H locs g => ?_)
  refine lv_istore (lv' := [(6, .int bv), (5, .int K), (0, .ref b), (1, .ref (gA G 0)), (2, .ref (gA G 21)), (3, .ref (gA G 27)), (4, .int (nI i))]) hx hb dL_law_299 hl (by decide) rfl (fun ls hl => ?_)
  refine lv_aload_n hx hb dL_law_301 rfl (lv_at hl 4 rfl) ?_
  refine g_ci (rest := []) g (g_V (n := 0) (As := []) S g (m_thrown l G F2 o1) (by decide) (cEm G _ _) rfl (lw_V q571 q572 q573 q4 q574) ⟨rfl, by decide +kernel, by decide +kernel, by decide +kernel⟩ rfl ⟨Nat.le_of_ble_eq_true rfl, Nat.le_of_ble_eq_true rfl⟩ hl.1 (Nat.le_of_ble_eq_true rfl) rfl ⟨hcs.1, hcs.2⟩ dL_law_302) (fun H locs g => ?_)
  refine lv_iload hx hb dL_law_305 (lv_at hl 1 rfl) ?_
  refine lv_icmp_eq (tgt := 312) hx hb dL_law_307 (by decide) (fun _ => ?_) (fun c9 => absurd hK c9)
  refine lv_iload hx hb dL_law_312 (lv_at hl 1 rfl) ?_
  refine lv_if_ne (tgt := 336) hx hb dL_law_314 (by decide) (fun _ => ?_) (fun hk0 => ?_)
  · refine lv_goto (tgt := 1529) hx hb dL_law_336 (by decide) ?_
    exact kk _ _ _ g (lv_sub hl [2, 3, 4, 5, 6] rfl)
  refine lv_aload_n hx hb dL_law_317 rfl (lv_at hl 5 rfl) ?_
  refine lv_iconst (v := 0) hx hb dL_law_318 (by decide) ?_
  refine g_lald S g dL_law_319 ?_
  refine lv_iload hx hb dL_law_320 (lv_at hl 0 rfl) ?_
  refine lv_if_eq (tgt := 329) hx hb dL_law_322 (by decide) (fun hz => ?_) (fun hz => ?_)
  · refine lv_lconst (v := 0) hx hb dL_law_329 (by decide) ?_
    refine W.lcmp hx hb dL_law_330 ?_
    refine lv_if_eq (tgt := 336) hx hb dL_law_331 (by decide) (fun _ => ?_) (fun c9 => absurd (lg_same ((hv hk0).1 hz)) c9)
    refine lv_goto (tgt := 1529) hx hb dL_law_336 (by decide) ?_
    exact kk _ _ _ g (lv_sub hl [2, 3, 4, 5, 6] rfl)
  · refine lv_lconst (v := 1) hx hb dL_law_325 (by decide) ?_
    refine lv_goto (tgt := 330) hx hb dL_law_326 (by decide) ?_
    refine W.lcmp hx hb dL_law_330 ?_
    refine lv_if_eq (tgt := 336) hx hb dL_law_331 (by decide) (fun _ => ?_) (fun c9 => absurd (lg_same ((hv hk0).2 hz)) c9)
    refine lv_goto (tgt := 1529) hx hb dL_law_336 (by decide) ?_
    exact kk _ _ _ g (lv_sub hl [2, 3, 4, 5, 6] rfl)
set_option maxHeartbeats 4000000 in
set_option maxRecDepth 100000 in
theorem seg_2 {p : Program} {l : Launch} {e : Env} {s : State} {m : MethodId} {args : Array Value} {below : List Frame} {meth : Method} {c : Code} {H : Heap} {locs : List Loc} {cells slots : Nat} {Q : State → Prop} {ls : Array Slot} {G : gT} {F F1 F2 : Fs} {o : Int64} {b L i : Nat} {xs : Nat → Int32} {x y bv K : Int32} {o1 : Int64} {f k cs ss f2 k2 : Nat} (S : CallFix p m c cL_law 9 s args lw_all "ShadowPoolLaw") (hX : va_X b L xs s s.heap) (hbl : b < s.heap.size) (hbA : ¬ GA G s.heap.size b) (hL : L ≤ 2048) (hiL : i + 4 ≤ L) (e1 : xs (i + 1) = x) (e2 : xs (i + 2) = y) (g : GB G F o [] [] s H locs) (hl : lv_has ls 9 (lwL G b i)) (hM : MH l yL_setNet cL_setNet 5 [((0 : Nat), (10 : Nat), (13 : Nat), (21 : Nat)), ((0 : Nat), (10 : Nat), (17 : Nat), (13 : Nat))] f k cs ss [.ref (gA G 0), .int x, .int y, .ref (gA G 27)] G F o F1 o1 K) (hR : f + 1 ≤ room_1.frames ∧ 8 + (5 + 11) + k ≤ room_1.locals) (hcs : cells + cs ≤ room_1.cells ∧ slots + ss ≤ room_1.slots) (hN : MI l yX3_setNet cX3_setNet 4 (some .int) f2 k2 [.ref (gA G 21), .int x, .int y] G F1 o1 F2 bv) (hR2 : f2 + 1 ≤ room_1.frames ∧ 8 + (4 + 11) + k2 ≤ room_1.locals) (hK : F2 21 0 = K) (hv : K = 0 → o1 = bv.toInt64) (kk : ∀ (H : Heap) (locs : List Loc) (ls : Array Slot), GB G F2 o1 [] [] s H locs → lv_has ls 9 (lwL G b i) → W p l e room_1 s m args below meth c H locs (cells + cs) (slots + ss) Q (F0 m 1529 ls [])) : W p l e room_1 s m args below meth c H locs cells slots Q (F0 m 339 ls []) := by
  have hx := S.1
  have hb := S.2.1
  refine lv_aload_n hx hb dL_law_339 rfl (lv_at hl 1 rfl) ?_
  refine lv_aload_n hx hb dL_law_340 rfl (lv_at hl 0 rfl) ?_
  refine lv_iload hx hb dL_law_341 (lv_at hl 4 rfl) ?_
  refine lv_iconst (v := 1) hx hb dL_law_343 (by decide) ?_
  refine lv_iadd hx hb dL_law_344 ?_
  refine g_scr (j := i + 1) S g hX hbl hbA (nI_add i 1) (by omega) hL e1 dL_law_345 ?_
  refine lv_aload_n hx hb dL_law_346 rfl (lv_at hl 0 rfl) ?_
  refine lv_iload hx hb dL_law_347 (lv_at hl 4 rfl) ?_
  refine lv_iconst (v := 2) hx hb dL_law_349 (by decide) ?_
  refine lv_iadd hx hb dL_law_350 ?_
  refine g_scr (j := i + 2) S g hX hbl hbA (nI_add i 2) (by omega) hL e2 dL_law_351 ?_
  refine lv_aload_n hx hb dL_law_352 rfl (lv_at hl 3 rfl) ?_
  refine g_SH (n := 4) (As := [.ref (gA G 0), .int x, .int y, .ref (gA G 27)]) (rest := []) S g hM q422 q423 q0 q424 ⟨by decide +kernel, by decide +kernel, by decide +kernel⟩ rfl hR hl.1 (Nat.le_of_ble_eq_true rfl) rfl hcs dL_law_353 (fun H locs g => ?_)
  refine lv_istore (lv' := [(5, .int K), (0, .ref b), (1, .ref (gA G 0)), (2, .ref (gA G 21)), (3, .ref (gA G 27)), (4, .int (nI i))]) hx hb dL_law_356 hl (by decide) rfl (fun ls hl => ?_)
  refine lv_aload_n hx hb dL_law_358 rfl (lv_at hl 3 rfl) ?_
  refine lv_aload_n hx hb dL_law_359 rfl (lv_at hl 1 rfl) ?_
  refine lv_iload hx hb dL_law_360 (lv_at hl 5 rfl) ?_
  refine lv_iconst (v := 1) hx hb dL_law_362 (by decide) ?_
  refine lv_iadd hx hb dL_law_363 ?_
  refine g_scr (j := i + 1) S g hX hbl hbA (nI_add i 1) (by omega) hL e1 dL_law_364 ?_
  refine lv_aload_n hx hb dL_law_365 rfl (lv_at hl 1 rfl) ?_
  refine lv_iload hx hb dL_law_366 (lv_at hl 5 rfl) ?_
  refine lv_iconst (v := 2) hx hb dL_law_368 (by decide) ?_
  refine lv_iadd hx hb dL_law_369 ?_
  refine g_scr (j := i + 2) S g hX hbl hbA (nI_add i 2) (by omega) hL e2 dL_law_370 ?_
  refine g_ci (rest := []) g (g_V (n := 2) (As := [.int x, .int y]) S g hN (by decide) (cEm G _ _) rfl (lw_V q594 q595 q596 q4 q597) ⟨rfl, by decide +kernel, by decide +kernel, by decide +kernel⟩ rfl hR2 hl.1 (Nat.le_of_ble_eq_true rfl) rfl ⟨hcs.1, hcs.2⟩ dL_law_371) (fun H locs g => ?_)
  refine lv_istore (lv' := [(6, .int bv), (5, .int K), (0, .ref b), (1, .ref (gA G 0)), (2, .ref (gA G 21)), (3, .ref (gA G 27)), (4, .int (nI i))]) hx hb dL_law_374 hl (by decide) rfl (fun ls hl => ?_)
  refine lv_aload_n hx hb dL_law_376 rfl (lv_at hl 4 rfl) ?_
  refine g_ci (rest := []) g (g_V (n := 0) (As := []) S g (m_thrown l G F2 o1) (by decide) (cEm G _ _) rfl (lw_V q571 q572 q573 q4 q574) ⟨rfl, by decide +kernel, by decide +kernel, by decide +kernel⟩ rfl ⟨Nat.le_of_ble_eq_true rfl, Nat.le_of_ble_eq_true rfl⟩ hl.1 (Nat.le_of_ble_eq_true rfl) rfl ⟨hcs.1, hcs.2⟩ dL_law_377) (fun H locs g => ?_)
  refine lv_iload hx hb dL_law_380 (lv_at hl 1 rfl) ?_
  refine lv_icmp_eq (tgt := 387) hx hb dL_law_382 (by decide) (fun _ => ?_) (fun c9 => absurd hK c9)
  refine lv_iload hx hb dL_law_387 (lv_at hl 1 rfl) ?_
  refine lv_if_ne (tgt := 404) hx hb dL_law_389 (by decide) (fun _ => ?_) (fun hk0 => ?_)
  · refine lv_goto (tgt := 1529) hx hb dL_law_404 (by decide) ?_
    exact kk _ _ _ g (lv_sub hl [2, 3, 4, 5, 6] rfl)
  refine lv_aload_n hx hb dL_law_392 rfl (lv_at hl 5 rfl) ?_
  refine lv_iconst (v := 0) hx hb dL_law_393 (by decide) ?_
  refine g_lald S g dL_law_394 ?_
  refine lv_iload hx hb dL_law_395 (lv_at hl 0 rfl) ?_
  refine lv_i2l (v := bv.toInt64) hx hb dL_law_397 rfl ?_
  refine W.lcmp hx hb dL_law_398 ?_
  refine lv_if_eq (tgt := 404) hx hb dL_law_399 (by decide) (fun _ => ?_) (fun c9 => absurd (lg_same (hv hk0)) c9)
  refine lv_goto (tgt := 1529) hx hb dL_law_404 (by decide) ?_
  exact kk _ _ _ g (lv_sub hl [2, 3, 4, 5, 6] rfl)
set_option maxHeartbeats 4000000 in
set_option maxRecDepth 100000 in
theorem seg_3 {p : Program} {l : Launch} {e : Env} {s : State} {m : MethodId} {args : Array Value} {below : List Frame} {meth : Method} {c : Code} {H : Heap} {locs : List Loc} {cells slots : Nat} {Q : State → Prop} {ls : Array Slot} {G : gT} {F F1 F2 : Fs} {o : Int64} {b L i : Nat} {xs : Nat → Int32} {x bv K : Int32} {o1 : Int64} {f k cs ss f2 k2 : Nat} (S : CallFix p m c cL_law 9 s args lw_all "ShadowPoolLaw") (hX : va_X b L xs s s.heap) (hbl : b < s.heap.size) (hbA : ¬ GA G s.heap.size b) (hL : L ≤ 2048) (hiL : i + 4 ≤ L) (e1 : xs (i + 1) = x) (g : GB G F o [] [] s H locs) (hl : lv_has ls 9 (lwL G b i)) (hM : MH l yL_rest cL_rest 4 [((0 : Nat), (9 : Nat), (12 : Nat), (21 : Nat))] f k cs ss [.ref (gA G 0), .int x, .ref (gA G 27)] G F o F1 o1 K) (hR : f + 1 ≤ room_1.frames ∧ 8 + (4 + 11) + k ≤ room_1.locals) (hcs : cells + cs ≤ room_1.cells ∧ slots + ss ≤ room_1.slots) (hN : MI l yX3_rest cX3_rest 3 (some .int) f2 k2 [.ref (gA G 21), .int x] G F1 o1 F2 bv) (hR2 : f2 + 1 ≤ room_1.frames ∧ 8 + (3 + 11) + k2 ≤ room_1.locals) (hK : F2 21 0 = K) (hv : K = 0 → o1 = bv.toInt64) (kk : ∀ (H : Heap) (locs : List Loc) (ls : Array Slot), GB G F2 o1 [] [] s H locs → lv_has ls 9 (lwL G b i) → W p l e room_1 s m args below meth c H locs (cells + cs) (slots + ss) Q (F0 m 1529 ls [])) : W p l e room_1 s m args below meth c H locs cells slots Q (F0 m 407 ls []) := by
  have hx := S.1
  have hb := S.2.1
  refine lv_aload_n hx hb dL_law_407 rfl (lv_at hl 1 rfl) ?_
  refine lv_aload_n hx hb dL_law_408 rfl (lv_at hl 0 rfl) ?_
  refine lv_iload hx hb dL_law_409 (lv_at hl 4 rfl) ?_
  refine lv_iconst (v := 1) hx hb dL_law_411 (by decide) ?_
  refine lv_iadd hx hb dL_law_412 ?_
  refine g_scr (j := i + 1) S g hX hbl hbA (nI_add i 1) (by omega) hL e1 dL_law_413 ?_
  refine lv_aload_n hx hb dL_law_414 rfl (lv_at hl 3 rfl) ?_
  refine g_SH (n := 3) (As := [.ref (gA G 0), .int x, .ref (gA G 27)]) (rest := []) S g hM q429 q430 q0 q431 ⟨by decide +kernel, by decide +kernel, by decide +kernel⟩ rfl hR hl.1 (Nat.le_of_ble_eq_true rfl) rfl hcs dL_law_415 (fun H locs g => ?_)
  refine lv_istore (lv' := [(5, .int K), (0, .ref b), (1, .ref (gA G 0)), (2, .ref (gA G 21)), (3, .ref (gA G 27)), (4, .int (nI i))]) hx hb dL_law_418 hl (by decide) rfl (fun ls hl => ?_)
  refine lv_aload_n hx hb dL_law_420 rfl (lv_at hl 3 rfl) ?_
  refine lv_aload_n hx hb dL_law_421 rfl (lv_at hl 1 rfl) ?_
  refine lv_iload hx hb dL_law_422 (lv_at hl 5 rfl) ?_
  refine lv_iconst (v := 1) hx hb dL_law_424 (by decide) ?_
  refine lv_iadd hx hb dL_law_425 ?_
  refine g_scr (j := i + 1) S g hX hbl hbA (nI_add i 1) (by omega) hL e1 dL_law_426 ?_
  refine g_ci (rest := []) g (g_V (n := 1) (As := [.int x]) S g hN (by decide) (cEm G _ _) rfl (lw_V q598 q599 q600 q4 q601) ⟨rfl, by decide +kernel, by decide +kernel, by decide +kernel⟩ rfl hR2 hl.1 (Nat.le_of_ble_eq_true rfl) rfl ⟨hcs.1, hcs.2⟩ dL_law_427) (fun H locs g => ?_)
  refine lv_istore (lv' := [(6, .int bv), (5, .int K), (0, .ref b), (1, .ref (gA G 0)), (2, .ref (gA G 21)), (3, .ref (gA G 27)), (4, .int (nI i))]) hx hb dL_law_430 hl (by decide) rfl (fun ls hl => ?_)
  refine lv_aload_n hx hb dL_law_432 rfl (lv_at hl 4 rfl) ?_
  refine g_ci (rest := []) g (g_V (n := 0) (As := []) S g (m_thrown l G F2 o1) (by decide) (cEm G _ _) rfl (lw_V q571 q572 q573 q4 q574) ⟨rfl, by decide +kernel, by decide +kernel, by decide +kernel⟩ rfl ⟨Nat.le_of_ble_eq_true rfl, Nat.le_of_ble_eq_true rfl⟩ hl.1 (Nat.le_of_ble_eq_true rfl) rfl ⟨hcs.1, hcs.2⟩ dL_law_433) (fun H locs g => ?_)
  refine lv_iload hx hb dL_law_436 (lv_at hl 1 rfl) ?_
  refine lv_icmp_eq (tgt := 443) hx hb dL_law_438 (by decide) (fun _ => ?_) (fun c9 => absurd hK c9)
  refine lv_iload hx hb dL_law_443 (lv_at hl 1 rfl) ?_
  refine lv_if_ne (tgt := 460) hx hb dL_law_445 (by decide) (fun _ => ?_) (fun hk0 => ?_)
  · refine lv_goto (tgt := 1529) hx hb dL_law_460 (by decide) ?_
    exact kk _ _ _ g (lv_sub hl [2, 3, 4, 5, 6] rfl)
  refine lv_aload_n hx hb dL_law_448 rfl (lv_at hl 5 rfl) ?_
  refine lv_iconst (v := 0) hx hb dL_law_449 (by decide) ?_
  refine g_lald S g dL_law_450 ?_
  refine lv_iload hx hb dL_law_451 (lv_at hl 0 rfl) ?_
  refine lv_i2l (v := bv.toInt64) hx hb dL_law_453 rfl ?_
  refine W.lcmp hx hb dL_law_454 ?_
  refine lv_if_eq (tgt := 460) hx hb dL_law_455 (by decide) (fun _ => ?_) (fun c9 => absurd (lg_same (hv hk0)) c9)
  refine lv_goto (tgt := 1529) hx hb dL_law_460 (by decide) ?_
  exact kk _ _ _ g (lv_sub hl [2, 3, 4, 5, 6] rfl)
set_option maxHeartbeats 4000000 in
set_option maxRecDepth 100000 in
theorem seg_4 {p : Program} {l : Launch} {e : Env} {s : State} {m : MethodId} {args : Array Value} {below : List Frame} {meth : Method} {c : Code} {H : Heap} {locs : List Loc} {cells slots : Nat} {Q : State → Prop} {ls : Array Slot} {G : gT} {F F1 F2 : Fs} {o : Int64} {b L i : Nat} {xs : Nat → Int32} {x bv K : Int32} {o1 : Int64} {f k cs ss f2 k2 : Nat} (S : CallFix p m c cL_law 9 s args lw_all "ShadowPoolLaw") (hX : va_X b L xs s s.heap) (hbl : b < s.heap.size) (hbA : ¬ GA G s.heap.size b) (hL : L ≤ 2048) (hiL : i + 4 ≤ L) (e1 : xs (i + 1) = x) (g : GB G F o [] [] s H locs) (hl : lv_has ls 9 (lwL G b i)) (hM : MH l yL_setRate cL_setRate 4 [((0 : Nat), (9 : Nat), (12 : Nat), (13 : Nat))] f k cs ss [.ref (gA G 0), .int x, .ref (gA G 27)] G F o F1 o1 K) (hR : f + 1 ≤ room_1.frames ∧ 8 + (4 + 11) + k ≤ room_1.locals) (hcs : cells + cs ≤ room_1.cells ∧ slots + ss ≤ room_1.slots) (hN : MI l yX3_setRate cX3_setRate 3 (some .int) f2 k2 [.ref (gA G 21), .int x] G F1 o1 F2 bv) (hR2 : f2 + 1 ≤ room_1.frames ∧ 8 + (3 + 11) + k2 ≤ room_1.locals) (hK : F2 21 0 = K) (hv : K = 0 → o1 = bv.toInt64) (kk : ∀ (H : Heap) (locs : List Loc) (ls : Array Slot), GB G F2 o1 [] [] s H locs → lv_has ls 9 (lwL G b i) → W p l e room_1 s m args below meth c H locs (cells + cs) (slots + ss) Q (F0 m 1529 ls [])) : W p l e room_1 s m args below meth c H locs cells slots Q (F0 m 463 ls []) := by
  have hx := S.1
  have hb := S.2.1
  refine lv_aload_n hx hb dL_law_463 rfl (lv_at hl 1 rfl) ?_
  refine lv_aload_n hx hb dL_law_464 rfl (lv_at hl 0 rfl) ?_
  refine lv_iload hx hb dL_law_465 (lv_at hl 4 rfl) ?_
  refine lv_iconst (v := 1) hx hb dL_law_467 (by decide) ?_
  refine lv_iadd hx hb dL_law_468 ?_
  refine g_scr (j := i + 1) S g hX hbl hbA (nI_add i 1) (by omega) hL e1 dL_law_469 ?_
  refine lv_aload_n hx hb dL_law_470 rfl (lv_at hl 3 rfl) ?_
  refine g_SH (n := 3) (As := [.ref (gA G 0), .int x, .ref (gA G 27)]) (rest := []) S g hM q436 q437 q0 q438 ⟨by decide +kernel, by decide +kernel, by decide +kernel⟩ rfl hR hl.1 (Nat.le_of_ble_eq_true rfl) rfl hcs dL_law_471 (fun H locs g => ?_)
  refine lv_istore (lv' := [(5, .int K), (0, .ref b), (1, .ref (gA G 0)), (2, .ref (gA G 21)), (3, .ref (gA G 27)), (4, .int (nI i))]) hx hb dL_law_474 hl (by decide) rfl (fun ls hl => ?_)
  refine lv_aload_n hx hb dL_law_476 rfl (lv_at hl 3 rfl) ?_
  refine lv_aload_n hx hb dL_law_477 rfl (lv_at hl 1 rfl) ?_
  refine lv_iload hx hb dL_law_478 (lv_at hl 5 rfl) ?_
  refine lv_iconst (v := 1) hx hb dL_law_480 (by decide) ?_
  refine lv_iadd hx hb dL_law_481 ?_
  refine g_scr (j := i + 1) S g hX hbl hbA (nI_add i 1) (by omega) hL e1 dL_law_482 ?_
  refine g_ci (rest := []) g (g_V (n := 1) (As := [.int x]) S g hN (by decide) (cEm G _ _) rfl (lw_V q602 q603 q604 q4 q605) ⟨rfl, by decide +kernel, by decide +kernel, by decide +kernel⟩ rfl hR2 hl.1 (Nat.le_of_ble_eq_true rfl) rfl ⟨hcs.1, hcs.2⟩ dL_law_483) (fun H locs g => ?_)
  refine lv_istore (lv' := [(6, .int bv), (5, .int K), (0, .ref b), (1, .ref (gA G 0)), (2, .ref (gA G 21)), (3, .ref (gA G 27)), (4, .int (nI i))]) hx hb dL_law_486 hl (by decide) rfl (fun ls hl => ?_)
  refine lv_aload_n hx hb dL_law_488 rfl (lv_at hl 4 rfl) ?_
  refine g_ci (rest := []) g (g_V (n := 0) (As := []) S g (m_thrown l G F2 o1) (by decide) (cEm G _ _) rfl (lw_V q571 q572 q573 q4 q574) ⟨rfl, by decide +kernel, by decide +kernel, by decide +kernel⟩ rfl ⟨Nat.le_of_ble_eq_true rfl, Nat.le_of_ble_eq_true rfl⟩ hl.1 (Nat.le_of_ble_eq_true rfl) rfl ⟨hcs.1, hcs.2⟩ dL_law_489) (fun H locs g => ?_)
  refine lv_iload hx hb dL_law_492 (lv_at hl 1 rfl) ?_
  refine lv_icmp_eq (tgt := 499) hx hb dL_law_494 (by decide) (fun _ => ?_) (fun c9 => absurd hK c9)
  refine lv_iload hx hb dL_law_499 (lv_at hl 1 rfl) ?_
  refine lv_if_ne (tgt := 516) hx hb dL_law_501 (by decide) (fun _ => ?_) (fun hk0 => ?_)
  · refine lv_goto (tgt := 1529) hx hb dL_law_516 (by decide) ?_
    exact kk _ _ _ g (lv_sub hl [2, 3, 4, 5, 6] rfl)
  refine lv_aload_n hx hb dL_law_504 rfl (lv_at hl 5 rfl) ?_
  refine lv_iconst (v := 0) hx hb dL_law_505 (by decide) ?_
  refine g_lald S g dL_law_506 ?_
  refine lv_iload hx hb dL_law_507 (lv_at hl 0 rfl) ?_
  refine lv_i2l (v := bv.toInt64) hx hb dL_law_509 rfl ?_
  refine W.lcmp hx hb dL_law_510 ?_
  refine lv_if_eq (tgt := 516) hx hb dL_law_511 (by decide) (fun _ => ?_) (fun c9 => absurd (lg_same (hv hk0)) c9)
  refine lv_goto (tgt := 1529) hx hb dL_law_516 (by decide) ?_
  exact kk _ _ _ g (lv_sub hl [2, 3, 4, 5, 6] rfl)
set_option maxHeartbeats 4000000 in
set_option maxRecDepth 100000 in
theorem seg_5 {p : Program} {l : Launch} {e : Env} {s : State} {m : MethodId} {args : Array Value} {below : List Frame} {meth : Method} {c : Code} {H : Heap} {locs : List Loc} {cells slots : Nat} {Q : State → Prop} {ls : Array Slot} {G : gT} {F F1 F2 : Fs} {o : Int64} {b L i : Nat} {xs : Nat → Int32} {x y bv K : Int32} {o1 : Int64} {f k cs ss f2 k2 : Nat} (S : CallFix p m c cL_law 9 s args lw_all "ShadowPoolLaw") (hX : va_X b L xs s s.heap) (hbl : b < s.heap.size) (hbA : ¬ GA G s.heap.size b) (hL : L ≤ 2048) (hiL : i + 4 ≤ L) (e1 : xs (i + 1) = x) (e2 : xs (i + 2) = y) (g : GB G F o [] [] s H locs) (hl : lv_has ls 9 (lwL G b i)) (hM : MH l yL_reinsure cL_reinsure 5 [((0 : Nat), (10 : Nat), (13 : Nat), (13 : Nat))] f k cs ss [.ref (gA G 0), .int x, .int y, .ref (gA G 27)] G F o F1 o1 K) (hR : f + 1 ≤ room_1.frames ∧ 8 + (5 + 11) + k ≤ room_1.locals) (hcs : cells + cs ≤ room_1.cells ∧ slots + ss ≤ room_1.slots) (hN : MI l yX3_reinsure cX3_reinsure 4 (some .int) f2 k2 [.ref (gA G 21), .int x, .int y] G F1 o1 F2 bv) (hR2 : f2 + 1 ≤ room_1.frames ∧ 8 + (4 + 11) + k2 ≤ room_1.locals) (hK : F2 21 0 = K) (hv : K = 0 → o1 = bv.toInt64) (kk : ∀ (H : Heap) (locs : List Loc) (ls : Array Slot), GB G F2 o1 [] [] s H locs → lv_has ls 9 (lwL G b i) → W p l e room_1 s m args below meth c H locs (cells + cs) (slots + ss) Q (F0 m 1529 ls [])) : W p l e room_1 s m args below meth c H locs cells slots Q (F0 m 519 ls []) := by
  have hx := S.1
  have hb := S.2.1
  refine lv_aload_n hx hb dL_law_519 rfl (lv_at hl 1 rfl) ?_
  refine lv_aload_n hx hb dL_law_520 rfl (lv_at hl 0 rfl) ?_
  refine lv_iload hx hb dL_law_521 (lv_at hl 4 rfl) ?_
  refine lv_iconst (v := 1) hx hb dL_law_523 (by decide) ?_
  refine lv_iadd hx hb dL_law_524 ?_
  refine g_scr (j := i + 1) S g hX hbl hbA (nI_add i 1) (by omega) hL e1 dL_law_525 ?_
  refine lv_aload_n hx hb dL_law_526 rfl (lv_at hl 0 rfl) ?_
  refine lv_iload hx hb dL_law_527 (lv_at hl 4 rfl) ?_
  refine lv_iconst (v := 2) hx hb dL_law_529 (by decide) ?_
  refine lv_iadd hx hb dL_law_530 ?_
  refine g_scr (j := i + 2) S g hX hbl hbA (nI_add i 2) (by omega) hL e2 dL_law_531 ?_
  refine lv_aload_n hx hb dL_law_532 rfl (lv_at hl 3 rfl) ?_
  refine g_SH (n := 4) (As := [.ref (gA G 0), .int x, .int y, .ref (gA G 27)]) (rest := []) S g hM q444 q445 q0 q446 ⟨by decide +kernel, by decide +kernel, by decide +kernel⟩ rfl hR hl.1 (Nat.le_of_ble_eq_true rfl) rfl hcs dL_law_533 (fun H locs g => ?_)
  refine lv_istore (lv' := [(5, .int K), (0, .ref b), (1, .ref (gA G 0)), (2, .ref (gA G 21)), (3, .ref (gA G 27)), (4, .int (nI i))]) hx hb dL_law_536 hl (by decide) rfl (fun ls hl => ?_)
  refine lv_aload_n hx hb dL_law_538 rfl (lv_at hl 3 rfl) ?_
  refine lv_aload_n hx hb dL_law_539 rfl (lv_at hl 1 rfl) ?_
  refine lv_iload hx hb dL_law_540 (lv_at hl 5 rfl) ?_
  refine lv_iconst (v := 1) hx hb dL_law_542 (by decide) ?_
  refine lv_iadd hx hb dL_law_543 ?_
  refine g_scr (j := i + 1) S g hX hbl hbA (nI_add i 1) (by omega) hL e1 dL_law_544 ?_
  refine lv_aload_n hx hb dL_law_545 rfl (lv_at hl 1 rfl) ?_
  refine lv_iload hx hb dL_law_546 (lv_at hl 5 rfl) ?_
  refine lv_iconst (v := 2) hx hb dL_law_548 (by decide) ?_
  refine lv_iadd hx hb dL_law_549 ?_
  refine g_scr (j := i + 2) S g hX hbl hbA (nI_add i 2) (by omega) hL e2 dL_law_550 ?_
  refine g_ci (rest := []) g (g_V (n := 2) (As := [.int x, .int y]) S g hN (by decide) (cEm G _ _) rfl (lw_V q606 q607 q608 q4 q609) ⟨rfl, by decide +kernel, by decide +kernel, by decide +kernel⟩ rfl hR2 hl.1 (Nat.le_of_ble_eq_true rfl) rfl ⟨hcs.1, hcs.2⟩ dL_law_551) (fun H locs g => ?_)
  refine lv_istore (lv' := [(6, .int bv), (5, .int K), (0, .ref b), (1, .ref (gA G 0)), (2, .ref (gA G 21)), (3, .ref (gA G 27)), (4, .int (nI i))]) hx hb dL_law_554 hl (by decide) rfl (fun ls hl => ?_)
  refine lv_aload_n hx hb dL_law_556 rfl (lv_at hl 4 rfl) ?_
  refine g_ci (rest := []) g (g_V (n := 0) (As := []) S g (m_thrown l G F2 o1) (by decide) (cEm G _ _) rfl (lw_V q571 q572 q573 q4 q574) ⟨rfl, by decide +kernel, by decide +kernel, by decide +kernel⟩ rfl ⟨Nat.le_of_ble_eq_true rfl, Nat.le_of_ble_eq_true rfl⟩ hl.1 (Nat.le_of_ble_eq_true rfl) rfl ⟨hcs.1, hcs.2⟩ dL_law_557) (fun H locs g => ?_)
  refine lv_iload hx hb dL_law_560 (lv_at hl 1 rfl) ?_
  refine lv_icmp_eq (tgt := 567) hx hb dL_law_562 (by decide) (fun _ => ?_) (fun c9 => absurd hK c9)
  refine lv_iload hx hb dL_law_567 (lv_at hl 1 rfl) ?_
  refine lv_if_ne (tgt := 584) hx hb dL_law_569 (by decide) (fun _ => ?_) (fun hk0 => ?_)
  · refine lv_goto (tgt := 1529) hx hb dL_law_584 (by decide) ?_
    exact kk _ _ _ g (lv_sub hl [2, 3, 4, 5, 6] rfl)
  refine lv_aload_n hx hb dL_law_572 rfl (lv_at hl 5 rfl) ?_
  refine lv_iconst (v := 0) hx hb dL_law_573 (by decide) ?_
  refine g_lald S g dL_law_574 ?_
  refine lv_iload hx hb dL_law_575 (lv_at hl 0 rfl) ?_
  refine lv_i2l (v := bv.toInt64) hx hb dL_law_577 rfl ?_
  refine W.lcmp hx hb dL_law_578 ?_
  refine lv_if_eq (tgt := 584) hx hb dL_law_579 (by decide) (fun _ => ?_) (fun c9 => absurd (lg_same (hv hk0)) c9)
  refine lv_goto (tgt := 1529) hx hb dL_law_584 (by decide) ?_
  exact kk _ _ _ g (lv_sub hl [2, 3, 4, 5, 6] rfl)
set_option maxHeartbeats 4000000 in
set_option maxRecDepth 100000 in
theorem seg_6 {p : Program} {l : Launch} {e : Env} {s : State} {m : MethodId} {args : Array Value} {below : List Frame} {meth : Method} {c : Code} {H : Heap} {locs : List Loc} {cells slots : Nat} {Q : State → Prop} {ls : Array Slot} {G : gT} {F F1 F2 : Fs} {o : Int64} {b L i : Nat} {xs : Nat → Int32} {x bv K : Int32} {o1 : Int64} {f k cs ss f2 k2 : Nat} (S : CallFix p m c cL_law 9 s args lw_all "ShadowPoolLaw") (hX : va_X b L xs s s.heap) (hbl : b < s.heap.size) (hbA : ¬ GA G s.heap.size b) (hL : L ≤ 2048) (hiL : i + 4 ≤ L) (e1 : xs (i + 1) = x) (g : GB G F o [] [] s H locs) (hl : lv_has ls 9 (lwL G b i)) (hM : MH l yL_pass cL_pass 4 [((0 : Nat), (9 : Nat), (12 : Nat), (13 : Nat))] f k cs ss [.ref (gA G 0), .int x, .ref (gA G 27)] G F o F1 o1 K) (hR : f + 1 ≤ room_1.frames ∧ 8 + (4 + 11) + k ≤ room_1.locals) (hcs : cells + cs ≤ room_1.cells ∧ slots + ss ≤ room_1.slots) (hN : MI l yX3_pass cX3_pass 2 (some .int) f2 k2 [.ref (gA G 21), .int x] G F1 o1 F2 bv) (hR2 : f2 + 1 ≤ room_1.frames ∧ 8 + (2 + 11) + k2 ≤ room_1.locals) (hK : F2 21 0 = K) (hv : K = 0 → o1 = bv.toInt64) (kk : ∀ (H : Heap) (locs : List Loc) (ls : Array Slot), GB G F2 o1 [] [] s H locs → lv_has ls 9 (lwL G b i) → W p l e room_1 s m args below meth c H locs (cells + cs) (slots + ss) Q (F0 m 1529 ls [])) : W p l e room_1 s m args below meth c H locs cells slots Q (F0 m 587 ls []) := by
  have hx := S.1
  have hb := S.2.1
  refine lv_aload_n hx hb dL_law_587 rfl (lv_at hl 1 rfl) ?_
  refine lv_aload_n hx hb dL_law_588 rfl (lv_at hl 0 rfl) ?_
  refine lv_iload hx hb dL_law_589 (lv_at hl 4 rfl) ?_
  refine lv_iconst (v := 1) hx hb dL_law_591 (by decide) ?_
  refine lv_iadd hx hb dL_law_592 ?_
  refine g_scr (j := i + 1) S g hX hbl hbA (nI_add i 1) (by omega) hL e1 dL_law_593 ?_
  refine lv_aload_n hx hb dL_law_594 rfl (lv_at hl 3 rfl) ?_
  refine g_SH (n := 3) (As := [.ref (gA G 0), .int x, .ref (gA G 27)]) (rest := []) S g hM q453 q454 q0 q455 ⟨by decide +kernel, by decide +kernel, by decide +kernel⟩ rfl hR hl.1 (Nat.le_of_ble_eq_true rfl) rfl hcs dL_law_595 (fun H locs g => ?_)
  refine lv_istore (lv' := [(5, .int K), (0, .ref b), (1, .ref (gA G 0)), (2, .ref (gA G 21)), (3, .ref (gA G 27)), (4, .int (nI i))]) hx hb dL_law_598 hl (by decide) rfl (fun ls hl => ?_)
  refine lv_aload_n hx hb dL_law_600 rfl (lv_at hl 3 rfl) ?_
  refine lv_aload_n hx hb dL_law_601 rfl (lv_at hl 1 rfl) ?_
  refine lv_iload hx hb dL_law_602 (lv_at hl 5 rfl) ?_
  refine lv_iconst (v := 1) hx hb dL_law_604 (by decide) ?_
  refine lv_iadd hx hb dL_law_605 ?_
  refine g_scr (j := i + 1) S g hX hbl hbA (nI_add i 1) (by omega) hL e1 dL_law_606 ?_
  refine g_ci (rest := []) g (g_V (n := 1) (As := [.int x]) S g hN (by decide) (cEm G _ _) rfl (lw_V q610 q611 q612 q4 q613) ⟨rfl, by decide +kernel, by decide +kernel, by decide +kernel⟩ rfl hR2 hl.1 (Nat.le_of_ble_eq_true rfl) rfl ⟨hcs.1, hcs.2⟩ dL_law_607) (fun H locs g => ?_)
  refine lv_istore (lv' := [(6, .int bv), (5, .int K), (0, .ref b), (1, .ref (gA G 0)), (2, .ref (gA G 21)), (3, .ref (gA G 27)), (4, .int (nI i))]) hx hb dL_law_610 hl (by decide) rfl (fun ls hl => ?_)
  refine lv_aload_n hx hb dL_law_612 rfl (lv_at hl 4 rfl) ?_
  refine g_ci (rest := []) g (g_V (n := 0) (As := []) S g (m_thrown l G F2 o1) (by decide) (cEm G _ _) rfl (lw_V q571 q572 q573 q4 q574) ⟨rfl, by decide +kernel, by decide +kernel, by decide +kernel⟩ rfl ⟨Nat.le_of_ble_eq_true rfl, Nat.le_of_ble_eq_true rfl⟩ hl.1 (Nat.le_of_ble_eq_true rfl) rfl ⟨hcs.1, hcs.2⟩ dL_law_613) (fun H locs g => ?_)
  refine lv_iload hx hb dL_law_616 (lv_at hl 1 rfl) ?_
  refine lv_icmp_eq (tgt := 623) hx hb dL_law_618 (by decide) (fun _ => ?_) (fun c9 => absurd hK c9)
  refine lv_iload hx hb dL_law_623 (lv_at hl 1 rfl) ?_
  refine lv_if_ne (tgt := 640) hx hb dL_law_625 (by decide) (fun _ => ?_) (fun hk0 => ?_)
  · refine lv_goto (tgt := 1529) hx hb dL_law_640 (by decide) ?_
    exact kk _ _ _ g (lv_sub hl [2, 3, 4, 5, 6] rfl)
  refine lv_aload_n hx hb dL_law_628 rfl (lv_at hl 5 rfl) ?_
  refine lv_iconst (v := 0) hx hb dL_law_629 (by decide) ?_
  refine g_lald S g dL_law_630 ?_
  refine lv_iload hx hb dL_law_631 (lv_at hl 0 rfl) ?_
  refine lv_i2l (v := bv.toInt64) hx hb dL_law_633 rfl ?_
  refine W.lcmp hx hb dL_law_634 ?_
  refine lv_if_eq (tgt := 640) hx hb dL_law_635 (by decide) (fun _ => ?_) (fun c9 => absurd (lg_same (hv hk0)) c9)
  refine lv_goto (tgt := 1529) hx hb dL_law_640 (by decide) ?_
  exact kk _ _ _ g (lv_sub hl [2, 3, 4, 5, 6] rfl)
set_option maxHeartbeats 4000000 in
set_option maxRecDepth 100000 in
theorem seg_7 {p : Program} {l : Launch} {e : Env} {s : State} {m : MethodId} {args : Array Value} {below : List Frame} {meth : Method} {c : Code} {H : Heap} {locs : List Loc} {cells slots : Nat} {Q : State → Prop} {ls : Array Slot} {G : gT} {F F1 F2 : Fs} {o : Int64} {b L i : Nat} {xs : Nat → Int32} {v : Int32} {f k f2 k2 : Nat} (S : CallFix p m c cL_law 9 s args lw_all "ShadowPoolLaw") (g : GB G F o [] [] s H locs) (hl : lv_has ls 9 (lwL G b i)) (hM : MI l yX2_hour cX2_hour 1 (some .int) f k [.ref (gA G 0)] G F o F1 v) (hR : f + 1 ≤ room_1.frames ∧ 8 + (1 + 11) + k ≤ room_1.locals) (hcs : cells ≤ room_1.cells ∧ slots ≤ room_1.slots) (hN : MI l yX3_hour cX3_hour 1 (some .int) f2 k2 [.ref (gA G 21)] G F1 o F2 v) (hR2 : f2 + 1 ≤ room_1.frames ∧ 8 + (1 + 11) + k2 ≤ room_1.locals) (kk : ∀ (H : Heap) (locs : List Loc) (ls : Array Slot), GB G F2 o [] [] s H locs → lv_has ls 9 (lwL G b i) → W p l e room_1 s m args below meth c H locs cells slots Q (F0 m 1529 ls [])) : W p l e room_1 s m args below meth c H locs cells slots Q (F0 m 643 ls []) := by
  have hx := S.1
  have hb := S.2.1
  refine lv_aload_n hx hb dL_law_643 rfl (lv_at hl 1 rfl) ?_
  refine g_ci (rest := []) g (g_V (n := 0) (As := []) S g hM (by decide) (cE0 G _ _) rfl (lw_V q98 q99 q100 q1 q101) ⟨rfl, by decide +kernel, by decide +kernel, by decide +kernel⟩ rfl hR hl.1 (Nat.le_of_ble_eq_true rfl) rfl hcs dL_law_644) (fun H locs g => ?_)
  refine lv_aload_n hx hb dL_law_647 rfl (lv_at hl 2 rfl) ?_
  refine g_ci (rest := [.int v]) g (g_V (n := 0) (As := []) S g hN (by decide) (cEm G _ _) rfl (lw_V q666 q667 q668 q4 q669) ⟨rfl, by decide +kernel, by decide +kernel, by decide +kernel⟩ rfl hR2 hl.1 (Nat.le_of_ble_eq_true rfl) rfl hcs dL_law_648) (fun H locs g => ?_)
  refine lv_icmp_eq (tgt := 1529) hx hb dL_law_651 (by decide) (fun _ => ?_) (fun c9 => absurd rfl c9)
  exact kk _ _ _ g (lv_sub hl [0, 1, 2, 3, 4] rfl)
set_option maxHeartbeats 4000000 in
set_option maxRecDepth 100000 in
theorem seg_8 {p : Program} {l : Launch} {e : Env} {s : State} {m : MethodId} {args : Array Value} {below : List Frame} {meth : Method} {c : Code} {H : Heap} {locs : List Loc} {cells slots : Nat} {Q : State → Prop} {ls : Array Slot} {G : gT} {F F1 F2 : Fs} {o : Int64} {b L i : Nat} {xs : Nat → Int32} {v : Int32} {f k f2 k2 : Nat} (S : CallFix p m c cL_law 9 s args lw_all "ShadowPoolLaw") (g : GB G F o [] [] s H locs) (hl : lv_has ls 9 (lwL G b i)) (hM : MI l yX2_sun cX2_sun 1 (some .int) f k [.ref (gA G 0)] G F o F1 v) (hR : f + 1 ≤ room_1.frames ∧ 8 + (1 + 11) + k ≤ room_1.locals) (hcs : cells ≤ room_1.cells ∧ slots ≤ room_1.slots) (hN : MI l yX3_sun cX3_sun 1 (some .int) f2 k2 [.ref (gA G 21)] G F1 o F2 v) (hR2 : f2 + 1 ≤ room_1.frames ∧ 8 + (1 + 11) + k2 ≤ room_1.locals) (kk : ∀ (H : Heap) (locs : List Loc) (ls : Array Slot), GB G F2 o [] [] s H locs → lv_has ls 9 (lwL G b i) → W p l e room_1 s m args below meth c H locs cells slots Q (F0 m 1529 ls [])) : W p l e room_1 s m args below meth c H locs cells slots Q (F0 m 656 ls []) := by
  have hx := S.1
  have hb := S.2.1
  refine lv_aload_n hx hb dL_law_656 rfl (lv_at hl 1 rfl) ?_
  refine g_ci (rest := []) g (g_V (n := 0) (As := []) S g hM (by decide) (cE0 G _ _) rfl (lw_V q102 q103 q104 q1 q105) ⟨rfl, by decide +kernel, by decide +kernel, by decide +kernel⟩ rfl hR hl.1 (Nat.le_of_ble_eq_true rfl) rfl hcs dL_law_657) (fun H locs g => ?_)
  refine lv_aload_n hx hb dL_law_660 rfl (lv_at hl 2 rfl) ?_
  refine g_ci (rest := [.int v]) g (g_V (n := 0) (As := []) S g hN (by decide) (cEm G _ _) rfl (lw_V q674 q675 q676 q4 q677) ⟨rfl, by decide +kernel, by decide +kernel, by decide +kernel⟩ rfl hR2 hl.1 (Nat.le_of_ble_eq_true rfl) rfl hcs dL_law_661) (fun H locs g => ?_)
  refine lv_icmp_eq (tgt := 1529) hx hb dL_law_664 (by decide) (fun _ => ?_) (fun c9 => absurd rfl c9)
  exact kk _ _ _ g (lv_sub hl [0, 1, 2, 3, 4] rfl)
set_option maxHeartbeats 4000000 in
set_option maxRecDepth 100000 in
theorem seg_9 {p : Program} {l : Launch} {e : Env} {s : State} {m : MethodId} {args : Array Value} {below : List Frame} {meth : Method} {c : Code} {H : Heap} {locs : List Loc} {cells slots : Nat} {Q : State → Prop} {ls : Array Slot} {G : gT} {F F1 F2 : Fs} {o : Int64} {b L i : Nat} {xs : Nat → Int32} {v : Int32} {f k f2 k2 : Nat} (S : CallFix p m c cL_law 9 s args lw_all "ShadowPoolLaw") (g : GB G F o [] [] s H locs) (hl : lv_has ls 9 (lwL G b i)) (hM : MI l yX2_isNoon cX2_isNoon 1 (some .boolean) f k [.ref (gA G 0)] G F o F1 v) (hR : f + 1 ≤ room_1.frames ∧ 8 + (1 + 11) + k ≤ room_1.locals) (hcs : cells ≤ room_1.cells ∧ slots ≤ room_1.slots) (hN : MI l yX3_isNoon cX3_isNoon 1 (some .boolean) f2 k2 [.ref (gA G 21)] G F1 o F2 v) (hR2 : f2 + 1 ≤ room_1.frames ∧ 8 + (1 + 11) + k2 ≤ room_1.locals) (kk : ∀ (H : Heap) (locs : List Loc) (ls : Array Slot), GB G F2 o [] [] s H locs → lv_has ls 9 (lwL G b i) → W p l e room_1 s m args below meth c H locs cells slots Q (F0 m 1529 ls [])) : W p l e room_1 s m args below meth c H locs cells slots Q (F0 m 669 ls []) := by
  have hx := S.1
  have hb := S.2.1
  refine lv_aload_n hx hb dL_law_669 rfl (lv_at hl 1 rfl) ?_
  refine g_ci (rest := []) g (g_V (n := 0) (As := []) S g hM (by decide) (cE0 G _ _) rfl (lw_V q115 q116 q117 q1 q118) ⟨rfl, by decide +kernel, by decide +kernel, by decide +kernel⟩ rfl hR hl.1 (Nat.le_of_ble_eq_true rfl) rfl hcs dL_law_670) (fun H locs g => ?_)
  refine lv_aload_n hx hb dL_law_673 rfl (lv_at hl 2 rfl) ?_
  refine g_ci (rest := [.int v]) g (g_V (n := 0) (As := []) S g hN (by decide) (cEm G _ _) rfl (lw_V q678 q679 q680 q4 q681) ⟨rfl, by decide +kernel, by decide +kernel, by decide +kernel⟩ rfl hR2 hl.1 (Nat.le_of_ble_eq_true rfl) rfl hcs dL_law_674) (fun H locs g => ?_)
  refine lv_icmp_eq (tgt := 1529) hx hb dL_law_677 (by decide) (fun _ => ?_) (fun c9 => absurd rfl c9)
  exact kk _ _ _ g (lv_sub hl [0, 1, 2, 3, 4] rfl)
set_option maxHeartbeats 4000000 in
set_option maxRecDepth 100000 in
theorem seg_10 {p : Program} {l : Launch} {e : Env} {s : State} {m : MethodId} {args : Array Value} {below : List Frame} {meth : Method} {c : Code} {H : Heap} {locs : List Loc} {cells slots : Nat} {Q : State → Prop} {ls : Array Slot} {G : gT} {F F1 F2 : Fs} {o : Int64} {b L i : Nat} {xs : Nat → Int32} {v : Int32} {f k f2 k2 : Nat} (S : CallFix p m c cL_law 9 s args lw_all "ShadowPoolLaw") (g : GB G F o [] [] s H locs) (hl : lv_has ls 9 (lwL G b i)) (hM : MI l yX2_hoursUntilNoon cX2_hoursUntilNoon 2 (some .int) f k [.ref (gA G 0)] G F o F1 v) (hR : f + 1 ≤ room_1.frames ∧ 8 + (2 + 11) + k ≤ room_1.locals) (hcs : cells ≤ room_1.cells ∧ slots ≤ room_1.slots) (hN : MI l yX3_hoursUntilNoon cX3_hoursUntilNoon 2 (some .int) f2 k2 [.ref (gA G 21)] G F1 o F2 v) (hR2 : f2 + 1 ≤ room_1.frames ∧ 8 + (2 + 11) + k2 ≤ room_1.locals) (kk : ∀ (H : Heap) (locs : List Loc) (ls : Array Slot), GB G F2 o [] [] s H locs → lv_has ls 9 (lwL G b i) → W p l e room_1 s m args below meth c H locs cells slots Q (F0 m 1529 ls [])) : W p l e room_1 s m args below meth c H locs cells slots Q (F0 m 682 ls []) := by
  have hx := S.1
  have hb := S.2.1
  refine lv_aload_n hx hb dL_law_682 rfl (lv_at hl 1 rfl) ?_
  refine g_ci (rest := []) g (g_V (n := 0) (As := []) S g hM (by decide) (cE0 G _ _) rfl (lw_V q122 q123 q124 q1 q125) ⟨rfl, by decide +kernel, by decide +kernel, by decide +kernel⟩ rfl hR hl.1 (Nat.le_of_ble_eq_true rfl) rfl hcs dL_law_683) (fun H locs g => ?_)
  refine lv_aload_n hx hb dL_law_686 rfl (lv_at hl 2 rfl) ?_
  refine g_ci (rest := [.int v]) g (g_V (n := 0) (As := []) S g hN (by decide) (cEm G _ _) rfl (lw_V q682 q683 q684 q4 q685) ⟨rfl, by decide +kernel, by decide +kernel, by decide +kernel⟩ rfl hR2 hl.1 (Nat.le_of_ble_eq_true rfl) rfl hcs dL_law_687) (fun H locs g => ?_)
  refine lv_icmp_eq (tgt := 1529) hx hb dL_law_690 (by decide) (fun _ => ?_) (fun c9 => absurd rfl c9)
  exact kk _ _ _ g (lv_sub hl [0, 1, 2, 3, 4] rfl)
set_option maxHeartbeats 4000000 in
set_option maxRecDepth 100000 in
theorem seg_11 {p : Program} {l : Launch} {e : Env} {s : State} {m : MethodId} {args : Array Value} {below : List Frame} {meth : Method} {c : Code} {H : Heap} {locs : List Loc} {cells slots : Nat} {Q : State → Prop} {ls : Array Slot} {G : gT} {F F1 F2 : Fs} {o : Int64} {b L i : Nat} {xs : Nat → Int32} {v : Int32} {f k f2 k2 : Nat} (S : CallFix p m c cL_law 9 s args lw_all "ShadowPoolLaw") (g : GB G F o [] [] s H locs) (hl : lv_has ls 9 (lwL G b i)) (hM : MI l yX2_walkers cX2_walkers 1 (some .int) f k [.ref (gA G 0)] G F o F1 v) (hR : f + 1 ≤ room_1.frames ∧ 8 + (1 + 11) + k ≤ room_1.locals) (hcs : cells ≤ room_1.cells ∧ slots ≤ room_1.slots) (hN : MI l yX3_walkers cX3_walkers 1 (some .int) f2 k2 [.ref (gA G 21)] G F1 o F2 v) (hR2 : f2 + 1 ≤ room_1.frames ∧ 8 + (1 + 11) + k2 ≤ room_1.locals) (kk : ∀ (H : Heap) (locs : List Loc) (ls : Array Slot), GB G F2 o [] [] s H locs → lv_has ls 9 (lwL G b i) → W p l e room_1 s m args below meth c H locs cells slots Q (F0 m 1529 ls [])) : W p l e room_1 s m args below meth c H locs cells slots Q (F0 m 695 ls []) := by
  have hx := S.1
  have hb := S.2.1
  refine lv_aload_n hx hb dL_law_695 rfl (lv_at hl 1 rfl) ?_
  refine g_ci (rest := []) g (g_V (n := 0) (As := []) S g hM (by decide) (cE0 G _ _) rfl (lw_V q126 q127 q128 q1 q129) ⟨rfl, by decide +kernel, by decide +kernel, by decide +kernel⟩ rfl hR hl.1 (Nat.le_of_ble_eq_true rfl) rfl hcs dL_law_696) (fun H locs g => ?_)
  refine lv_aload_n hx hb dL_law_699 rfl (lv_at hl 2 rfl) ?_
  refine g_ci (rest := [.int v]) g (g_V (n := 0) (As := []) S g hN (by decide) (cEm G _ _) rfl (lw_V q686 q687 q688 q4 q689) ⟨rfl, by decide +kernel, by decide +kernel, by decide +kernel⟩ rfl hR2 hl.1 (Nat.le_of_ble_eq_true rfl) rfl hcs dL_law_700) (fun H locs g => ?_)
  refine lv_icmp_eq (tgt := 1529) hx hb dL_law_703 (by decide) (fun _ => ?_) (fun c9 => absurd rfl c9)
  exact kk _ _ _ g (lv_sub hl [0, 1, 2, 3, 4] rfl)
set_option maxHeartbeats 4000000 in
set_option maxRecDepth 100000 in
theorem seg_12 {p : Program} {l : Launch} {e : Env} {s : State} {m : MethodId} {args : Array Value} {below : List Frame} {meth : Method} {c : Code} {H : Heap} {locs : List Loc} {cells slots : Nat} {Q : State → Prop} {ls : Array Slot} {G : gT} {F F1 F2 : Fs} {o : Int64} {b L i : Nat} {xs : Nat → Int32} {v : Int32} {f k f2 k2 : Nat} (S : CallFix p m c cL_law 9 s args lw_all "ShadowPoolLaw") (g : GB G F o [] [] s H locs) (hl : lv_has ls 9 (lwL G b i)) (hM : MI l yX2_members cX2_members 1 (some .int) f k [.ref (gA G 0)] G F o F1 v) (hR : f + 1 ≤ room_1.frames ∧ 8 + (1 + 11) + k ≤ room_1.locals) (hcs : cells ≤ room_1.cells ∧ slots ≤ room_1.slots) (hN : MI l yX3_members cX3_members 1 (some .int) f2 k2 [.ref (gA G 21)] G F1 o F2 v) (hR2 : f2 + 1 ≤ room_1.frames ∧ 8 + (1 + 11) + k2 ≤ room_1.locals) (kk : ∀ (H : Heap) (locs : List Loc) (ls : Array Slot), GB G F2 o [] [] s H locs → lv_has ls 9 (lwL G b i) → W p l e room_1 s m args below meth c H locs cells slots Q (F0 m 1529 ls [])) : W p l e room_1 s m args below meth c H locs cells slots Q (F0 m 708 ls []) := by
  have hx := S.1
  have hb := S.2.1
  refine lv_aload_n hx hb dL_law_708 rfl (lv_at hl 1 rfl) ?_
  refine g_ci (rest := []) g (g_V (n := 0) (As := []) S g hM (by decide) (cE0 G _ _) rfl (lw_V q130 q131 q132 q1 q133) ⟨rfl, by decide +kernel, by decide +kernel, by decide +kernel⟩ rfl hR hl.1 (Nat.le_of_ble_eq_true rfl) rfl hcs dL_law_709) (fun H locs g => ?_)
  refine lv_aload_n hx hb dL_law_712 rfl (lv_at hl 2 rfl) ?_
  refine g_ci (rest := [.int v]) g (g_V (n := 0) (As := []) S g hN (by decide) (cEm G _ _) rfl (lw_V q690 q691 q692 q4 q693) ⟨rfl, by decide +kernel, by decide +kernel, by decide +kernel⟩ rfl hR2 hl.1 (Nat.le_of_ble_eq_true rfl) rfl hcs dL_law_713) (fun H locs g => ?_)
  refine lv_icmp_eq (tgt := 1529) hx hb dL_law_716 (by decide) (fun _ => ?_) (fun c9 => absurd rfl c9)
  exact kk _ _ _ g (lv_sub hl [0, 1, 2, 3, 4] rfl)
set_option maxHeartbeats 4000000 in
set_option maxRecDepth 100000 in
theorem seg_13 {p : Program} {l : Launch} {e : Env} {s : State} {m : MethodId} {args : Array Value} {below : List Frame} {meth : Method} {c : Code} {H : Heap} {locs : List Loc} {cells slots : Nat} {Q : State → Prop} {ls : Array Slot} {G : gT} {F F1 F2 : Fs} {o : Int64} {b L i : Nat} {xs : Nat → Int32} {x bv K : Int32} {o1 : Int64} {f k cs ss f2 k2 : Nat} (S : CallFix p m c cL_law 9 s args lw_all "ShadowPoolLaw") (hX : va_X b L xs s s.heap) (hbl : b < s.heap.size) (hbA : ¬ GA G s.heap.size b) (hL : L ≤ 2048) (hiL : i + 4 ≤ L) (e1 : xs (i + 1) = x) (g : GB G F o [] [] s H locs) (hl : lv_has ls 9 (lwL G b i)) (hM : MH l yL_isMember cL_isMember 4 [((0 : Nat), (16 : Nat), (19 : Nat), (21 : Nat))] f k cs ss [.ref (gA G 0), .int x, .ref (gA G 27)] G F o F1 o1 K) (hR : f + 1 ≤ room_1.frames ∧ 8 + (4 + 11) + k ≤ room_1.locals) (hcs : cells + cs ≤ room_1.cells ∧ slots + ss ≤ room_1.slots) (hN : MI l yX3_isMember cX3_isMember 2 (some .boolean) f2 k2 [.ref (gA G 21), .int x] G F1 o1 F2 bv) (hR2 : f2 + 1 ≤ room_1.frames ∧ 8 + (2 + 11) + k2 ≤ room_1.locals) (hK : F2 21 0 = K) (hv : K = 0 → (bv = 0 → o1 = 0) ∧ (¬ bv = 0 → o1 = 1)) (kk : ∀ (H : Heap) (locs : List Loc) (ls : Array Slot), GB G F2 o1 [] [] s H locs → lv_has ls 9 (lwL G b i) → W p l e room_1 s m args below meth c H locs (cells + cs) (slots + ss) Q (F0 m 1529 ls [])) : W p l e room_1 s m args below meth c H locs cells slots Q (F0 m 721 ls []) := by
  have hx := S.1
  have hb := S.2.1
  refine lv_aload_n hx hb dL_law_721 rfl (lv_at hl 1 rfl) ?_
  refine lv_aload_n hx hb dL_law_722 rfl (lv_at hl 0 rfl) ?_
  refine lv_iload hx hb dL_law_723 (lv_at hl 4 rfl) ?_
  refine lv_iconst (v := 1) hx hb dL_law_725 (by decide) ?_
  refine lv_iadd hx hb dL_law_726 ?_
  refine g_scr (j := i + 1) S g hX hbl hbA (nI_add i 1) (by omega) hL e1 dL_law_727 ?_
  refine lv_aload_n hx hb dL_law_728 rfl (lv_at hl 3 rfl) ?_
  refine g_SH (n := 3) (As := [.ref (gA G 0), .int x, .ref (gA G 27)]) (rest := []) S g hM q461 q462 q0 q463 ⟨by decide +kernel, by decide +kernel, by decide +kernel⟩ rfl hR hl.1 (Nat.le_of_ble_eq_true rfl) rfl hcs dL_law_729 (fun H locs g => ?_)
  refine lv_istore (lv' := [(5, .int K), (0, .ref b), (1, .ref (gA G 0)), (2, .ref (gA G 21)), (3, .ref (gA G 27)), (4, .int (nI i))]) hx hb dL_law_732 hl (by decide) rfl (fun ls hl => ?_)
  refine lv_aload_n hx hb dL_law_734 rfl (lv_at hl 3 rfl) ?_
  refine lv_aload_n hx hb dL_law_735 rfl (lv_at hl 1 rfl) ?_
  refine lv_iload hx hb dL_law_736 (lv_at hl 5 rfl) ?_
  refine lv_iconst (v := 1) hx hb dL_law_738 (by decide) ?_
  refine lv_iadd hx hb dL_law_739 ?_
  refine g_scr (j := i + 1) S g hX hbl hbA (nI_add i 1) (by omega) hL e1 dL_law_740 ?_
  refine g_ci (rest := []) g (g_V (n := 1) (As := [.int x]) S g hN (by decide) (cEm G _ _) rfl (lw_V q694 q695 q696 q4 q697) ⟨rfl, by decide +kernel, by decide +kernel, by decide +kernel⟩ rfl hR2 hl.1 (Nat.le_of_ble_eq_true rfl) rfl ⟨hcs.1, hcs.2⟩ dL_law_741) (fun H locs g => ?_)
  refine lv_istore (lv' := [(6, .int bv), (5, .int K), (0, .ref b), (1, .ref (gA G 0)), (2, .ref (gA G 21)), (3, .ref (gA G 27)), (4, .int (nI i))]) hx hb dL_law_744 hl (by decide) rfl (fun ls hl => ?_)
  refine lv_aload_n hx hb dL_law_746 rfl (lv_at hl 4 rfl) ?_
  refine g_ci (rest := []) g (g_V (n := 0) (As := []) S g (m_thrown l G F2 o1) (by decide) (cEm G _ _) rfl (lw_V q571 q572 q573 q4 q574) ⟨rfl, by decide +kernel, by decide +kernel, by decide +kernel⟩ rfl ⟨Nat.le_of_ble_eq_true rfl, Nat.le_of_ble_eq_true rfl⟩ hl.1 (Nat.le_of_ble_eq_true rfl) rfl ⟨hcs.1, hcs.2⟩ dL_law_747) (fun H locs g => ?_)
  refine lv_iload hx hb dL_law_750 (lv_at hl 1 rfl) ?_
  refine lv_icmp_eq (tgt := 757) hx hb dL_law_752 (by decide) (fun _ => ?_) (fun c9 => absurd hK c9)
  refine lv_iload hx hb dL_law_757 (lv_at hl 1 rfl) ?_
  refine lv_if_ne (tgt := 781) hx hb dL_law_759 (by decide) (fun _ => ?_) (fun hk0 => ?_)
  · refine lv_goto (tgt := 1529) hx hb dL_law_781 (by decide) ?_
    exact kk _ _ _ g (lv_sub hl [2, 3, 4, 5, 6] rfl)
  refine lv_aload_n hx hb dL_law_762 rfl (lv_at hl 5 rfl) ?_
  refine lv_iconst (v := 0) hx hb dL_law_763 (by decide) ?_
  refine g_lald S g dL_law_764 ?_
  refine lv_iload hx hb dL_law_765 (lv_at hl 0 rfl) ?_
  refine lv_if_eq (tgt := 774) hx hb dL_law_767 (by decide) (fun hz => ?_) (fun hz => ?_)
  · refine lv_lconst (v := 0) hx hb dL_law_774 (by decide) ?_
    refine W.lcmp hx hb dL_law_775 ?_
    refine lv_if_eq (tgt := 781) hx hb dL_law_776 (by decide) (fun _ => ?_) (fun c9 => absurd (lg_same ((hv hk0).1 hz)) c9)
    refine lv_goto (tgt := 1529) hx hb dL_law_781 (by decide) ?_
    exact kk _ _ _ g (lv_sub hl [2, 3, 4, 5, 6] rfl)
  · refine lv_lconst (v := 1) hx hb dL_law_770 (by decide) ?_
    refine lv_goto (tgt := 775) hx hb dL_law_771 (by decide) ?_
    refine W.lcmp hx hb dL_law_775 ?_
    refine lv_if_eq (tgt := 781) hx hb dL_law_776 (by decide) (fun _ => ?_) (fun c9 => absurd (lg_same ((hv hk0).2 hz)) c9)
    refine lv_goto (tgt := 1529) hx hb dL_law_781 (by decide) ?_
    exact kk _ _ _ g (lv_sub hl [2, 3, 4, 5, 6] rfl)
set_option maxHeartbeats 4000000 in
set_option maxRecDepth 100000 in
theorem seg_14 {p : Program} {l : Launch} {e : Env} {s : State} {m : MethodId} {args : Array Value} {below : List Frame} {meth : Method} {c : Code} {H : Heap} {locs : List Loc} {cells slots : Nat} {Q : State → Prop} {ls : Array Slot} {G : gT} {F F1 F2 : Fs} {o : Int64} {b L i : Nat} {xs : Nat → Int32} {x bv K : Int32} {o1 : Int64} {f k cs ss f2 k2 : Nat} (S : CallFix p m c cL_law 9 s args lw_all "ShadowPoolLaw") (hX : va_X b L xs s s.heap) (hbl : b < s.heap.size) (hbA : ¬ GA G s.heap.size b) (hL : L ≤ 2048) (hiL : i + 4 ≤ L) (e1 : xs (i + 1) = x) (g : GB G F o [] [] s H locs) (hl : lv_has ls 9 (lwL G b i)) (hM : MH l yL_netOf cL_netOf 4 [((0 : Nat), (9 : Nat), (12 : Nat), (21 : Nat))] f k cs ss [.ref (gA G 0), .int x, .ref (gA G 27)] G F o F1 o1 K) (hR : f + 1 ≤ room_1.frames ∧ 8 + (4 + 11) + k ≤ room_1.locals) (hcs : cells + cs ≤ room_1.cells ∧ slots + ss ≤ room_1.slots) (hN : MI l yX3_netOf cX3_netOf 2 (some .int) f2 k2 [.ref (gA G 21), .int x] G F1 o1 F2 bv) (hR2 : f2 + 1 ≤ room_1.frames ∧ 8 + (2 + 11) + k2 ≤ room_1.locals) (hK : F2 21 0 = K) (hv : K = 0 → o1 = bv.toInt64) (kk : ∀ (H : Heap) (locs : List Loc) (ls : Array Slot), GB G F2 o1 [] [] s H locs → lv_has ls 9 (lwL G b i) → W p l e room_1 s m args below meth c H locs (cells + cs) (slots + ss) Q (F0 m 1529 ls [])) : W p l e room_1 s m args below meth c H locs cells slots Q (F0 m 784 ls []) := by
  have hx := S.1
  have hb := S.2.1
  refine lv_aload_n hx hb dL_law_784 rfl (lv_at hl 1 rfl) ?_
  refine lv_aload_n hx hb dL_law_785 rfl (lv_at hl 0 rfl) ?_
  refine lv_iload hx hb dL_law_786 (lv_at hl 4 rfl) ?_
  refine lv_iconst (v := 1) hx hb dL_law_788 (by decide) ?_
  refine lv_iadd hx hb dL_law_789 ?_
  refine g_scr (j := i + 1) S g hX hbl hbA (nI_add i 1) (by omega) hL e1 dL_law_790 ?_
  refine lv_aload_n hx hb dL_law_791 rfl (lv_at hl 3 rfl) ?_
  refine g_SH (n := 3) (As := [.ref (gA G 0), .int x, .ref (gA G 27)]) (rest := []) S g hM q468 q469 q0 q470 ⟨by decide +kernel, by decide +kernel, by decide +kernel⟩ rfl hR hl.1 (Nat.le_of_ble_eq_true rfl) rfl hcs dL_law_792 (fun H locs g => ?_)
  refine lv_istore (lv' := [(5, .int K), (0, .ref b), (1, .ref (gA G 0)), (2, .ref (gA G 21)), (3, .ref (gA G 27)), (4, .int (nI i))]) hx hb dL_law_795 hl (by decide) rfl (fun ls hl => ?_)
  refine lv_aload_n hx hb dL_law_797 rfl (lv_at hl 3 rfl) ?_
  refine lv_aload_n hx hb dL_law_798 rfl (lv_at hl 1 rfl) ?_
  refine lv_iload hx hb dL_law_799 (lv_at hl 5 rfl) ?_
  refine lv_iconst (v := 1) hx hb dL_law_801 (by decide) ?_
  refine lv_iadd hx hb dL_law_802 ?_
  refine g_scr (j := i + 1) S g hX hbl hbA (nI_add i 1) (by omega) hL e1 dL_law_803 ?_
  refine g_ci (rest := []) g (g_V (n := 1) (As := [.int x]) S g hN (by decide) (cEm G _ _) rfl (lw_V q698 q699 q700 q4 q701) ⟨rfl, by decide +kernel, by decide +kernel, by decide +kernel⟩ rfl hR2 hl.1 (Nat.le_of_ble_eq_true rfl) rfl ⟨hcs.1, hcs.2⟩ dL_law_804) (fun H locs g => ?_)
  refine lv_istore (lv' := [(6, .int bv), (5, .int K), (0, .ref b), (1, .ref (gA G 0)), (2, .ref (gA G 21)), (3, .ref (gA G 27)), (4, .int (nI i))]) hx hb dL_law_807 hl (by decide) rfl (fun ls hl => ?_)
  refine lv_aload_n hx hb dL_law_809 rfl (lv_at hl 4 rfl) ?_
  refine g_ci (rest := []) g (g_V (n := 0) (As := []) S g (m_thrown l G F2 o1) (by decide) (cEm G _ _) rfl (lw_V q571 q572 q573 q4 q574) ⟨rfl, by decide +kernel, by decide +kernel, by decide +kernel⟩ rfl ⟨Nat.le_of_ble_eq_true rfl, Nat.le_of_ble_eq_true rfl⟩ hl.1 (Nat.le_of_ble_eq_true rfl) rfl ⟨hcs.1, hcs.2⟩ dL_law_810) (fun H locs g => ?_)
  refine lv_iload hx hb dL_law_813 (lv_at hl 1 rfl) ?_
  refine lv_icmp_eq (tgt := 820) hx hb dL_law_815 (by decide) (fun _ => ?_) (fun c9 => absurd hK c9)
  refine lv_iload hx hb dL_law_820 (lv_at hl 1 rfl) ?_
  refine lv_if_ne (tgt := 837) hx hb dL_law_822 (by decide) (fun _ => ?_) (fun hk0 => ?_)
  · refine lv_goto (tgt := 1529) hx hb dL_law_837 (by decide) ?_
    exact kk _ _ _ g (lv_sub hl [2, 3, 4, 5, 6] rfl)
  refine lv_aload_n hx hb dL_law_825 rfl (lv_at hl 5 rfl) ?_
  refine lv_iconst (v := 0) hx hb dL_law_826 (by decide) ?_
  refine g_lald S g dL_law_827 ?_
  refine lv_iload hx hb dL_law_828 (lv_at hl 0 rfl) ?_
  refine lv_i2l (v := bv.toInt64) hx hb dL_law_830 rfl ?_
  refine W.lcmp hx hb dL_law_831 ?_
  refine lv_if_eq (tgt := 837) hx hb dL_law_832 (by decide) (fun _ => ?_) (fun c9 => absurd (lg_same (hv hk0)) c9)
  refine lv_goto (tgt := 1529) hx hb dL_law_837 (by decide) ?_
  exact kk _ _ _ g (lv_sub hl [2, 3, 4, 5, 6] rfl)
set_option maxHeartbeats 4000000 in
set_option maxRecDepth 100000 in
theorem seg_15 {p : Program} {l : Launch} {e : Env} {s : State} {m : MethodId} {args : Array Value} {below : List Frame} {meth : Method} {c : Code} {H : Heap} {locs : List Loc} {cells slots : Nat} {Q : State → Prop} {ls : Array Slot} {G : gT} {F F1 F2 : Fs} {o : Int64} {b L i : Nat} {xs : Nat → Int32} {x bv K : Int32} {o1 : Int64} {f k cs ss f2 k2 : Nat} (S : CallFix p m c cL_law 9 s args lw_all "ShadowPoolLaw") (hX : va_X b L xs s s.heap) (hbl : b < s.heap.size) (hbA : ¬ GA G s.heap.size b) (hL : L ≤ 2048) (hiL : i + 4 ≤ L) (e1 : xs (i + 1) = x) (g : GB G F o [] [] s H locs) (hl : lv_has ls 9 (lwL G b i)) (hM : MH l yL_wobbleOf cL_wobbleOf 4 [((0 : Nat), (9 : Nat), (12 : Nat), (21 : Nat))] f k cs ss [.ref (gA G 0), .int x, .ref (gA G 27)] G F o F1 o1 K) (hR : f + 1 ≤ room_1.frames ∧ 8 + (4 + 11) + k ≤ room_1.locals) (hcs : cells + cs ≤ room_1.cells ∧ slots + ss ≤ room_1.slots) (hN : MI l yX3_wobbleOf cX3_wobbleOf 2 (some .int) f2 k2 [.ref (gA G 21), .int x] G F1 o1 F2 bv) (hR2 : f2 + 1 ≤ room_1.frames ∧ 8 + (2 + 11) + k2 ≤ room_1.locals) (hK : F2 21 0 = K) (hv : K = 0 → o1 = bv.toInt64) (kk : ∀ (H : Heap) (locs : List Loc) (ls : Array Slot), GB G F2 o1 [] [] s H locs → lv_has ls 9 (lwL G b i) → W p l e room_1 s m args below meth c H locs (cells + cs) (slots + ss) Q (F0 m 1529 ls [])) : W p l e room_1 s m args below meth c H locs cells slots Q (F0 m 840 ls []) := by
  have hx := S.1
  have hb := S.2.1
  refine lv_aload_n hx hb dL_law_840 rfl (lv_at hl 1 rfl) ?_
  refine lv_aload_n hx hb dL_law_841 rfl (lv_at hl 0 rfl) ?_
  refine lv_iload hx hb dL_law_842 (lv_at hl 4 rfl) ?_
  refine lv_iconst (v := 1) hx hb dL_law_844 (by decide) ?_
  refine lv_iadd hx hb dL_law_845 ?_
  refine g_scr (j := i + 1) S g hX hbl hbA (nI_add i 1) (by omega) hL e1 dL_law_846 ?_
  refine lv_aload_n hx hb dL_law_847 rfl (lv_at hl 3 rfl) ?_
  refine g_SH (n := 3) (As := [.ref (gA G 0), .int x, .ref (gA G 27)]) (rest := []) S g hM q475 q476 q0 q477 ⟨by decide +kernel, by decide +kernel, by decide +kernel⟩ rfl hR hl.1 (Nat.le_of_ble_eq_true rfl) rfl hcs dL_law_848 (fun H locs g => ?_)
  refine lv_istore (lv' := [(5, .int K), (0, .ref b), (1, .ref (gA G 0)), (2, .ref (gA G 21)), (3, .ref (gA G 27)), (4, .int (nI i))]) hx hb dL_law_851 hl (by decide) rfl (fun ls hl => ?_)
  refine lv_aload_n hx hb dL_law_853 rfl (lv_at hl 3 rfl) ?_
  refine lv_aload_n hx hb dL_law_854 rfl (lv_at hl 1 rfl) ?_
  refine lv_iload hx hb dL_law_855 (lv_at hl 5 rfl) ?_
  refine lv_iconst (v := 1) hx hb dL_law_857 (by decide) ?_
  refine lv_iadd hx hb dL_law_858 ?_
  refine g_scr (j := i + 1) S g hX hbl hbA (nI_add i 1) (by omega) hL e1 dL_law_859 ?_
  refine g_ci (rest := []) g (g_V (n := 1) (As := [.int x]) S g hN (by decide) (cEm G _ _) rfl (lw_V q706 q707 q708 q4 q709) ⟨rfl, by decide +kernel, by decide +kernel, by decide +kernel⟩ rfl hR2 hl.1 (Nat.le_of_ble_eq_true rfl) rfl ⟨hcs.1, hcs.2⟩ dL_law_860) (fun H locs g => ?_)
  refine lv_istore (lv' := [(6, .int bv), (5, .int K), (0, .ref b), (1, .ref (gA G 0)), (2, .ref (gA G 21)), (3, .ref (gA G 27)), (4, .int (nI i))]) hx hb dL_law_863 hl (by decide) rfl (fun ls hl => ?_)
  refine lv_aload_n hx hb dL_law_865 rfl (lv_at hl 4 rfl) ?_
  refine g_ci (rest := []) g (g_V (n := 0) (As := []) S g (m_thrown l G F2 o1) (by decide) (cEm G _ _) rfl (lw_V q571 q572 q573 q4 q574) ⟨rfl, by decide +kernel, by decide +kernel, by decide +kernel⟩ rfl ⟨Nat.le_of_ble_eq_true rfl, Nat.le_of_ble_eq_true rfl⟩ hl.1 (Nat.le_of_ble_eq_true rfl) rfl ⟨hcs.1, hcs.2⟩ dL_law_866) (fun H locs g => ?_)
  refine lv_iload hx hb dL_law_869 (lv_at hl 1 rfl) ?_
  refine lv_icmp_eq (tgt := 876) hx hb dL_law_871 (by decide) (fun _ => ?_) (fun c9 => absurd hK c9)
  refine lv_iload hx hb dL_law_876 (lv_at hl 1 rfl) ?_
  refine lv_if_ne (tgt := 893) hx hb dL_law_878 (by decide) (fun _ => ?_) (fun hk0 => ?_)
  · refine lv_goto (tgt := 1529) hx hb dL_law_893 (by decide) ?_
    exact kk _ _ _ g (lv_sub hl [2, 3, 4, 5, 6] rfl)
  refine lv_aload_n hx hb dL_law_881 rfl (lv_at hl 5 rfl) ?_
  refine lv_iconst (v := 0) hx hb dL_law_882 (by decide) ?_
  refine g_lald S g dL_law_883 ?_
  refine lv_iload hx hb dL_law_884 (lv_at hl 0 rfl) ?_
  refine lv_i2l (v := bv.toInt64) hx hb dL_law_886 rfl ?_
  refine W.lcmp hx hb dL_law_887 ?_
  refine lv_if_eq (tgt := 893) hx hb dL_law_888 (by decide) (fun _ => ?_) (fun c9 => absurd (lg_same (hv hk0)) c9)
  refine lv_goto (tgt := 1529) hx hb dL_law_893 (by decide) ?_
  exact kk _ _ _ g (lv_sub hl [2, 3, 4, 5, 6] rfl)
set_option maxHeartbeats 4000000 in
set_option maxRecDepth 100000 in
theorem seg_16 {p : Program} {l : Launch} {e : Env} {s : State} {m : MethodId} {args : Array Value} {below : List Frame} {meth : Method} {c : Code} {H : Heap} {locs : List Loc} {cells slots : Nat} {Q : State → Prop} {ls : Array Slot} {G : gT} {F F1 F2 : Fs} {o : Int64} {b L i : Nat} {xs : Nat → Int32} {x bv K : Int32} {o1 : Int64} {f k cs ss f2 k2 : Nat} (S : CallFix p m c cL_law 9 s args lw_all "ShadowPoolLaw") (hX : va_X b L xs s s.heap) (hbl : b < s.heap.size) (hbA : ¬ GA G s.heap.size b) (hL : L ≤ 2048) (hiL : i + 4 ≤ L) (e1 : xs (i + 1) = x) (g : GB G F o [] [] s H locs) (hl : lv_has ls 9 (lwL G b i)) (hM : MH l yL_fallsOf cL_fallsOf 4 [((0 : Nat), (9 : Nat), (12 : Nat), (21 : Nat))] f k cs ss [.ref (gA G 0), .int x, .ref (gA G 27)] G F o F1 o1 K) (hR : f + 1 ≤ room_1.frames ∧ 8 + (4 + 11) + k ≤ room_1.locals) (hcs : cells + cs ≤ room_1.cells ∧ slots + ss ≤ room_1.slots) (hN : MI l yX3_fallsOf cX3_fallsOf 2 (some .int) f2 k2 [.ref (gA G 21), .int x] G F1 o1 F2 bv) (hR2 : f2 + 1 ≤ room_1.frames ∧ 8 + (2 + 11) + k2 ≤ room_1.locals) (hK : F2 21 0 = K) (hv : K = 0 → o1 = bv.toInt64) (kk : ∀ (H : Heap) (locs : List Loc) (ls : Array Slot), GB G F2 o1 [] [] s H locs → lv_has ls 9 (lwL G b i) → W p l e room_1 s m args below meth c H locs (cells + cs) (slots + ss) Q (F0 m 1529 ls [])) : W p l e room_1 s m args below meth c H locs cells slots Q (F0 m 896 ls []) := by
  have hx := S.1
  have hb := S.2.1
  refine lv_aload_n hx hb dL_law_896 rfl (lv_at hl 1 rfl) ?_
  refine lv_aload_n hx hb dL_law_897 rfl (lv_at hl 0 rfl) ?_
  refine lv_iload hx hb dL_law_898 (lv_at hl 4 rfl) ?_
  refine lv_iconst (v := 1) hx hb dL_law_900 (by decide) ?_
  refine lv_iadd hx hb dL_law_901 ?_
  refine g_scr (j := i + 1) S g hX hbl hbA (nI_add i 1) (by omega) hL e1 dL_law_902 ?_
  refine lv_aload_n hx hb dL_law_903 rfl (lv_at hl 3 rfl) ?_
  refine g_SH (n := 3) (As := [.ref (gA G 0), .int x, .ref (gA G 27)]) (rest := []) S g hM q482 q483 q0 q484 ⟨by decide +kernel, by decide +kernel, by decide +kernel⟩ rfl hR hl.1 (Nat.le_of_ble_eq_true rfl) rfl hcs dL_law_904 (fun H locs g => ?_)
  refine lv_istore (lv' := [(5, .int K), (0, .ref b), (1, .ref (gA G 0)), (2, .ref (gA G 21)), (3, .ref (gA G 27)), (4, .int (nI i))]) hx hb dL_law_907 hl (by decide) rfl (fun ls hl => ?_)
  refine lv_aload_n hx hb dL_law_909 rfl (lv_at hl 3 rfl) ?_
  refine lv_aload_n hx hb dL_law_910 rfl (lv_at hl 1 rfl) ?_
  refine lv_iload hx hb dL_law_911 (lv_at hl 5 rfl) ?_
  refine lv_iconst (v := 1) hx hb dL_law_913 (by decide) ?_
  refine lv_iadd hx hb dL_law_914 ?_
  refine g_scr (j := i + 1) S g hX hbl hbA (nI_add i 1) (by omega) hL e1 dL_law_915 ?_
  refine g_ci (rest := []) g (g_V (n := 1) (As := [.int x]) S g hN (by decide) (cEm G _ _) rfl (lw_V q710 q711 q712 q4 q713) ⟨rfl, by decide +kernel, by decide +kernel, by decide +kernel⟩ rfl hR2 hl.1 (Nat.le_of_ble_eq_true rfl) rfl ⟨hcs.1, hcs.2⟩ dL_law_916) (fun H locs g => ?_)
  refine lv_istore (lv' := [(6, .int bv), (5, .int K), (0, .ref b), (1, .ref (gA G 0)), (2, .ref (gA G 21)), (3, .ref (gA G 27)), (4, .int (nI i))]) hx hb dL_law_919 hl (by decide) rfl (fun ls hl => ?_)
  refine lv_aload_n hx hb dL_law_921 rfl (lv_at hl 4 rfl) ?_
  refine g_ci (rest := []) g (g_V (n := 0) (As := []) S g (m_thrown l G F2 o1) (by decide) (cEm G _ _) rfl (lw_V q571 q572 q573 q4 q574) ⟨rfl, by decide +kernel, by decide +kernel, by decide +kernel⟩ rfl ⟨Nat.le_of_ble_eq_true rfl, Nat.le_of_ble_eq_true rfl⟩ hl.1 (Nat.le_of_ble_eq_true rfl) rfl ⟨hcs.1, hcs.2⟩ dL_law_922) (fun H locs g => ?_)
  refine lv_iload hx hb dL_law_925 (lv_at hl 1 rfl) ?_
  refine lv_icmp_eq (tgt := 932) hx hb dL_law_927 (by decide) (fun _ => ?_) (fun c9 => absurd hK c9)
  refine lv_iload hx hb dL_law_932 (lv_at hl 1 rfl) ?_
  refine lv_if_ne (tgt := 949) hx hb dL_law_934 (by decide) (fun _ => ?_) (fun hk0 => ?_)
  · refine lv_goto (tgt := 1529) hx hb dL_law_949 (by decide) ?_
    exact kk _ _ _ g (lv_sub hl [2, 3, 4, 5, 6] rfl)
  refine lv_aload_n hx hb dL_law_937 rfl (lv_at hl 5 rfl) ?_
  refine lv_iconst (v := 0) hx hb dL_law_938 (by decide) ?_
  refine g_lald S g dL_law_939 ?_
  refine lv_iload hx hb dL_law_940 (lv_at hl 0 rfl) ?_
  refine lv_i2l (v := bv.toInt64) hx hb dL_law_942 rfl ?_
  refine W.lcmp hx hb dL_law_943 ?_
  refine lv_if_eq (tgt := 949) hx hb dL_law_944 (by decide) (fun _ => ?_) (fun c9 => absurd (lg_same (hv hk0)) c9)
  refine lv_goto (tgt := 1529) hx hb dL_law_949 (by decide) ?_
  exact kk _ _ _ g (lv_sub hl [2, 3, 4, 5, 6] rfl)
set_option maxHeartbeats 4000000 in
set_option maxRecDepth 100000 in
theorem seg_17 {p : Program} {l : Launch} {e : Env} {s : State} {m : MethodId} {args : Array Value} {below : List Frame} {meth : Method} {c : Code} {H : Heap} {locs : List Loc} {cells slots : Nat} {Q : State → Prop} {ls : Array Slot} {G : gT} {F F1 F2 : Fs} {o : Int64} {b L i : Nat} {xs : Nat → Int32} {x bv K : Int32} {o1 : Int64} {f k cs ss f2 k2 : Nat} (S : CallFix p m c cL_law 9 s args lw_all "ShadowPoolLaw") (hX : va_X b L xs s s.heap) (hbl : b < s.heap.size) (hbA : ¬ GA G s.heap.size b) (hL : L ≤ 2048) (hiL : i + 4 ≤ L) (e1 : xs (i + 1) = x) (g : GB G F o [] [] s H locs) (hl : lv_has ls 9 (lwL G b i)) (hM : MH l yL_shadowOf cL_shadowOf 4 [((0 : Nat), (9 : Nat), (12 : Nat), (21 : Nat))] f k cs ss [.ref (gA G 0), .int x, .ref (gA G 27)] G F o F1 o1 K) (hR : f + 1 ≤ room_1.frames ∧ 8 + (4 + 11) + k ≤ room_1.locals) (hcs : cells + cs ≤ room_1.cells ∧ slots + ss ≤ room_1.slots) (hN : MI l yX3_shadowOf cX3_shadowOf 2 (some .int) f2 k2 [.ref (gA G 21), .int x] G F1 o1 F2 bv) (hR2 : f2 + 1 ≤ room_1.frames ∧ 8 + (2 + 11) + k2 ≤ room_1.locals) (hK : F2 21 0 = K) (hv : K = 0 → o1 = bv.toInt64) (kk : ∀ (H : Heap) (locs : List Loc) (ls : Array Slot), GB G F2 o1 [] [] s H locs → lv_has ls 9 (lwL G b i) → W p l e room_1 s m args below meth c H locs (cells + cs) (slots + ss) Q (F0 m 1529 ls [])) : W p l e room_1 s m args below meth c H locs cells slots Q (F0 m 952 ls []) := by
  have hx := S.1
  have hb := S.2.1
  refine lv_aload_n hx hb dL_law_952 rfl (lv_at hl 1 rfl) ?_
  refine lv_aload_n hx hb dL_law_953 rfl (lv_at hl 0 rfl) ?_
  refine lv_iload hx hb dL_law_954 (lv_at hl 4 rfl) ?_
  refine lv_iconst (v := 1) hx hb dL_law_956 (by decide) ?_
  refine lv_iadd hx hb dL_law_957 ?_
  refine g_scr (j := i + 1) S g hX hbl hbA (nI_add i 1) (by omega) hL e1 dL_law_958 ?_
  refine lv_aload_n hx hb dL_law_959 rfl (lv_at hl 3 rfl) ?_
  refine g_SH (n := 3) (As := [.ref (gA G 0), .int x, .ref (gA G 27)]) (rest := []) S g hM q489 q490 q0 q491 ⟨by decide +kernel, by decide +kernel, by decide +kernel⟩ rfl hR hl.1 (Nat.le_of_ble_eq_true rfl) rfl hcs dL_law_960 (fun H locs g => ?_)
  refine lv_istore (lv' := [(5, .int K), (0, .ref b), (1, .ref (gA G 0)), (2, .ref (gA G 21)), (3, .ref (gA G 27)), (4, .int (nI i))]) hx hb dL_law_963 hl (by decide) rfl (fun ls hl => ?_)
  refine lv_aload_n hx hb dL_law_965 rfl (lv_at hl 3 rfl) ?_
  refine lv_aload_n hx hb dL_law_966 rfl (lv_at hl 1 rfl) ?_
  refine lv_iload hx hb dL_law_967 (lv_at hl 5 rfl) ?_
  refine lv_iconst (v := 1) hx hb dL_law_969 (by decide) ?_
  refine lv_iadd hx hb dL_law_970 ?_
  refine g_scr (j := i + 1) S g hX hbl hbA (nI_add i 1) (by omega) hL e1 dL_law_971 ?_
  refine g_ci (rest := []) g (g_V (n := 1) (As := [.int x]) S g hN (by decide) (cEm G _ _) rfl (lw_V q714 q715 q716 q4 q717) ⟨rfl, by decide +kernel, by decide +kernel, by decide +kernel⟩ rfl hR2 hl.1 (Nat.le_of_ble_eq_true rfl) rfl ⟨hcs.1, hcs.2⟩ dL_law_972) (fun H locs g => ?_)
  refine lv_istore (lv' := [(6, .int bv), (5, .int K), (0, .ref b), (1, .ref (gA G 0)), (2, .ref (gA G 21)), (3, .ref (gA G 27)), (4, .int (nI i))]) hx hb dL_law_975 hl (by decide) rfl (fun ls hl => ?_)
  refine lv_aload_n hx hb dL_law_977 rfl (lv_at hl 4 rfl) ?_
  refine g_ci (rest := []) g (g_V (n := 0) (As := []) S g (m_thrown l G F2 o1) (by decide) (cEm G _ _) rfl (lw_V q571 q572 q573 q4 q574) ⟨rfl, by decide +kernel, by decide +kernel, by decide +kernel⟩ rfl ⟨Nat.le_of_ble_eq_true rfl, Nat.le_of_ble_eq_true rfl⟩ hl.1 (Nat.le_of_ble_eq_true rfl) rfl ⟨hcs.1, hcs.2⟩ dL_law_978) (fun H locs g => ?_)
  refine lv_iload hx hb dL_law_981 (lv_at hl 1 rfl) ?_
  refine lv_icmp_eq (tgt := 988) hx hb dL_law_983 (by decide) (fun _ => ?_) (fun c9 => absurd hK c9)
  refine lv_iload hx hb dL_law_988 (lv_at hl 1 rfl) ?_
  refine lv_if_ne (tgt := 1005) hx hb dL_law_990 (by decide) (fun _ => ?_) (fun hk0 => ?_)
  · refine lv_goto (tgt := 1529) hx hb dL_law_1005 (by decide) ?_
    exact kk _ _ _ g (lv_sub hl [2, 3, 4, 5, 6] rfl)
  refine lv_aload_n hx hb dL_law_993 rfl (lv_at hl 5 rfl) ?_
  refine lv_iconst (v := 0) hx hb dL_law_994 (by decide) ?_
  refine g_lald S g dL_law_995 ?_
  refine lv_iload hx hb dL_law_996 (lv_at hl 0 rfl) ?_
  refine lv_i2l (v := bv.toInt64) hx hb dL_law_998 rfl ?_
  refine W.lcmp hx hb dL_law_999 ?_
  refine lv_if_eq (tgt := 1005) hx hb dL_law_1000 (by decide) (fun _ => ?_) (fun c9 => absurd (lg_same (hv hk0)) c9)
  refine lv_goto (tgt := 1529) hx hb dL_law_1005 (by decide) ?_
  exact kk _ _ _ g (lv_sub hl [2, 3, 4, 5, 6] rfl)
set_option maxHeartbeats 4000000 in
set_option maxRecDepth 100000 in
theorem seg_18 {p : Program} {l : Launch} {e : Env} {s : State} {m : MethodId} {args : Array Value} {below : List Frame} {meth : Method} {c : Code} {H : Heap} {locs : List Loc} {cells slots : Nat} {Q : State → Prop} {ls : Array Slot} {G : gT} {F F1 F2 : Fs} {o : Int64} {b L i : Nat} {xs : Nat → Int32} {v : Int32} {f k f2 k2 : Nat} (S : CallFix p m c cL_law 9 s args lw_all "ShadowPoolLaw") (g : GB G F o [] [] s H locs) (hl : lv_has ls 9 (lwL G b i)) (hM : MI l yX2_longestShadow cX2_longestShadow 6 (some .int) f k [.ref (gA G 0)] G F o F1 v) (hR : f + 1 ≤ room_1.frames ∧ 8 + (6 + 11) + k ≤ room_1.locals) (hcs : cells ≤ room_1.cells ∧ slots ≤ room_1.slots) (hN : MI l yX3_longestShadow cX3_longestShadow 3 (some .int) f2 k2 [.ref (gA G 21)] G F1 o F2 v) (hR2 : f2 + 1 ≤ room_1.frames ∧ 8 + (3 + 11) + k2 ≤ room_1.locals) (kk : ∀ (H : Heap) (locs : List Loc) (ls : Array Slot), GB G F2 o [] [] s H locs → lv_has ls 9 (lwL G b i) → W p l e room_1 s m args below meth c H locs cells slots Q (F0 m 1529 ls [])) : W p l e room_1 s m args below meth c H locs cells slots Q (F0 m 1008 ls []) := by
  have hx := S.1
  have hb := S.2.1
  refine lv_aload_n hx hb dL_law_1008 rfl (lv_at hl 1 rfl) ?_
  refine g_ci (rest := []) g (g_V (n := 0) (As := []) S g hM (by decide) (cE0 G _ _) rfl (lw_V q142 q143 q144 q1 q145) ⟨rfl, by decide +kernel, by decide +kernel, by decide +kernel⟩ rfl hR hl.1 (Nat.le_of_ble_eq_true rfl) rfl hcs dL_law_1009) (fun H locs g => ?_)
  refine lv_aload_n hx hb dL_law_1012 rfl (lv_at hl 2 rfl) ?_
  refine g_ci (rest := [.int v]) g (g_V (n := 0) (As := []) S g hN (by decide) (cEm G _ _) rfl (lw_V q718 q719 q720 q4 q721) ⟨rfl, by decide +kernel, by decide +kernel, by decide +kernel⟩ rfl hR2 hl.1 (Nat.le_of_ble_eq_true rfl) rfl hcs dL_law_1013) (fun H locs g => ?_)
  refine lv_icmp_eq (tgt := 1529) hx hb dL_law_1016 (by decide) (fun _ => ?_) (fun c9 => absurd rfl c9)
  exact kk _ _ _ g (lv_sub hl [0, 1, 2, 3, 4] rfl)
set_option maxHeartbeats 4000000 in
set_option maxRecDepth 100000 in
theorem seg_19 {p : Program} {l : Launch} {e : Env} {s : State} {m : MethodId} {args : Array Value} {below : List Frame} {meth : Method} {c : Code} {H : Heap} {locs : List Loc} {cells slots : Nat} {Q : State → Prop} {ls : Array Slot} {G : gT} {F F1 F2 : Fs} {o : Int64} {b L i : Nat} {xs : Nat → Int32} {x bv K : Int32} {o1 : Int64} {f k cs ss f2 k2 : Nat} (S : CallFix p m c cL_law 9 s args lw_all "ShadowPoolLaw") (hX : va_X b L xs s s.heap) (hbl : b < s.heap.size) (hbA : ¬ GA G s.heap.size b) (hL : L ≤ 2048) (hiL : i + 4 ≤ L) (e1 : xs (i + 1) = x) (g : GB G F o [] [] s H locs) (hl : lv_has ls 9 (lwL G b i)) (hM : MH l yL_costOf cL_costOf 4 [((0 : Nat), (9 : Nat), (12 : Nat), (21 : Nat))] f k cs ss [.ref (gA G 0), .int x, .ref (gA G 27)] G F o F1 o1 K) (hR : f + 1 ≤ room_1.frames ∧ 8 + (4 + 11) + k ≤ room_1.locals) (hcs : cells + cs ≤ room_1.cells ∧ slots + ss ≤ room_1.slots) (hN : MI l yX3_costOf cX3_costOf 2 (some .int) f2 k2 [.ref (gA G 21), .int x] G F1 o1 F2 bv) (hR2 : f2 + 1 ≤ room_1.frames ∧ 8 + (2 + 11) + k2 ≤ room_1.locals) (hK : F2 21 0 = K) (hv : K = 0 → o1 = bv.toInt64) (kk : ∀ (H : Heap) (locs : List Loc) (ls : Array Slot), GB G F2 o1 [] [] s H locs → lv_has ls 9 (lwL G b i) → W p l e room_1 s m args below meth c H locs (cells + cs) (slots + ss) Q (F0 m 1529 ls [])) : W p l e room_1 s m args below meth c H locs cells slots Q (F0 m 1021 ls []) := by
  have hx := S.1
  have hb := S.2.1
  refine lv_aload_n hx hb dL_law_1021 rfl (lv_at hl 1 rfl) ?_
  refine lv_aload_n hx hb dL_law_1022 rfl (lv_at hl 0 rfl) ?_
  refine lv_iload hx hb dL_law_1023 (lv_at hl 4 rfl) ?_
  refine lv_iconst (v := 1) hx hb dL_law_1025 (by decide) ?_
  refine lv_iadd hx hb dL_law_1026 ?_
  refine g_scr (j := i + 1) S g hX hbl hbA (nI_add i 1) (by omega) hL e1 dL_law_1027 ?_
  refine lv_aload_n hx hb dL_law_1028 rfl (lv_at hl 3 rfl) ?_
  refine g_SH (n := 3) (As := [.ref (gA G 0), .int x, .ref (gA G 27)]) (rest := []) S g hM q496 q497 q0 q498 ⟨by decide +kernel, by decide +kernel, by decide +kernel⟩ rfl hR hl.1 (Nat.le_of_ble_eq_true rfl) rfl hcs dL_law_1029 (fun H locs g => ?_)
  refine lv_istore (lv' := [(5, .int K), (0, .ref b), (1, .ref (gA G 0)), (2, .ref (gA G 21)), (3, .ref (gA G 27)), (4, .int (nI i))]) hx hb dL_law_1032 hl (by decide) rfl (fun ls hl => ?_)
  refine lv_aload_n hx hb dL_law_1034 rfl (lv_at hl 3 rfl) ?_
  refine lv_aload_n hx hb dL_law_1035 rfl (lv_at hl 1 rfl) ?_
  refine lv_iload hx hb dL_law_1036 (lv_at hl 5 rfl) ?_
  refine lv_iconst (v := 1) hx hb dL_law_1038 (by decide) ?_
  refine lv_iadd hx hb dL_law_1039 ?_
  refine g_scr (j := i + 1) S g hX hbl hbA (nI_add i 1) (by omega) hL e1 dL_law_1040 ?_
  refine g_ci (rest := []) g (g_V (n := 1) (As := [.int x]) S g hN (by decide) (cEm G _ _) rfl (lw_V q722 q723 q724 q4 q725) ⟨rfl, by decide +kernel, by decide +kernel, by decide +kernel⟩ rfl hR2 hl.1 (Nat.le_of_ble_eq_true rfl) rfl ⟨hcs.1, hcs.2⟩ dL_law_1041) (fun H locs g => ?_)
  refine lv_istore (lv' := [(6, .int bv), (5, .int K), (0, .ref b), (1, .ref (gA G 0)), (2, .ref (gA G 21)), (3, .ref (gA G 27)), (4, .int (nI i))]) hx hb dL_law_1044 hl (by decide) rfl (fun ls hl => ?_)
  refine lv_aload_n hx hb dL_law_1046 rfl (lv_at hl 4 rfl) ?_
  refine g_ci (rest := []) g (g_V (n := 0) (As := []) S g (m_thrown l G F2 o1) (by decide) (cEm G _ _) rfl (lw_V q571 q572 q573 q4 q574) ⟨rfl, by decide +kernel, by decide +kernel, by decide +kernel⟩ rfl ⟨Nat.le_of_ble_eq_true rfl, Nat.le_of_ble_eq_true rfl⟩ hl.1 (Nat.le_of_ble_eq_true rfl) rfl ⟨hcs.1, hcs.2⟩ dL_law_1047) (fun H locs g => ?_)
  refine lv_iload hx hb dL_law_1050 (lv_at hl 1 rfl) ?_
  refine lv_icmp_eq (tgt := 1057) hx hb dL_law_1052 (by decide) (fun _ => ?_) (fun c9 => absurd hK c9)
  refine lv_iload hx hb dL_law_1057 (lv_at hl 1 rfl) ?_
  refine lv_if_ne (tgt := 1074) hx hb dL_law_1059 (by decide) (fun _ => ?_) (fun hk0 => ?_)
  · refine lv_goto (tgt := 1529) hx hb dL_law_1074 (by decide) ?_
    exact kk _ _ _ g (lv_sub hl [2, 3, 4, 5, 6] rfl)
  refine lv_aload_n hx hb dL_law_1062 rfl (lv_at hl 5 rfl) ?_
  refine lv_iconst (v := 0) hx hb dL_law_1063 (by decide) ?_
  refine g_lald S g dL_law_1064 ?_
  refine lv_iload hx hb dL_law_1065 (lv_at hl 0 rfl) ?_
  refine lv_i2l (v := bv.toInt64) hx hb dL_law_1067 rfl ?_
  refine W.lcmp hx hb dL_law_1068 ?_
  refine lv_if_eq (tgt := 1074) hx hb dL_law_1069 (by decide) (fun _ => ?_) (fun c9 => absurd (lg_same (hv hk0)) c9)
  refine lv_goto (tgt := 1529) hx hb dL_law_1074 (by decide) ?_
  exact kk _ _ _ g (lv_sub hl [2, 3, 4, 5, 6] rfl)
set_option maxHeartbeats 4000000 in
set_option maxRecDepth 100000 in
theorem seg_20 {p : Program} {l : Launch} {e : Env} {s : State} {m : MethodId} {args : Array Value} {below : List Frame} {meth : Method} {c : Code} {H : Heap} {locs : List Loc} {cells slots : Nat} {Q : State → Prop} {ls : Array Slot} {G : gT} {F F1 F2 : Fs} {o : Int64} {b L i : Nat} {xs : Nat → Int32} {x bv K : Int32} {o1 : Int64} {f k cs ss f2 k2 : Nat} (S : CallFix p m c cL_law 9 s args lw_all "ShadowPoolLaw") (hX : va_X b L xs s s.heap) (hbl : b < s.heap.size) (hbA : ¬ GA G s.heap.size b) (hL : L ≤ 2048) (hiL : i + 4 ≤ L) (e1 : xs (i + 1) = x) (g : GB G F o [] [] s H locs) (hl : lv_has ls 9 (lwL G b i)) (hM : MH l yL_ownPartOf cL_ownPartOf 4 [((0 : Nat), (9 : Nat), (12 : Nat), (21 : Nat))] f k cs ss [.ref (gA G 0), .int x, .ref (gA G 27)] G F o F1 o1 K) (hR : f + 1 ≤ room_1.frames ∧ 8 + (4 + 11) + k ≤ room_1.locals) (hcs : cells + cs ≤ room_1.cells ∧ slots + ss ≤ room_1.slots) (hN : MI l yX3_ownPartOf cX3_ownPartOf 2 (some .int) f2 k2 [.ref (gA G 21), .int x] G F1 o1 F2 bv) (hR2 : f2 + 1 ≤ room_1.frames ∧ 8 + (2 + 11) + k2 ≤ room_1.locals) (hK : F2 21 0 = K) (hv : K = 0 → o1 = bv.toInt64) (kk : ∀ (H : Heap) (locs : List Loc) (ls : Array Slot), GB G F2 o1 [] [] s H locs → lv_has ls 9 (lwL G b i) → W p l e room_1 s m args below meth c H locs (cells + cs) (slots + ss) Q (F0 m 1529 ls [])) : W p l e room_1 s m args below meth c H locs cells slots Q (F0 m 1077 ls []) := by
  have hx := S.1
  have hb := S.2.1
  refine lv_aload_n hx hb dL_law_1077 rfl (lv_at hl 1 rfl) ?_
  refine lv_aload_n hx hb dL_law_1078 rfl (lv_at hl 0 rfl) ?_
  refine lv_iload hx hb dL_law_1079 (lv_at hl 4 rfl) ?_
  refine lv_iconst (v := 1) hx hb dL_law_1081 (by decide) ?_
  refine lv_iadd hx hb dL_law_1082 ?_
  refine g_scr (j := i + 1) S g hX hbl hbA (nI_add i 1) (by omega) hL e1 dL_law_1083 ?_
  refine lv_aload_n hx hb dL_law_1084 rfl (lv_at hl 3 rfl) ?_
  refine g_SH (n := 3) (As := [.ref (gA G 0), .int x, .ref (gA G 27)]) (rest := []) S g hM q503 q504 q0 q505 ⟨by decide +kernel, by decide +kernel, by decide +kernel⟩ rfl hR hl.1 (Nat.le_of_ble_eq_true rfl) rfl hcs dL_law_1085 (fun H locs g => ?_)
  refine lv_istore (lv' := [(5, .int K), (0, .ref b), (1, .ref (gA G 0)), (2, .ref (gA G 21)), (3, .ref (gA G 27)), (4, .int (nI i))]) hx hb dL_law_1088 hl (by decide) rfl (fun ls hl => ?_)
  refine lv_aload_n hx hb dL_law_1090 rfl (lv_at hl 3 rfl) ?_
  refine lv_aload_n hx hb dL_law_1091 rfl (lv_at hl 1 rfl) ?_
  refine lv_iload hx hb dL_law_1092 (lv_at hl 5 rfl) ?_
  refine lv_iconst (v := 1) hx hb dL_law_1094 (by decide) ?_
  refine lv_iadd hx hb dL_law_1095 ?_
  refine g_scr (j := i + 1) S g hX hbl hbA (nI_add i 1) (by omega) hL e1 dL_law_1096 ?_
  refine g_ci (rest := []) g (g_V (n := 1) (As := [.int x]) S g hN (by decide) (cEm G _ _) rfl (lw_V q726 q727 q728 q4 q729) ⟨rfl, by decide +kernel, by decide +kernel, by decide +kernel⟩ rfl hR2 hl.1 (Nat.le_of_ble_eq_true rfl) rfl ⟨hcs.1, hcs.2⟩ dL_law_1097) (fun H locs g => ?_)
  refine lv_istore (lv' := [(6, .int bv), (5, .int K), (0, .ref b), (1, .ref (gA G 0)), (2, .ref (gA G 21)), (3, .ref (gA G 27)), (4, .int (nI i))]) hx hb dL_law_1100 hl (by decide) rfl (fun ls hl => ?_)
  refine lv_aload_n hx hb dL_law_1102 rfl (lv_at hl 4 rfl) ?_
  refine g_ci (rest := []) g (g_V (n := 0) (As := []) S g (m_thrown l G F2 o1) (by decide) (cEm G _ _) rfl (lw_V q571 q572 q573 q4 q574) ⟨rfl, by decide +kernel, by decide +kernel, by decide +kernel⟩ rfl ⟨Nat.le_of_ble_eq_true rfl, Nat.le_of_ble_eq_true rfl⟩ hl.1 (Nat.le_of_ble_eq_true rfl) rfl ⟨hcs.1, hcs.2⟩ dL_law_1103) (fun H locs g => ?_)
  refine lv_iload hx hb dL_law_1106 (lv_at hl 1 rfl) ?_
  refine lv_icmp_eq (tgt := 1113) hx hb dL_law_1108 (by decide) (fun _ => ?_) (fun c9 => absurd hK c9)
  refine lv_iload hx hb dL_law_1113 (lv_at hl 1 rfl) ?_
  refine lv_if_ne (tgt := 1130) hx hb dL_law_1115 (by decide) (fun _ => ?_) (fun hk0 => ?_)
  · refine lv_goto (tgt := 1529) hx hb dL_law_1130 (by decide) ?_
    exact kk _ _ _ g (lv_sub hl [2, 3, 4, 5, 6] rfl)
  refine lv_aload_n hx hb dL_law_1118 rfl (lv_at hl 5 rfl) ?_
  refine lv_iconst (v := 0) hx hb dL_law_1119 (by decide) ?_
  refine g_lald S g dL_law_1120 ?_
  refine lv_iload hx hb dL_law_1121 (lv_at hl 0 rfl) ?_
  refine lv_i2l (v := bv.toInt64) hx hb dL_law_1123 rfl ?_
  refine W.lcmp hx hb dL_law_1124 ?_
  refine lv_if_eq (tgt := 1130) hx hb dL_law_1125 (by decide) (fun _ => ?_) (fun c9 => absurd (lg_same (hv hk0)) c9)
  refine lv_goto (tgt := 1529) hx hb dL_law_1130 (by decide) ?_
  exact kk _ _ _ g (lv_sub hl [2, 3, 4, 5, 6] rfl)
set_option maxHeartbeats 4000000 in
set_option maxRecDepth 100000 in
theorem seg_21 {p : Program} {l : Launch} {e : Env} {s : State} {m : MethodId} {args : Array Value} {below : List Frame} {meth : Method} {c : Code} {H : Heap} {locs : List Loc} {cells slots : Nat} {Q : State → Prop} {ls : Array Slot} {G : gT} {F F1 F2 : Fs} {o : Int64} {b L i : Nat} {xs : Nat → Int32} {x bv K : Int32} {o1 : Int64} {f k cs ss f2 k2 : Nat} (S : CallFix p m c cL_law 9 s args lw_all "ShadowPoolLaw") (hX : va_X b L xs s s.heap) (hbl : b < s.heap.size) (hbA : ¬ GA G s.heap.size b) (hL : L ≤ 2048) (hiL : i + 4 ≤ L) (e1 : xs (i + 1) = x) (g : GB G F o [] [] s H locs) (hl : lv_has ls 9 (lwL G b i)) (hM : MH l yL_poolPartOf cL_poolPartOf 4 [((0 : Nat), (9 : Nat), (12 : Nat), (21 : Nat))] f k cs ss [.ref (gA G 0), .int x, .ref (gA G 27)] G F o F1 o1 K) (hR : f + 1 ≤ room_1.frames ∧ 8 + (4 + 11) + k ≤ room_1.locals) (hcs : cells + cs ≤ room_1.cells ∧ slots + ss ≤ room_1.slots) (hN : MI l yX3_poolPartOf cX3_poolPartOf 2 (some .int) f2 k2 [.ref (gA G 21), .int x] G F1 o1 F2 bv) (hR2 : f2 + 1 ≤ room_1.frames ∧ 8 + (2 + 11) + k2 ≤ room_1.locals) (hK : F2 21 0 = K) (hv : K = 0 → o1 = bv.toInt64) (kk : ∀ (H : Heap) (locs : List Loc) (ls : Array Slot), GB G F2 o1 [] [] s H locs → lv_has ls 9 (lwL G b i) → W p l e room_1 s m args below meth c H locs (cells + cs) (slots + ss) Q (F0 m 1529 ls [])) : W p l e room_1 s m args below meth c H locs cells slots Q (F0 m 1133 ls []) := by
  have hx := S.1
  have hb := S.2.1
  refine lv_aload_n hx hb dL_law_1133 rfl (lv_at hl 1 rfl) ?_
  refine lv_aload_n hx hb dL_law_1134 rfl (lv_at hl 0 rfl) ?_
  refine lv_iload hx hb dL_law_1135 (lv_at hl 4 rfl) ?_
  refine lv_iconst (v := 1) hx hb dL_law_1137 (by decide) ?_
  refine lv_iadd hx hb dL_law_1138 ?_
  refine g_scr (j := i + 1) S g hX hbl hbA (nI_add i 1) (by omega) hL e1 dL_law_1139 ?_
  refine lv_aload_n hx hb dL_law_1140 rfl (lv_at hl 3 rfl) ?_
  refine g_SH (n := 3) (As := [.ref (gA G 0), .int x, .ref (gA G 27)]) (rest := []) S g hM q510 q511 q0 q512 ⟨by decide +kernel, by decide +kernel, by decide +kernel⟩ rfl hR hl.1 (Nat.le_of_ble_eq_true rfl) rfl hcs dL_law_1141 (fun H locs g => ?_)
  refine lv_istore (lv' := [(5, .int K), (0, .ref b), (1, .ref (gA G 0)), (2, .ref (gA G 21)), (3, .ref (gA G 27)), (4, .int (nI i))]) hx hb dL_law_1144 hl (by decide) rfl (fun ls hl => ?_)
  refine lv_aload_n hx hb dL_law_1146 rfl (lv_at hl 3 rfl) ?_
  refine lv_aload_n hx hb dL_law_1147 rfl (lv_at hl 1 rfl) ?_
  refine lv_iload hx hb dL_law_1148 (lv_at hl 5 rfl) ?_
  refine lv_iconst (v := 1) hx hb dL_law_1150 (by decide) ?_
  refine lv_iadd hx hb dL_law_1151 ?_
  refine g_scr (j := i + 1) S g hX hbl hbA (nI_add i 1) (by omega) hL e1 dL_law_1152 ?_
  refine g_ci (rest := []) g (g_V (n := 1) (As := [.int x]) S g hN (by decide) (cEm G _ _) rfl (lw_V q730 q731 q732 q4 q733) ⟨rfl, by decide +kernel, by decide +kernel, by decide +kernel⟩ rfl hR2 hl.1 (Nat.le_of_ble_eq_true rfl) rfl ⟨hcs.1, hcs.2⟩ dL_law_1153) (fun H locs g => ?_)
  refine lv_istore (lv' := [(6, .int bv), (5, .int K), (0, .ref b), (1, .ref (gA G 0)), (2, .ref (gA G 21)), (3, .ref (gA G 27)), (4, .int (nI i))]) hx hb dL_law_1156 hl (by decide) rfl (fun ls hl => ?_)
  refine lv_aload_n hx hb dL_law_1158 rfl (lv_at hl 4 rfl) ?_
  refine g_ci (rest := []) g (g_V (n := 0) (As := []) S g (m_thrown l G F2 o1) (by decide) (cEm G _ _) rfl (lw_V q571 q572 q573 q4 q574) ⟨rfl, by decide +kernel, by decide +kernel, by decide +kernel⟩ rfl ⟨Nat.le_of_ble_eq_true rfl, Nat.le_of_ble_eq_true rfl⟩ hl.1 (Nat.le_of_ble_eq_true rfl) rfl ⟨hcs.1, hcs.2⟩ dL_law_1159) (fun H locs g => ?_)
  refine lv_iload hx hb dL_law_1162 (lv_at hl 1 rfl) ?_
  refine lv_icmp_eq (tgt := 1169) hx hb dL_law_1164 (by decide) (fun _ => ?_) (fun c9 => absurd hK c9)
  refine lv_iload hx hb dL_law_1169 (lv_at hl 1 rfl) ?_
  refine lv_if_ne (tgt := 1186) hx hb dL_law_1171 (by decide) (fun _ => ?_) (fun hk0 => ?_)
  · refine lv_goto (tgt := 1529) hx hb dL_law_1186 (by decide) ?_
    exact kk _ _ _ g (lv_sub hl [2, 3, 4, 5, 6] rfl)
  refine lv_aload_n hx hb dL_law_1174 rfl (lv_at hl 5 rfl) ?_
  refine lv_iconst (v := 0) hx hb dL_law_1175 (by decide) ?_
  refine g_lald S g dL_law_1176 ?_
  refine lv_iload hx hb dL_law_1177 (lv_at hl 0 rfl) ?_
  refine lv_i2l (v := bv.toInt64) hx hb dL_law_1179 rfl ?_
  refine W.lcmp hx hb dL_law_1180 ?_
  refine lv_if_eq (tgt := 1186) hx hb dL_law_1181 (by decide) (fun _ => ?_) (fun c9 => absurd (lg_same (hv hk0)) c9)
  refine lv_goto (tgt := 1529) hx hb dL_law_1186 (by decide) ?_
  exact kk _ _ _ g (lv_sub hl [2, 3, 4, 5, 6] rfl)
set_option maxHeartbeats 4000000 in
set_option maxRecDepth 100000 in
theorem seg_22 {p : Program} {l : Launch} {e : Env} {s : State} {m : MethodId} {args : Array Value} {below : List Frame} {meth : Method} {c : Code} {H : Heap} {locs : List Loc} {cells slots : Nat} {Q : State → Prop} {ls : Array Slot} {G : gT} {F F1 F2 : Fs} {o : Int64} {b L i : Nat} {xs : Nat → Int32} {x bv K : Int32} {o1 : Int64} {f k cs ss f2 k2 : Nat} (S : CallFix p m c cL_law 9 s args lw_all "ShadowPoolLaw") (hX : va_X b L xs s s.heap) (hbl : b < s.heap.size) (hbA : ¬ GA G s.heap.size b) (hL : L ≤ 2048) (hiL : i + 4 ≤ L) (e1 : xs (i + 1) = x) (g : GB G F o [] [] s H locs) (hl : lv_has ls 9 (lwL G b i)) (hM : MH l yL_reinsuredPartOf cL_reinsuredPartOf 4 [((0 : Nat), (9 : Nat), (12 : Nat), (21 : Nat))] f k cs ss [.ref (gA G 0), .int x, .ref (gA G 27)] G F o F1 o1 K) (hR : f + 1 ≤ room_1.frames ∧ 8 + (4 + 11) + k ≤ room_1.locals) (hcs : cells + cs ≤ room_1.cells ∧ slots + ss ≤ room_1.slots) (hN : MI l yX3_reinsuredPartOf cX3_reinsuredPartOf 2 (some .int) f2 k2 [.ref (gA G 21), .int x] G F1 o1 F2 bv) (hR2 : f2 + 1 ≤ room_1.frames ∧ 8 + (2 + 11) + k2 ≤ room_1.locals) (hK : F2 21 0 = K) (hv : K = 0 → o1 = bv.toInt64) (kk : ∀ (H : Heap) (locs : List Loc) (ls : Array Slot), GB G F2 o1 [] [] s H locs → lv_has ls 9 (lwL G b i) → W p l e room_1 s m args below meth c H locs (cells + cs) (slots + ss) Q (F0 m 1529 ls [])) : W p l e room_1 s m args below meth c H locs cells slots Q (F0 m 1189 ls []) := by
  have hx := S.1
  have hb := S.2.1
  refine lv_aload_n hx hb dL_law_1189 rfl (lv_at hl 1 rfl) ?_
  refine lv_aload_n hx hb dL_law_1190 rfl (lv_at hl 0 rfl) ?_
  refine lv_iload hx hb dL_law_1191 (lv_at hl 4 rfl) ?_
  refine lv_iconst (v := 1) hx hb dL_law_1193 (by decide) ?_
  refine lv_iadd hx hb dL_law_1194 ?_
  refine g_scr (j := i + 1) S g hX hbl hbA (nI_add i 1) (by omega) hL e1 dL_law_1195 ?_
  refine lv_aload_n hx hb dL_law_1196 rfl (lv_at hl 3 rfl) ?_
  refine g_SH (n := 3) (As := [.ref (gA G 0), .int x, .ref (gA G 27)]) (rest := []) S g hM q517 q518 q0 q519 ⟨by decide +kernel, by decide +kernel, by decide +kernel⟩ rfl hR hl.1 (Nat.le_of_ble_eq_true rfl) rfl hcs dL_law_1197 (fun H locs g => ?_)
  refine lv_istore (lv' := [(5, .int K), (0, .ref b), (1, .ref (gA G 0)), (2, .ref (gA G 21)), (3, .ref (gA G 27)), (4, .int (nI i))]) hx hb dL_law_1200 hl (by decide) rfl (fun ls hl => ?_)
  refine lv_aload_n hx hb dL_law_1202 rfl (lv_at hl 3 rfl) ?_
  refine lv_aload_n hx hb dL_law_1203 rfl (lv_at hl 1 rfl) ?_
  refine lv_iload hx hb dL_law_1204 (lv_at hl 5 rfl) ?_
  refine lv_iconst (v := 1) hx hb dL_law_1206 (by decide) ?_
  refine lv_iadd hx hb dL_law_1207 ?_
  refine g_scr (j := i + 1) S g hX hbl hbA (nI_add i 1) (by omega) hL e1 dL_law_1208 ?_
  refine g_ci (rest := []) g (g_V (n := 1) (As := [.int x]) S g hN (by decide) (cEm G _ _) rfl (lw_V q734 q735 q736 q4 q737) ⟨rfl, by decide +kernel, by decide +kernel, by decide +kernel⟩ rfl hR2 hl.1 (Nat.le_of_ble_eq_true rfl) rfl ⟨hcs.1, hcs.2⟩ dL_law_1209) (fun H locs g => ?_)
  refine lv_istore (lv' := [(6, .int bv), (5, .int K), (0, .ref b), (1, .ref (gA G 0)), (2, .ref (gA G 21)), (3, .ref (gA G 27)), (4, .int (nI i))]) hx hb dL_law_1212 hl (by decide) rfl (fun ls hl => ?_)
  refine lv_aload_n hx hb dL_law_1214 rfl (lv_at hl 4 rfl) ?_
  refine g_ci (rest := []) g (g_V (n := 0) (As := []) S g (m_thrown l G F2 o1) (by decide) (cEm G _ _) rfl (lw_V q571 q572 q573 q4 q574) ⟨rfl, by decide +kernel, by decide +kernel, by decide +kernel⟩ rfl ⟨Nat.le_of_ble_eq_true rfl, Nat.le_of_ble_eq_true rfl⟩ hl.1 (Nat.le_of_ble_eq_true rfl) rfl ⟨hcs.1, hcs.2⟩ dL_law_1215) (fun H locs g => ?_)
  refine lv_iload hx hb dL_law_1218 (lv_at hl 1 rfl) ?_
  refine lv_icmp_eq (tgt := 1225) hx hb dL_law_1220 (by decide) (fun _ => ?_) (fun c9 => absurd hK c9)
  refine lv_iload hx hb dL_law_1225 (lv_at hl 1 rfl) ?_
  refine lv_if_ne (tgt := 1242) hx hb dL_law_1227 (by decide) (fun _ => ?_) (fun hk0 => ?_)
  · refine lv_goto (tgt := 1529) hx hb dL_law_1242 (by decide) ?_
    exact kk _ _ _ g (lv_sub hl [2, 3, 4, 5, 6] rfl)
  refine lv_aload_n hx hb dL_law_1230 rfl (lv_at hl 5 rfl) ?_
  refine lv_iconst (v := 0) hx hb dL_law_1231 (by decide) ?_
  refine g_lald S g dL_law_1232 ?_
  refine lv_iload hx hb dL_law_1233 (lv_at hl 0 rfl) ?_
  refine lv_i2l (v := bv.toInt64) hx hb dL_law_1235 rfl ?_
  refine W.lcmp hx hb dL_law_1236 ?_
  refine lv_if_eq (tgt := 1242) hx hb dL_law_1237 (by decide) (fun _ => ?_) (fun c9 => absurd (lg_same (hv hk0)) c9)
  refine lv_goto (tgt := 1529) hx hb dL_law_1242 (by decide) ?_
  exact kk _ _ _ g (lv_sub hl [2, 3, 4, 5, 6] rfl)
set_option maxHeartbeats 4000000 in
set_option maxRecDepth 100000 in
theorem seg_23 {p : Program} {l : Launch} {e : Env} {s : State} {m : MethodId} {args : Array Value} {below : List Frame} {meth : Method} {c : Code} {H : Heap} {locs : List Loc} {cells slots : Nat} {Q : State → Prop} {ls : Array Slot} {G : gT} {F F1 F2 : Fs} {o : Int64} {b L i : Nat} {xs : Nat → Int32} {v : Int32} {f k f2 k2 : Nat} (S : CallFix p m c cL_law 9 s args lw_all "ShadowPoolLaw") (g : GB G F o [] [] s H locs) (hl : lv_has ls 9 (lwL G b i)) (hM : MI l yX2_fund cX2_fund 1 (some .int) f k [.ref (gA G 0)] G F o F1 v) (hR : f + 1 ≤ room_1.frames ∧ 8 + (1 + 11) + k ≤ room_1.locals) (hcs : cells ≤ room_1.cells ∧ slots ≤ room_1.slots) (hN : MI l yX3_fund cX3_fund 1 (some .int) f2 k2 [.ref (gA G 21)] G F1 o F2 v) (hR2 : f2 + 1 ≤ room_1.frames ∧ 8 + (1 + 11) + k2 ≤ room_1.locals) (kk : ∀ (H : Heap) (locs : List Loc) (ls : Array Slot), GB G F2 o [] [] s H locs → lv_has ls 9 (lwL G b i) → W p l e room_1 s m args below meth c H locs cells slots Q (F0 m 1529 ls [])) : W p l e room_1 s m args below meth c H locs cells slots Q (F0 m 1245 ls []) := by
  have hx := S.1
  have hb := S.2.1
  refine lv_aload_n hx hb dL_law_1245 rfl (lv_at hl 1 rfl) ?_
  refine g_ci (rest := []) g (g_V (n := 0) (As := []) S g hM (by decide) (cE0 G _ _) rfl (lw_V q152 q153 q154 q1 q155) ⟨rfl, by decide +kernel, by decide +kernel, by decide +kernel⟩ rfl hR hl.1 (Nat.le_of_ble_eq_true rfl) rfl hcs dL_law_1246) (fun H locs g => ?_)
  refine lv_aload_n hx hb dL_law_1249 rfl (lv_at hl 2 rfl) ?_
  refine g_ci (rest := [.int v]) g (g_V (n := 0) (As := []) S g hN (by decide) (cEm G _ _) rfl (lw_V q738 q739 q740 q4 q741) ⟨rfl, by decide +kernel, by decide +kernel, by decide +kernel⟩ rfl hR2 hl.1 (Nat.le_of_ble_eq_true rfl) rfl hcs dL_law_1250) (fun H locs g => ?_)
  refine lv_icmp_eq (tgt := 1529) hx hb dL_law_1253 (by decide) (fun _ => ?_) (fun c9 => absurd rfl c9)
  exact kk _ _ _ g (lv_sub hl [0, 1, 2, 3, 4] rfl)
set_option maxHeartbeats 4000000 in
set_option maxRecDepth 100000 in
theorem seg_24 {p : Program} {l : Launch} {e : Env} {s : State} {m : MethodId} {args : Array Value} {below : List Frame} {meth : Method} {c : Code} {H : Heap} {locs : List Loc} {cells slots : Nat} {Q : State → Prop} {ls : Array Slot} {G : gT} {F F1 F2 : Fs} {o : Int64} {b L i : Nat} {xs : Nat → Int32} {v : Int32} {f k f2 k2 : Nat} (S : CallFix p m c cL_law 9 s args lw_all "ShadowPoolLaw") (g : GB G F o [] [] s H locs) (hl : lv_has ls 9 (lwL G b i)) (hM : MI l yX2_rate cX2_rate 1 (some .int) f k [.ref (gA G 0)] G F o F1 v) (hR : f + 1 ≤ room_1.frames ∧ 8 + (1 + 11) + k ≤ room_1.locals) (hcs : cells ≤ room_1.cells ∧ slots ≤ room_1.slots) (hN : MI l yX3_rate cX3_rate 1 (some .int) f2 k2 [.ref (gA G 21)] G F1 o F2 v) (hR2 : f2 + 1 ≤ room_1.frames ∧ 8 + (1 + 11) + k2 ≤ room_1.locals) (kk : ∀ (H : Heap) (locs : List Loc) (ls : Array Slot), GB G F2 o [] [] s H locs → lv_has ls 9 (lwL G b i) → W p l e room_1 s m args below meth c H locs cells slots Q (F0 m 1529 ls [])) : W p l e room_1 s m args below meth c H locs cells slots Q (F0 m 1258 ls []) := by
  have hx := S.1
  have hb := S.2.1
  refine lv_aload_n hx hb dL_law_1258 rfl (lv_at hl 1 rfl) ?_
  refine g_ci (rest := []) g (g_V (n := 0) (As := []) S g hM (by decide) (cE0 G _ _) rfl (lw_V q156 q157 q158 q1 q159) ⟨rfl, by decide +kernel, by decide +kernel, by decide +kernel⟩ rfl hR hl.1 (Nat.le_of_ble_eq_true rfl) rfl hcs dL_law_1259) (fun H locs g => ?_)
  refine lv_aload_n hx hb dL_law_1262 rfl (lv_at hl 2 rfl) ?_
  refine g_ci (rest := [.int v]) g (g_V (n := 0) (As := []) S g hN (by decide) (cEm G _ _) rfl (lw_V q742 q743 q744 q4 q745) ⟨rfl, by decide +kernel, by decide +kernel, by decide +kernel⟩ rfl hR2 hl.1 (Nat.le_of_ble_eq_true rfl) rfl hcs dL_law_1263) (fun H locs g => ?_)
  refine lv_icmp_eq (tgt := 1529) hx hb dL_law_1266 (by decide) (fun _ => ?_) (fun c9 => absurd rfl c9)
  exact kk _ _ _ g (lv_sub hl [0, 1, 2, 3, 4] rfl)
set_option maxHeartbeats 4000000 in
set_option maxRecDepth 100000 in
theorem seg_25 {p : Program} {l : Launch} {e : Env} {s : State} {m : MethodId} {args : Array Value} {below : List Frame} {meth : Method} {c : Code} {H : Heap} {locs : List Loc} {cells slots : Nat} {Q : State → Prop} {ls : Array Slot} {G : gT} {F F1 F2 : Fs} {o : Int64} {b L i : Nat} {xs : Nat → Int32} {v : Int32} {f k f2 k2 : Nat} (S : CallFix p m c cL_law 9 s args lw_all "ShadowPoolLaw") (g : GB G F o [] [] s H locs) (hl : lv_has ls 9 (lwL G b i)) (hM : MI l yX2_retention cX2_retention 1 (some .int) f k [.ref (gA G 0)] G F o F1 v) (hR : f + 1 ≤ room_1.frames ∧ 8 + (1 + 11) + k ≤ room_1.locals) (hcs : cells ≤ room_1.cells ∧ slots ≤ room_1.slots) (hN : MI l yX3_retention cX3_retention 1 (some .int) f2 k2 [.ref (gA G 21)] G F1 o F2 v) (hR2 : f2 + 1 ≤ room_1.frames ∧ 8 + (1 + 11) + k2 ≤ room_1.locals) (kk : ∀ (H : Heap) (locs : List Loc) (ls : Array Slot), GB G F2 o [] [] s H locs → lv_has ls 9 (lwL G b i) → W p l e room_1 s m args below meth c H locs cells slots Q (F0 m 1529 ls [])) : W p l e room_1 s m args below meth c H locs cells slots Q (F0 m 1271 ls []) := by
  have hx := S.1
  have hb := S.2.1
  refine lv_aload_n hx hb dL_law_1271 rfl (lv_at hl 1 rfl) ?_
  refine g_ci (rest := []) g (g_V (n := 0) (As := []) S g hM (by decide) (cE0 G _ _) rfl (lw_V q160 q161 q162 q1 q163) ⟨rfl, by decide +kernel, by decide +kernel, by decide +kernel⟩ rfl hR hl.1 (Nat.le_of_ble_eq_true rfl) rfl hcs dL_law_1272) (fun H locs g => ?_)
  refine lv_aload_n hx hb dL_law_1275 rfl (lv_at hl 2 rfl) ?_
  refine g_ci (rest := [.int v]) g (g_V (n := 0) (As := []) S g hN (by decide) (cEm G _ _) rfl (lw_V q746 q747 q748 q4 q749) ⟨rfl, by decide +kernel, by decide +kernel, by decide +kernel⟩ rfl hR2 hl.1 (Nat.le_of_ble_eq_true rfl) rfl hcs dL_law_1276) (fun H locs g => ?_)
  refine lv_icmp_eq (tgt := 1529) hx hb dL_law_1279 (by decide) (fun _ => ?_) (fun c9 => absurd rfl c9)
  exact kk _ _ _ g (lv_sub hl [0, 1, 2, 3, 4] rfl)
set_option maxHeartbeats 4000000 in
set_option maxRecDepth 100000 in
theorem seg_26 {p : Program} {l : Launch} {e : Env} {s : State} {m : MethodId} {args : Array Value} {below : List Frame} {meth : Method} {c : Code} {H : Heap} {locs : List Loc} {cells slots : Nat} {Q : State → Prop} {ls : Array Slot} {G : gT} {F F1 F2 : Fs} {o : Int64} {b L i : Nat} {xs : Nat → Int32} {v : Int32} {f k f2 k2 : Nat} (S : CallFix p m c cL_law 9 s args lw_all "ShadowPoolLaw") (g : GB G F o [] [] s H locs) (hl : lv_has ls 9 (lwL G b i)) (hM : MI l yX2_limit cX2_limit 1 (some .int) f k [.ref (gA G 0)] G F o F1 v) (hR : f + 1 ≤ room_1.frames ∧ 8 + (1 + 11) + k ≤ room_1.locals) (hcs : cells ≤ room_1.cells ∧ slots ≤ room_1.slots) (hN : MI l yX3_limit cX3_limit 1 (some .int) f2 k2 [.ref (gA G 21)] G F1 o F2 v) (hR2 : f2 + 1 ≤ room_1.frames ∧ 8 + (1 + 11) + k2 ≤ room_1.locals) (kk : ∀ (H : Heap) (locs : List Loc) (ls : Array Slot), GB G F2 o [] [] s H locs → lv_has ls 9 (lwL G b i) → W p l e room_1 s m args below meth c H locs cells slots Q (F0 m 1529 ls [])) : W p l e room_1 s m args below meth c H locs cells slots Q (F0 m 1284 ls []) := by
  have hx := S.1
  have hb := S.2.1
  refine lv_aload_n hx hb dL_law_1284 rfl (lv_at hl 1 rfl) ?_
  refine g_ci (rest := []) g (g_V (n := 0) (As := []) S g hM (by decide) (cE0 G _ _) rfl (lw_V q164 q165 q166 q1 q167) ⟨rfl, by decide +kernel, by decide +kernel, by decide +kernel⟩ rfl hR hl.1 (Nat.le_of_ble_eq_true rfl) rfl hcs dL_law_1285) (fun H locs g => ?_)
  refine lv_aload_n hx hb dL_law_1288 rfl (lv_at hl 2 rfl) ?_
  refine g_ci (rest := [.int v]) g (g_V (n := 0) (As := []) S g hN (by decide) (cEm G _ _) rfl (lw_V q750 q751 q752 q4 q753) ⟨rfl, by decide +kernel, by decide +kernel, by decide +kernel⟩ rfl hR2 hl.1 (Nat.le_of_ble_eq_true rfl) rfl hcs dL_law_1289) (fun H locs g => ?_)
  refine lv_icmp_eq (tgt := 1529) hx hb dL_law_1292 (by decide) (fun _ => ?_) (fun c9 => absurd rfl c9)
  exact kk _ _ _ g (lv_sub hl [0, 1, 2, 3, 4] rfl)
set_option maxHeartbeats 4000000 in
set_option maxRecDepth 100000 in
theorem seg_27 {p : Program} {l : Launch} {e : Env} {s : State} {m : MethodId} {args : Array Value} {below : List Frame} {meth : Method} {c : Code} {H : Heap} {locs : List Loc} {cells slots : Nat} {Q : State → Prop} {ls : Array Slot} {G : gT} {F F1 F2 : Fs} {o : Int64} {b L i : Nat} {xs : Nat → Int32} {v : Int32} {f k f2 k2 : Nat} (S : CallFix p m c cL_law 9 s args lw_all "ShadowPoolLaw") (g : GB G F o [] [] s H locs) (hl : lv_has ls 9 (lwL G b i)) (hM : MI l yX2_reinsurersLoss cX2_reinsurersLoss 1 (some .int) f k [.ref (gA G 0)] G F o F1 v) (hR : f + 1 ≤ room_1.frames ∧ 8 + (1 + 11) + k ≤ room_1.locals) (hcs : cells ≤ room_1.cells ∧ slots ≤ room_1.slots) (hN : MI l yX3_reinsurersLoss cX3_reinsurersLoss 1 (some .int) f2 k2 [.ref (gA G 21)] G F1 o F2 v) (hR2 : f2 + 1 ≤ room_1.frames ∧ 8 + (1 + 11) + k2 ≤ room_1.locals) (kk : ∀ (H : Heap) (locs : List Loc) (ls : Array Slot), GB G F2 o [] [] s H locs → lv_has ls 9 (lwL G b i) → W p l e room_1 s m args below meth c H locs cells slots Q (F0 m 1529 ls [])) : W p l e room_1 s m args below meth c H locs cells slots Q (F0 m 1297 ls []) := by
  have hx := S.1
  have hb := S.2.1
  refine lv_aload_n hx hb dL_law_1297 rfl (lv_at hl 1 rfl) ?_
  refine g_ci (rest := []) g (g_V (n := 0) (As := []) S g hM (by decide) (cE0 G _ _) rfl (lw_V q168 q169 q170 q1 q171) ⟨rfl, by decide +kernel, by decide +kernel, by decide +kernel⟩ rfl hR hl.1 (Nat.le_of_ble_eq_true rfl) rfl hcs dL_law_1298) (fun H locs g => ?_)
  refine lv_aload_n hx hb dL_law_1301 rfl (lv_at hl 2 rfl) ?_
  refine g_ci (rest := [.int v]) g (g_V (n := 0) (As := []) S g hN (by decide) (cEm G _ _) rfl (lw_V q754 q755 q756 q4 q757) ⟨rfl, by decide +kernel, by decide +kernel, by decide +kernel⟩ rfl hR2 hl.1 (Nat.le_of_ble_eq_true rfl) rfl hcs dL_law_1302) (fun H locs g => ?_)
  refine lv_icmp_eq (tgt := 1529) hx hb dL_law_1305 (by decide) (fun _ => ?_) (fun c9 => absurd rfl c9)
  exact kk _ _ _ g (lv_sub hl [0, 1, 2, 3, 4] rfl)
set_option maxHeartbeats 4000000 in
set_option maxRecDepth 100000 in
theorem seg_28 {p : Program} {l : Launch} {e : Env} {s : State} {m : MethodId} {args : Array Value} {below : List Frame} {meth : Method} {c : Code} {H : Heap} {locs : List Loc} {cells slots : Nat} {Q : State → Prop} {ls : Array Slot} {G : gT} {F F1 F2 : Fs} {o : Int64} {b L i : Nat} {xs : Nat → Int32} {x bv K : Int32} {o1 : Int64} {f k cs ss f2 k2 : Nat} (S : CallFix p m c cL_law 9 s args lw_all "ShadowPoolLaw") (hX : va_X b L xs s s.heap) (hbl : b < s.heap.size) (hbA : ¬ GA G s.heap.size b) (hL : L ≤ 2048) (hiL : i + 4 ≤ L) (e1 : xs (i + 1) = x) (g : GB G F o [] [] s H locs) (hl : lv_has ls 9 (lwL G b i)) (hM : MH l yL_hoursUntilFall cL_hoursUntilFall 4 [((0 : Nat), (9 : Nat), (12 : Nat), (21 : Nat))] f k cs ss [.ref (gA G 0), .int x, .ref (gA G 27)] G F o F1 o1 K) (hR : f + 1 ≤ room_1.frames ∧ 8 + (4 + 11) + k ≤ room_1.locals) (hcs : cells + cs ≤ room_1.cells ∧ slots + ss ≤ room_1.slots) (hN : MI l yX3_hoursUntilFall cX3_hoursUntilFall 4 (some .int) f2 k2 [.ref (gA G 21), .int x] G F1 o1 F2 bv) (hR2 : f2 + 1 ≤ room_1.frames ∧ 8 + (4 + 11) + k2 ≤ room_1.locals) (hK : F2 21 0 = K) (hv : K = 0 → o1 = bv.toInt64) (kk : ∀ (H : Heap) (locs : List Loc) (ls : Array Slot), GB G F2 o1 [] [] s H locs → lv_has ls 9 (lwL G b i) → W p l e room_1 s m args below meth c H locs (cells + cs) (slots + ss) Q (F0 m 1529 ls [])) : W p l e room_1 s m args below meth c H locs cells slots Q (F0 m 1310 ls []) := by
  have hx := S.1
  have hb := S.2.1
  refine lv_aload_n hx hb dL_law_1310 rfl (lv_at hl 1 rfl) ?_
  refine lv_aload_n hx hb dL_law_1311 rfl (lv_at hl 0 rfl) ?_
  refine lv_iload hx hb dL_law_1312 (lv_at hl 4 rfl) ?_
  refine lv_iconst (v := 1) hx hb dL_law_1314 (by decide) ?_
  refine lv_iadd hx hb dL_law_1315 ?_
  refine g_scr (j := i + 1) S g hX hbl hbA (nI_add i 1) (by omega) hL e1 dL_law_1316 ?_
  refine lv_aload_n hx hb dL_law_1317 rfl (lv_at hl 3 rfl) ?_
  refine g_SH (n := 3) (As := [.ref (gA G 0), .int x, .ref (gA G 27)]) (rest := []) S g hM q524 q525 q0 q526 ⟨by decide +kernel, by decide +kernel, by decide +kernel⟩ rfl hR hl.1 (Nat.le_of_ble_eq_true rfl) rfl hcs dL_law_1318 (fun H locs g => ?_)
  refine lv_istore (lv' := [(5, .int K), (0, .ref b), (1, .ref (gA G 0)), (2, .ref (gA G 21)), (3, .ref (gA G 27)), (4, .int (nI i))]) hx hb dL_law_1321 hl (by decide) rfl (fun ls hl => ?_)
  refine lv_aload_n hx hb dL_law_1323 rfl (lv_at hl 3 rfl) ?_
  refine lv_aload_n hx hb dL_law_1324 rfl (lv_at hl 1 rfl) ?_
  refine lv_iload hx hb dL_law_1325 (lv_at hl 5 rfl) ?_
  refine lv_iconst (v := 1) hx hb dL_law_1327 (by decide) ?_
  refine lv_iadd hx hb dL_law_1328 ?_
  refine g_scr (j := i + 1) S g hX hbl hbA (nI_add i 1) (by omega) hL e1 dL_law_1329 ?_
  refine g_ci (rest := []) g (g_V (n := 1) (As := [.int x]) S g hN (by decide) (cEm G _ _) rfl (lw_V q758 q759 q760 q4 q761) ⟨rfl, by decide +kernel, by decide +kernel, by decide +kernel⟩ rfl hR2 hl.1 (Nat.le_of_ble_eq_true rfl) rfl ⟨hcs.1, hcs.2⟩ dL_law_1330) (fun H locs g => ?_)
  refine lv_istore (lv' := [(6, .int bv), (5, .int K), (0, .ref b), (1, .ref (gA G 0)), (2, .ref (gA G 21)), (3, .ref (gA G 27)), (4, .int (nI i))]) hx hb dL_law_1333 hl (by decide) rfl (fun ls hl => ?_)
  refine lv_aload_n hx hb dL_law_1335 rfl (lv_at hl 4 rfl) ?_
  refine g_ci (rest := []) g (g_V (n := 0) (As := []) S g (m_thrown l G F2 o1) (by decide) (cEm G _ _) rfl (lw_V q571 q572 q573 q4 q574) ⟨rfl, by decide +kernel, by decide +kernel, by decide +kernel⟩ rfl ⟨Nat.le_of_ble_eq_true rfl, Nat.le_of_ble_eq_true rfl⟩ hl.1 (Nat.le_of_ble_eq_true rfl) rfl ⟨hcs.1, hcs.2⟩ dL_law_1336) (fun H locs g => ?_)
  refine lv_iload hx hb dL_law_1339 (lv_at hl 1 rfl) ?_
  refine lv_icmp_eq (tgt := 1346) hx hb dL_law_1341 (by decide) (fun _ => ?_) (fun c9 => absurd hK c9)
  refine lv_iload hx hb dL_law_1346 (lv_at hl 1 rfl) ?_
  refine lv_if_ne (tgt := 1363) hx hb dL_law_1348 (by decide) (fun _ => ?_) (fun hk0 => ?_)
  · refine lv_goto (tgt := 1529) hx hb dL_law_1363 (by decide) ?_
    exact kk _ _ _ g (lv_sub hl [2, 3, 4, 5, 6] rfl)
  refine lv_aload_n hx hb dL_law_1351 rfl (lv_at hl 5 rfl) ?_
  refine lv_iconst (v := 0) hx hb dL_law_1352 (by decide) ?_
  refine g_lald S g dL_law_1353 ?_
  refine lv_iload hx hb dL_law_1354 (lv_at hl 0 rfl) ?_
  refine lv_i2l (v := bv.toInt64) hx hb dL_law_1356 rfl ?_
  refine W.lcmp hx hb dL_law_1357 ?_
  refine lv_if_eq (tgt := 1363) hx hb dL_law_1358 (by decide) (fun _ => ?_) (fun c9 => absurd (lg_same (hv hk0)) c9)
  refine lv_goto (tgt := 1529) hx hb dL_law_1363 (by decide) ?_
  exact kk _ _ _ g (lv_sub hl [2, 3, 4, 5, 6] rfl)
set_option maxHeartbeats 4000000 in
set_option maxRecDepth 100000 in
theorem seg_29 {p : Program} {l : Launch} {e : Env} {s : State} {m : MethodId} {args : Array Value} {below : List Frame} {meth : Method} {c : Code} {H : Heap} {locs : List Loc} {cells slots : Nat} {Q : State → Prop} {ls : Array Slot} {G : gT} {F F1 F2 : Fs} {o : Int64} {b L i : Nat} {xs : Nat → Int32} {v : Int32} {f k f2 k2 : Nat} (S : CallFix p m c cL_law 9 s args lw_all "ShadowPoolLaw") (g : GB G F o [] [] s H locs) (hl : lv_has ls 9 (lwL G b i)) (hM : MI l yX2_nextToFall cX2_nextToFall 6 (some .int) f k [.ref (gA G 0)] G F o F1 v) (hR : f + 1 ≤ room_1.frames ∧ 8 + (6 + 11) + k ≤ room_1.locals) (hcs : cells ≤ room_1.cells ∧ slots ≤ room_1.slots) (hN : MI l yX3_nextToFall cX3_nextToFall 1 (some .int) f2 k2 [.ref (gA G 21)] G F1 o F2 v) (hR2 : f2 + 1 ≤ room_1.frames ∧ 8 + (1 + 11) + k2 ≤ room_1.locals) (kk : ∀ (H : Heap) (locs : List Loc) (ls : Array Slot), GB G F2 o [] [] s H locs → lv_has ls 9 (lwL G b i) → W p l e room_1 s m args below meth c H locs cells slots Q (F0 m 1529 ls [])) : W p l e room_1 s m args below meth c H locs cells slots Q (F0 m 1366 ls []) := by
  have hx := S.1
  have hb := S.2.1
  refine lv_aload_n hx hb dL_law_1366 rfl (lv_at hl 1 rfl) ?_
  refine g_ci (rest := []) g (g_V (n := 0) (As := []) S g hM (by decide) (cE0 G _ _) rfl (lw_V q172 q173 q174 q1 q175) ⟨rfl, by decide +kernel, by decide +kernel, by decide +kernel⟩ rfl hR hl.1 (Nat.le_of_ble_eq_true rfl) rfl hcs dL_law_1367) (fun H locs g => ?_)
  refine lv_aload_n hx hb dL_law_1370 rfl (lv_at hl 2 rfl) ?_
  refine g_ci (rest := [.int v]) g (g_V (n := 0) (As := []) S g hN (by decide) (cEm G _ _) rfl (lw_V q773 q774 q775 q4 q776) ⟨rfl, by decide +kernel, by decide +kernel, by decide +kernel⟩ rfl hR2 hl.1 (Nat.le_of_ble_eq_true rfl) rfl hcs dL_law_1371) (fun H locs g => ?_)
  refine lv_icmp_eq (tgt := 1529) hx hb dL_law_1374 (by decide) (fun _ => ?_) (fun c9 => absurd rfl c9)
  exact kk _ _ _ g (lv_sub hl [0, 1, 2, 3, 4] rfl)
set_option maxHeartbeats 4000000 in
set_option maxRecDepth 100000 in
theorem seg_30 {p : Program} {l : Launch} {e : Env} {s : State} {m : MethodId} {args : Array Value} {below : List Frame} {meth : Method} {c : Code} {H : Heap} {locs : List Loc} {cells slots : Nat} {Q : State → Prop} {ls : Array Slot} {G : gT} {F F1 F2 : Fs} {o : Int64} {b L i : Nat} {xs : Nat → Int32} {x bv K : Int32} {o1 : Int64} {f k cs ss f2 k2 : Nat} (S : CallFix p m c cL_law 9 s args lw_all "ShadowPoolLaw") (hX : va_X b L xs s s.heap) (hbl : b < s.heap.size) (hbA : ¬ GA G s.heap.size b) (hL : L ≤ 2048) (hiL : i + 4 ≤ L) (e1 : xs (i + 1) = x) (g : GB G F o [] [] s H locs) (hl : lv_has ls 9 (lwL G b i)) (hM : MH l yL_fundIn cL_fundIn 4 [((0 : Nat), (9 : Nat), (12 : Nat), (13 : Nat))] f k cs ss [.ref (gA G 0), .int x, .ref (gA G 27)] G F o F1 o1 K) (hR : f + 1 ≤ room_1.frames ∧ 8 + (4 + 11) + k ≤ room_1.locals) (hcs : cells + cs ≤ room_1.cells ∧ slots + ss ≤ room_1.slots) (hN : MI l yX3_fundIn cX3_fundIn 2 (some .int) f2 k2 [.ref (gA G 21), .int x] G F1 o1 F2 bv) (hR2 : f2 + 1 ≤ room_1.frames ∧ 8 + (2 + 11) + k2 ≤ room_1.locals) (hK : F2 21 0 = K) (hv : K = 0 → o1 = bv.toInt64) (kk : ∀ (H : Heap) (locs : List Loc) (ls : Array Slot), GB G F2 o1 [] [] s H locs → lv_has ls 9 (lwL G b i) → W p l e room_1 s m args below meth c H locs (cells + cs) (slots + ss) Q (F0 m 1529 ls [])) : W p l e room_1 s m args below meth c H locs cells slots Q (F0 m 1379 ls []) := by
  have hx := S.1
  have hb := S.2.1
  refine lv_aload_n hx hb dL_law_1379 rfl (lv_at hl 1 rfl) ?_
  refine lv_aload_n hx hb dL_law_1380 rfl (lv_at hl 0 rfl) ?_
  refine lv_iload hx hb dL_law_1381 (lv_at hl 4 rfl) ?_
  refine lv_iconst (v := 1) hx hb dL_law_1383 (by decide) ?_
  refine lv_iadd hx hb dL_law_1384 ?_
  refine g_scr (j := i + 1) S g hX hbl hbA (nI_add i 1) (by omega) hL e1 dL_law_1385 ?_
  refine lv_aload_n hx hb dL_law_1386 rfl (lv_at hl 3 rfl) ?_
  refine g_SH (n := 3) (As := [.ref (gA G 0), .int x, .ref (gA G 27)]) (rest := []) S g hM q531 q532 q0 q533 ⟨by decide +kernel, by decide +kernel, by decide +kernel⟩ rfl hR hl.1 (Nat.le_of_ble_eq_true rfl) rfl hcs dL_law_1387 (fun H locs g => ?_)
  refine lv_istore (lv' := [(5, .int K), (0, .ref b), (1, .ref (gA G 0)), (2, .ref (gA G 21)), (3, .ref (gA G 27)), (4, .int (nI i))]) hx hb dL_law_1390 hl (by decide) rfl (fun ls hl => ?_)
  refine lv_aload_n hx hb dL_law_1392 rfl (lv_at hl 3 rfl) ?_
  refine lv_aload_n hx hb dL_law_1393 rfl (lv_at hl 1 rfl) ?_
  refine lv_iload hx hb dL_law_1394 (lv_at hl 5 rfl) ?_
  refine lv_iconst (v := 1) hx hb dL_law_1396 (by decide) ?_
  refine lv_iadd hx hb dL_law_1397 ?_
  refine g_scr (j := i + 1) S g hX hbl hbA (nI_add i 1) (by omega) hL e1 dL_law_1398 ?_
  refine g_ci (rest := []) g (g_V (n := 1) (As := [.int x]) S g hN (by decide) (cEm G _ _) rfl (lw_V q781 q782 q783 q4 q784) ⟨rfl, by decide +kernel, by decide +kernel, by decide +kernel⟩ rfl hR2 hl.1 (Nat.le_of_ble_eq_true rfl) rfl ⟨hcs.1, hcs.2⟩ dL_law_1399) (fun H locs g => ?_)
  refine lv_istore (lv' := [(6, .int bv), (5, .int K), (0, .ref b), (1, .ref (gA G 0)), (2, .ref (gA G 21)), (3, .ref (gA G 27)), (4, .int (nI i))]) hx hb dL_law_1402 hl (by decide) rfl (fun ls hl => ?_)
  refine lv_aload_n hx hb dL_law_1404 rfl (lv_at hl 4 rfl) ?_
  refine g_ci (rest := []) g (g_V (n := 0) (As := []) S g (m_thrown l G F2 o1) (by decide) (cEm G _ _) rfl (lw_V q571 q572 q573 q4 q574) ⟨rfl, by decide +kernel, by decide +kernel, by decide +kernel⟩ rfl ⟨Nat.le_of_ble_eq_true rfl, Nat.le_of_ble_eq_true rfl⟩ hl.1 (Nat.le_of_ble_eq_true rfl) rfl ⟨hcs.1, hcs.2⟩ dL_law_1405) (fun H locs g => ?_)
  refine lv_iload hx hb dL_law_1408 (lv_at hl 1 rfl) ?_
  refine lv_icmp_eq (tgt := 1415) hx hb dL_law_1410 (by decide) (fun _ => ?_) (fun c9 => absurd hK c9)
  refine lv_iload hx hb dL_law_1415 (lv_at hl 1 rfl) ?_
  refine lv_if_ne (tgt := 1432) hx hb dL_law_1417 (by decide) (fun _ => ?_) (fun hk0 => ?_)
  · refine lv_goto (tgt := 1529) hx hb dL_law_1432 (by decide) ?_
    exact kk _ _ _ g (lv_sub hl [2, 3, 4, 5, 6] rfl)
  refine lv_aload_n hx hb dL_law_1420 rfl (lv_at hl 5 rfl) ?_
  refine lv_iconst (v := 0) hx hb dL_law_1421 (by decide) ?_
  refine g_lald S g dL_law_1422 ?_
  refine lv_iload hx hb dL_law_1423 (lv_at hl 0 rfl) ?_
  refine lv_i2l (v := bv.toInt64) hx hb dL_law_1425 rfl ?_
  refine W.lcmp hx hb dL_law_1426 ?_
  refine lv_if_eq (tgt := 1432) hx hb dL_law_1427 (by decide) (fun _ => ?_) (fun c9 => absurd (lg_same (hv hk0)) c9)
  refine lv_goto (tgt := 1529) hx hb dL_law_1432 (by decide) ?_
  exact kk _ _ _ g (lv_sub hl [2, 3, 4, 5, 6] rfl)
set_option maxHeartbeats 4000000 in
set_option maxRecDepth 100000 in
theorem seg_31 {p : Program} {l : Launch} {e : Env} {s : State} {m : MethodId} {args : Array Value} {below : List Frame} {meth : Method} {c : Code} {H : Heap} {locs : List Loc} {cells slots : Nat} {Q : State → Prop} {ls : Array Slot} {G : gT} {F F1 F2 : Fs} {o : Int64} {b L i : Nat} {xs : Nat → Int32} {v : Int32} {f k f2 k2 : Nat} (S : CallFix p m c cL_law 9 s args lw_all "ShadowPoolLaw") (g : GB G F o [] [] s H locs) (hl : lv_has ls 9 (lwL G b i)) (hM : MI l yX2_hoursUntilRuin cX2_hoursUntilRuin 2 (some .int) f k [.ref (gA G 0)] G F o F1 v) (hR : f + 1 ≤ room_1.frames ∧ 8 + (2 + 11) + k ≤ room_1.locals) (hcs : cells ≤ room_1.cells ∧ slots ≤ room_1.slots) (hN : MI l yX3_hoursUntilRuin cX3_hoursUntilRuin 2 (some .int) f2 k2 [.ref (gA G 21)] G F1 o F2 v) (hR2 : f2 + 1 ≤ room_1.frames ∧ 8 + (2 + 11) + k2 ≤ room_1.locals) (kk : ∀ (H : Heap) (locs : List Loc) (ls : Array Slot), GB G F2 o [] [] s H locs → lv_has ls 9 (lwL G b i) → W p l e room_1 s m args below meth c H locs cells slots Q (F0 m 1529 ls [])) : W p l e room_1 s m args below meth c H locs cells slots Q (F0 m 1435 ls []) := by
  have hx := S.1
  have hb := S.2.1
  refine lv_aload_n hx hb dL_law_1435 rfl (lv_at hl 1 rfl) ?_
  refine g_ci (rest := []) g (g_V (n := 0) (As := []) S g hM (by decide) (cE0 G _ _) rfl (lw_V q189 q190 q191 q1 q192) ⟨rfl, by decide +kernel, by decide +kernel, by decide +kernel⟩ rfl hR hl.1 (Nat.le_of_ble_eq_true rfl) rfl hcs dL_law_1436) (fun H locs g => ?_)
  refine lv_aload_n hx hb dL_law_1439 rfl (lv_at hl 2 rfl) ?_
  refine g_ci (rest := [.int v]) g (g_V (n := 0) (As := []) S g hN (by decide) (cEm G _ _) rfl (lw_V q789 q790 q791 q4 q792) ⟨rfl, by decide +kernel, by decide +kernel, by decide +kernel⟩ rfl hR2 hl.1 (Nat.le_of_ble_eq_true rfl) rfl hcs dL_law_1440) (fun H locs g => ?_)
  refine lv_icmp_eq (tgt := 1529) hx hb dL_law_1443 (by decide) (fun _ => ?_) (fun c9 => absurd rfl c9)
  exact kk _ _ _ g (lv_sub hl [0, 1, 2, 3, 4] rfl)
set_option maxHeartbeats 4000000 in
set_option maxRecDepth 100000 in
theorem seg_32 {p : Program} {l : Launch} {e : Env} {s : State} {m : MethodId} {args : Array Value} {below : List Frame} {meth : Method} {c : Code} {H : Heap} {locs : List Loc} {cells slots : Nat} {Q : State → Prop} {ls : Array Slot} {G : gT} {F F1 F2 : Fs} {o : Int64} {b L i : Nat} {xs : Nat → Int32} {v : Int32} {f k f2 k2 : Nat} (S : CallFix p m c cL_law 9 s args lw_all "ShadowPoolLaw") (g : GB G F o [] [] s H locs) (hl : lv_has ls 9 (lwL G b i)) (hM : MI l yX2_bestLimit cX2_bestLimit 5 (some .int) f k [.ref (gA G 0)] G F o F1 v) (hR : f + 1 ≤ room_1.frames ∧ 8 + (5 + 11) + k ≤ room_1.locals) (hcs : cells ≤ room_1.cells ∧ slots ≤ room_1.slots) (hN : MI l yX3_bestLimit cX3_bestLimit 1 (some .int) f2 k2 [.ref (gA G 21)] G F1 o F2 v) (hR2 : f2 + 1 ≤ room_1.frames ∧ 8 + (1 + 11) + k2 ≤ room_1.locals) (kk : ∀ (H : Heap) (locs : List Loc) (ls : Array Slot), GB G F2 o [] [] s H locs → lv_has ls 9 (lwL G b i) → W p l e room_1 s m args below meth c H locs cells slots Q (F0 m 1529 ls [])) : W p l e room_1 s m args below meth c H locs cells slots Q (F0 m 1448 ls []) := by
  have hx := S.1
  have hb := S.2.1
  refine lv_aload_n hx hb dL_law_1448 rfl (lv_at hl 1 rfl) ?_
  refine g_ci (rest := []) g (g_V (n := 0) (As := []) S g hM (by decide) (cE0 G _ _) rfl (lw_V q244 q245 q246 q1 q247) ⟨rfl, by decide +kernel, by decide +kernel, by decide +kernel⟩ rfl hR hl.1 (Nat.le_of_ble_eq_true rfl) rfl hcs dL_law_1449) (fun H locs g => ?_)
  refine lv_aload_n hx hb dL_law_1452 rfl (lv_at hl 2 rfl) ?_
  refine g_ci (rest := [.int v]) g (g_V (n := 0) (As := []) S g hN (by decide) (cEm G _ _) rfl (lw_V q793 q794 q795 q4 q796) ⟨rfl, by decide +kernel, by decide +kernel, by decide +kernel⟩ rfl hR2 hl.1 (Nat.le_of_ble_eq_true rfl) rfl hcs dL_law_1453) (fun H locs g => ?_)
  refine lv_icmp_eq (tgt := 1529) hx hb dL_law_1456 (by decide) (fun _ => ?_) (fun c9 => absurd rfl c9)
  exact kk _ _ _ g (lv_sub hl [0, 1, 2, 3, 4] rfl)
set_option maxHeartbeats 4000000 in
set_option maxRecDepth 100000 in
theorem seg_33 {p : Program} {l : Launch} {e : Env} {s : State} {m : MethodId} {args : Array Value} {below : List Frame} {meth : Method} {c : Code} {H : Heap} {locs : List Loc} {cells slots : Nat} {Q : State → Prop} {ls : Array Slot} {G : gT} {F F1 F2 : Fs} {o : Int64} {b L i : Nat} {xs : Nat → Int32} {v : Int32} {f k f2 k2 : Nat} (S : CallFix p m c cL_law 9 s args lw_all "ShadowPoolLaw") (g : GB G F o [] [] s H locs) (hl : lv_has ls 9 (lwL G b i)) (hM : MI l yX2_fairRate cX2_fairRate 2 (some .int) f k [.ref (gA G 0)] G F o F1 v) (hR : f + 1 ≤ room_1.frames ∧ 8 + (2 + 11) + k ≤ room_1.locals) (hcs : cells ≤ room_1.cells ∧ slots ≤ room_1.slots) (hN : MI l yX3_fairRate cX3_fairRate 1 (some .int) f2 k2 [.ref (gA G 21)] G F1 o F2 v) (hR2 : f2 + 1 ≤ room_1.frames ∧ 8 + (1 + 11) + k2 ≤ room_1.locals) (kk : ∀ (H : Heap) (locs : List Loc) (ls : Array Slot), GB G F2 o [] [] s H locs → lv_has ls 9 (lwL G b i) → W p l e room_1 s m args below meth c H locs cells slots Q (F0 m 1529 ls [])) : W p l e room_1 s m args below meth c H locs cells slots Q (F0 m 1461 ls []) := by
  have hx := S.1
  have hb := S.2.1
  refine lv_aload_n hx hb dL_law_1461 rfl (lv_at hl 1 rfl) ?_
  refine g_ci (rest := []) g (g_V (n := 0) (As := []) S g hM (by decide) (cE0 G _ _) rfl (lw_V q252 q253 q254 q1 q255) ⟨rfl, by decide +kernel, by decide +kernel, by decide +kernel⟩ rfl hR hl.1 (Nat.le_of_ble_eq_true rfl) rfl hcs dL_law_1462) (fun H locs g => ?_)
  refine lv_aload_n hx hb dL_law_1465 rfl (lv_at hl 2 rfl) ?_
  refine g_ci (rest := [.int v]) g (g_V (n := 0) (As := []) S g hN (by decide) (cEm G _ _) rfl (lw_V q801 q802 q803 q4 q804) ⟨rfl, by decide +kernel, by decide +kernel, by decide +kernel⟩ rfl hR2 hl.1 (Nat.le_of_ble_eq_true rfl) rfl hcs dL_law_1466) (fun H locs g => ?_)
  refine lv_icmp_eq (tgt := 1529) hx hb dL_law_1469 (by decide) (fun _ => ?_) (fun c9 => absurd rfl c9)
  exact kk _ _ _ g (lv_sub hl [0, 1, 2, 3, 4] rfl)
set_option maxHeartbeats 4000000 in
set_option maxRecDepth 100000 in
theorem seg_34 {p : Program} {l : Launch} {e : Env} {s : State} {m : MethodId} {args : Array Value} {below : List Frame} {meth : Method} {c : Code} {H : Heap} {locs : List Loc} {cells slots : Nat} {Q : State → Prop} {ls : Array Slot} {G : gT} {F F1 F2 : Fs} {o : Int64} {b L i : Nat} {xs : Nat → Int32} {v : UInt64} {f k f2 k2 : Nat} (S : CallFix p m c cL_law 9 s args lw_all "ShadowPoolLaw") (g : GB G F o [] [] s H locs) (hl : lv_has ls 9 (lwL G b i)) (hM : MD l yX2_meanShadow cX2_meanShadow 4 f k [.ref (gA G 0)] G F o F1 v) (hR : f + 1 ≤ room_1.frames ∧ 8 + (4 + 11) + k ≤ room_1.locals) (hcs : cells ≤ room_1.cells ∧ slots ≤ room_1.slots) (hN : MD l yX3_meanShadow cX3_meanShadow 3 f2 k2 [.ref (gA G 21)] G F1 o F2 v) (hR2 : f2 + 1 ≤ room_1.frames ∧ 8 + (3 + 11) + k2 ≤ room_1.locals) (kk : ∀ (H : Heap) (locs : List Loc) (ls : Array Slot), GB G F2 o [] [] s H locs → lv_has ls 9 (lwL G b i) → W p l e room_1 s m args below meth c H locs cells slots Q (F0 m 1529 ls [])) : W p l e room_1 s m args below meth c H locs cells slots Q (F0 m 1474 ls []) := by
  have hx := S.1
  have hb := S.2.1
  refine lv_aload_n hx hb dL_law_1474 rfl (lv_at hl 1 rfl) ?_
  refine g_cd (rest := []) g (g_V (n := 0) (As := []) S g hM (by decide) (cE0 G _ _) rfl (lw_V q256 q257 q258 q1 q259) ⟨rfl, by decide +kernel, by decide +kernel, by decide +kernel⟩ rfl hR hl.1 (Nat.le_of_ble_eq_true rfl) rfl hcs dL_law_1475) (fun H locs g => ?_)
  refine lv_dstore (lv' := [(5, .double v), (0, .ref b), (1, .ref (gA G 0)), (2, .ref (gA G 21)), (3, .ref (gA G 27)), (4, .int (nI i))]) hx hb dL_law_1478 hl (by decide) rfl (fun ls hl => ?_)
  refine lv_aload_n hx hb dL_law_1480 rfl (lv_at hl 3 rfl) ?_
  refine g_cd (rest := []) g (g_V (n := 0) (As := []) S g hN (by decide) (cEm G _ _) rfl (lw_V q809 q810 q811 q4 q812) ⟨rfl, by decide +kernel, by decide +kernel, by decide +kernel⟩ rfl hR2 hl.1 (Nat.le_of_ble_eq_true rfl) rfl hcs dL_law_1481) (fun H locs g => ?_)
  refine lv_dstore (lv' := [(7, .double v), (5, .double v), (0, .ref b), (1, .ref (gA G 0)), (2, .ref (gA G 21)), (3, .ref (gA G 27)), (4, .int (nI i))]) hx hb dL_law_1484 hl (by decide) rfl (fun ls hl => ?_)
  refine lv_dload hx hb dL_law_1486 (lv_at hl 1 rfl) ?_
  refine lv_dload hx hb dL_law_1488 (lv_at hl 0 rfl) ?_
  refine lv_dcmp hx hb dL_law_1490 ?_
  refine lv_if_eq (tgt := 1512) hx hb dL_law_1491 (by decide) (fun _ => ?_) (fun hz => ?_)
  · refine lv_goto (tgt := 1529) hx hb dL_law_1512 (by decide) ?_
    exact kk _ _ _ g (lv_sub hl [2, 3, 4, 5, 6] rfl)
  refine lv_dload hx hb dL_law_1494 (lv_at hl 1 rfl) ?_
  refine lv_dload hx hb dL_law_1496 (lv_at hl 1 rfl) ?_
  refine lv_dcmp hx hb dL_law_1498 ?_
  refine lv_if_eq (tgt := 1510) hx hb dL_law_1499 (by decide) (fun c9 => absurd c9 hz) (fun _ => ?_)
  refine lv_dload hx hb dL_law_1502 (lv_at hl 0 rfl) ?_
  refine lv_dload hx hb dL_law_1504 (lv_at hl 0 rfl) ?_
  refine lv_dcmp hx hb dL_law_1506 ?_
  refine lv_if_ne (tgt := 1512) hx hb dL_law_1507 (by decide) (fun _ => ?_) (fun c9 => absurd c9 hz)
  refine lv_goto (tgt := 1529) hx hb dL_law_1512 (by decide) ?_
  exact kk _ _ _ g (lv_sub hl [2, 3, 4, 5, 6] rfl)
set_option maxHeartbeats 4000000 in
set_option maxRecDepth 100000 in
theorem seg_35 {p : Program} {l : Launch} {e : Env} {s : State} {m : MethodId} {args : Array Value} {below : List Frame} {meth : Method} {c : Code} {H : Heap} {locs : List Loc} {cells slots : Nat} {Q : State → Prop} {ls : Array Slot} {G : gT} {F F1 F2 : Fs} {o : Int64} {b L i : Nat} {xs : Nat → Int32} {v : Int64} {f k f2 k2 cs ss : Nat} (S : CallFix p m c cL_law 9 s args lw_all "ShadowPoolLaw") (g : GB G F o [] [] s H locs) (hl : lv_has ls 9 (lwL G b i)) (hM : ML l yX2_digest cX2_digest 5 f k [.ref (gA G 0)] G F o F1 v) (hR : f + 1 ≤ room_1.frames ∧ 8 + (5 + 11) + k ≤ room_1.locals) (hcs : cells ≤ room_1.cells ∧ slots ≤ room_1.slots) (hcs2 : cells + cs ≤ room_1.cells ∧ slots + ss ≤ room_1.slots) (hN : MLc l yX3_digest cX3_digest 10 f2 k2 cs ss [.ref (gA G 21)] G F1 o F2 v) (hR2 : f2 + 1 ≤ room_1.frames ∧ 8 + (10 + 11) + k2 ≤ room_1.locals) (kk : ∀ (H : Heap) (locs : List Loc) (ls : Array Slot), GB G F2 o [] [] s H locs → lv_has ls 9 (lwL G b i) → W p l e room_1 s m args below meth c H locs (cells + cs) (slots + ss) Q (F0 m 1529 ls [])) : W p l e room_1 s m args below meth c H locs cells slots Q (F0 m 1515 ls []) := by
  have hx := S.1
  have hb := S.2.1
  refine lv_aload_n hx hb dL_law_1515 rfl (lv_at hl 1 rfl) ?_
  refine g_cl (rest := []) g (g_V (n := 0) (As := []) S g hM (by decide) (cE0 G _ _) rfl (lw_V q260 q261 q262 q1 q263) ⟨rfl, by decide +kernel, by decide +kernel, by decide +kernel⟩ rfl hR hl.1 (Nat.le_of_ble_eq_true rfl) rfl hcs dL_law_1516) (fun H locs g => ?_)
  refine lv_aload_n hx hb dL_law_1519 rfl (lv_at hl 2 rfl) ?_
  refine g_clc (rest := [.long v]) g (g_Vc (n := 0) (As := []) S g hN (by decide) (cEm G _ _) rfl (lw_V q813 q814 q815 q4 q816) ⟨rfl, by decide +kernel, by decide +kernel, by decide +kernel⟩ rfl hR2 hl.1 (Nat.le_of_ble_eq_true rfl) rfl hcs2 dL_law_1520) (fun H locs g => ?_)
  refine W.lcmp hx hb dL_law_1523 ?_
  refine lv_if_eq (tgt := 1529) hx hb dL_law_1524 (by decide) (fun _ => ?_) (fun c9 => absurd (lg_same rfl) c9)
  exact kk _ _ _ g (lv_sub hl [0, 1, 2, 3, 4] rfl)
