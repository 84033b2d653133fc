/-! calls that throw, and the law's helpers that catch -/
theorem inR_N {t lo hi : Nat} (h1 : lo ≤ t) (h2 : t ≤ hi) (h3 : hi < 2 ^ 31) : ¬ inR (nI t) (nI lo) (nI hi) = 0 := by
  unfold inR
  rw [if_neg (nI_nlt h1 (by omega)), if_neg (nI_nlt h2 h3)]
  decide
abbrev xNs : List String := ["java/lang/RuntimeException", "java/lang/Exception"]
theorem atIA : ∀ w ∈ (vx_atS "ShadowPool" 27 xIA xNs).filter goodWord, w ∈ tables_1 := by decide +kernel
theorem atIS : ∀ w ∈ (vx_atS "ShadowPool" 42 xIS xNs).filter goodWord, w ∈ tables_1 := by decide +kernel
theorem atIB : ∀ w ∈ (vx_atS "ShadowPool" 51 xIB xNs).filter goodWord, w ∈ tables_1 := by decide +kernel
theorem ngIA : ∀ w ∈ (vx_atS "ShadowPool" 27 xIA xNs).filter (fun w => !goodWord w), w ∈ [Cond.castable xIA xIA, Cond.declares yRE, Cond.declares yEE, Cond.declares yTE] := by decide +kernel
theorem ngIS : ∀ w ∈ (vx_atS "ShadowPool" 42 xIS xNs).filter (fun w => !goodWord w), w ∈ [Cond.castable xIS xIS, Cond.declares yRE, Cond.declares yEE, Cond.declares yTE] := by decide +kernel
theorem ngIB : ∀ w ∈ (vx_atS "ShadowPool" 51 xIB xNs).filter (fun w => !goodWord w), w ∈ [Cond.castable xIB xIB, Cond.declares yRE, Cond.declares yEE, Cond.declares yTE] := by decide +kernel
theorem otIA : ∀ w ∈ Cond.classLink "ShadowPool" 23 xIA :: Cond.initialized xIA :: vx_atS "ShadowPool" 27 xIA xNs, vx_ot w = true := by decide +kernel
theorem otIS : ∀ w ∈ Cond.classLink "ShadowPool" 38 xIS :: Cond.initialized xIS :: vx_atS "ShadowPool" 42 xIS xNs, vx_ot w = true := by decide +kernel
theorem otIB : ∀ w ∈ Cond.classLink "ShadowPool" 47 xIB :: Cond.initialized xIB :: vx_atS "ShadowPool" 51 xIB xNs, vx_ot w = true := by decide +kernel
abbrev rmX (f n : Nat) : Room := { frames := f, cells := 1, slots := 6, locals := n }
abbrev QX (G : gT) (sz : Nat) : Array Value → State → Outcome → State → Prop := va_Qi (fun (_ : Int32) (_ : Unit) => False) (fun _ _ => True) (GA G sz)
abbrev XE (G : gT) (F : Fs) (o : Int64) (EX : String) (sz : Nat) : String → State → State → Prop := vx_X (fun (_ : Unit) => True) (fun E _ t => E = EX ∧ va_P G.1 vwCl (wld G F o) t.heap) (GA G sz)
/-- a method that throws EX here and leaves the world as it was -/
abbrev MX (l : Launch) (y : MethodName) (b : ByteArray) (n : Nat) (ret : Option FieldType) (f k : Nat) (vs : List Value) (G : gT) (F : Fs) (o : Int64) (EX : String) : Prop := ∀ sz : Nat, vx_Met l y (wsG y b n ret) (rmX f k) (va_Pc vs (preG G F o sz)) (QX G sz) (XE G F o EX sz) 1 6 (GA G sz)
theorem mk_X {l : Launch} {y : MethodName} {b : ByteArray} {n : Nat} {ret : Option FieldType} {f k : Nat} {vs : List Value} {G : gT} {F : Fs} {o : Int64} {own EX : String}
    (hy : plainName y.cls = true) (ho : y.cls = own) (hn : (lg_sl vs).length ≤ n)
    (body : ∀ (p : Program) (e : Env) (s : State) (m : MethodId) (args : Array Value) (below : List Frame) (meth : Method) (c : Code) (ls : Array Slot), (∀ x ∈ c.exceptionTable.toList, False) → meth.locks = false → CallFix p m c b n s args lw_all own → GB G F o [] [] s s.heap [] → lv_has ls n (lv_args 0 vs) →
      W p l e (rmX f k) s m args below meth c s.heap [] 0 0 (vx_MQ below (QX G s.heap.size) (XE G F o EX s.heap.size) args s 1 6 (GA G s.heap.size)) (F0 m 0 ls [])) : MX l y b n ret f k vs G F o EX := by
  intro sz
  refine vx_ofW (cc := b) (maxL := n) (ret := ret) hy rfl ?_
  intro p e s m args below meth c s₁ B hml hno hv
  obtain ⟨rfl, hsz, hP, hD, hK, hE⟩ := hv
  have hx := B.exec
  have hb := B.bytes
  have hts := atoms_spec (ws := wsG y b n ret) B.pre
  have hts : ∀ w ∈ lw_all, w.before vs.toArray s = true := fun w h => hts w (List.mem_cons_of_mem _ h)
  have hown : s.vm.findClass y.cls = some m.cls := findClass_of_methodNamed B.named
  have hlocks := B.notSynchronized
  subst hsz
  have hl := lv_entry vs (n := n) hn
  rw [lg_entry_eq]
  generalize (lg_sl vs ++ List.replicate (n - (lg_sl vs).length) Slot.unset).toArray = ls at hl ⊢
  refine body p e s m _ below meth c ls hno hlocks ⟨hx, hb, hml, by rw [← ho]; exact hown, hts⟩ ⟨by rw [List.append_nil]; exact hP, ?_, by rw [List.append_nil]; exact hK, va_S.rf, hE⟩ hl
  rw [List.append_nil]
  refine hD.weaken (fun i q hq _ => ?_)
  have hi : i < 21 := by
    have := (List.getElem?_eq_some_iff.mp hq).1
    rw [wld_len] at this; exact this
  rw [wld_at0 G F o hi] at hq
  cases hq
  exact GA_in G _ hi
/-- a helper's own list of words: its code with its table, and the rest -/
abbrev wsH (y : MethodName) (b : ByteArray) (n : Nat) (hh : List (Nat × Nat × Nat × Nat)) : List Cond := .codeWith y b n (some .int) hh :: lw_all
abbrev rmC (f n c s : Nat) : Room := { frames := f, cells := c, slots := s, locals := n }
abbrev MH (l : Launch) (y : MethodName) (b : ByteArray) (n : Nat) (hh : List (Nat × Nat × Nat × Nat)) (f k cs ss : Nat) (vs : List Value) (G : gT) (F : Fs) (o : Int64) (F' : Fs) (o' : Int64) (R : Int32) : Prop := ∀ sz : Nat, Met l y (wsH y b n hh) (rmC f k cs ss) (va_Pc vs (preG G F o sz)) (QI G F' o' R sz) cs ss (GA G sz)
theorem mk_H {l : Launch} {y : MethodName} {b : ByteArray} {n : Nat} {hh : List (Nat × Nat × Nat × Nat)} {f k cs ss : Nat} {vs : List Value} {G : gT} {F F' : Fs} {o o' : Int64} {RR : Int32} {own : String}
    (hy : plainName y.cls = true) (ho : y.cls = own) (hn : (lg_sl vs).length ≤ n)
    (body : ∀ (p : Program) (e : Env) (s : State) (m : MethodId) (args : Array Value) (below : List Frame) (meth : Method) (c : Code) (ls : Array Slot), meth.sig.returnType = some .int → meth.locks = false → c.exceptionTable.toList = tableOf hh → CallFix p m c b n s args lw_all own → GB G F o [] [] s s.heap [] → lv_has ls n (lv_args 0 vs) →
      W p l e (rmC f k cs ss) s m args below meth c s.heap [] 0 0 (MQ below (QI G F' o' RR s.heap.size) args s cs ss (GA G s.heap.size)) (F0 m 0 ls [])) : MH l y b n hh f k cs ss vs G F o F' o' RR := by
  intro sz
  refine va_MetW (cc := b) (maxL := n) (ret := some .int) (hh := hh) hy rfl ?_
  intro p e s m args below meth c s₁ B hml hv
  obtain ⟨rfl, hsz, hP, hD, hK, hE⟩ := hv
  have hx := B.exec
  have hb := B.bytes
  have hts0 := atoms_spec (ws := wsH y b n hh) B.pre
  have htab := vx_table (x := y) B (hts0 _ List.mem_cons_self)
  have hts : ∀ w ∈ lw_all, w.before vs.toArray s = true := fun w h => hts0 w (List.mem_cons_of_mem _ h)
  have hown : s.vm.findClass y.cls = some m.cls := findClass_of_methodNamed B.named
  have hlocks := B.notSynchronized
  have hr := B.returns
  subst hsz
  have hl := lv_entry vs (n := n) hn
  rw [lg_entry_eq]
  generalize (lg_sl vs ++ List.replicate (n - (lg_sl vs).length) Slot.unset).toArray = ls at hl ⊢
  refine body p e s m _ below meth c ls hr hlocks htab ⟨hx, hb, hml, by rw [← ho]; exact hown, hts⟩ ⟨by rw [List.append_nil]; exact hP, ?_, by rw [List.append_nil]; exact hK, va_S.rf, hE⟩ hl
  rw [List.append_nil]
  refine hD.weaken (fun i q hq _ => ?_)
  have hi : i < 21 := by
    have := (List.getElem?_eq_some_iff.mp hq).1
    rw [wld_len] at this; exact this
  rw [wld_at0 G F o hi] at hq
  cases hq
  exact GA_in G _ hi
section GX
variable {p : Program} {l : Launch} {e : Env} {R : Room} {s : State} {m : MethodId} {args : Array Value} {below : List Frame} {meth : Method} {c : Code} {H : Heap} {locs : List Loc} {cells slots : Nat} {Q : State → Prop}
variable {cc : ByteArray} {pc nL : Nat} {ls : Array Slot} {rest st0 : List Value} {own : String} {G : gT} {F F' : Fs} {o : Int64} {X : va_W} {Y : List (ClassId × FieldType)}
/-- throw new cls(text) -/
theorem e_x {cls text : String} {ik is ic : Nat} {Qc : Array Value → State → Outcome → State → Prop} (hfl : l.stackTraces = false) (S : CallFix p m c cc nL s args lw_all "ShadowPool") (hno : ∀ x ∈ c.exceptionTable.toList, False) (hk : meth.locks = false) (g : GB G F o X Y s H locs) (hsz : ls.size = nL) (hyc : va_Yc cls cls s) (hcls : Bundle.fit cls = true)
    (h1 : Cond.classLink "ShadowPool" ik cls ∈ lw_all) (h2 : Cond.initialized cls ∈ lw_all) (hstr : (is, text) ∈ lw_strs) (hat : ∀ w ∈ (vx_atS "ShadowPool" ic cls xNs).filter goodWord, w ∈ tables_1) (hng : ∀ w ∈ (vx_atS "ShadowPool" ic cls xNs).filter (fun w => !goodWord w), w ∈ [Cond.castable cls cls, Cond.declares yRE, Cond.declares yEE, Cond.declares yTE]) (hot : ∀ w ∈ Cond.classLink "ShadowPool" ik cls :: Cond.initialized cls :: vx_atS "ShadowPool" ic cls xNs, vx_ot w = true)
    (d0 : decode cc pc = .ok (.new ik, 3)) (d3 : decode cc (pc + 3) = .ok (.dup, 1)) (d4 : decode cc (pc + 4) = .ok (.ldc is, 2)) (d6 : decode cc (pc + 6) = .ok (.invokespecial ic, 3)) (d9 : decode cc (pc + 9) = .ok (.athrow, 1))
    (hRf : 5 < R.frames) (hRl : (rest.map fun v => v.category).sum + 82 ≤ R.locals) (hRc : 1 ≤ R.cells) (hRs : 6 ≤ R.slots) : W p l e R s m args below meth c H locs 0 0 (vx_MQ below Qc (XE G F o cls s.heap.size) args s 1 6 (GA G s.heap.size)) (F0 m pc ls rest) := by
  obtain ⟨hx, hb, hml, ho, hts⟩ := S
  obtain ⟨hP, hD, hK, hS, hE⟩ := g
  obtain ⟨sa, hsa⟩ := hE.2.2.2.2.1 _ hstr
  have hat2 : ∀ w ∈ vx_atS "ShadowPool" ic cls xNs, w.before args s = true := vx_hat (fun w hw => hts w (lw_in (hat w hw) (List.mem_filter.mp hw).2)) hng (vx_c hyc.word (vx_c hE.2.2.2.2.2.2.2.2.2.2.1.use (vx_c hE.2.2.2.2.2.2.2.2.2.2.2.1.use (vx_c hE.2.2.2.2.2.2.2.2.2.2.2.2.use vx_n))))
  refine vx_throwS (names := xNs) (A := GA G s.heap.size) hx hb hfl ho hcls (by decide +kernel) (hts _ h1) (hts _ h2) hsa hat2 hot hE.2.2.1 hE.2.2.2.1 hS (hsz.trans hml.symm) d0 d3 d4 d6 d9 (fun x hx => (hno x hx).elim) hRf hRl hRc hRs hk ?_ hS.2.2 (Nat.le_refl _) (Nat.le_refl _)
  intro t hal hz hq
  refine ⟨(), trivial, ⟨rfl, ?_⟩, Nat.le_trans hS.1 hz, fun q h3 h4 => (hq q (Nat.lt_of_lt_of_le h3 hS.1)).trans (hS.2.1 q h3 h4)⟩
  intro k q hk9
  have h9 := hP k q (by rw [List.getElem?_append_left (List.getElem?_eq_some_iff.mp hk9).1]; exact hk9)
  exact h9.kept (hq _ h9.lt)
/-- a call that throws, caught here -/
theorem g_xc {EX name : String} {y : MethodName} {b : ByteArray} {mL n f k1 index : Nat} {ret : Option FieldType} {As : List Value} (S : CallFix p m c cc nL s args lw_all own) (g : GB G F o X Y s H locs) (hM : MX l y b mL ret f k1 (.ref (gA G 0) :: As) G F o EX)
    (hq : GoodIn lw_all (wsV own index "ShadowPool" y (wsG y b mL ret))) (hd : y.cls = "ShadowPool" ∧ y.cls ≠ "java/lang/invoke/MethodHandle" ∧ y.cls ≠ "java/lang/invoke/VarHandle" ∧ (parseMethodDescriptor y.desc).map (fun d => d.parameters.length) = some n) (hn : As.length = n) (hR : f + 1 ≤ R.frames ∧ 8 + (mL + 11) + k1 ≤ R.locals) (hsz : ls.size = nL) (hW : (rest.map fun v => v.category).sum ≤ 8) (hst : st0 = As.reverse ++ .ref (gA G 0) :: rest) (hcs : cells + 1 ≤ R.cells ∧ slots + 6 ≤ R.slots) (hdg : decode cc pc = .ok (.invokevirtual index, 3))
    (pre : List ExceptionTableEntry) (x : ExceptionTableEntry) (suf : List ExceptionTableEntry) (hsplit : c.exceptionTable.toList = pre ++ x :: suf) (hpass : ∀ z ∈ pre, covers z pc = false ∨ (z.catchType ≠ 0 ∧ ∃ nm : String, Cond.classLink own z.catchType nm ∈ lw_all ∧ va_Nc EX nm s)) (hcov : covers x pc = true) (h0 : x.catchType ≠ 0) (hlink : Cond.classLink own x.catchType name ∈ lw_all) (hcast : va_Yc EX name s)
    (kk : ∀ (H : Heap) (locs : List Loc) (q : Nat), GB G F o X Y s H locs → W p l e R s m args below meth c H locs (cells + 1) (slots + 6) Q (F0 m x.handlerPc ls [.ref q])) : W p l e R s m args below meth c H locs cells slots Q (F0 m pc ls st0) := by
  have hts := S.2.2.2.2
  refine vx_calli (vx_runV (As := As) (rest := rest) S (hM H.size) (cwV n hts hq rfl rfl rfl hd hR) ⟨preG_blind, va_recv g.2.2.1 g.1 (q := (RX2, TX2, 2)) rfl (wld_at G F o X (by decide) (cE0 G F o)), fun U hU hW => ⟨rfl, g.pre hU hW⟩⟩ rfl hn hsz hst (lv_room (m := m) (pc := pc) (ls := ls) (rest := st0) hW) hdg hcs) g.2.2.2.1 (fun q _ h => GA_up g.2.2.2.1.1 h) (fun q h => GA_up g.2.2.2.1.1 h) (fun q _ h => GA_up g.2.2.2.1.1 h) (fun E ce q9 u t H1 l1 ht hvm hp hB hz hk1 hS hce hcv hcl => ?_) (fun r u t H1 l1 ht hvm hw hB hz hk1 hS => hw.elim)
  obtain ⟨rfl, hP1⟩ := hB
  exact vx_catch (name := name) S.2.2.2.1 pre x suf hsplit (fun z hz => (hpass z hz).imp id (fun ⟨a1, nm, a2, a3⟩ => ⟨a1, nm, hts _ a2, a3⟩)) hcov h0 (hts _ hlink) hcast.word hce hcv hcl (kk H1 l1 q9 (g.after (by rw [← ht]; exact hP1) hk1 hS))
end GX
