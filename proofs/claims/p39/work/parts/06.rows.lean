/-! rows over the one world -/
theorem lw_V {own C : String} {idx : Nat} {y : MethodName} {b : ByteArray} {n : Nat} {r : Option FieldType} (h1 : Cond.methodLink own idx y ∈ lw_all) (h2 : Cond.instanceMethod y ∈ lw_all) (h3 : Cond.selects C y y ∈ lw_all) (h4 : Cond.initialized C ∈ lw_all) (h5 : Cond.code y b n r ∈ lw_all) : GoodIn lw_all (wsV own idx C y (wsG y b n r)) := by
  refine goodIn_sub (fun w hw => ?_) (List.all_eq_true.mpr (fun w hw => ?_))
  all_goals
    rcases List.mem_append.mp hw with hw | hw
    · simp only [List.mem_cons, List.not_mem_nil, or_false] at hw
      rcases hw with rfl | rfl | rfl | rfl <;> first | assumption | exact lw_all_good (by assumption)
    · rcases List.mem_cons.mp hw with rfl | hw <;> first | assumption | exact lw_all_good (by assumption)
theorem lw_S {own : String} {idx : Nat} {y : MethodName} {b : ByteArray} {n : Nat} {r : Option FieldType} (h1 : Cond.methodLink own idx y ∈ lw_all) (h2 : Cond.static y ∈ lw_all) (h4 : Cond.initialized y.cls ∈ lw_all) (h5 : Cond.code y b n r ∈ lw_all) : GoodIn lw_all (va_wsS own idx y (wsG y b n r)) := by
  refine goodIn_sub (fun w hw => ?_) (List.all_eq_true.mpr (fun w hw => ?_))
  all_goals
    rcases List.mem_append.mp hw with hw | hw
    · simp only [List.mem_cons, List.not_mem_nil, or_false] at hw
      rcases hw with rfl | rfl | rfl <;> first | assumption | exact lw_all_good (by assumption)
    · rcases List.mem_cons.mp hw with rfl | hw <;> first | assumption | exact lw_all_good (by assumption)
theorem lw_C {y : MethodName} {b : ByteArray} {n : Nat} {r : Option FieldType} (h5 : Cond.code y b n r ∈ lw_all) : GoodIn lw_all (wsG y b n r) := by
  refine goodIn_sub (fun w hw => ?_) (List.all_eq_true.mpr (fun w hw => ?_))
  all_goals
    rcases List.mem_cons.mp hw with rfl | hw <;> first | assumption | exact lw_all_good (by assumption)
theorem GB.pre {G : gT} {F : Fs} {o : Int64} {X : va_W} {Y : List (ClassId × FieldType)} {s : State} {H : Heap} {locs : List Loc} (g : GB G F o X Y s H locs) {U : State} (hU : U.heap = H) (hW : s.WarmedH U.vm) : preG G F o H.size U := by
  obtain ⟨hP, hD, hK, hS, hE⟩ := g
  have up : ∀ (k : Nat) (q : Nat × va_E), (wld G F o)[k]? = some q → (wld G F o ++ X)[k]? = some q := fun k q hq => by
    rw [List.getElem?_append_left (List.getElem?_eq_some_iff.mp hq).1]; exact hq
  refine ⟨by rw [hU], by rw [hU]; exact fun k q hq => hP k q (up k q hq), ?_, va_K.moved hW.alike (hK.sub [0, 1, 2] rfl), ?_⟩
  · exact ⟨fun i j x y hx hy he => hD.1 i j x y (up i x hx) (up j y hy) he, fun _ _ _ => trivial⟩
  · rw [hU]
    exact (hE.warm hW).on (fun a h1 h2 => hS.2.1 a h1 h2) (fun q hq => GA_up hS.1 hq)
theorem GB.after {G : gT} {F F' : Fs} {o o' : Int64} {X : va_W} {Y : List (ClassId × FieldType)} {s : State} {H H1 : Heap} {locs locs1 : List Loc} (g : GB G F o X Y s H locs) (hP1 : va_P G.1 vwCl (wld G F' o') H1) (hk1 : ∀ q : Nat, q < H.size → ¬ GA G H.size q → H1[q]? = H[q]?) (hS1 : va_S (GA G s.heap.size) s.heap H1 locs1) : GB G F' o' X Y s H1 locs1 := by
  obtain ⟨hP, hD, hK, hS, hE⟩ := g
  refine ⟨va_P.app hP1 (fun k q hq => ?_), va_D_re hD (wld_fst G F F' o o' X), hK, hS1, hE⟩
  have h1 : (wld G F o ++ X)[21 + k]? = some q := by
    rw [List.getElem?_append_right (by rw [wld_len]; omega), wld_len, Nat.add_sub_cancel_left]; exact hq
  have h2 := hP _ _ h1
  refine h2.kept (hk1 _ h2.lt (fun h => ?_))
  rcases h with ⟨i, hi, he⟩ | h
  · have h3 := hD.1 (21 + k) i q _ h1 (wld_at G F o X hi rfl) he
    omega
  · exact absurd h2.lt (Nat.not_lt.mpr h)
section GR
variable {p : Program} {l : Launch} {e : Env} {R : Room} {s : State} {m : MethodId} {args : Array Value} {below : List Frame} {meth : Method} {c : Code} {H : Heap} {locs : List Loc} {cells slots : Nat} {Q : State → Prop}
variable {cc : ByteArray} {pc nL : Nat} {ls : Array Slot} {rest st0 : List Value} {own : String} {G : gT} {F F' : Fs} {o : Int64} {X : va_W} {Y : List (ClassId × FieldType)}
theorem g_get {C : String} {T : u_T} {N ci index : Nat} (S : CallFix p m c cc nL s args lw_all own) (g : GB G F o X Y s H locs) (hin : ∀ w ∈ u_ws C T N, w ∈ lw_all) (hc : vwCl[ci]? = some (C, T, N)) {k : Nat} (hk : k < 21) {fs : List Value} (hE : cellE G F o k = .inr (ci, fs)) (j : Nat) (hj : j < N) (hT : (T j).1 = C) (hq : Cond.fieldLink own index C (T j).2.1 (T j).2.2.1 ∈ lw_all) {v : Value} (hv : fs[j]? = some v) (hdg : decode cc pc = .ok (.getfield index, 3))
    (kk : W p l e R s m args below meth c H locs cells slots Q (F0 m (pc + 3) ls (v :: rest))) : W p l e R s m args below meth c H locs cells slots Q (F0 m pc ls (.ref (gA G k) :: rest)) := by
  obtain ⟨hx, hb, hml, ho, hts⟩ := S
  exact va_get (ref := C) hx hb hts hin ho g.2.2.1 g.1 k (wld_at G F o X hk hE) hc j hj (hts _ hq) (fun x h => by rw [hT] at h; exact h) hv hdg kk
theorem g_getN {C host : String} {T : u_T} {N ci index : Nat} (S : CallFix p m c cc nL s args lw_all own) (g : GB G F o X Y s H locs) (hin : ∀ w ∈ u_ws C T N, w ∈ lw_all) (hc : vwCl[ci]? = some (C, T, N)) {k : Nat} (hk : k < 21) {fs : List Value} (hE : cellE G F o k = .inr (ci, fs)) (j : Nat) (hj : j < N) (hT : (T j).1 = C) (hq : Cond.fieldLinkNest own index C (T j).2.1 (T j).2.2.1 host ∈ lw_nest) {v : Value} (hv : fs[j]? = some v) (hdg : decode cc pc = .ok (.getfield index, 3))
    (kk : W p l e R s m args below meth c H locs cells slots Q (F0 m (pc + 3) ls (v :: rest))) : W p l e R s m args below meth c H locs cells slots Q (F0 m pc ls (.ref (gA G k) :: rest)) := by
  obtain ⟨hx, hb, hml, ho, hts⟩ := S
  exact va_getN (ref := C) hx hb hts hin ho g.2.2.1 g.1 k (wld_at G F o X hk hE) hc j hj ((g.2.2.2.2.1 _ hq).use rfl) (fun x h => by rw [hT] at h; exact h) hv hdg kk
theorem g_put {C : String} {T : u_T} {N ci index : Nat} (S : CallFix p m c cc nL s args lw_all own) (g : GB G F o X Y s H locs) (hin : ∀ w ∈ u_ws C T N, w ∈ lw_all) (ty0 : Nat → FieldType) (hty : ∀ k, k < N → parseFieldDescriptor (T k).2.2.1 = some (ty0 k)) (hnm : ∀ a, a < N → ∀ b, b < N → a ≠ b → (T a).2.1 ≠ (T b).2.1) (hc : vwCl[ci]? = some (C, T, N)) {k : Nat} (hk : k < 21) {fs : List Value} (hE : cellE G F o k = .inr (ci, fs)) (j : Nat) (hj : j < N) (hT : (T j).1 = C) (hfin : (T j).2.2.2 = false) (hq : Cond.fieldLink own index C (T j).2.1 (T j).2.2.1 ∈ lw_all) {v : Value} (hn : narrow (ty0 j) v = v) (hfit : fits (ty0 j) v = true) (hlen : j < fs.length)
    (hset : (wld G F o ++ X).set k (gA G k, .inr (ci, fs.set j v)) = wld G F' o ++ X) (hdg : decode cc pc = .ok (.putfield index, 3))
    (kk : ∀ (H : Heap) (locs : List Loc), GB G F' o X Y s H locs → W p l e R s m args below meth c H locs cells slots Q (F0 m (pc + 3) ls rest)) : W p l e R s m args below meth c H locs cells slots Q (F0 m pc ls (v :: .ref (gA G k) :: rest)) := by
  obtain ⟨hx, hb, hml, ho, hts⟩ := S
  obtain ⟨hP, hD, hK, hS, hEn⟩ := g
  refine va_put (ref := C) hx hb hts hin ty0 hty hnm ho hK hP hD hS k (wld_at G F o X hk hE) hc j hj (hts _ hq) (fun x h => by rw [hT] at h; exact h) hfin (hty j hj) hn hfit hlen hdg (fun H1 l1 hP hD hS => ?_)
  rw [hset] at hP hD
  exact kk H1 l1 ⟨hP, hD, hK, hS, hEn⟩
theorem g_putN {C host : String} {T : u_T} {N ci index : Nat} (S : CallFix p m c cc nL s args lw_all own) (g : GB G F o X Y s H locs) (hin : ∀ w ∈ u_ws C T N, w ∈ lw_all) (ty0 : Nat → FieldType) (hty : ∀ k, k < N → parseFieldDescriptor (T k).2.2.1 = some (ty0 k)) (hnm : ∀ a, a < N → ∀ b, b < N → a ≠ b → (T a).2.1 ≠ (T b).2.1) (hc : vwCl[ci]? = some (C, T, N)) {k : Nat} (hk : k < 21) {fs : List Value} (hE : cellE G F o k = .inr (ci, fs)) (j : Nat) (hj : j < N) (hT : (T j).1 = C) (hfin : (T j).2.2.2 = false) (hq : Cond.fieldLinkNest own index C (T j).2.1 (T j).2.2.1 host ∈ lw_nest) {v : Value} (hn : narrow (ty0 j) v = v) (hfit : fits (ty0 j) v = true) (hlen : j < fs.length)
    (hset : (wld G F o ++ X).set k (gA G k, .inr (ci, fs.set j v)) = wld G F' o ++ X) (hdg : decode cc pc = .ok (.putfield index, 3))
    (kk : ∀ (H : Heap) (locs : List Loc), GB G F' o X Y s H locs → W p l e R s m args below meth c H locs cells slots Q (F0 m (pc + 3) ls rest)) : W p l e R s m args below meth c H locs cells slots Q (F0 m pc ls (v :: .ref (gA G k) :: rest)) := by
  obtain ⟨hx, hb, hml, ho, hts⟩ := S
  obtain ⟨hP, hD, hK, hS, hEn⟩ := g
  refine va_putN (ref := C) hx hb hts hin ty0 hty hnm ho hK hP hD hS k (wld_at G F o X hk hE) hc j hj ((hEn.1 _ hq).use rfl) (fun x h => by rw [hT] at h; exact h) hfin (hty j hj) hn hfit hlen hdg (fun H1 l1 hP hD hS => ?_)
  rw [hset] at hP hD
  exact kk H1 l1 ⟨hP, hD, hK, hS, hEn⟩
/-! arrays -/
theorem g_aald (S : CallFix p m c cc nL s args lw_all own) (g : GB G F o X Y s H locs) {k : Nat} (hk : k = 3 ∨ k = 4) {i : Int32} (j : Nat) (hi : i = nI j) (hj : j < 8) (hdg : decode cc pc = .ok (.aaload, 1))
    (kk : W p l e R s m args below meth c H locs cells slots Q (F0 m (pc + 1) ls (.ref (gA G (8 * k - 19 + j)) :: rest))) : W p l e R s m args below meth c H locs cells slots Q (F0 m pc ls (.int i :: .ref (gA G k) :: rest)) := by
  obtain ⟨hx, hb, hml, ho, hts⟩ := S
  subst hi
  refine va_aldq hx hb g.2.2.1 g.1 k 0 (wld_at G F o X (by omega) (cEr G F o hk)) rfl (vp_in_nI hj (by omega)) hdg ?_
  rw [nI_clamp (by omega)]
  exact kk
theorem g_alen {len : Nat} {t0 : Nat} {ty : FieldType} {cA : ClassId} {x : (Nat → Int32) ⊕ (Nat → Int64) ⊕ (Nat → UInt32) ⊕ (Nat → UInt64) ⊕ (Nat → Option Nat)} (S : CallFix p m c cc nL s args lw_all own) (g : GB G F o X Y s H locs) {k : Nat} (hk : k < 21) (hE : cellE G F o k = .inl (cA, len, x)) (ht : (tysG G ++ Y)[t0]? = some (cA, ty)) {v : Int32} (hv : Int32.ofNat len = v) (hdg : decode cc pc = .ok (.arraylength, 1))
    (kk : W p l e R s m args below meth c H locs cells slots Q (F0 m (pc + 1) ls (.int v :: rest))) : W p l e R s m args below meth c H locs cells slots Q (F0 m pc ls (.ref (gA G k) :: rest)) := by
  obtain ⟨hx, hb, hml, ho, hts⟩ := S
  exact va_alen hx hb g.2.2.1 g.1 k t0 (wld_at G F o X hk hE) ht hv hdg kk
/-! Math.max, Math.min -/
theorem g_max {index : Nat} (S : CallFix p m c cc nL s args lw_all own) (hsz : ls.size = nL) (h1 : Cond.methodLink own index Lib.Math.max.name ∈ lw_all) (h2 : Cond.static Lib.Math.max.name ∈ lw_all) (h3 : Cond.initialized "java/lang/Math" ∈ lw_all) (h4 : Cond.code Lib.Math.max.name Lib.Math.max.code 2 (some .int) ∈ lw_all)
    (hframes : 1 ≤ R.frames) (hlocals : (rest.map fun v => v.category).sum + 13 ≤ R.locals) (hc : cells ≤ R.cells) (hs : slots ≤ R.slots) {x y : Int32} (hdg : decode cc pc = .ok (.invokestatic index, 3))
    (kk : W p l e R s m args below meth c H locs cells slots Q (F0 m (pc + 3) ls (.int (if x < y then y else x) :: rest))) : W p l e R s m args below meth c H locs cells slots Q (F0 m pc ls (.int y :: .int x :: rest)) := by
  obtain ⟨hx, hb, hml, ho, hts⟩ := S
  exact va_mmax hx hb (hml.trans hsz.symm) ho (hts _ h1) (hts _ h2) (hts _ h3) (hts _ h4) hframes hlocals hc hs hdg kk
theorem g_min {index : Nat} (S : CallFix p m c cc nL s args lw_all own) (hsz : ls.size = nL) (h1 : Cond.methodLink own index Lib.Math.min.name ∈ lw_all) (h2 : Cond.static Lib.Math.min.name ∈ lw_all) (h3 : Cond.initialized "java/lang/Math" ∈ lw_all) (h4 : Cond.code Lib.Math.min.name Lib.Math.min.code 2 (some .int) ∈ lw_all)
    (hframes : 1 ≤ R.frames) (hlocals : (rest.map fun v => v.category).sum + 13 ≤ R.locals) (hc : cells ≤ R.cells) (hs : slots ≤ R.slots) {x y : Int32} (hdg : decode cc pc = .ok (.invokestatic index, 3))
    (kk : W p l e R s m args below meth c H locs cells slots Q (F0 m (pc + 3) ls (.int (if y < x then y else x) :: rest))) : W p l e R s m args below meth c H locs cells slots Q (F0 m pc ls (.int y :: .int x :: rest)) := by
  obtain ⟨hx, hb, hml, ho, hts⟩ := S
  exact va_mmin hx hb (hml.trans hsz.symm) ho (hts _ h1) (hts _ h2) (hts _ h3) (hts _ h4) hframes hlocals hc hs hdg kk
/-! calls: the run -/
theorem g_V {C : String} {y : MethodName} {b : ByteArray} {mL n f k1 index : Nat} {ret : Option FieldType} {As : List Value} {Qs : Nat → Array Value → State → Outcome → State → Prop} {k : Nat} {ci N : Nat} {T : u_T} {fs : List Value}
    (S : CallFix p m c cc nL s args lw_all own) (g : GB G F o X Y s H locs) (hM : ∀ sz : Nat, Met l y (wsG y b mL ret) (rmG f k1) (va_Pc (.ref (gA G k) :: As) (preG G F o sz)) (Qs sz) 0 0 (GA G sz)) (hk : k < 21) (hE : cellE G F o k = .inr (ci, fs)) (hc : vwCl[ci]? = some (C, T, N)) (hq : GoodIn lw_all (wsV own index C y (wsG y b mL ret)))
    (hd : y.cls = C ∧ y.cls ≠ "java/lang/invoke/MethodHandle" ∧ y.cls ≠ "java/lang/invoke/VarHandle" ∧ (parseMethodDescriptor y.desc).map (fun d => d.parameters.length) = some n) (hn : As.length = n) (hR : f + 1 ≤ R.frames ∧ 8 + (mL + 11) + k1 ≤ R.locals) (hsz : ls.size = nL) (hW : (rest.map fun v => v.category).sum ≤ 8) (hst : st0 = As.reverse ++ .ref (gA G k) :: rest) (hcs : cells ≤ R.cells ∧ slots ≤ R.slots) (hdg : decode cc pc = .ok (.invokevirtual index, 3)) :
    va_Run p l e R s m args below meth c H locs cells slots 0 0 (F0 m pc ls st0) rest (Qs H.size (Value.ref (gA G k) :: As).toArray) (GA G H.size) := by
  exact va_runV (As := As) (rest := rest) S (hM H.size) (cwV n S.2.2.2.2 hq rfl rfl rfl hd hR) ⟨preG_blind, va_recv g.2.2.1 g.1 hc (wld_at G F o X hk hE), fun U hU hW => ⟨rfl, g.pre hU hW⟩⟩ rfl hn hsz hst (lv_room (m := m) (pc := pc) (ls := ls) (rest := st0) hW) hdg hcs
theorem g_VN {C host : String} {y : MethodName} {b : ByteArray} {mL n f k1 index : Nat} {ret : Option FieldType} {As : List Value} {Qs : Nat → Array Value → State → Outcome → State → Prop} {k : Nat} {ci N : Nat} {T : u_T} {fs : List Value}
    (S : CallFix p m c cc nL s args lw_all own) (g : GB G F o X Y s H locs) (hM : ∀ sz : Nat, Met l y (wsG y b mL ret) (rmG f k1) (va_Pc (.ref (gA G k) :: As) (preG G F o sz)) (Qs sz) 0 0 (GA G sz)) (hk : k < 21) (hE : cellE G F o k = .inr (ci, fs)) (hc : vwCl[ci]? = some (C, T, N)) (hq : Cond.methodLinkNest own index y host ∈ lw_nest) (h2 : Cond.instanceMethod y ∈ lw_all) (h3 : Cond.selects C y y ∈ lw_all) (h4 : Cond.initialized y.cls ∈ lw_all) (h5 : Cond.code y b mL ret ∈ lw_all)
    (hd : y.cls ≠ "java/lang/invoke/MethodHandle" ∧ y.cls ≠ "java/lang/invoke/VarHandle" ∧ (parseMethodDescriptor y.desc).map (fun d => d.parameters.length) = some n) (hn : As.length = n) (hR : f + 1 ≤ R.frames ∧ 8 + (mL + 11) + k1 ≤ R.locals) (hsz : ls.size = nL) (hW : (rest.map fun v => v.category).sum ≤ 8) (hst : st0 = As.reverse ++ .ref (gA G k) :: rest) (hcs : cells ≤ R.cells ∧ slots ≤ R.slots) (hdg : decode cc pc = .ok (.invokevirtual index, 3)) :
    va_Run p l e R s m args below meth c H locs cells slots 0 0 (F0 m pc ls st0) rest (Qs H.size (Value.ref (gA G k) :: As).toArray) (GA G H.size) := by
  have hts := S.2.2.2.2
  exact va_runVN (As := As) (rest := rest) S (hM H.size) ⟨va_cnB n hts (lw_C h5) rfl rfl rfl (g.2.2.2.2.1 _ hq) (hts _ h4) hd hR, hts _ h2, hts _ h3⟩ ⟨preG_blind, va_recv g.2.2.1 g.1 hc (wld_at G F o X hk hE), fun U hU hW => ⟨rfl, g.pre hU hW⟩⟩ rfl hn hsz hst (lv_room (m := m) (pc := pc) (ls := ls) (rest := st0) hW) hdg hcs
theorem g_S {y : MethodName} {b : ByteArray} {mL n f k1 index : Nat} {ret : Option FieldType} {As : List Value} {Qs : Nat → Array Value → State → Outcome → State → Prop}
    (S : CallFix p m c cc nL s args lw_all own) (g : GB G F o X Y s H locs) (hM : ∀ sz : Nat, Met l y (wsG y b mL ret) (rmG f k1) (va_Pc As (preG G F o sz)) (Qs sz) 0 0 (GA G sz)) (hq : GoodIn lw_all (va_wsS own index y (wsG y b mL ret)))
    (hd : y.cls ≠ "java/lang/invoke/MethodHandle" ∧ y.cls ≠ "java/lang/invoke/VarHandle" ∧ (parseMethodDescriptor y.desc).map (fun d => d.parameters.length) = some n) (hn : As.length = n) (hR : f + 1 ≤ R.frames ∧ 8 + (mL + 11) + k1 ≤ R.locals) (hsz : ls.size = nL) (hW : (rest.map fun v => v.category).sum ≤ 8) (hst : st0 = As.reverse ++ rest) (hcs : cells ≤ R.cells ∧ slots ≤ R.slots) (hdg : decode cc pc = .ok (.invokestatic index, 3)) :
    va_Run p l e R s m args below meth c H locs cells slots 0 0 (F0 m pc ls st0) rest (Qs H.size As.toArray) (GA G H.size) := by
  exact va_runS (As := As) (rest := rest) S (hM H.size) (va_cwS n S.2.2.2.2 hq rfl rfl rfl hd hR) ⟨preG_blind, fun U hU hW => ⟨rfl, g.pre hU hW⟩⟩ rfl hn hsz hst (lv_room (m := m) (pc := pc) (ls := ls) (rest := st0) hW) hdg hcs
theorem g_SN {host : String} {y : MethodName} {b : ByteArray} {mL n f k1 index : Nat} {ret : Option FieldType} {As : List Value} {Qs : Nat → Array Value → State → Outcome → State → Prop}
    (S : CallFix p m c cc nL s args lw_all own) (g : GB G F o X Y s H locs) (hM : ∀ sz : Nat, Met l y (wsG y b mL ret) (rmG f k1) (va_Pc As (preG G F o sz)) (Qs sz) 0 0 (GA G sz)) (hq : Cond.methodLinkNest own index y host ∈ lw_nest) (h2 : Cond.static y ∈ lw_all) (h4 : Cond.initialized y.cls ∈ lw_all) (h5 : Cond.code y b mL ret ∈ lw_all)
    (hd : y.cls ≠ "java/lang/invoke/MethodHandle" ∧ y.cls ≠ "java/lang/invoke/VarHandle" ∧ (parseMethodDescriptor y.desc).map (fun d => d.parameters.length) = some n) (hn : As.length = n) (hR : f + 1 ≤ R.frames ∧ 8 + (mL + 11) + k1 ≤ R.locals) (hsz : ls.size = nL) (hW : (rest.map fun v => v.category).sum ≤ 8) (hst : st0 = As.reverse ++ rest) (hcs : cells ≤ R.cells ∧ slots ≤ R.slots) (hdg : decode cc pc = .ok (.invokestatic index, 3)) :
    va_Run p l e R s m args below meth c H locs cells slots 0 0 (F0 m pc ls st0) rest (Qs H.size As.toArray) (GA G H.size) := by
  have hts := S.2.2.2.2
  exact va_runSN (As := As) (rest := rest) S (hM H.size) ⟨va_cnB n hts (lw_C h5) rfl rfl rfl (g.2.2.2.2.1 _ hq) (hts _ h4) hd hR, hts _ h2, trivial⟩ ⟨preG_blind, fun U hU hW => ⟨rfl, g.pre hU hW⟩⟩ rfl hn hsz hst (lv_room (m := m) (pc := pc) (ls := ls) (rest := st0) hW) hdg hcs
/-! calls: what comes behind -/
theorem g_ci {RR : Int32} {a : Array Value} (g : GB G F o X Y s H locs) (hr : va_Run p l e R s m args below meth c H locs cells slots 0 0 (F0 m pc ls st0) rest (QI G F' o RR H.size a) (GA G H.size))
    (kk : ∀ (H : Heap) (locs : List Loc), GB G F' o X Y s H locs → W p l e R s m args below meth c H locs cells slots Q (F0 m (pc + 3) ls (.int RR :: rest))) : W p l e R s m args below meth c H locs cells slots Q (F0 m pc ls st0) := by
  refine va_calli hr g.2.2.2.1 (fun q _ h => GA_up g.2.2.2.1.1 h) (fun q h => GA_up g.2.2.2.1.1 h) (fun r u t H1 l1 ht hvm hw hB hz hk1 hS => ?_)
  subst hw
  exact kk H1 l1 (g.after (by rw [← ht]; exact hB) hk1 hS)
theorem g_cv {a : Array Value} (g : GB G F o X Y s H locs) (hr : va_Run p l e R s m args below meth c H locs cells slots 0 0 (F0 m pc ls st0) rest (QV G F' o H.size a) (GA G H.size))
    (kk : ∀ (H : Heap) (locs : List Loc), GB G F' o X Y s H locs → W p l e R s m args below meth c H locs cells slots Q (F0 m (pc + 3) ls rest)) : W p l e R s m args below meth c H locs cells slots Q (F0 m pc ls st0) := by
  refine va_callv hr g.2.2.2.1 (fun q _ h => GA_up g.2.2.2.1.1 h) (fun q h => GA_up g.2.2.2.1.1 h) (fun u t H1 l1 ht hvm hw hB hz hk1 hS => ?_)
  exact kk H1 l1 (g.after (by rw [← ht]; exact hB) hk1 hS)
theorem g_cl {RR : Int64} {a : Array Value} (g : GB G F o X Y s H locs) (hr : va_Run p l e R s m args below meth c H locs cells slots 0 0 (F0 m pc ls st0) rest (QL G F' o RR H.size a) (GA G H.size))
    (kk : ∀ (H : Heap) (locs : List Loc), GB G F' o X Y s H locs → W p l e R s m args below meth c H locs cells slots Q (F0 m (pc + 3) ls (.long RR :: rest))) : W p l e R s m args below meth c H locs cells slots Q (F0 m pc ls st0) := by
  refine va_calll hr g.2.2.2.1 (fun q _ h => GA_up g.2.2.2.1.1 h) (fun q h => GA_up g.2.2.2.1.1 h) (fun r u t H1 l1 ht hvm hw hB hz hk1 hS => ?_)
  subst hw
  exact kk H1 l1 (g.after (by rw [← ht]; exact hB) hk1 hS)
theorem g_cd {RR : UInt64} {a : Array Value} (g : GB G F o X Y s H locs) (hr : va_Run p l e R s m args below meth c H locs cells slots 0 0 (F0 m pc ls st0) rest (QD G F' o RR H.size a) (GA G H.size))
    (kk : ∀ (H : Heap) (locs : List Loc), GB G F' o X Y s H locs → W p l e R s m args below meth c H locs cells slots Q (F0 m (pc + 3) ls (.double RR :: rest))) : W p l e R s m args below meth c H locs cells slots Q (F0 m pc ls st0) := by
  refine va_calld hr g.2.2.2.1 (fun q _ h => GA_up g.2.2.2.1.1 h) (fun q h => GA_up g.2.2.2.1.1 h) (fun r u t H1 l1 ht hvm hw hB hz hk1 hS => ?_)
  subst hw
  exact kk H1 l1 (g.after (by rw [← ht]; exact hB) hk1 hS)
theorem g_cn {RR : Option Nat} {v : Value} {a : Array Value} (g : GB G F o X Y s H locs) (hv : va_rf RR = v) (hr : va_Run p l e R s m args below meth c H locs cells slots 0 0 (F0 m pc ls st0) rest (QN G F' o RR H.size a) (GA G H.size))
    (kk : ∀ (H : Heap) (locs : List Loc), GB G F' o X Y s H locs → W p l e R s m args below meth c H locs cells slots Q (F0 m (pc + 3) ls (v :: rest))) : W p l e R s m args below meth c H locs cells slots Q (F0 m pc ls st0) := by
  refine va_callq hr g.2.2.2.1 (fun q _ h => GA_up g.2.2.2.1.1 h) (fun q h => GA_up g.2.2.2.1.1 h) (fun r u t H1 l1 ht hvm hw hB hz hk1 hS => ?_)
  subst hw; subst hv
  exact kk H1 l1 (g.after (by rw [← ht]; exact hB) hk1 hS)
/-! ends -/
theorem GB.end1 {F1 : Fs} (g : GB G F1 o X Y s H locs) (hF : F1 = F') {t : State} (ht : t.heap = H) : va_P G.1 vwCl (wld G F' o) t.heap := by
  subst hF
  rw [ht]
  exact fun k q hq => g.1 k q (by rw [List.getElem?_append_left (List.getElem?_eq_some_iff.mp hq).1]; exact hq)
theorem e_i {F1 : Fs} {v RR : Int32} (S : CallFix p m c cc nL s args lw_all own) (hr : meth.sig.returnType = some .int) (hk : meth.locks = false) (g : GB G F1 o X Y s H locs) (hv : v = RR) (hF : F1 = F') (hdg : decode cc pc = .ok (.ireturn, 1)) : W p l e R s m args below meth c H locs 0 0 (MQ below (QI G F' o RR s.heap.size) args s 0 0 (GA G s.heap.size)) (F0 m pc ls [.int v]) :=
  W.iret S.1 S.2.1 hr (fun t ht hW => ⟨⟨v, (), rfl, hv, g.end1 hF ht⟩, g.2.2.2.1.F ht⟩) g.2.2.2.1.2.2 hdg hk
theorem e_z {F1 : Fs} {v RR : Int32} (S : CallFix p m c cc nL s args lw_all own) (hr : meth.sig.returnType = some .boolean) (hk : meth.locks = false) (g : GB G F1 o X Y s H locs) (hn : narrow .boolean (.int v) = .int v) (hv : v = RR) (hF : F1 = F') (hdg : decode cc pc = .ok (.ireturn, 1)) : W p l e R s m args below meth c H locs 0 0 (MQ below (QI G F' o RR s.heap.size) args s 0 0 (GA G s.heap.size)) (F0 m pc ls [.int v]) :=
  W.zret S.1 S.2.1 hr hn (fun t ht hW => ⟨⟨v, (), rfl, hv, g.end1 hF ht⟩, g.2.2.2.1.F ht⟩) g.2.2.2.1.2.2 hdg hk
theorem e_v {F1 : Fs} (S : CallFix p m c cc nL s args lw_all own) (hr : meth.sig.returnType = none) (hk : meth.locks = false) (g : GB G F1 o X Y s H locs) (hF : F1 = F') (hdg : decode cc pc = .ok (.return_, 1)) : W p l e R s m args below meth c H locs 0 0 (MQ below (QV G F' o s.heap.size) args s 0 0 (GA G s.heap.size)) (F0 m pc ls []) :=
  W.vret S.1 S.2.1 hr (fun t ht hW => ⟨⟨(), rfl, trivial, g.end1 hF ht⟩, g.2.2.2.1.F ht⟩) g.2.2.2.1.2.2 hdg hk
theorem e_l {F1 : Fs} {v RR : Int64} (S : CallFix p m c cc nL s args lw_all own) (hr : meth.sig.returnType = some .long) (hk : meth.locks = false) (g : GB G F1 o X Y s H locs) (hv : v = RR) (hF : F1 = F') (hdg : decode cc pc = .ok (.lreturn, 1)) : W p l e R s m args below meth c H locs 0 0 (MQ below (QL G F' o RR s.heap.size) args s 0 0 (GA G s.heap.size)) (F0 m pc ls [.long v]) :=
  W.lret S.1 S.2.1 hr (fun t ht hW => ⟨⟨v, (), rfl, hv, g.end1 hF ht⟩, g.2.2.2.1.F ht⟩) g.2.2.2.1.2.2 hdg hk
theorem e_d {F1 : Fs} {v RR : UInt64} (S : CallFix p m c cc nL s args lw_all own) (hr : meth.sig.returnType = some .double) (hk : meth.locks = false) (g : GB G F1 o X Y s H locs) (hv : v = RR) (hF : F1 = F') (hdg : decode cc pc = .ok (.dreturn, 1)) : W p l e R s m args below meth c H locs 0 0 (MQ below (QD G F' o RR s.heap.size) args s 0 0 (GA G s.heap.size)) (F0 m pc ls [.double v]) :=
  W.dret S.1 S.2.1 hr (fun t ht hW => ⟨⟨v, (), rfl, hv, g.end1 hF ht⟩, g.2.2.2.1.F ht⟩) g.2.2.2.1.2.2 hdg hk
theorem e_n {F1 : Fs} {v : Value} {RR : Option Nat} {nm : String} (S : CallFix p m c cc nL s args lw_all own) (hr : meth.sig.returnType = some (.object nm)) (hk : meth.locks = false) (g : GB G F1 o X Y s H locs) (hv : v = va_rf RR) (hF : F1 = F') (hdg : decode cc pc = .ok (.areturn, 1)) : W p l e R s m args below meth c H locs 0 0 (MQ below (QN G F' o RR s.heap.size) args s 0 0 (GA G s.heap.size)) (F0 m pc ls [v]) := by
  subst hv
  exact W.aret S.1 S.2.1 hr (Or.inl ⟨nm, rfl⟩) (by cases RR; exact Or.inl rfl; exact Or.inr ⟨_, rfl⟩) (fun t ht hW => ⟨⟨RR, (), rfl, rfl, g.end1 hF ht⟩, g.2.2.2.1.F ht⟩) g.2.2.2.1.2.2 hdg hk
end GR
