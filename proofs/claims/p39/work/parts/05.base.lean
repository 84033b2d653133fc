/-! THE CLASS'S WORLD: 21 places, their addresses by G, what they hold by F (place, field); o is unused here -/
abbrev gT : Type := va_G × (Nat → ClassId) × (Nat → Nat)
abbrev Fs : Type := Nat → Nat → Int32
abbrev gA (G : gT) (k : Nat) : Nat := G.2.2 k
def up2 (F : Fs) (k j : Nat) (v : Int32) : Fs := fun a b => if a = k ∧ b = j then v else F a b
def upA (F : Fs) (k : Nat) (f : Nat → Int32) : Fs := fun a => if a = k then f else F a
def cellE (G : gT) (F : Fs) (o : Int64) (k : Nat) : va_E :=
  if k = 0 then .inr (2, [.ref (gA G 1), .ref (gA G 2)])
  else if k < 3 then .inr (0, [.int (F k 0), .int (F k 1), .int (F k 2), .int (F k 3), .int (F k 4), .int (F k 5), .int (F k 6), .ref (gA G (k + 2))])
  else if k < 5 then .inl (G.2.1 0, 8, .inr (.inr (.inr (.inr (fun i => some (gA G (8 * k - 19 + i)))))))
  else .inr (1, [.int (F k 0), .int (F k 1), .int (F k 2), .int (F k 3), .int (F k 4), .int (F k 5)])
theorem cE0 (G : gT) (F : Fs) (o : Int64) : cellE G F o 0 = .inr (2, [.ref (gA G 1), .ref (gA G 2)]) := rfl
theorem cEb (G : gT) (F : Fs) (o : Int64) {k : Nat} (h : k = 1 ∨ k = 2) : cellE G F o k = .inr (0, [.int (F k 0), .int (F k 1), .int (F k 2), .int (F k 3), .int (F k 4), .int (F k 5), .int (F k 6), .ref (gA G (k + 2))]) := by
  unfold cellE
  rw [if_neg (by omega), if_pos (by omega)]
theorem cEr (G : gT) (F : Fs) (o : Int64) {k : Nat} (h : k = 3 ∨ k = 4) : cellE G F o k = .inl (G.2.1 0, 8, .inr (.inr (.inr (.inr (fun i => some (gA G (8 * k - 19 + i))))))) := by
  unfold cellE
  rw [if_neg (by omega), if_neg (by omega), if_pos (by omega)]
theorem cEw (G : gT) (F : Fs) (o : Int64) {k : Nat} (h1 : 5 ≤ k) (h2 : k < 21) : cellE G F o k = .inr (1, [.int (F k 0), .int (F k 1), .int (F k 2), .int (F k 3), .int (F k 4), .int (F k 5)]) := by
  unfold cellE
  rw [if_neg (by omega), if_neg (by omega), if_neg (by omega)]
theorem cE_congr (G : gT) {F F' : Fs} (o : Int64) {k : Nat} (h : F k = F' k) : cellE G F o k = cellE G F' o k := by
  unfold cellE
  rw [h]
theorem up2_s (F : Fs) (k j : Nat) (v : Int32) : up2 F k j v k j = v := by simp [up2]
theorem up2_row (F : Fs) (k j : Nat) (v : Int32) {i : Nat} (h : i ≠ k) : up2 F k j v i = F i := by funext b; simp [up2, h]
theorem up2_ne (F : Fs) {k j a b : Nat} (v : Int32) (h : ¬ (a = k ∧ b = j)) : up2 F k j v a b = F a b := by simp [up2, h]
theorem up2_upd (F : Fs) (k j : Nat) (v : Int32) : up2 F k j v k = upd (F k) j v := by funext b; simp [up2, upd]
theorem upA_s (F : Fs) (k : Nat) (f : Nat → Int32) : upA F k f k = f := by simp [upA]
theorem upA_row (F : Fs) (k : Nat) (f : Nat → Int32) {i : Nat} (h : i ≠ k) : upA F k f i = F i := by simp [upA, h]
def wld (G : gT) (F : Fs) (o : Int64) : va_W := (List.range 21).map (fun k => (gA G k, cellE G F o k))
theorem wld_len (G : gT) (F : Fs) (o : Int64) : (wld G F o).length = 21 := by simp [wld]
theorem wld_at0 (G : gT) (F : Fs) (o : Int64) {k : Nat} (hk : k < 21) : (wld G F o)[k]? = some (gA G k, cellE G F o k) := by
  unfold wld
  rw [List.getElem?_map, List.getElem?_range hk]
  rfl
theorem wld_at (G : gT) (F : Fs) (o : Int64) (X : va_W) {k : Nat} (hk : k < 21) {e : va_E} (hE : cellE G F o k = e) : (wld G F o ++ X)[k]? = some (gA G k, e) := by
  rw [List.getElem?_append_left (by rw [wld_len]; exact hk), wld_at0 G F o hk, hE]
theorem wld_set (G : gT) {F F' : Fs} {o o' : Int64} (X : va_W) {k : Nat} (hk : k < 21) {e : va_E} (h1 : cellE G F' o' k = e) (h2 : ∀ i, i < 21 → i ≠ k → cellE G F' o' i = cellE G F o i) : (wld G F o ++ X).set k (gA G k, e) = wld G F' o' ++ X := by
  apply List.ext_getElem?
  intro i
  by_cases hi : i = k
  · subst hi
    rw [List.getElem?_set_self (by rw [List.length_append, wld_len]; omega), wld_at G F' o' X hk h1]
  · rw [List.getElem?_set_ne (Ne.symm hi)]
    by_cases hl : i < 21
    · rw [wld_at G F o X hl rfl, wld_at G F' o' X hl (h2 i hl hi)]
    · rw [List.getElem?_append_right (by rw [wld_len]; omega), List.getElem?_append_right (by rw [wld_len]; omega), wld_len, wld_len]
def tysG (G : gT) : List (ClassId × FieldType) := [(G.2.1 0, .object "ShadowPool$Walker"), (G.2.1 1, .int), (G.2.1 2, .array .int)]
def GA (G : gT) (sz : Nat) : Nat → Prop := fun q => (∃ k, k < 21 ∧ q = gA G k) ∨ sz ≤ q
theorem GA_in (G : gT) (sz : Nat) {k : Nat} (h : k < 21) : GA G sz (gA G k) := Or.inl ⟨k, h, rfl⟩
theorem GA_up {G : gT} {a b : Nat} (h : a ≤ b) {q : Nat} (hq : GA G b q) : GA G a q := by
  rcases hq with h1 | h1
  · exact Or.inl h1
  · exact Or.inr (Nat.le_trans h h1)
theorem va_D_re {A : Nat → Prop} {w w' : va_W} (h : va_D A w) (e : w'.map Prod.fst = w.map Prod.fst) : va_D A w' := by
  have key : ∀ (k : Nat) (q : Nat × va_E), w'[k]? = some q → ∃ q0, w[k]? = some q0 ∧ q0.1 = q.1 := by
    intro k q hq
    have h1 : (w'.map Prod.fst)[k]? = some q.1 := by rw [List.getElem?_map, hq]; rfl
    rw [e, List.getElem?_map] at h1
    cases hw : w[k]? with
    | none => rw [hw] at h1; cases h1
    | some z => rw [hw] at h1; exact ⟨z, rfl, Option.some.inj h1⟩
  refine ⟨fun i j p q hi hj hpq => ?_, fun k q hk => ?_⟩
  · obtain ⟨a, a1, a2⟩ := key i p hi
    obtain ⟨b, b1, b2⟩ := key j q hj
    exact h.1 i j a b a1 b1 (a2.trans (hpq.trans b2.symm))
  · obtain ⟨a, a1, a2⟩ := key k q hk
    rw [← a2]
    exact h.2 k a a1
theorem wld_fst (G : gT) (F F' : Fs) (o o' : Int64) (X : va_W) : (wld G F' o' ++ X).map Prod.fst = (wld G F o ++ X).map Prod.fst := by
  simp [wld, List.map_append, List.map_map, Function.comp_def]
/-- a class that may be caught as another -/
def va_Yc (C T : String) (U : State) : Prop := ∃ c t : ClassId, U.vm.findClass C = some c ∧ U.vm.findClass T = some t ∧ U.vm.assignable c t = true
theorem va_Yc.moved {C T : String} {u U : State} (hvm : u.vm.Alike U.vm) (h : va_Yc C T u) : va_Yc C T U := by
  obtain ⟨c, t, h1, h2, h3⟩ := h
  exact ⟨c, t, by rw [hvm.findClass]; exact h1, by rw [hvm.findClass]; exact h2, by rw [hvm.assignable]; exact h3⟩
theorem va_Yc.of {args : Array Value} {s : State} {C T : String} (h : (Cond.castable C T).before args s = true) : va_Yc C T s := Cond.castable_spec h
theorem va_Yc.word {args : Array Value} {s : State} {C T : String} (h : va_Yc C T s) : (Cond.castable C T).before args s = true := by
  obtain ⟨c, t, h1, h2, h3⟩ := h
  simp [Cond.before, Cond.holds, Cond.value, h1, h2, h3]
def va_Dx (y : MethodName) (U : State) : Prop := (Cond.declares y).before #[] U = true
theorem va_Dx.of {y : MethodName} {A : Array Value} {U : State} (h : (Cond.declares y).before A U = true) : va_Dx y U := va_any rfl h
theorem va_Dx.use {y : MethodName} {A : Array Value} {U : State} (h : va_Dx y U) : (Cond.declares y).before A U = true := va_any rfl h
theorem va_Dx.moved {y : MethodName} {u U : State} (hvm : u.vm.Alike U.vm) (h : va_Dx y u) : va_Dx y U := by
  have h1 : (Cond.declares y).before #[] (u.setVm U.vm) = true := by
    rw [Cond.declares_setVm hvm]
    exact h
  have e := Cond.onTables_vm (A := #[]) (A' := #[]) (U := u) (U' := U) U.vm (Cond.declares y) rfl
  have hU : U.setVm U.vm = U := rfl
  rw [hU] at e
  unfold va_Dx
  rw [← e]
  exact h1
abbrev yRE : MethodName := ⟨"java/lang/RuntimeException", "<init>", "(Ljava/lang/String;)V"⟩
abbrev yEE : MethodName := ⟨"java/lang/Exception", "<init>", "(Ljava/lang/String;)V"⟩
abbrev yTE : MethodName := ⟨"java/lang/Throwable", "<init>", "(Ljava/lang/String;)V"⟩
abbrev xIA : String := "java/lang/IllegalArgumentException"
abbrev xIS : String := "java/lang/IllegalStateException"
abbrev xIB : String := "java/lang/IndexOutOfBoundsException"
def EnvX (U : State) : Prop := va_Yc xIA xIA U ∧ va_Yc xIS xIS U ∧ va_Yc xIB xIB U ∧ True ∧ True ∧ va_Dx yRE U ∧ va_Dx yEE U ∧ va_Dx yTE U
theorem EnvX.moved {u U : State} (hvm : u.vm.Alike U.vm) (h : EnvX u) : EnvX U := ⟨h.1.moved hvm, h.2.1.moved hvm, h.2.2.1.moved hvm, h.2.2.2.1, h.2.2.2.2.1, h.2.2.2.2.2.1.moved hvm, h.2.2.2.2.2.2.1.moved hvm, h.2.2.2.2.2.2.2.moved hvm⟩
/-- rows of rows of ints can be made, and a row of ints copied -/
def EnvI (U : State) : Prop := va_Nw (.arrayOver (.array .int)) U ∧ va_Nw (.castable "[I" "java/lang/Cloneable") U
theorem ai_moved {u U : State} (hvm : u.vm.Alike U.vm) (h : va_Nw (.arrayOver (.array .int)) u) : va_Nw (.arrayOver (.array .int)) U := by
  obtain ⟨comp, c, k, h1, h2, h3, h4, h5⟩ := arrayOverA_spec h
  obtain ⟨k', hk', he⟩ := hvm.2.2 _ _ h3
  have hi : (U.vm.classes.findIdx? fun (x : Class) => match x.kind with | .array component _ => component == comp | _ => false) = some c := by
    rw [hvm.findIdx?_eq _ (fun _ => rfl)]
    exact h2
  have hkind : k'.kind = .array comp (.array .int) := by rw [he]; exact h4
  have f1 : U.vm.findClass (FieldType.array .int).toString = some comp := by rw [hvm.findClass]; exact h1
  have f2 : U.vm.findClass ("[" ++ (FieldType.array .int).toString) = some c := by rw [hvm.findClass]; exact h5
  unfold va_Nw Cond.before Cond.holds
  simp only [Cond.value]
  rw [f1, Option.bind_some]
  refine (congrArg (fun o : Option Nat => (o.bind (fun c => (U.vm.classes[c]?).map fun (k : Class) => match k.kind with | .array _ ty => decide (ty = FieldType.array .int) && decide (U.vm.findClass ("[" ++ (FieldType.array .int).toString) = some c) | _ => false) == some true)) hi).trans ?_
  simp [hk', hkind, f2]
theorem EnvI.warm {s U : State} (hW : s.WarmedH U.vm) (h : EnvI s) : EnvI U := ⟨ai_moved hW.alike h.1, va_Nw.warmC hW h.2⟩
theorem EnvI.same {u U : State} (hv : u.vm = U.vm) (h : EnvI u) : EnvI U := ⟨ai_moved (by rw [hv]; exact Vm.Alike.refl U.vm) h.1, va_Nw.same rfl hv h.2⟩
/-- what a method knows beside its world: links to nest mates, rows of rows, the two statics of exceptions, the texts -/
def EnvG (A : Nat → Prop) (U : State) (H : Heap) : Prop :=
  (∀ w ∈ lw_nest, va_Nw w U) ∧ EnvI U ∧ vx_Zq Bundle.tN "UNASSIGNED_STACK" Bundle.steD A U H ∧ vx_Zq Bundle.tN "SUPPRESSED_SENTINEL" Bundle.listD A U H ∧ (∀ z ∈ lw_strs, ∃ a : Nat, vk_R "ShadowPool" z.1 z.2 a U) ∧ EnvX U
theorem nest_warm {w : Cond} (h : lw_nestB w = true) {s U : State} (hW : s.WarmedH U.vm) (hZ : va_Nw w s) : va_Nw w U := by
  cases w <;> first | exact va_Nw.warmF hW hZ | exact va_Nw.warmM hW hZ | cases h
theorem nest_tab {w : Cond} (h : lw_nestB w = true) : w.onTables = true := by
  cases w <;> first | rfl | cases h
theorem EnvG.warm {A : Nat → Prop} {s U : State} {H : Heap} (hW : s.WarmedH U.vm) (h : EnvG A s H) : EnvG A U H := by
  obtain ⟨h1, h2, h4, h5, h6, h7⟩ := h
  exact ⟨fun w hw => nest_warm (lw_nest_ok w hw) hW (h1 w hw), h2.warm hW, vx_Zq.moved hW.alike h4, vx_Zq.moved hW.alike h5, fun z hz => by obtain ⟨a, ha⟩ := h6 z hz; exact ⟨a, vk_R.warm hW ha⟩, h7.moved hW.alike⟩
theorem EnvG.same {A : Nat → Prop} {u U : State} {H : Heap} (hv : u.vm = U.vm) (h : EnvG A u H) : EnvG A U H := by
  have hal : u.vm.Alike U.vm := by rw [hv]; exact Vm.Alike.refl U.vm
  obtain ⟨h1, h2, h4, h5, h6, h7⟩ := h
  exact ⟨fun w hw => va_Nw.same (nest_tab (lw_nest_ok w hw)) hv (h1 w hw), h2.same hv, vx_Zq.moved hal h4, vx_Zq.moved hal h5, fun z hz => by obtain ⟨a, ha⟩ := h6 z hz; exact ⟨a, vk_R.same hv.symm ha⟩, h7.moved hal⟩
theorem EnvG.on {A B : Nat → Prop} {U : State} {H H1 : Heap} (h : EnvG A U H) (hq : ∀ a : Nat, a < H.size → ¬ A a → H1[a]? = H[a]?) (hAB : ∀ q, B q → A q) : EnvG B U H1 := by
  obtain ⟨h1, h2, h4, h5, h6, h7⟩ := h
  exact ⟨h1, h2, (h4.kept hq).narrow hAB, (h5.kept hq).narrow hAB, h6, h7⟩
/-- the world at a point of a body -/
def GB (G : gT) (F : Fs) (o : Int64) (X : va_W) (Y : List (ClassId × FieldType)) (s : State) (H : Heap) (locs : List Loc) : Prop :=
  va_P G.1 vwCl (wld G F o ++ X) H ∧ va_D (GA G s.heap.size) (wld G F o ++ X) ∧ va_K G.1 vwCl (tysG G ++ Y) s ∧ va_S (GA G s.heap.size) s.heap H locs ∧ EnvG (GA G s.heap.size) s s.heap
/-- a contract's start -/
abbrev preG (G : gT) (F : Fs) (o : Int64) (sz : Nat) : State → Prop := fun U => U.heap.size = sz ∧ va_P G.1 vwCl (wld G F o) U.heap ∧ va_D (fun _ => True) (wld G F o) ∧ va_K G.1 vwCl (tysG G) U ∧ EnvG (GA G sz) U U.heap
abbrev postG (G : gT) (F : Fs) (o : Int64) : Unit → State → Prop := fun _ t => va_P G.1 vwCl (wld G F o) t.heap
abbrev wsG (y : MethodName) (b : ByteArray) (n : Nat) (r : Option FieldType) : List Cond := .code y b n r :: lw_all
abbrev rmG (f n : Nat) : Room := { frames := f, cells := 0, slots := 0, locals := n }
abbrev QI (G : gT) (F' : Fs) (o : Int64) (R : Int32) (sz : Nat) : Array Value → State → Outcome → State → Prop := va_Qi (fun (r : Int32) (_ : Unit) => r = R) (postG G F' o) (GA G sz)
abbrev QV (G : gT) (F' : Fs) (o : Int64) (sz : Nat) : Array Value → State → Outcome → State → Prop := va_Qv (fun (_ : Unit) => True) (postG G F' o) (GA G sz)
abbrev QL (G : gT) (F' : Fs) (o : Int64) (R : Int64) (sz : Nat) : Array Value → State → Outcome → State → Prop := va_Ql (fun (r : Int64) (_ : Unit) => r = R) (postG G F' o) (GA G sz)
abbrev QD (G : gT) (F' : Fs) (o : Int64) (R : UInt64) (sz : Nat) : Array Value → State → Outcome → State → Prop := va_Qd (fun (r : UInt64) (_ : Unit) => r = R) (postG G F' o) (GA G sz)
abbrev QN (G : gT) (F' : Fs) (o : Int64) (R : Option Nat) (sz : Nat) : Array Value → State → Outcome → State → Prop := va_Qq (fun (r : Option Nat) (_ : Unit) => r = R) (postG G F' o) (GA G sz)
/-- a method's contract over the world: int, nothing, long, double, a reference or null -/
abbrev MI (l : Launch) (y : MethodName) (b : ByteArray) (n : Nat) (ret : Option FieldType) (f k : Nat) (vs : List Value) (G : gT) (F : Fs) (o : Int64) (F' : Fs) (R : Int32) : Prop := ∀ sz : Nat, Met l y (wsG y b n ret) (rmG f k) (va_Pc vs (preG G F o sz)) (QI G F' o R sz) 0 0 (GA G sz)
abbrev MV (l : Launch) (y : MethodName) (b : ByteArray) (n : Nat) (f k : Nat) (vs : List Value) (G : gT) (F : Fs) (o : Int64) (F' : Fs) : Prop := ∀ sz : Nat, Met l y (wsG y b n none) (rmG f k) (va_Pc vs (preG G F o sz)) (QV G F' o sz) 0 0 (GA G sz)
abbrev ML (l : Launch) (y : MethodName) (b : ByteArray) (n : Nat) (f k : Nat) (vs : List Value) (G : gT) (F : Fs) (o : Int64) (F' : Fs) (R : Int64) : Prop := ∀ sz : Nat, Met l y (wsG y b n (some .long)) (rmG f k) (va_Pc vs (preG G F o sz)) (QL G F' o R sz) 0 0 (GA G sz)
abbrev MD (l : Launch) (y : MethodName) (b : ByteArray) (n : Nat) (f k : Nat) (vs : List Value) (G : gT) (F : Fs) (o : Int64) (F' : Fs) (R : UInt64) : Prop := ∀ sz : Nat, Met l y (wsG y b n (some .double)) (rmG f k) (va_Pc vs (preG G F o sz)) (QD G F' o R sz) 0 0 (GA G sz)
abbrev MN (l : Launch) (y : MethodName) (b : ByteArray) (n : Nat) (ret : Option FieldType) (f k : Nat) (vs : List Value) (G : gT) (F : Fs) (o : Int64) (F' : Fs) (R : Option Nat) : Prop := ∀ sz : Nat, Met l y (wsG y b n ret) (rmG f k) (va_Pc vs (preG G F o sz)) (QN G F' o R sz) 0 0 (GA G sz)
theorem preG_blind {vs : List Value} {G : gT} {F : Fs} {o : Int64} {sz : Nat} : FrameBlind (va_Pc vs (preG G F o sz)) := fun a U g mk q => by
  obtain ⟨q0, q1, q2, q3, q4, q5⟩ := q
  exact ⟨q0, q1, q2, q3, va_K.moved (u := U) (U := U.calling g mk a) (Vm.Alike.refl U.vm) q4, EnvG.same (u := U) (U := U.calling g mk a) rfl q5⟩
/-- as Met.ofW, for a class with entries of its own too -/
theorem met_ofF {l : Launch} {y : MethodName} {ws ws' : List Cond} {rm : Room} {Pc : Array Value → State → Prop} {Qc : Array Value → State → Outcome → State → Prop} {mc ms : Nat} {free : Addr → Prop} {cc : ByteArray} {maxL : Nat} {ret : Option FieldType}
    (hy : plainFor y = true) (hw : ws = Cond.code y cc maxL ret :: ws')
    (body : ∀ p e s m args below meth c s₁, BodyLoose p l y (headSpec ws rm) cc maxL ret e s m args below meth c s₁ → c.maxLocals = maxL → Pc args s →
      W p l e (headSpec ws rm).room s m args below meth c s.heap [] 0 0 (MQ below Qc args s mc ms free) (entryFrame m args maxL)) : Met l y ws rm Pc Qc mc ms free := by
  refine MetFree.of_bodySF (code := cc) (maxLocals := maxL) (ret := ret) hy ?_ ?_
  · intro args s m h hn
    obtain ⟨meth, c, h1, h2, h3, h4, h5, h6, -, -⟩ := Cond.code_spec hn (atoms_spec (ws := ws) h _ (by rw [hw]; exact List.mem_cons_self))
    exact ⟨meth, c, h1, h2, h3, h4, h5, h6⟩
  · intro p e s m args below meth c s₁ B hml hP _
    have hh0 : s₁.heap = s.heap := by rw [B.state]; rfl
    obtain ⟨t, a1, o, b1, b2, b3⟩ := body p e s m args below meth c s₁ B hml hP s₁ hh0 (Stand.of_body B)
    exact ⟨t, o, a1, b1, b2, ⟨b3.1, b3.2⟩⟩
/-- from a contract's start to the body's first instruction -/
theorem mk_G {l : Launch} {y : MethodName} {b : ByteArray} {n : Nat} {ret : Option FieldType} {f k : Nat} {vs : List Value} {G : gT} {F : Fs} {o : Int64} {own : String} {Qs : Nat → Array Value → State → Outcome → State → Prop}
    (hy : plainFor y = true) (ho : y.cls = own) (hn : (lg_sl vs).length ≤ n)
    (body : ∀ (p : Program) (e : Env) (s : State) (m : MethodId) (args : Array Value) (below : List Frame) (meth : Method) (c : Code) (ls : Array Slot), meth.sig.returnType = ret → meth.locks = false → meth.name = y.name → CallFix p m c b n s args lw_all own → GB G F o [] [] s s.heap [] → lv_has ls n (lv_args 0 vs) →
      W p l e (rmG f k) s m args below meth c s.heap [] 0 0 (MQ below (Qs s.heap.size) args s 0 0 (GA G s.heap.size)) (F0 m 0 ls [])) (sz : Nat) :
    Met l y (wsG y b n ret) (rmG f k) (va_Pc vs (preG G F o sz)) (Qs sz) 0 0 (GA G sz) := by
  refine met_ofF (cc := b) (maxL := n) (ret := ret) hy rfl ?_
  intro p e s m args below meth c s₁ B hml hv
  obtain ⟨rfl, hsz, hP, hD, hK, hE⟩ := hv
  have hx := B.exec
  have hb := B.bytes
  have hr := B.returns
  have hts := atoms_spec (ws := wsG y b n ret) B.pre
  have hts : ∀ w ∈ lw_all, w.before vs.toArray s = true := fun w h => hts w (List.mem_cons_of_mem _ h)
  have hown : s.vm.findClass y.cls = some m.cls := findClass_of_methodNamed B.named
  have hlocks := B.notSynchronized
  have hin : meth.name = y.name := (name_of_methodNamed B.named B.method).1
  subst hsz
  have hl := lv_entry vs (n := n) hn
  rw [lg_entry_eq]
  generalize (lg_sl vs ++ List.replicate (n - (lg_sl vs).length) Slot.unset).toArray = ls at hl ⊢
  refine body p e s m _ below meth c ls hr hlocks hin ⟨hx, hb, hml, by rw [← ho]; exact hown, hts⟩ ⟨by rw [List.append_nil]; exact hP, ?_, by rw [List.append_nil]; exact hK, va_S.rf, hE⟩ hl
  rw [List.append_nil]
  refine hD.weaken (fun i q hq _ => ?_)
  have hi : i < 21 := by
    have := (List.getElem?_eq_some_iff.mp hq).1
    rw [wld_len] at this; exact this
  rw [wld_at0 G F o hi] at hq
  cases hq
  exact GA_in G _ hi
