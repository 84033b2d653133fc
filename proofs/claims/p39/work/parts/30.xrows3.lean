/-! a method with a table of handlers; a call that throws, caught here -/
abbrev wsA (y : MethodName) (b : ByteArray) (n : Nat) (ret : Option FieldType) (hh : List (Nat × Nat × Nat × Nat)) : List Cond := .codeWith y b n ret hh :: lw_all
theorem mk_A {l : Launch} {y : MethodName} {bb : ByteArray} {n : Nat} {ret : Option FieldType} {hh : List (Nat × Nat × Nat × Nat)} {f k mc ms : Nat} {vs : List Value} {G : gT} {w : va_W} {own : String} {Qs : Nat → Array Value → State → Outcome → State → Prop}
    (hy : plainName y.cls = true) (ho : y.cls = own) (hn : (lg_sl vs).length ≤ n)
    (body : ∀ (p : Program) (e : Env) (s : State) (m : MethodId) (args : Array Value) (below : List Frame) (meth : Method) (c : Code) (ls : Array Slot), meth.sig.returnType = ret → meth.locks = false → c.exceptionTable.toList = tableOf hh → CallFix p m c bb n s args lw_all own → GX G (va_A w s.heap.size) w s s.heap [] → lv_has ls n (lv_args 0 vs) →
      W p l e (rmC f k mc ms) s m args below meth c s.heap [] 0 0 (MQ below (Qs s.heap.size) args s mc ms (va_A w s.heap.size)) (F0 m 0 ls [])) (sz : Nat) :
    Met l y (wsA y bb n ret hh) (rmC f k mc ms) (va_Pc vs (preX G w sz)) (Qs sz) mc ms (va_A w sz) := by
  refine va_MetW (cc := bb) (maxL := n) (ret := ret) (hh := hh) hy rfl ?_
  intro p e s m args below meth c s₁ B hml hv
  obtain ⟨rfl, hsz, hP, hD, hK, hE⟩ := hv
  have hx := B.exec
  have hb := B.bytes
  have hts0 := atoms_spec (ws := wsA y bb n ret hh) B.pre
  have htab := vx_table (x := y) B (hts0 _ List.mem_cons_self)
  have hts : ∀ w ∈ lw_all, w.before vs.toArray s = true := fun w h => hts0 w (List.mem_cons_of_mem _ h)
  have hown : s.vm.findClass y.cls = some m.cls := findClass_of_methodNamed B.named
  have hlocks := B.notSynchronized
  have hr := B.returns
  subst hsz
  have hl := lv_entry vs (n := n) hn
  rw [lg_entry_eq]
  generalize (lg_sl vs ++ List.replicate (n - (lg_sl vs).length) Slot.unset).toArray = ls at hl ⊢
  exact body p e s m _ below meth c ls hr hlocks htab ⟨hx, hb, hml, by rw [← ho]; exact hown, hts⟩ ⟨hP, hD.self, hK, va_S.rf, hE, fun q h => Or.inr h⟩ hl
section XT
variable {p : Program} {l : Launch} {e : Env} {R : Room} {s : State} {m : MethodId} {args : Array Value} {below : List Frame} {meth : Method} {c : Code} {H : Heap} {locs : List Loc} {cells slots : Nat} {Q : State → Prop}
variable {cc : ByteArray} {pc nL : Nat} {ls : Array Slot} {rest st0 : List Value} {own : String} {G : gT} {F F' : Fs} {Z : Nat → Prop} {w X : va_W} {A : Nat → Nat} {n b : Nat}
theorem y_SA {y : MethodName} {bb : ByteArray} {mL nA f k1 mc ms index : Nat} {ret : Option FieldType} {hh : List (Nat × Nat × Nat × Nat)} {As : List Value} {Qs : Nat → Array Value → State → Outcome → State → Prop} {wc : va_W}
    (S : CallFix p m c cc nL s args lw_all own) (g : GX G Z (wc ++ X) s H locs) (hM : ∀ sz : Nat, Met l y (wsA y bb mL ret hh) (rmC f k1 mc ms) (va_Pc As (preX G wc sz)) (Qs sz) mc ms (va_A wc sz)) (h1 : Cond.methodLink own index y ∈ lw_all) (h2 : Cond.static y ∈ lw_all) (h3 : Cond.initialized y.cls ∈ lw_all) (h4 : Cond.codeWith y bb mL ret hh ∈ lw_all)
    (hd : y.cls ≠ "java/lang/invoke/MethodHandle" ∧ y.cls ≠ "java/lang/invoke/VarHandle" ∧ (parseMethodDescriptor y.desc).map (fun d => d.parameters.length) = some nA) (hn : As.length = nA) (hR : f + 1 ≤ R.frames ∧ 8 + (mL + 11) + k1 ≤ R.locals) (hsz : ls.size = nL) (hW : (rest.map fun v => v.category).sum ≤ 8) (hst : st0 = As.reverse ++ rest) (hcs : cells + mc ≤ R.cells ∧ slots + ms ≤ R.slots) (hdg : decode cc pc = .ok (.invokestatic index, 3)) :
    va_Run p l e R s m args below meth c H locs cells slots mc ms (F0 m pc ls st0) rest (Qs H.size As.toArray) (va_A wc H.size) := by
  have hts := S.2.2.2.2
  have hG : GoodIn lw_all (va_wsS own index y (wsA y bb mL ret hh)) := by
    refine goodIn_sub (fun w hw => ?_) (List.all_eq_true.mpr (fun w hw => ?_))
    all_goals
      rcases List.mem_append.mp hw with hw | hw
      · simp only [List.mem_cons, List.not_mem_nil, or_false] at hw
        rcases hw with rfl | rfl | rfl <;> first | assumption | exact lw_all_good (by assumption)
      · rcases List.mem_cons.mp hw with rfl | hw <;> first | assumption | exact lw_all_good (by assumption)
  exact vx_runSW (As := As) (rest := rest) S (hM H.size) (vx_cwSW nA hts hG rfl rfl rfl hd hR) ⟨preX_blind, fun U hU hW => ⟨rfl, g.pre hU hW⟩⟩ rfl hn hsz hst (lv_room (m := m) (pc := pc) (ls := ls) (rest := st0) hW) hdg hcs
theorem x_xc {EX name : String} {y : MethodName} {bb : ByteArray} {mL nA f k1 index : Nat} {ret : Option FieldType} {As : List Value} (S : CallFix p m c cc nL s args lw_all own) (g : GX G Z (wld G F 0 ++ X) s H locs) (hM : MX l y bb mL ret f k1 (.ref (gA G 0) :: As) G F 0 EX)
    (hq : GoodIn lw_all (wsV own index "ShadowPool" y (wsG y bb mL ret))) (hd : y.cls = "ShadowPool" ∧ y.cls ≠ "java/lang/invoke/MethodHandle" ∧ y.cls ≠ "java/lang/invoke/VarHandle" ∧ (parseMethodDescriptor y.desc).map (fun d => d.parameters.length) = some nA) (hn : As.length = nA) (hR : f + 1 ≤ R.frames ∧ 8 + (mL + 11) + k1 ≤ R.locals) (hsz : ls.size = nL) (hW : (rest.map fun v => v.category).sum ≤ 8) (hst : st0 = As.reverse ++ .ref (gA G 0) :: rest) (hcs : cells + 1 ≤ R.cells ∧ slots + 6 ≤ R.slots) (hdg : decode cc pc = .ok (.invokevirtual index, 3))
    (pre : List ExceptionTableEntry) (x : ExceptionTableEntry) (suf : List ExceptionTableEntry) (hsplit : c.exceptionTable.toList = pre ++ x :: suf) (hpass : ∀ z ∈ pre, covers z pc = false ∨ (z.catchType ≠ 0 ∧ ∃ nm : String, Cond.classLink own z.catchType nm ∈ lw_all ∧ va_Nc EX nm s)) (hcov : covers x pc = true) (h0 : x.catchType ≠ 0) (hlink : Cond.classLink own x.catchType name ∈ lw_all) (hcast : va_Yc EX name s)
    (kk : ∀ (H : Heap) (locs : List Loc) (q : Nat), GX G Z (wld G F 0 ++ X) s H locs → W p l e R s m args below meth c H locs (cells + 1) (slots + 6) Q (F0 m x.handlerPc ls [.ref q])) : W p l e R s m args below meth c H locs cells slots Q (F0 m pc ls st0) := by
  have hts := S.2.2.2.2
  refine vx_calli (vx_runV (As := As) (rest := rest) S (hM H.size) (cwV nA hts hq rfl rfl rfl hd hR) ⟨preG_blind, va_recv g.2.2.1 g.1 (q := (RX2, TX2, 2)) rfl (wld_at G F 0 X (by decide) (cE0 G F 0)), fun U hU hW => ⟨rfl, g.preG hU hW⟩⟩ rfl hn hsz hst (lv_room (m := m) (pc := pc) (ls := ls) (rest := st0) hW) hdg hcs) g.2.2.2.1 (fun q _ h => GA_free g h) (fun q h => GA_free g h) (fun q _ h => GA_free g h) (fun E ce q9 u t H1 l1 ht hvm hp hB hz hk1 hS hce hcv hcl => ?_) (fun r u t H1 l1 ht hvm hw hB hz hk1 hS => hw.elim)
  obtain ⟨rfl, hP1⟩ := hB
  exact vx_catch (name := name) S.2.2.2.1 pre x suf hsplit (fun z hz => (hpass z hz).imp id (fun ⟨a1, nm, a2, a3⟩ => ⟨a1, nm, hts _ a2, a3⟩)) hcov h0 (hts _ hlink) hcast.word hce hcv hcl (kk H1 l1 q9 (g.afterG (by rw [← ht]; exact hP1) hk1 hS))
end XT
theorem tb_in {z : Nat} (hz : z < 8) : ¬ (nI z).toInt < (0 : Int) ∧ ¬ (7 : Int) < (nI z).toInt := by
  rw [nI_toInt (by omega)]
  omega
theorem tb_out {z : Nat} (hz : 8 ≤ z) (h2 : z < 14) : (nI z).toInt < (0 : Int) ∨ (7 : Int) < (nI z).toInt := by
  rw [nI_toInt (by omega)]
  omega
/-! the last look: sums from the last walker on, the longest shadow -/
theorem ms_acc (F : Fs) (sun : Int32) : ∀ (n i : Nat) (acc : Int32), msL F sun n i acc = acc + msL F sun n i 0 := by
  intro n
  induction n with
  | zero => intro i acc; show acc = acc + 0; grind
  | succ n ih =>
    intro i acc
    show msL F sun n (i + 1) (acc + shI (F (wb 1 i) 0) sun) = acc + msL F sun n (i + 1) (0 + shI (F (wb 1 i) 0) sun)
    rw [ih (i + 1) (acc + shI (F (wb 1 i) 0) sun), ih (i + 1) (0 + shI (F (wb 1 i) 0) sun)]
    grind
theorem cm_dn {F : Fs} {n i : Nat} (hi : i < n) (hm : F (wb 1 i) 5 = 0 ∨ F (wb 1 i) 5 = 1) : cmL F 1 (n - (i + 1)) (i + 1) 0 + F (wb 1 i) 5 = cmL F 1 (n - i) i 0 := by
  rw [show n - i = n - (i + 1) + 1 by omega]
  show _ = cmL F 1 (n - (i + 1)) (i + 1) (if F (wb 1 i) 5 = 0 then 0 + 0 else 0 + 1)
  rw [cm_acc F 1 _ _ (if F (wb 1 i) 5 = 0 then 0 + 0 else 0 + 1)]
  rcases hm with e | e <;> rw [e]
  · rw [if_pos rfl]; grind
  · rw [if_neg (by decide)]; grind
theorem ms_dn {F : Fs} {sun : Int32} {n i : Nat} (hi : i < n) : msL F sun (n - (i + 1)) (i + 1) 0 + shI (F (wb 1 i) 0) sun = msL F sun (n - i) i 0 := by
  rw [show n - i = n - (i + 1) + 1 by omega]
  show _ = msL F sun (n - (i + 1)) (i + 1) (0 + shI (F (wb 1 i) 0) sun)
  rw [ms_acc F sun _ _ (0 + shI (F (wb 1 i) 0) sun)]
  grind
/-- j is the first of the longest from i on -/
def LoP (F : Fs) (sun : Int32) (n i j : Nat) : Prop := i ≤ j ∧ j < n ∧ (∀ k, i ≤ k → k < n → shI (F (wb 1 k) 0) sun ≤ shI (F (wb 1 j) 0) sun) ∧ ∀ k, i ≤ k → k < j → shI (F (wb 1 k) 0) sun < shI (F (wb 1 j) 0) sun
theorem LoP.one {F : Fs} {sun : Int32} {n i j j' : Nat} (h : LoP F sun n i j) (h' : LoP F sun n i j') : j = j' := by
  obtain ⟨a1, a2, a3, a4⟩ := h
  obtain ⟨b1, b2, b3, b4⟩ := h'
  rcases Nat.lt_trichotomy j j' with q | q | q
  · exact absurd (a3 j' b1 b2) (Int32.not_le.mpr (b4 j a1 q))
  · exact q
  · exact absurd (b3 j a1 a2) (Int32.not_le.mpr (a4 j' b1 q))
theorem lo_gen {F : Fs} {sun : Int32} {n : Nat} : ∀ (k i : Nat) (b : Nat), i + k = n → b < i → (∀ q, q < i → shI (F (wb 1 q) 0) sun ≤ shI (F (wb 1 b) 0) sun) → (∀ q, q < b → shI (F (wb 1 q) 0) sun < shI (F (wb 1 b) 0) sun) → ∃ j, LoP F sun n 0 j ∧ loL F sun k i (nI b) (shI (F (wb 1 b) 0) sun) = nI j := by
  intro k
  induction k with
  | zero =>
    intro i b hi hb h1 h2
    exact ⟨b, ⟨Nat.zero_le _, by omega, fun q _ hq => h1 q (by omega), fun q _ hq => h2 q hq⟩, rfl⟩
  | succ k ih =>
    intro i b hi hb h1 h2
    unfold loL
    by_cases hc : shI (F (wb 1 i) 0) sun ≤ shI (F (wb 1 b) 0) sun
    · rw [if_pos hc]
      exact ih (i + 1) b (by omega) (by omega) (fun q hq => by
        by_cases e : q = i
        · subst e; exact hc
        · exact h1 q (by omega)) h2
    · rw [if_neg hc]
      have hl := Int32.not_le.mp hc
      exact ih (i + 1) i (by omega) (by omega) (fun q hq => by
        by_cases e : q = i
        · subst e; exact Int32.le_refl _
        · exact Int32.le_of_lt (Int32.lt_of_le_of_lt (h1 q (by omega)) hl)) (fun q hq => Int32.lt_of_le_of_lt (h1 q (by omega)) hl)
theorem lo_spec {F : Fs} {n h : Nat} (hn : 0 < n) (hw : ∀ j, j < n → ∃ a, a ≤ 30 ∧ F (wb 1 j) 0 = nI a) : ∃ j, LoP F (suH h) n 0 j ∧ loL F (suH h) n 0 (-1) (-1) = nI j := by
  obtain ⟨m, rfl⟩ : ∃ m, n = m + 1 := ⟨n - 1, by omega⟩
  obtain ⟨a, ha, e⟩ := hw 0 hn
  have h0 : ¬ shI (F (wb 1 0) 0) (suH h) ≤ -1 := by
    rw [e, sh_nI ha]
    have := sh_bd ha h
    intro z
    exact nI_pos (n := shN a h) (by omega) (Int32.lt_of_le_of_lt z (by decide))
  unfold loL
  rw [if_neg h0]
  exact lo_gen m 1 0 (by omega) (by omega) (fun q hq => by rw [show q = 0 by omega]; exact Int32.le_refl _) (fun q hq => absurd hq (Nat.not_lt_zero q))
/-- from i on: none, or the first of the longest -/
def LoI (F : Fs) (sun : Int32) (n i : Nat) (x : Int32) : Prop := (i = n ∧ x = -1) ∨ ∃ j, LoP F sun n i j ∧ x = nI j
theorem loI_new {F : Fs} {sun : Int32} {n i : Nat} (hi : i + 1 = n) : LoI F sun n i (nI i) := Or.inr ⟨i, ⟨Nat.le_refl _, by omega, fun k h1 h2 => by rw [show k = i by omega]; exact Int32.le_refl _, fun k h1 h2 => by omega⟩, rfl⟩
theorem loI_y {F : Fs} {sun : Int32} {n i j : Nat} (hi : i < n) (h : LoP F sun n (i + 1) j) (hc : shI (F (wb 1 j) 0) sun ≤ shI (F (wb 1 i) 0) sun) : LoI F sun n i (nI i) := by
  obtain ⟨a1, a2, a3, a4⟩ := h
  refine Or.inr ⟨i, ⟨Nat.le_refl _, hi, fun k h1 h2 => ?_, fun k h1 h2 => by omega⟩, rfl⟩
  by_cases e : k = i
  · subst e; exact Int32.le_refl _
  · exact Int32.le_trans (a3 k (by omega) h2) hc
theorem loI_n {F : Fs} {sun : Int32} {n i j : Nat} (hi : i < n) (h : LoP F sun n (i + 1) j) (hc : ¬ shI (F (wb 1 j) 0) sun ≤ shI (F (wb 1 i) 0) sun) : LoI F sun n i (nI j) := by
  obtain ⟨a1, a2, a3, a4⟩ := h
  have hl := Int32.not_le.mp hc
  refine Or.inr ⟨j, ⟨by omega, a2, fun k h1 h2 => ?_, fun k h1 h2 => ?_⟩, rfl⟩
  · by_cases e : k = i
    · subst e; exact Int32.le_of_lt hl
    · exact a3 k (by omega) h2
  · by_cases e : k = i
    · subst e; exact hl
    · exact a4 k (by omega) h2
theorem lo_end {F : Fs} {n h : Nat} {x : Int32} (hw : ∀ j, j < n → ∃ a, a ≤ 30 ∧ F (wb 1 j) 0 = nI a) (H : LoI F (suH h) n 0 x) : loL F (suH h) n 0 (-1) (-1) = x := by
  rcases Nat.eq_zero_or_pos n with rfl | hn
  · rcases H with ⟨-, e⟩ | ⟨j, hj, -⟩
    · exact e.symm
    · exact absurd hj.2.1 (Nat.not_lt_zero _)
  · obtain ⟨j, hj, e⟩ := lo_spec (h := h) hn hw
    rcases H with ⟨e0, -⟩ | ⟨j', hj', e'⟩
    · omega
    · rw [e, e', hj.one hj']
/-- the hours until noon -/
def unN (h u : Nat) : Prop := (∀ v, v < u → ¬ (h + v) % 12 = 5 ∧ ¬ (h + v) % 12 = 6) ∧ u ≤ 10
theorem hu_un {h u : Nat} (H : unN h u) (he : (h + u) % 12 = 5 ∨ (h + u) % 12 = 6) : huN h = nI u := by
  have key : ∀ d, d < 12 → (if noonAtI (nI d) = 0 then fmI (5 - nI d) else 0) = nI ([5, 4, 3, 2, 1, 0, 0, 10, 9, 8, 7, 6].getD d 0) := by decide
  have e : [5, 4, 3, 2, 1, 0, 0, 10, 9, 8, 7, 6].getD (h % 12) 0 = u := by
    have b := H.2
    rcases (show h % 12 = 0 ∨ h % 12 = 1 ∨ h % 12 = 2 ∨ h % 12 = 3 ∨ h % 12 = 4 ∨ h % 12 = 5 ∨ h % 12 = 6 ∨ h % 12 = 7 ∨ h % 12 = 8 ∨ h % 12 = 9 ∨ h % 12 = 10 ∨ h % 12 = 11 by omega) with q | q | q | q | q | q | q | q | q | q | q | q
    · rw [q]; show 5 = u; have a := H.1 5; omega
    · rw [q]; show 4 = u; have a := H.1 4; omega
    · rw [q]; show 3 = u; have a := H.1 3; omega
    · rw [q]; show 2 = u; have a := H.1 2; omega
    · rw [q]; show 1 = u; have a := H.1 1; omega
    · rw [q]; show 0 = u; have a := H.1 0; omega
    · rw [q]; show 0 = u; have a := H.1 0; omega
    · rw [q]; show 10 = u; have a := H.1 10; omega
    · rw [q]; show 9 = u; have a := H.1 9; omega
    · rw [q]; show 8 = u; have a := H.1 8; omega
    · rw [q]; show 7 = u; have a := H.1 7; omega
    · rw [q]; show 6 = u; have a := H.1 6; omega
  rw [← e]
  exact key _ (Nat.mod_lt _ (by decide))
theorem un_next {h u : Nat} (H : unN h u) (h5 : ¬ (h + u) % 12 = 5) (h6 : ¬ (h + u) % 12 = 6) : unN h (u + 1) ∧ u + 1 ≤ 10 := by
  have hu : u + 1 ≤ 10 := by
    have h2 := H.2
    by_cases e : u = 10
    · subst e
      exfalso
      have a0 := H.1 0 (by omega); have a1 := H.1 1 (by omega); have a2 := H.1 2 (by omega); have a3 := H.1 3 (by omega); have a4 := H.1 4 (by omega); have a5 := H.1 5 (by omega); have a6 := H.1 6 (by omega); have a7 := H.1 7 (by omega); have a8 := H.1 8 (by omega); have a9 := H.1 9 (by omega)
      omega
    · omega
  refine ⟨⟨fun v hv => ?_, hu⟩, hu⟩
  by_cases e : v = u
  · subst e; exact ⟨h5, h6⟩
  · exact H.1 v (by omega)
theorem pt_0 (F : Fs) (b k h : Nat) : ptI F b k h 0 = coI (F k 0) (F k 2) (suH h) := by
  unfold ptI; rw [if_pos rfl]
theorem pt_1 (F : Fs) (b k h : Nat) : ptI F b k h 1 = owI (F k 5) (coI (F k 0) (F k 2) (suH h)) (noH h) := by
  unfold ptI; rw [if_neg (by decide), if_pos rfl]
theorem ms_nat {F : Fs} {h : Nat} : ∀ (n i : Nat), (∀ j, i ≤ j → j < i + n → ∃ a, a ≤ 30 ∧ F (wb 1 j) 0 = nI a) → ∃ q, q ≤ 180 * n ∧ msL F (suH h) n i 0 = nI q := by
  intro n
  induction n with
  | zero => intro i _; exact ⟨0, Nat.le_refl _, rfl⟩
  | succ n ih =>
    intro i hw
    obtain ⟨q, hq, e⟩ := ih (i + 1) (fun j h1 h2 => hw j (by omega) (by omega))
    obtain ⟨a, ha, e0⟩ := hw i (Nat.le_refl _) (by omega)
    show ∃ q, q ≤ 180 * (n + 1) ∧ msL F (suH h) n (i + 1) (0 + shI (F (wb 1 i) 0) (suH h)) = nI q
    rw [ms_acc, e, e0, sh_nI ha, show (0 : Int32) = nI 0 from rfl, nI_add, nI_add]
    have := sh_bd ha h
    exact ⟨0 + shN a h + q, by omega, rfl⟩
theorem In.ht {F : Fs} {n h j : Nat} (I : In F n h) (hj : j < n) : ∃ a, a ≤ 30 ∧ F (wb 1 j) 0 = nI a := by
  obtain ⟨a, sk, nt, wo, f, m, h1, h2, -, -, -, -, -, e0, -⟩ := I.wk hj
  exact ⟨a, h2, e0⟩
/-! the mean is a number, and equal to itself -/
theorem nan_all : ((List.range 1441).all fun a => (List.range 8).all fun b => decide (FP.ddiv (FP.i2d (nI a)) (FP.i2d (nI (b + 1))) &&& 0x7fffffffffffffff ≤ 0x7ff0000000000000)) = true := by decide +kernel
theorem nan_ok {a b : Nat} (ha : a ≤ 1440) (h0 : ¬ nI b = 0) (hb : b ≤ 8) : vf_n64 (FP.ddiv (FP.i2d (nI a)) (FP.i2d (nI b))) := by
  cases b with
  | zero => exact absurd rfl h0
  | succ b =>
    have h1 := List.all_eq_true.mp nan_all a (List.mem_range.mpr (by omega))
    have h2 := List.all_eq_true.mp h1 b (List.mem_range.mpr (by omega))
    have h3 := of_decide_eq_true h2
    exact h3
theorem dc_all : ((List.range 1441).all fun a => (List.range 8).all fun b => decide (Op.cmpValue (FP.dcmp (FP.ddiv (FP.i2d (nI a)) (FP.i2d (nI (b + 1)))) (FP.ddiv (FP.i2d (nI a)) (FP.i2d (nI (b + 1))))) .l = 0)) = true := by decide +kernel
theorem dc_ok {a b : Nat} (ha : a ≤ 1440) (h0 : ¬ nI b = 0) (hb : b ≤ 8) : Op.cmpValue (FP.dcmp (FP.ddiv (FP.i2d (nI a)) (FP.i2d (nI b))) (FP.ddiv (FP.i2d (nI a)) (FP.i2d (nI b)))) .l = 0 := by
  cases b with
  | zero => exact absurd rfl h0
  | succ b =>
    have h1 := List.all_eq_true.mp dc_all a (List.mem_range.mpr (by omega))
    have h2 := List.all_eq_true.mp h1 b (List.mem_range.mpr (by omega))
    exact of_decide_eq_true h2
theorem In.nan {F : Fs} {n h : Nat} (I : In F n h) (h0 : ¬ nI n = 0) : vf_n64 (FP.ddiv (FP.i2d (msL F (suH h) n 0 0)) (FP.i2d (nI n))) := by
  obtain ⟨q, hq, e⟩ := ms_nat (F := F) (h := h) n 0 (fun j _ hj => I.ht (by omega))
  have := I.n8
  rw [e]
  exact nan_ok (by omega) h0 I.n8
theorem In.dcy {F : Fs} {n h : Nat} (I : In F n h) (h0 : ¬ nI n = 0) : Op.cmpValue (FP.dcmp (msD F n h) (FP.ddiv (FP.i2d (msL F (suH h) n 0 0)) (FP.i2d (nI n)))) .l = 0 := by
  obtain ⟨q, hq, e⟩ := ms_nat (F := F) (h := h) n 0 (fun j _ hj => I.ht (by omega))
  have := I.n8
  unfold msD
  rw [if_neg h0, e]
  exact dc_ok (by omega) h0 I.n8
theorem dc_0 : Op.cmpValue (FP.dcmp FP.dconst0 FP.dconst0) .l = 0 := by decide +kernel
theorem msD_0 {F : Fs} {n h : Nat} (h0 : nI n = 0) : Op.cmpValue (FP.dcmp (msD F n h) FP.dconst0) .l = 0 := by
  unfold msD
  rw [if_pos h0]
  exact dc_0
