/-! cells in the making; calls of constructors; the script -/
def simV (v : Value) (F : Fs) (b : Nat) : va_E := .inr (3, [.int (F b 0), .int (F b 1), .int (F b 2), .int (F b 3), .int (F b 4), .int (F b 5), v])
def Fz : Fs := fun a j => if a = 1 then (if j = 1 then 100 else if j = 2 then 2 else if j = 3 then 30 else 0) else 0
def crow (G : gT) (B : Nat → Nat) (n : Nat) (F : Fs) (b : Nat) : va_W := (List.range n).map (fun i => (B i, arrI G 6 (rowS F (wb b i))))
theorem crow_s (G : gT) (B : Nat → Nat) (n : Nat) (F : Fs) (b q : Nat) : crow G (fun k => if k = n then q else B k) (n + 1) F b = crow G B n F b ++ [(q, arrI G 6 (rowS F (wb b n)))] := by
  unfold crow
  rw [List.range_succ, List.map_append]
  congr 1
  · apply List.map_congr_left
    intro i hi
    have := List.mem_range.mp hi
    simp [show i ≠ n by omega]
  · simp
theorem srow_crow (G : gT) (A : Nat → Nat) (n : Nat) (F : Fs) (b : Nat) : srow G A n F b = crow G (fun i => A (2 + i)) n F b := rfl
theorem va_P.eqc {D : va_G} {cl : List vw_C} {q : Nat} {e e' : va_E} {X : va_W} {H : Heap} (h : va_P D cl ([(q, e)] ++ X) H) (he : va_at D cl (q, e) H → va_at D cl (q, e') H) : va_P D cl ([(q, e')] ++ X) H := by
  rw [va_P_mem] at h ⊢
  intro c hc
  rcases List.mem_append.mp hc with h1 | h1
  · rcases List.mem_singleton.mp h1 with rfl
    exact he (h _ (List.mem_append_left _ List.mem_cons_self))
  · exact h c (List.mem_append_right _ h1)
theorem va_D.eqc {Z : Nat → Prop} {q : Nat} {e e' : va_E} {X : va_W} (h : va_D Z ([(q, e)] ++ X)) : va_D Z ([(q, e')] ++ X) := by
  rw [va_D_nd] at h ⊢
  refine ⟨h.1, fun c hc => ?_⟩
  rcases List.mem_append.mp hc with h1 | h1
  · rcases List.mem_singleton.mp h1 with rfl
    exact h.2 (q, e) (List.mem_append_left _ List.mem_cons_self)
  · exact h.2 c (List.mem_append_right _ h1)
theorem arrV_ext {cA : ClassId} {n : Nat} {f g : Nat → Value} (h : ∀ j, j < n → f j = g j) : arrV cA n f = arrV cA n g := by
  unfold arrV
  congr 1
  congr 1
  funext j
  exact h j.val j.isLt
theorem GX.rr {G : gT} {Z : Nat → Prop} {q n : Nat} {f g : Nat → Option Nat} {X : va_W} {s : State} {H : Heap} {locs : List Loc} (h : GX G Z ([(q, arrR G n f)] ++ X) s H locs) (hfg : ∀ i, i < n → f i = g i) : GX G Z ([(q, arrR G n g)] ++ X) s H locs := by
  obtain ⟨hP, hD, h3⟩ := h
  refine ⟨hP.eqc (fun h1 => ?_), hD.eqc, h3⟩
  have h1 : H[q]? = some (vp_cell (G.2.1 2) (n, .inr (.inr (.inr (.inr f))))) := h1
  show H[q]? = some (vp_cell (G.2.1 2) (n, .inr (.inr (.inr (.inr g)))))
  rw [h1, vp_cell_q, vp_cell_q]
  exact congrArg some (arrV_ext (fun j hj => by rw [hfg j hj]))
theorem GX.ri {G : gT} {Z : Nat → Prop} {q n : Nat} {f g : Nat → Int32} {X : va_W} {s : State} {H : Heap} {locs : List Loc} (h : GX G Z ([(q, arrI G n f)] ++ X) s H locs) (hfg : ∀ i, i < n → f i = g i) : GX G Z ([(q, arrI G n g)] ++ X) s H locs := by
  obtain ⟨hP, hD, h3⟩ := h
  refine ⟨hP.eqc (fun h1 => ?_), hD.eqc, h3⟩
  have h1 : H[q]? = some (vp_cell (G.2.1 1) (n, .inl f)) := h1
  show H[q]? = some (vp_cell (G.2.1 1) (n, .inl g))
  rw [h1]
  exact congrArg some (arrV_ext (cA := G.2.1 1) (f := fun j => .int (f j)) (g := fun j => .int (g j)) (fun j hj => by rw [hfg j hj]))
section XS
variable {p : Program} {l : Launch} {e : Env} {R : Room} {s : State} {m : MethodId} {args : Array Value} {below : List Frame} {meth : Method} {c : Code} {H : Heap} {locs : List Loc} {cells slots : Nat} {Q : State → Prop}
variable {cc : ByteArray} {pc nL : Nat} {ls : Array Slot} {rest st0 : List Value} {own : String} {G : gT} {F F' : Fs} {Z : Nat → Prop} {w X : va_W} {A : Nat → Nat} {n b : Nat}
theorem x_puto {index a : Nat} {x : Int32} {v : Value} (S : CallFix p m c cc nL s args lw_all own) (g : GX G Z ([(a, simV v F b)] ++ X) s H locs) (j : Nat) (hj : j < 6) (hq : Cond.fieldLink own index RX3 (TX3 j).2.1 (TX3 j).2.2.1 ∈ lw_all) (hdg : decode cc pc = .ok (.putfield index, 3))
    (kk : ∀ (H : Heap) (locs : List Loc), GX G Z ([(a, simV v (up2 F b j x) b)] ++ X) s H locs → W p l e R s m args below meth c H locs cells slots Q (F0 m (pc + 3) ls rest)) : W p l e R s m args below meth c H locs cells slots Q (F0 m pc ls (.int x :: .ref a :: rest)) := by
  obtain ⟨hx, hb, hml, ho, hts⟩ := S
  obtain ⟨hP, hD, hK, hS, hE, hZ⟩ := g
  refine va_put (ref := RX3) (C := RX3) (T := TX3) (N := 7) (ci := 3) hx hb hts iX3 tyX3 tyX3_ok nmX3 ho hK hP hD hS 0 (show ([(a, simV v F b)] ++ X)[0]? = some (a, simV v F b) from rfl) rfl j (by omega) (v := .int x) (hts _ hq) (fun x h => by rw [oX3] at h; exact h) fX3 (tyX3_ok j (by omega)) (by rw [tyX3_int hj]; rfl) (by rw [tyX3_int hj]; rfl) (by simp only [List.length_cons, List.length_nil]; omega) hdg (fun H1 l1 hP hD hS => ?_)
  have e1 : ([(a, simV v F b)] ++ X).set 0 (a, .inr (3, ([.int (F b 0), .int (F b 1), .int (F b 2), .int (F b 3), .int (F b 4), .int (F b 5), v] : List Value).set j (.int x))) = [(a, simV v (up2 F b j x) b)] ++ X := by
    show ((_ : Nat × va_E) :: _) = ((_ : Nat × va_E) :: _)
    congr 1
    unfold simV
    rcases (show j = 0 ∨ j = 1 ∨ j = 2 ∨ j = 3 ∨ j = 4 ∨ j = 5 by omega) with rfl | rfl | rfl | rfl | rfl | rfl <;> simp [up2]
  rw [e1] at hP hD
  exact kk H1 l1 ⟨hP, hD, hK, hS, hE, hZ⟩
theorem x_puta {index a r : Nat} {v : Value} (S : CallFix p m c cc nL s args lw_all own) (g : GX G Z ([(a, simV v F b)] ++ X) s H locs) (hq : Cond.fieldLink own index RX3 (TX3 6).2.1 (TX3 6).2.2.1 ∈ lw_all) (hdg : decode cc pc = .ok (.putfield index, 3))
    (kk : ∀ (H : Heap) (locs : List Loc), GX G Z ([(a, simO r F b)] ++ X) s H locs → W p l e R s m args below meth c H locs cells slots Q (F0 m (pc + 3) ls rest)) : W p l e R s m args below meth c H locs cells slots Q (F0 m pc ls (.ref r :: .ref a :: rest)) := by
  obtain ⟨hx, hb, hml, ho, hts⟩ := S
  obtain ⟨hP, hD, hK, hS, hE, hZ⟩ := g
  refine va_put (ref := RX3) (C := RX3) (T := TX3) (N := 7) (ci := 3) hx hb hts iX3 tyX3 tyX3_ok nmX3 ho hK hP hD hS 0 (show ([(a, simV v F b)] ++ X)[0]? = some (a, simV v F b) from rfl) rfl 6 (by omega) (v := .ref r) (hts _ hq) (fun x h => by rw [oX3] at h; exact h) fX3 (tyX3_ok 6 (by omega)) rfl rfl (by simp only [List.length_cons, List.length_nil]; omega) hdg (fun H1 l1 hP hD hS => ?_)
  exact kk H1 l1 ⟨hP, hD, hK, hS, hE, hZ⟩
/-- new ShadowPoolLaw.Sim -/
theorem x_news {index : Nat} (S : CallFix p m c cc nL s args lw_all own) (g : GX G Z w s H locs) (hcl : Cond.classLink own index RX3 ∈ lw_all) (hcells : cells + 1 ≤ R.cells) (hslots : slots + 7 ≤ R.slots) (hdg : decode cc pc = .ok (.new index, 3))
    (kk : ∀ (q : Nat) (H1 : Heap), GX G Z ([(q, simV .null (fun _ _ => 0) 1)] ++ w) s H1 locs → W p l e R s m args below meth c H1 locs (cells + 1) (slots + 7) Q (F0 m (pc + 3) ls (.ref q :: rest))) : W p l e R s m args below meth c H locs cells slots Q (F0 m pc ls rest) := by
  obtain ⟨hx, hb, hml, ho, hts⟩ := S
  obtain ⟨hP, hD, hK, hS, hE, hZ⟩ := g
  refine va_new (ci := 3) (fs := [.int 0, .int 0, .int 0, .int 0, .int 0, .int 0, .null]) (C := RX3) (T := TX3) (N := 7) hx hb hts iX3 tyX3 tyX3_ok ho (hts _ hcl) (hts _ q427) (hts _ q4) hK hP hD hS hZ rfl (fun j hj => by rcases (show j = 0 ∨ j = 1 ∨ j = 2 ∨ j = 3 ∨ j = 4 ∨ j = 5 ∨ j = 6 by omega) with rfl | rfl | rfl | rfl | rfl | rfl | rfl <;> rfl) hcells hslots hdg (fun q H1 hP1 hD1 hS1 => ?_)
  exact kk q H1 (GX.perm ⟨hP1, hD1, hK, hS1, hE, hZ⟩ (pm_end _ _))
theorem y_I {y : MethodName} {bb : ByteArray} {mL nA f k1 mc ms index : Nat} {As : List Value} {Qs : Nat → Array Value → State → Outcome → State → Prop} {wc : va_W} {a : Nat}
    (S : CallFix p m c cc nL s args lw_all own) (g : GX G Z (wc ++ X) s H locs) (hM : ∀ sz : Nat, Met l y (wsG y bb mL none) (rmC f k1 mc ms) (va_Pc (.ref a :: As) (preX G wc sz)) (Qs sz) mc ms (va_A wc sz)) (hc : Cond.code y bb mL none ∈ lw_all) (hini : Cond.initialized y.cls ∈ lw_all) (hlk : Cond.methodLink own index y ∈ lw_all) (him : Cond.instanceMethod y ∈ lw_all) (hy : y.name = "<init>")
    (hd : y.cls ≠ "java/lang/invoke/MethodHandle" ∧ y.cls ≠ "java/lang/invoke/VarHandle" ∧ (parseMethodDescriptor y.desc).map (fun d => d.parameters.length) = some nA) (hn : As.length = nA) (hR : f + 1 ≤ R.frames ∧ 8 + (mL + 11) + k1 ≤ R.locals) (hsz : ls.size = nL) (hW : (rest.map fun v => v.category).sum ≤ 8) (hst : st0 = As.reverse ++ .ref a :: rest) (hcs : cells + mc ≤ R.cells ∧ slots + ms ≤ R.slots) (hdg : decode cc pc = .ok (.invokespecial index, 3)) :
    va_Run p l e R s m args below meth c H locs cells slots mc ms (F0 m pc ls st0) rest (Qs H.size (Value.ref a :: As).toArray) (va_A wc H.size) := by
  have hts := S.2.2.2.2
  exact va_runI (As := As) (rest := rest) S (hM H.size) (cwI nA hts (lw_C hc) rfl rfl rfl (hts _ hini) (hts _ hlk) (hts _ him) hy hd hR) ⟨preX_blind, fun U hU hW => ⟨rfl, g.pre hU hW⟩⟩ rfl hn hsz hst (lv_room (m := m) (pc := pc) (ls := ls) (rest := st0) hW) hdg hcs
theorem y_IN {host : String} {y : MethodName} {bb : ByteArray} {mL nA f k1 mc ms index : Nat} {As : List Value} {Qs : Nat → Array Value → State → Outcome → State → Prop} {wc : va_W} {a : Nat}
    (S : CallFix p m c cc nL s args lw_all own) (g : GX G Z (wc ++ X) s H locs) (hM : ∀ sz : Nat, Met l y (wsG y bb mL none) (rmC f k1 mc ms) (va_Pc (.ref a :: As) (preX G wc sz)) (Qs sz) mc ms (va_A wc sz)) (hc : Cond.code y bb mL none ∈ lw_all) (hini : Cond.initialized y.cls ∈ lw_all) (hlk : Cond.methodLinkNest own index y host ∈ lw_nest) (him : Cond.instanceMethod y ∈ lw_all) (hy : y.name = "<init>")
    (hd : y.cls ≠ "java/lang/invoke/MethodHandle" ∧ y.cls ≠ "java/lang/invoke/VarHandle" ∧ (parseMethodDescriptor y.desc).map (fun d => d.parameters.length) = some nA) (hn : As.length = nA) (hR : f + 1 ≤ R.frames ∧ 8 + (mL + 11) + k1 ≤ R.locals) (hsz : ls.size = nL) (hW : (rest.map fun v => v.category).sum ≤ 8) (hst : st0 = As.reverse ++ .ref a :: rest) (hcs : cells + mc ≤ R.cells ∧ slots + ms ≤ R.slots) (hdg : decode cc pc = .ok (.invokespecial index, 3)) :
    va_Run p l e R s m args below meth c H locs cells slots mc ms (F0 m pc ls st0) rest (Qs H.size (Value.ref a :: As).toArray) (va_A wc H.size) := by
  have hts := S.2.2.2.2
  exact va_runIN (As := As) (rest := rest) S (hM H.size) ⟨va_cnB nA hts (lw_C hc) rfl rfl rfl (g.2.2.2.2.1.1 _ hlk) (hts _ hini) hd hR, hy, hts _ him⟩ ⟨preX_blind, fun U hU hW => ⟨rfl, g.pre hU hW⟩⟩ rfl hn hsz hst (lv_room (m := m) (pc := pc) (ls := ls) (rest := st0) hW) hdg hcs
end XS
/-! with the script at hand -/
abbrev preS (G : gT) (w : va_W) (b9 L9 : Nat) (xs9 : Nat → Int32) (sz : Nat) : State → Prop := fun U => preX G w sz U ∧ va_X b9 L9 xs9 U U.heap ∧ b9 < sz ∧ ∀ c ∈ w, c.1 ≠ b9
theorem va_X.to {b L : Nat} {xs : Nat → Int32} {s U : State} {A : Nat → Prop} {H : Heap} {locs : List Loc} (h : va_X b L xs s s.heap) (hbl : b < s.heap.size) (hbn : ¬ A b) (hS : va_S A s.heap H locs) (hW : s.WarmedH U.vm) : va_X b L xs U H := by
  obtain ⟨scr, h1, h2, h3, h4, h5⟩ := h
  exact ⟨scr, by rw [hS.2.1 b hbl hbn]; exact h1, State.isArrayOf_alike hW.alike h2, h3, h4, h5⟩
theorem preS_blind {vs : List Value} {G : gT} {w : va_W} {b9 L9 : Nat} {xs9 : Nat → Int32} {sz : Nat} : FrameBlind (va_Pc vs (preS G w b9 L9 xs9 sz)) := fun a U g mk q => by
  obtain ⟨q0, ⟨q1, q2, q3, q4, q5⟩, ⟨scr, h1, h2, h3, h4, h5⟩, q7, q8⟩ := q
  exact ⟨q0, ⟨q1, q2, q3, va_K.moved (u := U) (U := U.calling g mk a) (Vm.Alike.refl U.vm) q4, EnvG.same (u := U) (U := U.calling g mk a) rfl q5⟩, ⟨scr, h1, State.isArrayOf_alike (Vm.Alike.refl U.vm) h2, h3, h4, h5⟩, q7, q8⟩
theorem GX.preS {G : gT} {Z : Nat → Prop} {wc X : va_W} {b9 L9 : Nat} {xs9 : Nat → Int32} {s : State} {H : Heap} {locs : List Loc} (g : GX G Z (wc ++ X) s H locs) (hX : va_X b9 L9 xs9 s s.heap) (hbl : b9 < s.heap.size) (hbn : ¬ Z b9) {U : State} (hU : U.heap = H) (hW : s.WarmedH U.vm) : preS G wc b9 L9 xs9 H.size U :=
  ⟨g.pre hU hW, by rw [hU]; exact hX.to hbl hbn g.2.2.2.1 hW, Nat.lt_of_lt_of_le hbl g.2.2.2.1.1, fun c hc e => hbn (by rw [← e]; exact (va_D_nd.mp g.2.1).2 c (List.mem_append_left _ hc))⟩
theorem y_SS {p : Program} {l : Launch} {e : Env} {R : Room} {s : State} {m : MethodId} {args : Array Value} {below : List Frame} {meth : Method} {c : Code} {H : Heap} {locs : List Loc} {cells slots : Nat} {cc : ByteArray} {pc nL : Nat} {ls : Array Slot} {rest st0 : List Value} {own : String} {G : gT} {Z : Nat → Prop} {X : va_W} {b9 L9 : Nat} {xs9 : Nat → Int32} {y : MethodName} {bb : ByteArray} {mL nA f k1 mc ms index : Nat} {ret : Option FieldType} {As : List Value} {Qs : Nat → Array Value → State → Outcome → State → Prop} {wc : va_W}
    (S : CallFix p m c cc nL s args lw_all own) (g : GX G Z (wc ++ X) s H locs) (hX : va_X b9 L9 xs9 s s.heap) (hbl : b9 < s.heap.size) (hbn : ¬ Z b9) (hM : ∀ sz : Nat, Met l y (wsG y bb mL ret) (rmC f k1 mc ms) (va_Pc As (preS G wc b9 L9 xs9 sz)) (Qs sz) mc ms (va_A wc sz)) (hq : GoodIn lw_all (va_wsS own index y (wsG y bb mL ret)))
    (hd : y.cls ≠ "java/lang/invoke/MethodHandle" ∧ y.cls ≠ "java/lang/invoke/VarHandle" ∧ (parseMethodDescriptor y.desc).map (fun d => d.parameters.length) = some nA) (hn : As.length = nA) (hR : f + 1 ≤ R.frames ∧ 8 + (mL + 11) + k1 ≤ R.locals) (hsz : ls.size = nL) (hW : (rest.map fun v => v.category).sum ≤ 8) (hst : st0 = As.reverse ++ rest) (hcs : cells + mc ≤ R.cells ∧ slots + ms ≤ R.slots) (hdg : decode cc pc = .ok (.invokestatic index, 3)) :
    va_Run p l e R s m args below meth c H locs cells slots mc ms (F0 m pc ls st0) rest (Qs H.size As.toArray) (va_A wc H.size) := by
  exact va_runS (As := As) (rest := rest) S (hM H.size) (va_cwS nA S.2.2.2.2 hq rfl rfl rfl hd hR) ⟨preS_blind, fun U hU hW => ⟨rfl, g.preS hX hbl hbn hU hW⟩⟩ rfl hn hsz hst (lv_room (m := m) (pc := pc) (ls := ls) (rest := st0) hW) hdg hcs
theorem mk_S {l : Launch} {y : MethodName} {bb : ByteArray} {n : Nat} {ret : Option FieldType} {f k mc ms : Nat} {vs : List Value} {G : gT} {w : va_W} {b9 L9 : Nat} {xs9 : Nat → Int32} {own : String} {Qs : Nat → Array Value → State → Outcome → State → Prop}
    (hy : plainFor y = true) (ho : y.cls = own) (hn : (lg_sl vs).length ≤ n)
    (body : ∀ (p : Program) (e : Env) (s : State) (m : MethodId) (args : Array Value) (below : List Frame) (meth : Method) (c : Code) (ls : Array Slot), meth.sig.returnType = ret → meth.locks = false → meth.name = y.name → CallFix p m c bb n s args lw_all own → GX G (va_A w s.heap.size) w s s.heap [] → va_X b9 L9 xs9 s s.heap → b9 < s.heap.size → ¬ va_A w s.heap.size b9 → lv_has ls n (lv_args 0 vs) →
      W p l e (rmC f k mc ms) s m args below meth c s.heap [] 0 0 (MQ below (Qs s.heap.size) args s mc ms (va_A w s.heap.size)) (F0 m 0 ls [])) (sz : Nat) :
    Met l y (wsG y bb n ret) (rmC f k mc ms) (va_Pc vs (preS G w b9 L9 xs9 sz)) (Qs sz) mc ms (va_A w sz) := by
  refine met_ofF (cc := bb) (maxL := n) (ret := ret) hy rfl ?_
  intro p e s m args below meth c s₁ B hml hv
  obtain ⟨rfl, ⟨hsz, hP, hD, hK, hE⟩, hX, hbl, hbn⟩ := hv
  have hx := B.exec
  have hb := B.bytes
  have hr := B.returns
  have hts := atoms_spec (ws := wsG y bb n ret) B.pre
  have hts : ∀ w ∈ lw_all, w.before vs.toArray s = true := fun w h => hts w (List.mem_cons_of_mem _ h)
  have hown : s.vm.findClass y.cls = some m.cls := findClass_of_methodNamed B.named
  have hlocks := B.notSynchronized
  have hin : meth.name = y.name := (name_of_methodNamed B.named B.method).1
  subst hsz
  have hl := lv_entry vs (n := n) hn
  rw [lg_entry_eq]
  generalize (lg_sl vs ++ List.replicate (n - (lg_sl vs).length) Slot.unset).toArray = ls at hl ⊢
  exact body p e s m _ below meth c ls hr hlocks hin ⟨hx, hb, hml, by rw [← ho]; exact hown, hts⟩ ⟨hP, hD.self, hK, va_S.rf, hE, fun q h => Or.inr h⟩ hX hbl (fun h => by
    rcases va_A_mem.mp h with ⟨c, h1, h2⟩ | h1
    · exact hbn c h1 h2
    · omega) hl
/-! the parts of a Sim put together -/
theorem swl_open (G : gT) (A : Nat → Nat) (n : Nat) (F : Fs) (b : Nat) (X : va_W) : swl G A n F b ++ X = [(A 0, simO (A 1) F b)] ++ ([(A 1, arrR G n (fun i => some (A (2 + i))))] ++ (crow G (fun i => A (2 + i)) n F b ++ X)) := rfl
theorem simO_congr (a1 : Nat) {F F' : Fs} {b b' : Nat} (h : ∀ j, j < 6 → F b j = F' b' j) : simO a1 F b = simO a1 F' b' := by
  unfold simO
  rw [h 0 (by omega), h 1 (by omega), h 2 (by omega), h 3 (by omega), h 4 (by omega), h 5 (by omega)]
theorem crow_congr (G : gT) (B : Nat → Nat) {n : Nat} {F F' : Fs} {b b' : Nat} (h : ∀ i, i < n → ∀ j, F (wb b i) j = F' (wb b' i) j) : crow G B n F b = crow G B n F' b' := by
  unfold crow
  apply List.map_congr_left
  intro i hi
  rw [arrI_congr G 6 (f := rowS F (wb b i)) (g := rowS F' (wb b' i)) (fun j => h i (List.mem_range.mp hi) _)]
