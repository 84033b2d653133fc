/-! the reference's digest: rows for a row made on the way, and its words -/
theorem GB.drop {G : gT} {F : Fs} {o : Int64} {X : va_W} {Y : List (ClassId × FieldType)} {s : State} {H : Heap} {locs : List Loc} (g : GB G F o X Y s H locs) : GB G F o [] [] s H locs := by
  obtain ⟨hP, hD, hK, hS, hE⟩ := g
  have up : ∀ (k : Nat) (q : Nat × va_E), (wld G F o ++ [])[k]? = some q → (wld G F o ++ X)[k]? = some q := fun k q hq => by
    rw [List.append_nil] at hq
    rw [List.getElem?_append_left (List.getElem?_eq_some_iff.mp hq).1]; exact hq
  exact ⟨fun k q hq => hP k q (up k q hq), ⟨fun i j x y hx hy he => hD.1 i j x y (up i x hx) (up j y hy) he, fun k q hq => hD.2 k q (up k q hq)⟩, hK.sub [0, 1, 2, 3] rfl, hS, hE⟩
abbrev MLc (l : Launch) (y : MethodName) (b : ByteArray) (n : Nat) (f k cs ss : Nat) (vs : List Value) (G : gT) (F : Fs) (o : Int64) (F' : Fs) (R : Int64) : Prop := ∀ sz : Nat, Met l y (wsG y b n (some .long)) (rmC f k cs ss) (va_Pc vs (preG G F o sz)) (QL G F' o R sz) cs ss (GA G sz)
theorem mk_GC {l : Launch} {y : MethodName} {b : ByteArray} {n : Nat} {ret : Option FieldType} {f k cs ss : Nat} {vs : List Value} {G : gT} {F : Fs} {o : Int64} {own : String} {Qs : Nat → Array Value → State → Outcome → State → Prop}
    (hy : plainFor y = true) (ho : y.cls = own) (hn : (lg_sl vs).length ≤ n)
    (body : ∀ (p : Program) (e : Env) (s : State) (m : MethodId) (args : Array Value) (below : List Frame) (meth : Method) (c : Code) (ls : Array Slot), meth.sig.returnType = ret → meth.locks = false → meth.name = y.name → CallFix p m c b n s args lw_all own → GB G F o [] [] s s.heap [] → lv_has ls n (lv_args 0 vs) →
      W p l e (rmC f k cs ss) s m args below meth c s.heap [] 0 0 (MQ below (Qs s.heap.size) args s cs ss (GA G s.heap.size)) (F0 m 0 ls [])) (sz : Nat) :
    Met l y (wsG y b n ret) (rmC f k cs ss) (va_Pc vs (preG G F o sz)) (Qs sz) cs ss (GA G sz) := by
  refine met_ofF (cc := b) (maxL := n) (ret := ret) hy rfl ?_
  intro p e s m args below meth c s₁ B hml hv
  obtain ⟨rfl, hsz, hP, hD, hK, hE⟩ := hv
  have hx := B.exec
  have hb := B.bytes
  have hr := B.returns
  have hts := atoms_spec (ws := wsG y b n ret) B.pre
  have hts : ∀ w ∈ lw_all, w.before vs.toArray s = true := fun w h => hts w (List.mem_cons_of_mem _ h)
  have hown : s.vm.findClass y.cls = some m.cls := findClass_of_methodNamed B.named
  have hlocks := B.notSynchronized
  have hin : meth.name = y.name := (name_of_methodNamed B.named B.method).1
  subst hsz
  have hl := lv_entry vs (n := n) hn
  rw [lg_entry_eq]
  generalize (lg_sl vs ++ List.replicate (n - (lg_sl vs).length) Slot.unset).toArray = ls at hl ⊢
  refine body p e s m _ below meth c ls hr hlocks hin ⟨hx, hb, hml, by rw [← ho]; exact hown, hts⟩ ⟨by rw [List.append_nil]; exact hP, ?_, by rw [List.append_nil]; exact hK, va_S.rf, hE⟩ hl
  rw [List.append_nil]
  refine hD.weaken (fun i q hq _ => ?_)
  have hi : i < 28 := by
    have := (List.getElem?_eq_some_iff.mp hq).1
    rw [wld_len] at this; exact this
  rw [wld_at0 G F o hi] at hq
  cases hq
  exact GA_in G _ hi
section GD
variable {p : Program} {l : Launch} {e : Env} {R : Room} {s : State} {m : MethodId} {args : Array Value} {below : List Frame} {meth : Method} {c : Code} {H : Heap} {locs : List Loc} {cells slots : Nat} {Q : State → Prop}
variable {cc : ByteArray} {pc nL : Nat} {ls : Array Slot} {rest st0 : List Value} {own : String} {G : gT} {F F' : Fs} {o : Int64}
theorem g_newa {N' : Nat} {k : Int32} (S : CallFix p m c cc nL s args lw_all own) (g : GB G F o [] [] s H locs) (harr : Cond.arrayClass .int ∈ lw_all) (hn : ¬ k < 0) (hN : k.toNatClampNeg = N') (hbytes : N' * 4 ≤ 536870912) (hcells : cells + 1 ≤ R.cells) (hslots : slots + N' ≤ R.slots) (hdg : decode cc pc = .ok (.newarray .int, 2))
    (kk : ∀ (q : Nat) (cA : ClassId) (H : Heap), GB G F o [(q, .inl (cA, N', .inl (fun _ => 0)))] [(cA, .int)] s H locs → W p l e R s m args below meth c H locs (cells + 1) (slots + N') Q (F0 m (pc + 2) ls (.ref q :: rest))) : W p l e R s m args below meth c H locs cells slots Q (F0 m pc ls (.int k :: rest)) := by
  obtain ⟨hx, hb, hml, ho, hts⟩ := S
  obtain ⟨hP, hD, hK, hS, hE⟩ := g
  rw [List.append_nil] at hP hD hK
  exact va_newa (atype := .int) (ty := .int) (a0 := (N', .inl (fun _ => 0))) hx hb (hts _ harr) rfl hK hP hD hS (fun q h => Or.inr h) (fun _ => rfl) hn hN hbytes hcells hslots hdg (fun q cA H1 hK hP hD hS => kk q cA H1 ⟨hP, hD, hK, hS, hE⟩)
theorem wld_28 (G : gT) (F : Fs) (o : Int64) (x : Nat × va_E) : (wld G F o ++ [x])[28]? = some x := by
  rw [List.getElem?_append_right (by rw [wld_len]; omega), wld_len]; rfl
theorem wld_s28 (G : gT) (F : Fs) (o : Int64) (x y : Nat × va_E) : (wld G F o ++ [x]).set 28 y = wld G F o ++ [y] := by
  rw [List.set_append_right _ _ (by rw [wld_len]; omega), wld_len]; rfl
theorem g_xst {q len : Nat} {cA : ClassId} {f : Nat → Int32} {i x : Int32} (S : CallFix p m c cc nL s args lw_all own) (g : GB G F o [(q, .inl (cA, len, .inl f))] [(cA, .int)] s H locs) (hlen : len < 2 ^ 31) (j : Nat) (hi : i = nI j) (hj : j < len) (hdg : decode cc pc = .ok (.iastore, 1))
    (kk : ∀ (H : Heap) (locs : List Loc), GB G F o [(q, .inl (cA, len, .inl (upd f j x)))] [(cA, .int)] s H locs → W p l e R s m args below meth c H locs cells slots Q (F0 m (pc + 1) ls rest)) : W p l e R s m args below meth c H locs cells slots Q (F0 m pc ls (.int x :: .int i :: .ref q :: rest)) := by
  obtain ⟨hx, hb, hml, ho, hts⟩ := S
  obtain ⟨hP, hD, hK, hS, hEn⟩ := g
  subst hi
  refine va_iast hx hb hK hP hD hS 28 4 (wld_28 G F o _) rfl (vp_in_nI hj hlen) hdg (fun H1 l1 hP hD hS => ?_)
  rw [nI_clamp (Nat.lt_trans hj hlen), wld_s28] at hP hD
  exact kk H1 l1 ⟨hP, hD, hK, hS, hEn⟩
theorem g_xld {q len : Nat} {cA : ClassId} {f : Nat → Int32} {i : Int32} (S : CallFix p m c cc nL s args lw_all own) (g : GB G F o [(q, .inl (cA, len, .inl f))] [(cA, .int)] s H locs) (hlen : len < 2 ^ 31) (j : Nat) (hi : i = nI j) (hj : j < len) (hdg : decode cc pc = .ok (.iaload, 1))
    (kk : W p l e R s m args below meth c H locs cells slots Q (F0 m (pc + 1) ls (.int (f j) :: rest))) : W p l e R s m args below meth c H locs cells slots Q (F0 m pc ls (.int i :: .ref q :: rest)) := by
  obtain ⟨hx, hb, hml, ho, hts⟩ := S
  subst hi
  refine va_iald hx hb g.2.2.1 g.1 28 4 (wld_28 G F o _) rfl (vp_in_nI hj hlen) hdg ?_
  rw [nI_clamp (Nat.lt_trans hj hlen)]
  exact kk
theorem g_xlen {q len : Nat} {cA : ClassId} {f : Nat → Int32} (S : CallFix p m c cc nL s args lw_all own) (g : GB G F o [(q, .inl (cA, len, .inl f))] [(cA, .int)] s H locs) (hdg : decode cc pc = .ok (.arraylength, 1))
    (kk : W p l e R s m args below meth c H locs cells slots Q (F0 m (pc + 1) ls (.int (nI len) :: rest))) : W p l e R s m args below meth c H locs cells slots Q (F0 m pc ls (.ref q :: rest)) := by
  obtain ⟨hx, hb, hml, ho, hts⟩ := S
  exact va_alen hx hb g.2.2.1 g.1 28 4 (wld_28 G F o _) rfl rfl hdg kk
theorem e_lc {F1 : Fs} {X : va_W} {Y : List (ClassId × FieldType)} {v RR : Int64} (S : CallFix p m c cc nL s args lw_all own) (hr : meth.sig.returnType = some .long) (hk : meth.locks = false) (g : GB G F1 o X Y s H locs) (hv : v = RR) (hF : F1 = F') (hdg : decode cc pc = .ok (.lreturn, 1)) : W p l e R s m args below meth c H locs cells slots (MQ below (QL G F' o RR s.heap.size) args s cells slots (GA G s.heap.size)) (F0 m pc ls [.long v]) :=
  W.lret S.1 S.2.1 hr (fun t ht hW => ⟨⟨v, (), rfl, hv, g.end1 hF ht⟩, g.2.2.2.1.F ht⟩) g.2.2.2.1.2.2 hdg hk
end GD
/-- a long over a row -/
def dxL (f : Nat → Int32) : Nat → Nat → Int64 → Int64
  | 0, _, d => d
  | n + 1, i, d => dxL f n (i + 1) (d * 31 + (f i).toInt64)
def dm0 (F : Fs) : Fs := th0 F 0
def dm1 (F : Fs) (n h : Nat) : Fs := nmF (dm0 F) n h
def dm2 (F : Fs) (n h : Nat) : Fs := (bmF (dm1 F n h) n h).2
def dmF (F : Fs) (n h : Nat) : Fs := (amF (dm2 F n h) n h).2
def dma (F : Fs) (n h : Nat) : Nat → Int32 := upd (upd (upd (upd (upd (upd (upd (upd (upd (upd (upd (upd (fun _ => 0) 0 (dm0 F 25 0)) 1 (suH h)) 2 (dm0 F 21 1)) 3 (inL (dm0 F) n 0 0)) 4 (dm0 F 25 1)) 5 (dm0 F 25 2)) 6 (dm0 F 21 2)) 7 (dm0 F 25 3)) 8 (dm0 F 25 4)) 9 (nmR (dm0 F) n h)) 10 (bmF (dm1 F n h) n h).1) 11 (amF (dm2 F n h) n h).1
def dmw (F : Fs) (i h : Nat) : Nat → Int32 := upd (upd (upd (upd (upd (upd (upd (upd (fun _ => 0) 0 (if F 24 i = 0 then 0 else 1)) 1 (F 25 (5 + i))) 2 (F 25 (13 + i))) 3 (F 25 (21 + i))) 4 (shI (F 22 i) (suH h))) 5 (coM F i h)) 6 (poM F i h)) 7 (reM F i h)
def dmL (F : Fs) (h : Nat) : Nat → Nat → Int64 → Int64
  | 0, _, d => d
  | n + 1, i, d => dmL F h n (i + 1) (dxL (dmw F i h) 8 0 d)
def dmI (F : Fs) (n h : Nat) : Int64 := dmL (dmF F n h) h n 0 (dxL (dma F n h) 12 0 2069)
theorem nmL_26 {n h : Nat} {a q : Nat} (ha : a ≠ 25) : ∀ (k i : Nat) (told : Int32) (F : Fs), (nmL n h k i told F).2 a q = F a q := by
  intro k
  induction k with
  | zero => intro i told F; rfl
  | succ k ih =>
    intro i told F
    unfold nmL
    split
    · split <;> rw [ih, hoF_ne F n (h + i) (by omega)]
    · rfl
theorem okM_nm {F : Fs} {n h : Nat} (o : okM F n h) : okM (nmF F n h) n h := by
  refine ⟨?_, ?_⟩
  · unfold nmF; rw [brF_ne _ (by decide), nmL_26 (by decide), kpF_ne F (by decide)]; exact o.1
  · unfold nmF; rw [brF_in _ (by decide), nmL_26 (by decide), kpF_in F (by decide)]; exact o.2
theorem okM_b1 {F : Fs} {n h i : Nat} (o : okM F n h) : okM (bm1 F i) n h := ⟨by rw [bm1, up2_ne _ _ (by decide)]; exact o.1, by rw [bm1, up2_ne _ _ (by decide)]; exact o.2⟩
theorem okM_a1 {F : Fs} {n h i : Nat} (o : okM F n h) : okM (am1 F i) n h := ⟨by rw [am1, up2_ne _ _ (by decide)]; exact o.1, by rw [am1, up2_ne _ _ (by decide)]; exact o.2⟩
theorem bmL_ok {n h : Nat} : ∀ (k i : Nat) (best most : Int32) (F : Fs), okM F n h ∧ F 26 0 = nI h → okM (bmL n h k i best most F).2 n h := by
  intro k
  induction k with
  | zero => intro i best most F o; exact o.1
  | succ k ih =>
    intro i best most F o
    have o2 := okM_fd (t := 48) (okM_b1 (i := i) o.1) (by rw [bm1, up2_ne _ _ (by decide)]; exact o.2)
    unfold bmL
    split
    · exact ih _ _ _ _ o2
    · split
      · exact ih _ _ _ _ o2
      · exact ih _ _ _ _ o2
theorem okM_bm {F : Fs} {n h : Nat} (o : okM F n h) : okM (bmF F n h).2 n h := bmL_ok 6 0 _ _ _ ⟨okM_kp o, by rw [kpF_in F (by decide)]; exact o.2⟩
theorem amL_ok {n h : Nat} : ∀ (k i : Nat) (F : Fs), okM F n h ∧ F 26 0 = nI h → okM (amL n h k i F).2 n h := by
  intro k
  induction k with
  | zero => intro i F o; exact o.1
  | succ k ih =>
    intro i F o
    have o2 := okM_fd (t := 48) (okM_a1 (i := i) o.1) (by rw [am1, up2_ne _ _ (by decide)]; exact o.2)
    unfold amL
    split
    · exact ih _ _ o2
    · exact o2.1
theorem okM_am {F : Fs} {n h : Nat} (o : okM F n h) : okM (amF F n h).2 n h := amL_ok 10 0 _ ⟨okM_kp o, by rw [kpF_in F (by decide)]; exact o.2⟩
