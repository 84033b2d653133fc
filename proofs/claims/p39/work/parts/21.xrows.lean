/-! rows over the law's side's worlds -/
theorem nm_AI : "[" ++ (FieldType.array .int).toString = "[[I" := by decide +kernel
theorem nm_I : (FieldType.array .int).toString = "[I" := by decide +kernel
theorem ai_use {A : Array Value} {U : State} (h : va_Nw (.arrayOver (.array .int)) U) : (Cond.arrayOver (.array .int)).before A U = true := by
  unfold va_Nw at h
  simp only [Cond.before, Cond.holds] at h ⊢
  exact h
theorem va_D_set {A : Nat → Prop} {w : va_W} {k : Nat} {a : Nat} {e e' : va_E} (h : va_D A w) (hk : w[k]? = some (a, e)) : va_D A (w.set k (a, e')) := h.set hk
section XR
variable {p : Program} {l : Launch} {e : Env} {R : Room} {s : State} {m : MethodId} {args : Array Value} {below : List Frame} {meth : Method} {c : Code} {H : Heap} {locs : List Loc} {cells slots : Nat} {Q : State → Prop}
variable {cc : ByteArray} {pc nL : Nat} {ls : Array Slot} {rest st0 : List Value} {own : String} {G : gT} {F F' : Fs} {Z : Nat → Prop} {w X : va_W} {A : Nat → Nat} {n b : Nat}
/-! a Sim's numbers and its row of rows -/
theorem x_geti {index : Nat} {a1 a : Nat} (S : CallFix p m c cc nL s args lw_all own) (g : GX G Z w s H locs) (hm : (a, simO a1 F b) ∈ w) (j : Nat) (hj : j < 6) (hq : Cond.fieldLink own index RX3 (TX3 j).2.1 (TX3 j).2.2.1 ∈ lw_all) (hdg : decode cc pc = .ok (.getfield index, 3))
    (kk : W p l e R s m args below meth c H locs cells slots Q (F0 m (pc + 3) ls (.int (F b j) :: rest))) : W p l e R s m args below meth c H locs cells slots Q (F0 m pc ls (.ref a :: rest)) := by
  obtain ⟨hx, hb, hml, ho, hts⟩ := S
  obtain ⟨k, hk⟩ := List.getElem?_of_mem hm
  refine va_get (ref := RX3) (C := RX3) (T := TX3) (N := 7) (ci := 3) hx hb hts iX3 ho g.2.2.1 g.1 k hk rfl j (by omega) (hts _ hq) (fun x h => by rw [oX3] at h; exact h) (v := .int (F b j)) ?_ hdg kk
  rcases (show j = 0 ∨ j = 1 ∨ j = 2 ∨ j = 3 ∨ j = 4 ∨ j = 5 by omega) with rfl | rfl | rfl | rfl | rfl | rfl <;> rfl
theorem x_geta {index : Nat} {a1 a : Nat} (S : CallFix p m c cc nL s args lw_all own) (g : GX G Z w s H locs) (hm : (a, simO a1 F b) ∈ w) (hq : Cond.fieldLink own index RX3 (TX3 6).2.1 (TX3 6).2.2.1 ∈ lw_all) (hdg : decode cc pc = .ok (.getfield index, 3))
    (kk : W p l e R s m args below meth c H locs cells slots Q (F0 m (pc + 3) ls (.ref a1 :: rest))) : W p l e R s m args below meth c H locs cells slots Q (F0 m pc ls (.ref a :: rest)) := by
  obtain ⟨hx, hb, hml, ho, hts⟩ := S
  obtain ⟨k, hk⟩ := List.getElem?_of_mem hm
  exact va_get (ref := RX3) (C := RX3) (T := TX3) (N := 7) (ci := 3) hx hb hts iX3 ho g.2.2.1 g.1 k hk rfl 6 (by omega) (hts _ hq) (fun x h => by rw [oX3] at h; exact h) (v := .ref a1) rfl hdg kk
theorem x_puti {index : Nat} {x : Int32} (S : CallFix p m c cc nL s args lw_all own) (g : GX G Z (swl G A n F b ++ X) s H locs) (hB : b = 1 ∨ b = 2) (j : Nat) (hj : j < 6) (hq : Cond.fieldLink own index RX3 (TX3 j).2.1 (TX3 j).2.2.1 ∈ lw_all) (hdg : decode cc pc = .ok (.putfield index, 3))
    (kk : ∀ (H : Heap) (locs : List Loc), GX G Z (swl G A n (up2 F b j x) b ++ X) s H locs → W p l e R s m args below meth c H locs cells slots Q (F0 m (pc + 3) ls rest)) : W p l e R s m args below meth c H locs cells slots Q (F0 m pc ls (.int x :: .ref (A 0) :: rest)) := by
  obtain ⟨hx, hb, hml, ho, hts⟩ := S
  obtain ⟨hP, hD, hK, hS, hE, hZ⟩ := g
  refine va_put (ref := RX3) (C := RX3) (T := TX3) (N := 7) (ci := 3) hx hb hts iX3 tyX3 tyX3_ok nmX3 ho hK hP hD hS 0 (show (swl G A n F b ++ X)[0]? = some (A 0, simO (A 1) F b) from rfl) rfl j (by omega) (v := .int x) (hts _ hq) (fun x h => by rw [oX3] at h; exact h) fX3 (tyX3_ok j (by omega)) (by rw [tyX3_int hj]; rfl) (by rw [tyX3_int hj]; rfl) (by simp only [List.length_cons, List.length_nil]; omega) hdg (fun H1 l1 hP hD hS => ?_)
  have e1 := swl_set0 G A n F X hB hj x
  rw [e1] at hP hD
  exact kk H1 l1 ⟨hP, hD, hK, hS, hE, hZ⟩
/-! rows of ints, and rows of rows -/
theorem x_iald {len a : Nat} {f : Nat → Int32} (S : CallFix p m c cc nL s args lw_all own) (g : GX G Z w s H locs) (hm : (a, arrI G len f) ∈ w) (hlen : len < 2 ^ 31) {i : Int32} (j : Nat) (hi : i = nI j) (hj : j < len) (hdg : decode cc pc = .ok (.iaload, 1))
    (kk : W p l e R s m args below meth c H locs cells slots Q (F0 m (pc + 1) ls (.int (f j) :: rest))) : W p l e R s m args below meth c H locs cells slots Q (F0 m pc ls (.int i :: .ref a :: rest)) := by
  obtain ⟨hx, hb, hml, ho, hts⟩ := S
  obtain ⟨k, hk⟩ := List.getElem?_of_mem hm
  subst hi
  refine va_iald hx hb g.2.2.1 g.1 k 1 hk rfl (vp_in_nI hj hlen) hdg ?_
  rw [nI_clamp (Nat.lt_trans hj hlen)]
  exact kk
theorem x_alen {len a : Nat} {cA : ClassId} {x : (Nat → Int32) ⊕ (Nat → Int64) ⊕ (Nat → UInt32) ⊕ (Nat → UInt64) ⊕ (Nat → Option Nat)} {ty : FieldType} (S : CallFix p m c cc nL s args lw_all own) (g : GX G Z w s H locs) (hm : (a, .inl (cA, len, x)) ∈ w) (t0 : Nat) (ht : (tysG G)[t0]? = some (cA, ty)) (hdg : decode cc pc = .ok (.arraylength, 1))
    (kk : W p l e R s m args below meth c H locs cells slots Q (F0 m (pc + 1) ls (.int (nI len) :: rest))) : W p l e R s m args below meth c H locs cells slots Q (F0 m pc ls (.ref a :: rest)) := by
  obtain ⟨hx, hb, hml, ho, hts⟩ := S
  obtain ⟨k, hk⟩ := List.getElem?_of_mem hm
  exact va_alen hx hb g.2.2.1 g.1 k t0 hk ht (v := nI len) rfl hdg kk
theorem x_aald {len a : Nat} {f : Nat → Option Nat} {v : Nat} (S : CallFix p m c cc nL s args lw_all own) (g : GX G Z w s H locs) (hm : (a, arrR G len f) ∈ w) (hlen : len < 2 ^ 31) {i : Int32} (j : Nat) (hi : i = nI j) (hj : j < len) (hv : f j = some v) (hdg : decode cc pc = .ok (.aaload, 1))
    (kk : W p l e R s m args below meth c H locs cells slots Q (F0 m (pc + 1) ls (.ref v :: rest))) : W p l e R s m args below meth c H locs cells slots Q (F0 m pc ls (.int i :: .ref a :: rest)) := by
  obtain ⟨hx, hb, hml, ho, hts⟩ := S
  obtain ⟨k, hk⟩ := List.getElem?_of_mem hm
  subst hi
  have hin : vp_in (nI j) len := vp_in_nI hj hlen
  have hlt : (nI j).toNatClampNeg < len := Nat.not_le.mp fun q => hin (Or.inr q)
  have e1 : (nI j).toNatClampNeg = j := nI_clamp (Nat.lt_trans hj hlen)
  exact W.aald (v := .ref v) (ty := .array .int) hx hb (g.1 k _ hk) ((g.2.2.1.2 2 _ rfl).1 len (fun j => va_rf (f j))) rfl (fun q => by cases q) (by show ¬ (nI j < 0 ∨ (arrV _ _ _).slots.size ≤ _); rw [arrV_size]; exact hin) (by show (arrV _ _ _).slots[_]? = _; rw [arrV_read _ _ hlt, e1, hv]; rfl) rfl rfl hdg kk
theorem x_rowst {x i : Int32} (S : CallFix p m c cc nL s args lw_all own) (g : GX G Z (swl G A n F b ++ X) s H locs) (hB : b = 1 ∨ b = 2) {q : Nat} (hq : q < n) (j : Nat) (hi : i = nI j) (hj : j < 6) (hdg : decode cc pc = .ok (.iastore, 1))
    (kk : ∀ (H : Heap) (locs : List Loc), GX G Z (swl G A n (up2 F (wb b q) (sw j) x) b ++ X) s H locs → W p l e R s m args below meth c H locs cells slots Q (F0 m (pc + 1) ls rest)) : W p l e R s m args below meth c H locs cells slots Q (F0 m pc ls (.int x :: .int i :: .ref (A (2 + q)) :: rest)) := by
  obtain ⟨hx, hb, hml, ho, hts⟩ := S
  obtain ⟨hP, hD, hK, hS, hE, hZ⟩ := g
  subst hi
  have h0 : (swl G A n F b ++ X)[q + 2]? = some (A (2 + q), .inl (G.2.1 1, 6, .inl (rowS F (wb b q)))) := by
    show (srow G A n F b ++ X)[q]? = _
    rw [List.getElem?_append_left (by rw [srow_len]; exact hq), srow_at G A F b hq]
    rfl
  refine va_iast hx hb hK hP hD hS (q + 2) 1 h0 rfl (vp_in_nI hj (by omega)) hdg (fun H1 l1 hP hD hS => ?_)
  have e1 := swl_setr G A F X hB hq j x
  rw [nI_clamp (by omega)] at hP hD
  rw [show ((swl G A n F b ++ X).set (q + 2) (A (2 + q), .inl (G.2.1 1, 6, .inl (upd (rowS F (wb b q)) j x)))) = _ from e1] at hP hD
  exact kk H1 l1 ⟨hP, hD, hK, hS, hE, hZ⟩
theorem x_rald {a k : Nat} (S : CallFix p m c cc nL s args lw_all own) (g : GX G Z w s H locs) (hm : (a, arrI G 6 (rowS F k)) ∈ w) {i : Int32} (j j' : Nat) (hi : i = nI j) (hj : j < 6) (hs : sw j = j') (hdg : decode cc pc = .ok (.iaload, 1))
    (kk : W p l e R s m args below meth c H locs cells slots Q (F0 m (pc + 1) ls (.int (F k j') :: rest))) : W p l e R s m args below meth c H locs cells slots Q (F0 m pc ls (.int i :: .ref a :: rest)) := by
  subst hs
  exact x_iald S g hm (by omega) j hi hj hdg kk
theorem x_rst {x i : Int32} (S : CallFix p m c cc nL s args lw_all own) (g : GX G Z (swl G A n F b ++ X) s H locs) (hB : b = 1 ∨ b = 2) {q : Nat} (hq : q < n) (j j' : Nat) (hi : i = nI j) (hj : j < 6) (hs : sw j = j') (hdg : decode cc pc = .ok (.iastore, 1))
    (kk : ∀ (H : Heap) (locs : List Loc), GX G Z (swl G A n (up2 F (wb b q) j' x) b ++ X) s H locs → W p l e R s m args below meth c H locs cells slots Q (F0 m (pc + 1) ls rest)) : W p l e R s m args below meth c H locs cells slots Q (F0 m pc ls (.int x :: .int i :: .ref (A (2 + q)) :: rest)) := by
  subst hs
  exact x_rowst S g hB hq j hi hj hdg kk
theorem x_iast {len a : Nat} {f : Nat → Int32} {x i : Int32} (S : CallFix p m c cc nL s args lw_all own) (g : GX G Z ([(a, arrI G len f)] ++ X) s H locs) (hlen : len < 2 ^ 31) (j : Nat) (hi : i = nI j) (hj : j < len) (hdg : decode cc pc = .ok (.iastore, 1))
    (kk : ∀ (H : Heap) (locs : List Loc), GX G Z ([(a, arrI G len (upd f j x))] ++ X) s H locs → W p l e R s m args below meth c H locs cells slots Q (F0 m (pc + 1) ls rest)) : W p l e R s m args below meth c H locs cells slots Q (F0 m pc ls (.int x :: .int i :: .ref a :: rest)) := by
  obtain ⟨hx, hb, hml, ho, hts⟩ := S
  obtain ⟨hP, hD, hK, hS, hE, hZ⟩ := g
  subst hi
  refine va_iast hx hb hK hP hD hS 0 1 (f := f) rfl rfl (vp_in_nI hj hlen) hdg (fun H1 l1 hP hD hS => ?_)
  rw [nI_clamp (Nat.lt_trans hj hlen)] at hP hD
  exact kk H1 l1 ⟨hP, hD, hK, hS, hE, hZ⟩
theorem x_aast {len a v : Nat} {f : Nat → Option Nat} {lv : Nat} {fv : Nat → Int32} {i : Int32} (S : CallFix p m c cc nL s args lw_all own) (g : GX G Z ([(a, arrR G len f)] ++ X) s H locs) (hm : (v, arrI G lv fv) ∈ X) (hlen : len < 2 ^ 31) (j : Nat) (hi : i = nI j) (hj : j < len) (hdg : decode cc pc = .ok (.aastore, 1))
    (kk : ∀ (H : Heap) (locs : List Loc), GX G Z ([(a, arrR G len (va_up f j (some v)))] ++ X) s H locs → W p l e R s m args below meth c H locs cells slots Q (F0 m (pc + 1) ls rest)) : W p l e R s m args below meth c H locs cells slots Q (F0 m pc ls (.ref v :: .int i :: .ref a :: rest)) := by
  obtain ⟨hx, hb, hml, ho, hts⟩ := S
  obtain ⟨hP, hD, hK, hS, hE, hZ⟩ := g
  subst hi
  have hin : vp_in (nI j) len := vp_in_nI hj hlen
  have hlt : (nI j).toNatClampNeg < len := Nat.not_le.mp fun q => hin (Or.inr q)
  have h0 : ¬ nI j < 0 := fun q => hin (Or.inl q)
  have e1 : (nI j).toNatClampNeg = j := nI_clamp (Nat.lt_trans hj hlen)
  obtain ⟨kv, hkv⟩ := List.getElem?_of_mem (List.mem_append_right [(a, arrR G len f)] hm)
  have g1 := hP kv _ hkv
  obtain ⟨comp, cA, kA, f1, -, f2, f3, f4⟩ := arrayOverA_spec hE.2.1.1
  have n2 : s.vm.findClass "[[I" = some (G.2.1 2) := by rw [← nm_AI]; exact (hK.2 2 _ rfl).2
  have n1 : s.vm.findClass "[I" = some (G.2.1 1) := va_nm_int (hK.2 1 _ rfl).2
  rw [nm_I] at f1
  rw [nm_AI] at f4
  have c1 : G.2.1 1 = comp := Option.some.inj (n1.symm.trans f1)
  have c2 : G.2.1 2 = cA := Option.some.inj (n2.symm.trans f4)
  obtain ⟨k1, hk1, -⟩ := Vm.findClass_spec n1
  refine W.aast (cv := vp_cell (G.2.1 1) (lv, .inl fv)) (t := .array .int) (comp := G.2.1 1) hx hb (hP 0 _ rfl) (fun q h => by cases h) (fun h => by cases h) (show s.vm.classes[G.2.1 2]? = some kA by rw [c2]; exact f2) (by rw [c1]; exact f3) rfl hk1 ⟨h0, by show _ < (arrV _ _ _).slots.size; rw [arrV_size]; exact hlt⟩ g1 (fun q h => by cases h) hk1 (va_asg _ _) rfl rfl hdg fun H1 e z oq => ?_
  refine kk H1 _ ⟨hP.set hD (p := 0) rfl ?_ oq, hD.set (p := 0) rfl, hK, hS.put z oq (hD.2 0 _ rfl), hE, hZ⟩
  show H1[a]? = some (vp_cell (G.2.1 2) (len, .inr (.inr (.inr (.inr (va_up f j (some v)))))))
  rw [e]
  show some ((vp_cell (G.2.1 2) (len, .inr (.inr (.inr (.inr f))))).setSlot (nI j).toNatClampNeg (.ref v)) = _
  rw [vp_cell_q, vp_cell_q, arrV_store, e1]
  congr 2
  funext q
  by_cases hq : q = j
  · subst hq
    simp [updV, va_up, va_rf]
  · simp [updV, va_up, hq]
theorem pm_end (w : va_W) (c : Nat × va_E) : (w ++ [c]).Perm ([c] ++ w) := List.perm_append_comm
/-- new int[len] -/
theorem x_newa {len : Nat} {i : Int32} (S : CallFix p m c cc nL s args lw_all own) (g : GX G Z w s H locs) (harr : Cond.arrayClass .int ∈ lw_all) (hi : i = nI len) (hlen : len < 2 ^ 20) (hcells : cells + 1 ≤ R.cells) (hslots : slots + len ≤ R.slots) (hdg : decode cc pc = .ok (.newarray .int, 2))
    (kk : ∀ (q : Nat) (H1 : Heap), GX G Z ([(q, arrI G len (fun _ => 0))] ++ w) s H1 locs → W p l e R s m args below meth c H1 locs (cells + 1) (slots + len) Q (F0 m (pc + 2) ls (.ref q :: rest))) : W p l e R s m args below meth c H locs cells slots Q (F0 m pc ls (.int i :: rest)) := by
  obtain ⟨hx, hb, hml, ho, hts⟩ := S
  have g0 := g
  obtain ⟨hP, hD, hK, hS, hE, hZ⟩ := g
  subst hi
  refine va_newa (atype := .int) (ty := .int) hx hb (hts _ harr) rfl hK hP hD hS hZ (N' := len) (a0 := (len, .inl (fun _ => 0))) (fun _ => rfl) (nI_pos (by omega)) (nI_clamp (by omega)) (by show len * 4 ≤ 536870912; omega) hcells hslots hdg (fun q cA H1 hK1 hP1 hD1 hS1 => ?_)
  have n1 : s.vm.findClass "[I" = some (G.2.1 1) := va_nm_int (hK.2 1 _ rfl).2
  have n2 : s.vm.findClass "[I" = some cA := va_nm_int (hK1.2 3 (cA, .int) rfl).2
  have c1 : G.2.1 1 = cA := Option.some.inj (n1.symm.trans n2)
  subst c1
  exact kk q H1 (GX.perm ⟨hP1, hD1, hK, hS1, hE, hZ⟩ (pm_end _ _))
/-- new int[len][] -/
theorem x_anew {len index : Nat} {i : Int32} (S : CallFix p m c cc nL s args lw_all own) (g : GX G Z w s H locs) (hlink : Cond.classLink own index "[I" ∈ lw_all) (hi : i = nI len) (hlen : len < 2 ^ 20) (hcells : cells + 1 ≤ R.cells) (hslots : slots + len ≤ R.slots) (hdg : decode cc pc = .ok (.anewarray index, 3))
    (kk : ∀ (q : Nat) (H1 : Heap), GX G Z ([(q, arrR G len (fun _ => none))] ++ w) s H1 locs → W p l e R s m args below meth c H1 locs (cells + 1) (slots + len) Q (F0 m (pc + 3) ls (.ref q :: rest))) : W p l e R s m args below meth c H locs cells slots Q (F0 m pc ls (.int i :: rest)) := by
  obtain ⟨hx, hb, hml, ho, hts⟩ := S
  obtain ⟨hP, hD, hK, hS, hE, hZ⟩ := g
  have ec : i.toNatClampNeg = len := by rw [hi]; exact nI_clamp (by omega)
  have hn0 : ¬ i < 0 := by rw [hi]; exact nI_pos (by omega)
  clear hi
  subst ec
  refine W.anewA (t := .int) hx hb ho (by rw [nm_I]; exact hts _ hlink) (ai_use hE.2.1.1) rfl hdg rfl hn0 (by omega) hcells hslots fun cA kA comp f1 f2 f3 f4 => ?_
  rw [nm_AI] at f1
  have n2 : s.vm.findClass "[[I" = some (G.2.1 2) := by rw [← nm_AI]; exact (hK.2 2 _ rfl).2
  have c2 : cA = G.2.1 2 := Option.some.inj (f1.symm.trans n2)
  subst c2
  generalize hH1 : H.push ({ cls := G.2.1 2, slots := Array.replicate i.toNatClampNeg .null, vm := .none } : Cell) = H1
  have z1 : H1.size = H.size + 1 := by rw [← hH1, Array.size_push]
  have e1 : H1[H.size]? = some (arrV (G.2.1 2) i.toNatClampNeg (fun _ => .null)) := by rw [← hH1, Array.getElem?_push_size, ← arrV_new]
  have o1 : ∀ q : Nat, q < H.size → H1[q]? = H[q]? := fun q hq => by rw [← hH1, Array.getElem?_push, if_neg (Nat.ne_of_lt hq)]
  have hk : ∀ (k : Nat) (x : Nat × va_E), w[k]? = some x → H1[x.1]? = H[x.1]? := fun k x hx => o1 x.1 ((hP k x hx).lt)
  have hP1 : va_P G.1 vwCl (w ++ [(H.size, arrR G i.toNatClampNeg (fun _ => none))]) H1 := by
    refine (hP.kept hk).app (fun k x hx => ?_)
    have hz : k < 1 := (List.getElem?_eq_some_iff.mp hx).1
    rw [show k = 0 by omega] at hx
    cases hx
    show H1[H.size]? = some (vp_cell (G.2.1 2) (i.toNatClampNeg, .inr (.inr (.inr (.inr (fun _ => none))))))
    rw [vp_cell_q]
    exact e1
  have hD1 : va_D Z (w ++ [(H.size, arrR G i.toNatClampNeg (fun _ => none))]) := hD.push hP rfl (hZ _ hS.1)
  have hS1 : va_S Z s.heap H1 locs := ⟨Nat.le_trans hS.1 (by omega), fun x h1 h2 => (o1 x (Nat.lt_of_lt_of_le h1 hS.1)).trans (hS.2.1 x h1 h2), hS.2.2⟩
  have g1 : GX G Z (w ++ [(H.size, arrR G i.toNatClampNeg (fun _ => none))]) s H1 locs := ⟨hP1, hD1, hK, hS1, hE, hZ⟩
  exact kk H.size H1 (g1.perm (pm_end _ _))
/-- own.clone(), of a row of ints -/
theorem x_clone {len a index : Nat} {f : Nat → Int32} (S : CallFix p m c cc nL s args lw_all own) (g : GX G Z w s H locs) (hm : (a, arrI G len f) ∈ w) (hsz : ls.size = nL) (h1 : Cond.methodLink own index ⟨"[I", "clone", "()Ljava/lang/Object;"⟩ ∈ lw_all) (h2 : Cond.sameMethod "[I" "java/lang/Object" "clone" "()Ljava/lang/Object;" ∈ lw_all) (h3 : Cond.native ⟨"java/lang/Object", "clone", "()Ljava/lang/Object;"⟩ ∈ lw_all) (h4 : Cond.instanceMethod ⟨"java/lang/Object", "clone", "()Ljava/lang/Object;"⟩ ∈ lw_all) (h5 : Cond.selects "[I" ⟨"[I", "clone", "()Ljava/lang/Object;"⟩ ⟨"java/lang/Object", "clone", "()Ljava/lang/Object;"⟩ ∈ lw_all)
    (hframes : 1 ≤ R.frames) (hlocals : (rest.map fun v => v.category).sum + 14 ≤ R.locals) (hcells : cells + 1 ≤ R.cells) (hslots : slots + len ≤ R.slots) (hdg : decode cc pc = .ok (.invokevirtual index, 3))
    (kk : ∀ (q : Nat) (H1 : Heap), GX G Z ([(q, arrI G len f)] ++ w) s H1 locs → W p l e R s m args below meth c H1 locs (cells + 1) (slots + len) Q (F0 m (pc + 3) ls (.ref q :: rest))) : W p l e R s m args below meth c H locs cells slots Q (F0 m pc ls (.ref a :: rest)) := by
  obtain ⟨hx, hb, hml, ho, hts⟩ := S
  obtain ⟨hP, hD, hK, hS, hE, hZ⟩ := g
  obtain ⟨k, hk⟩ := List.getElem?_of_mem hm
  refine va_clone (ad := "[I") hx hb (hml.trans hsz.symm) ho (hts _ h1) (hts _ h2) (hts _ h3) (hts _ h4) (hts _ h5) hE.2.1.2 hK hP hD hS hZ k 1 (x := (len, .inl f)) hk rfl (va_nm_int (hK.2 1 _ rfl).2) (fun i v hv => ?_) hframes hlocals hcells hslots hdg (fun q H1 hK1 hP1 hD1 hS1 => ?_)
  · exact va_fit (cA := G.2.1 1) (n := len) (F := fun j => .int (f j)) (ty := .int) (fun i _ => rfl) i v hv
  · exact kk q H1 (GX.perm ⟨hP1, hD1, hK, hS1, hE, hZ⟩ (pm_end _ _))
/-- the cast to a row of ints -/
theorem x_cast {len a index : Nat} {f : Nat → Int32} (S : CallFix p m c cc nL s args lw_all own) (g : GX G Z w s H locs) (hm : (a, arrI G len f) ∈ w) (hlink : Cond.classLink own index "[I" ∈ lw_all) (hdg : decode cc pc = .ok (.checkcast index, 3))
    (kk : W p l e R s m args below meth c H locs cells slots Q (F0 m (pc + 3) ls (.ref a :: rest))) : W p l e R s m args below meth c H locs cells slots Q (F0 m pc ls (.ref a :: rest)) := by
  obtain ⟨hx, hb, hml, ho, hts⟩ := S
  obtain ⟨k, hk⟩ := List.getElem?_of_mem hm
  exact va_castA (nm := "[I") hx hb ho (hts _ hlink) g.1 k hk (va_nm_int (g.2.2.1.2 1 _ rfl).2) hdg kk
/-! Math -/
theorem x_abs {index : Nat} (S : CallFix p m c cc nL s args lw_all own) (hsz : ls.size = nL) (h1 : Cond.methodLink own index Lib.Math.abs.name ∈ lw_all) (h2 : Cond.static Lib.Math.abs.name ∈ lw_all) (h3 : Cond.initialized "java/lang/Math" ∈ lw_all) (h4 : Cond.code Lib.Math.abs.name Lib.Math.abs.code 1 (some .int) ∈ lw_all)
    (hframes : 1 ≤ R.frames) (hlocals : (rest.map fun v => v.category).sum + 13 ≤ R.locals) (hc : cells ≤ R.cells) (hs : slots ≤ R.slots) {x : Int32} (hdg : decode cc pc = .ok (.invokestatic index, 3))
    (kk : W p l e R s m args below meth c H locs cells slots Q (F0 m (pc + 3) ls (.int (if 0 ≤ x then x else 0 - x) :: rest))) : W p l e R s m args below meth c H locs cells slots Q (F0 m pc ls (.int x :: rest)) := by
  obtain ⟨hx, hb, hml, ho, hts⟩ := S
  exact va_mabs hx hb (hml.trans hsz.symm) ho (hts _ h1) (hts _ h2) (hts _ h3) (hts _ h4) hframes hlocals hc hs hdg kk
/-! calls of the pool, by its contracts -/
theorem x_V {y : MethodName} {bb : ByteArray} {mL nA f k1 index : Nat} {ret : Option FieldType} {As : List Value} {Qs : Nat → Array Value → State → Outcome → State → Prop}
    (S : CallFix p m c cc nL s args lw_all own) (g : GX G Z (wld G F 0 ++ X) s H locs) (hM : ∀ sz : Nat, Met l y (wsG y bb mL ret) (rmG f k1) (va_Pc (.ref (gA G 0) :: As) (preG G F 0 sz)) (Qs sz) 0 0 (GA G sz)) (hq : GoodIn lw_all (wsV own index "ShadowPool" y (wsG y bb mL ret)))
    (hd : y.cls = "ShadowPool" ∧ y.cls ≠ "java/lang/invoke/MethodHandle" ∧ y.cls ≠ "java/lang/invoke/VarHandle" ∧ (parseMethodDescriptor y.desc).map (fun d => d.parameters.length) = some nA) (hn : As.length = nA) (hR : f + 1 ≤ R.frames ∧ 8 + (mL + 11) + k1 ≤ R.locals) (hsz : ls.size = nL) (hW : (rest.map fun v => v.category).sum ≤ 8) (hst : st0 = As.reverse ++ .ref (gA G 0) :: rest) (hcs : cells ≤ R.cells ∧ slots ≤ R.slots) (hdg : decode cc pc = .ok (.invokevirtual index, 3)) :
    va_Run p l e R s m args below meth c H locs cells slots 0 0 (F0 m pc ls st0) rest (Qs H.size (Value.ref (gA G 0) :: As).toArray) (GA G H.size) := by
  exact va_runV (As := As) (rest := rest) S (hM H.size) (cwV nA S.2.2.2.2 hq rfl rfl rfl hd hR) ⟨preG_blind, va_recv g.2.2.1 g.1 (q := (RX2, TX2, 2)) rfl (wld_at G F 0 X (by decide) (cE0 G F 0)), fun U hU hW => ⟨rfl, g.preG hU hW⟩⟩ rfl hn hsz hst (lv_room (m := m) (pc := pc) (ls := ls) (rest := st0) hW) hdg hcs
theorem GA_free (g : GX G Z (wld G F 0 ++ X) s H locs) {q : Nat} (h : GA G H.size q) : Z q := g.free (by rw [GA_eq]; exact h)
theorem x_ci {RR : Int32} {a : Array Value} (g : GX G Z (wld G F 0 ++ X) s H locs) (hr : va_Run p l e R s m args below meth c H locs cells slots 0 0 (F0 m pc ls st0) rest (QI G F' 0 RR H.size a) (GA G H.size))
    (kk : ∀ (H : Heap) (locs : List Loc), GX G Z (wld G F' 0 ++ X) s H locs → W p l e R s m args below meth c H locs cells slots Q (F0 m (pc + 3) ls (.int RR :: rest))) : W p l e R s m args below meth c H locs cells slots Q (F0 m pc ls st0) := by
  refine va_calli hr g.2.2.2.1 (fun q _ h => GA_free g h) (fun q h => GA_free g h) (fun r u t H1 l1 ht hvm hw hB hz hk1 hS => ?_)
  subst hw
  exact kk H1 l1 (g.afterG (by rw [← ht]; exact hB) hk1 hS)
theorem x_cl {RR : Int64} {a : Array Value} (g : GX G Z (wld G F 0 ++ X) s H locs) (hr : va_Run p l e R s m args below meth c H locs cells slots 0 0 (F0 m pc ls st0) rest (QL G F' 0 RR H.size a) (GA G H.size))
    (kk : ∀ (H : Heap) (locs : List Loc), GX G Z (wld G F' 0 ++ X) s H locs → W p l e R s m args below meth c H locs cells slots Q (F0 m (pc + 3) ls (.long RR :: rest))) : W p l e R s m args below meth c H locs cells slots Q (F0 m pc ls st0) := by
  refine va_calll hr g.2.2.2.1 (fun q _ h => GA_free g h) (fun q h => GA_free g h) (fun r u t H1 l1 ht hvm hw hB hz hk1 hS => ?_)
  subst hw
  exact kk H1 l1 (g.afterG (by rw [← ht]; exact hB) hk1 hS)
theorem x_cd {RR : UInt64} {a : Array Value} (g : GX G Z (wld G F 0 ++ X) s H locs) (hr : va_Run p l e R s m args below meth c H locs cells slots 0 0 (F0 m pc ls st0) rest (QD G F' 0 RR H.size a) (GA G H.size))
    (kk : ∀ (H : Heap) (locs : List Loc), GX G Z (wld G F' 0 ++ X) s H locs → W p l e R s m args below meth c H locs cells slots Q (F0 m (pc + 3) ls (.double RR :: rest))) : W p l e R s m args below meth c H locs cells slots Q (F0 m pc ls st0) := by
  refine va_calld hr g.2.2.2.1 (fun q _ h => GA_free g h) (fun q h => GA_free g h) (fun r u t H1 l1 ht hvm hw hB hz hk1 hS => ?_)
  subst hw
  exact kk H1 l1 (g.afterG (by rw [← ht]; exact hB) hk1 hS)
/-! calls of the law's own side -/
theorem preX_blind {vs : List Value} {w : va_W} {sz : Nat} : FrameBlind (va_Pc vs (preX G w sz)) := fun a U g mk q => by
  obtain ⟨q0, q1, q2, q3, q4, q5⟩ := q
  exact ⟨q0, q1, q2, q3, va_K.moved (u := U) (U := U.calling g mk a) (Vm.Alike.refl U.vm) q4, EnvG.same (u := U) (U := U.calling g mk a) rfl q5⟩
theorem y_V {y : MethodName} {bb : ByteArray} {mL nA f k1 mc ms index : Nat} {ret : Option FieldType} {As : List Value} {Qs : Nat → Array Value → State → Outcome → State → Prop} {wc : va_W} {a a1 : Nat}
    (S : CallFix p m c cc nL s args lw_all own) (g : GX G Z (wc ++ X) s H locs) (hM : ∀ sz : Nat, Met l y (wsG y bb mL ret) (rmC f k1 mc ms) (va_Pc (.ref a :: As) (preX G wc sz)) (Qs sz) mc ms (va_A wc sz)) (hm : (a, simO a1 F b) ∈ wc) (hq : GoodIn lw_all (wsV own index "ShadowPoolLaw$Sim" y (wsG y bb mL ret)))
    (hd : y.cls = "ShadowPoolLaw$Sim" ∧ y.cls ≠ "java/lang/invoke/MethodHandle" ∧ y.cls ≠ "java/lang/invoke/VarHandle" ∧ (parseMethodDescriptor y.desc).map (fun d => d.parameters.length) = some nA) (hn : As.length = nA) (hR : f + 1 ≤ R.frames ∧ 8 + (mL + 11) + k1 ≤ R.locals) (hsz : ls.size = nL) (hW : (rest.map fun v => v.category).sum ≤ 8) (hst : st0 = As.reverse ++ .ref a :: rest) (hcs : cells + mc ≤ R.cells ∧ slots + ms ≤ R.slots) (hdg : decode cc pc = .ok (.invokevirtual index, 3)) :
    va_Run p l e R s m args below meth c H locs cells slots mc ms (F0 m pc ls st0) rest (Qs H.size (Value.ref a :: As).toArray) (va_A wc H.size) := by
  obtain ⟨k, hk⟩ := List.getElem?_of_mem (List.mem_append_left X hm)
  exact va_runV (As := As) (rest := rest) S (hM H.size) (cwV nA S.2.2.2.2 hq rfl rfl rfl hd hR) ⟨preX_blind, va_recv g.2.2.1 g.1 (q := (RX3, TX3, 7)) rfl hk, fun U hU hW => ⟨rfl, g.pre hU hW⟩⟩ rfl hn hsz hst (lv_room (m := m) (pc := pc) (ls := ls) (rest := st0) hW) hdg hcs
theorem y_S {y : MethodName} {bb : ByteArray} {mL nA f k1 mc ms index : Nat} {ret : Option FieldType} {As : List Value} {Qs : Nat → Array Value → State → Outcome → State → Prop} {wc : va_W}
    (S : CallFix p m c cc nL s args lw_all own) (g : GX G Z (wc ++ X) s H locs) (hM : ∀ sz : Nat, Met l y (wsG y bb mL ret) (rmC f k1 mc ms) (va_Pc As (preX G wc sz)) (Qs sz) mc ms (va_A wc sz)) (hq : GoodIn lw_all (va_wsS own index y (wsG y bb mL ret)))
    (hd : y.cls ≠ "java/lang/invoke/MethodHandle" ∧ y.cls ≠ "java/lang/invoke/VarHandle" ∧ (parseMethodDescriptor y.desc).map (fun d => d.parameters.length) = some nA) (hn : As.length = nA) (hR : f + 1 ≤ R.frames ∧ 8 + (mL + 11) + k1 ≤ R.locals) (hsz : ls.size = nL) (hW : (rest.map fun v => v.category).sum ≤ 8) (hst : st0 = As.reverse ++ rest) (hcs : cells + mc ≤ R.cells ∧ slots + ms ≤ R.slots) (hdg : decode cc pc = .ok (.invokestatic index, 3)) :
    va_Run p l e R s m args below meth c H locs cells slots mc ms (F0 m pc ls st0) rest (Qs H.size As.toArray) (va_A wc H.size) := by
  exact va_runS (As := As) (rest := rest) S (hM H.size) (va_cwS nA S.2.2.2.2 hq rfl rfl rfl hd hR) ⟨preX_blind, fun U hU hW => ⟨rfl, g.pre hU hW⟩⟩ rfl hn hsz hst (lv_room (m := m) (pc := pc) (ls := ls) (rest := st0) hW) hdg hcs
abbrev QXi {α : Type} (G : gT) (P : Int32 → α → Prop) (w' : α → va_W) (wc : va_W) (sz : Nat) : Array Value → State → Outcome → State → Prop := va_Qi P (poX G w' (va_A wc sz)) (va_A wc sz)
abbrev QXv {α : Type} (G : gT) (P : α → Prop) (w' : α → va_W) (wc : va_W) (sz : Nat) : Array Value → State → Outcome → State → Prop := va_Qv P (poX G w' (va_A wc sz)) (va_A wc sz)
abbrev QXq {α : Type} (G : gT) (P : Option Nat → α → Prop) (w' : α → va_W) (wc : va_W) (sz : Nat) : Array Value → State → Outcome → State → Prop := va_Qq P (poX G w' (va_A wc sz)) (va_A wc sz)
theorem y_ci {α : Type} {P : Int32 → α → Prop} {w' : α → va_W} {wc : va_W} {mc ms : Nat} {a : Array Value} (g : GX G Z (wc ++ X) s H locs) (hr : va_Run p l e R s m args below meth c H locs cells slots mc ms (F0 m pc ls st0) rest (QXi G P w' wc H.size a) (va_A wc H.size))
    (kk : ∀ (r : Int32) (u : α) (H : Heap) (locs : List Loc), P r u → GX G Z (w' u ++ X) s H locs → W p l e R s m args below meth c H locs (cells + mc) (slots + ms) Q (F0 m (pc + 3) ls (.int r :: rest))) : W p l e R s m args below meth c H locs cells slots Q (F0 m pc ls st0) := by
  refine va_calli hr g.2.2.2.1 (fun q _ h => g.free h) (fun q h => g.free h) (fun r u t H1 l1 ht hvm hw hB hz hk1 hS => ?_)
  exact kk r u H1 l1 hw (g.after (by rw [← ht]; exact hB.1) hB.2 hk1 hS)
theorem y_cv {α : Type} {P : α → Prop} {w' : α → va_W} {wc : va_W} {mc ms : Nat} {a : Array Value} (g : GX G Z (wc ++ X) s H locs) (hr : va_Run p l e R s m args below meth c H locs cells slots mc ms (F0 m pc ls st0) rest (QXv G P w' wc H.size a) (va_A wc H.size))
    (kk : ∀ (u : α) (H : Heap) (locs : List Loc), P u → GX G Z (w' u ++ X) s H locs → W p l e R s m args below meth c H locs (cells + mc) (slots + ms) Q (F0 m (pc + 3) ls rest)) : W p l e R s m args below meth c H locs cells slots Q (F0 m pc ls st0) := by
  refine va_callv hr g.2.2.2.1 (fun q _ h => g.free h) (fun q h => g.free h) (fun u t H1 l1 ht hvm hw hB hz hk1 hS => ?_)
  exact kk u H1 l1 hw (g.after (by rw [← ht]; exact hB.1) hB.2 hk1 hS)
theorem y_cq {α : Type} {P : Option Nat → α → Prop} {w' : α → va_W} {wc : va_W} {mc ms : Nat} {a : Array Value} (g : GX G Z (wc ++ X) s H locs) (hr : va_Run p l e R s m args below meth c H locs cells slots mc ms (F0 m pc ls st0) rest (QXq G P w' wc H.size a) (va_A wc H.size))
    (kk : ∀ (r : Option Nat) (u : α) (H : Heap) (locs : List Loc), P r u → GX G Z (w' u ++ X) s H locs → W p l e R s m args below meth c H locs (cells + mc) (slots + ms) Q (F0 m (pc + 3) ls (va_rf r :: rest))) : W p l e R s m args below meth c H locs cells slots Q (F0 m pc ls st0) := by
  refine va_callq hr g.2.2.2.1 (fun q _ h => g.free h) (fun q h => g.free h) (fun r u t H1 l1 ht hvm hw hB hz hk1 hS => ?_)
  exact kk r u H1 l1 hw (g.after (by rw [← ht]; exact hB.1) hB.2 hk1 hS)
/-! ends -/
theorem f_i {α : Type} {P : Int32 → α → Prop} {w' : α → va_W} {wc : va_W} {v : Int32} (u : α) (S : CallFix p m c cc nL s args lw_all own) (hr : meth.sig.returnType = some .int) (hk : meth.locks = false) (g : GX G (va_A wc s.heap.size) (w' u) s H locs) (hv : P v u) (hdg : decode cc pc = .ok (.ireturn, 1)) : W p l e R s m args below meth c H locs cells slots (MQ below (QXi G P w' wc s.heap.size) args s cells slots (va_A wc s.heap.size)) (F0 m pc ls [.int v]) :=
  W.iret S.1 S.2.1 hr (fun t ht hW => ⟨⟨v, u, rfl, hv, by rw [ht]; exact g.1, g.2.1⟩, g.2.2.2.1.F ht⟩) g.2.2.2.1.2.2 hdg hk
theorem f_z {α : Type} {P : Int32 → α → Prop} {w' : α → va_W} {wc : va_W} {v : Int32} (u : α) (S : CallFix p m c cc nL s args lw_all own) (hr : meth.sig.returnType = some .boolean) (hk : meth.locks = false) (g : GX G (va_A wc s.heap.size) (w' u) s H locs) (hz : v = 0 ∨ v = 1) (hv : P v u) (hdg : decode cc pc = .ok (.ireturn, 1)) : W p l e R s m args below meth c H locs cells slots (MQ below (QXi G P w' wc s.heap.size) args s cells slots (va_A wc s.heap.size)) (F0 m pc ls [.int v]) :=
  W.zret S.1 S.2.1 hr (z01 hz) (fun t ht hW => ⟨⟨v, u, rfl, hv, by rw [ht]; exact g.1, g.2.1⟩, g.2.2.2.1.F ht⟩) g.2.2.2.1.2.2 hdg hk
theorem f_v {α : Type} {P : α → Prop} {w' : α → va_W} {wc : va_W} (u : α) (S : CallFix p m c cc nL s args lw_all own) (hr : meth.sig.returnType = none) (hk : meth.locks = false) (g : GX G (va_A wc s.heap.size) (w' u) s H locs) (hv : P u) (hdg : decode cc pc = .ok (.return_, 1)) : W p l e R s m args below meth c H locs cells slots (MQ below (QXv G P w' wc s.heap.size) args s cells slots (va_A wc s.heap.size)) (F0 m pc ls []) :=
  W.vret S.1 S.2.1 hr (fun t ht hW => ⟨⟨u, rfl, hv, by rw [ht]; exact g.1, g.2.1⟩, g.2.2.2.1.F ht⟩) g.2.2.2.1.2.2 hdg hk
theorem f_q {α : Type} {P : Option Nat → α → Prop} {w' : α → va_W} {wc : va_W} {v : Nat} {ty : FieldType} (u : α) (S : CallFix p m c cc nL s args lw_all own) (hr : meth.sig.returnType = some ty) (hty : (∃ nm, ty = .object nm) ∨ ∃ t, ty = .array t) (hk : meth.locks = false) (g : GX G (va_A wc s.heap.size) (w' u) s H locs) (hv : P (some v) u) (hdg : decode cc pc = .ok (.areturn, 1)) : W p l e R s m args below meth c H locs cells slots (MQ below (QXq G P w' wc s.heap.size) args s cells slots (va_A wc s.heap.size)) (F0 m pc ls [.ref v]) :=
  W.aret S.1 S.2.1 hr (by rcases hty with ⟨nm, rfl⟩ | ⟨t, rfl⟩; exact Or.inl ⟨nm, rfl⟩; exact Or.inr ⟨t, rfl⟩) (Or.inr ⟨_, rfl⟩) (fun t ht hW => ⟨⟨some v, u, rfl, hv, by rw [ht]; exact g.1, g.2.1⟩, g.2.2.2.1.F ht⟩) g.2.2.2.1.2.2 hdg hk
end XR
/-- from a contract's start to the body's first instruction -/
theorem mk_Y {l : Launch} {y : MethodName} {bb : ByteArray} {n : Nat} {ret : Option FieldType} {f k mc ms : Nat} {vs : List Value} {G : gT} {w : va_W} {own : String} {Qs : Nat → Array Value → State → Outcome → State → Prop}
    (hy : plainFor y = true) (ho : y.cls = own) (hn : (lg_sl vs).length ≤ n)
    (body : ∀ (p : Program) (e : Env) (s : State) (m : MethodId) (args : Array Value) (below : List Frame) (meth : Method) (c : Code) (ls : Array Slot), meth.sig.returnType = ret → meth.locks = false → meth.name = y.name → CallFix p m c bb n s args lw_all own → GX G (va_A w s.heap.size) w s s.heap [] → lv_has ls n (lv_args 0 vs) →
      W p l e (rmC f k mc ms) s m args below meth c s.heap [] 0 0 (MQ below (Qs s.heap.size) args s mc ms (va_A w s.heap.size)) (F0 m 0 ls [])) (sz : Nat) :
    Met l y (wsG y bb n ret) (rmC f k mc ms) (va_Pc vs (preX G w sz)) (Qs sz) mc ms (va_A w sz) := by
  refine met_ofF (cc := bb) (maxL := n) (ret := ret) hy rfl ?_
  intro p e s m args below meth c s₁ B hml hv
  obtain ⟨rfl, hsz, hP, hD, hK, hE⟩ := hv
  have hx := B.exec
  have hb := B.bytes
  have hr := B.returns
  have hts := atoms_spec (ws := wsG y bb n ret) B.pre
  have hts : ∀ w ∈ lw_all, w.before vs.toArray s = true := fun w h => hts w (List.mem_cons_of_mem _ h)
  have hown : s.vm.findClass y.cls = some m.cls := findClass_of_methodNamed B.named
  have hlocks := B.notSynchronized
  have hin : meth.name = y.name := (name_of_methodNamed B.named B.method).1
  subst hsz
  have hl := lv_entry vs (n := n) hn
  rw [lg_entry_eq]
  generalize (lg_sl vs ++ List.replicate (n - (lg_sl vs).length) Slot.unset).toArray = ls at hl ⊢
  exact body p e s m _ below meth c ls hr hlocks hin ⟨hx, hb, hml, by rw [← ho]; exact hown, hts⟩ ⟨hP, hD.self, hK, va_S.rf, hE, fun q h => Or.inr h⟩ hl
