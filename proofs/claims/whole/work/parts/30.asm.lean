/-! THE LAW FROM ITS ENTRY -/
set_option maxHeartbeats 4000000 in
set_option maxRecDepth 100000 in
theorem sun_start {args : Array Value} {s : State} (hs : ∀ w ∈ flatC (Jvm.Cond.and given_1 narrow_1), w.before args s = true) : ∀ j : Nat, j < 12 → (Term.elem (.static "ShadowPoolModel" "SUN" "[I") (.int (Int32.ofNat j))).eval args s none [] s = some (.int (sunT j)) := by
  intro j hj
  rcases (show j = 0 ∨ j = 1 ∨ j = 2 ∨ j = 3 ∨ j = 4 ∨ j = 5 ∨ j = 6 ∨ j = 7 ∨ j = 8 ∨ j = 9 ∨ j = 10 ∨ j = 11 by omega) with rfl | rfl | rfl | rfl | rfl | rfl | rfl | rfl | rfl | rfl | rfl | rfl
  · exact va_eqv (v := .int 1) (hs (Cond.eq (.elem (.static "ShadowPoolModel" "SUN" "[I") (.int 0)) (.int 1)) (by decide +kernel)) rfl
  · exact va_eqv (v := .int 2) (hs (Cond.eq (.elem (.static "ShadowPoolModel" "SUN" "[I") (.int 1)) (.int 2)) (by decide +kernel)) rfl
  · exact va_eqv (v := .int 3) (hs (Cond.eq (.elem (.static "ShadowPoolModel" "SUN" "[I") (.int 2)) (.int 3)) (by decide +kernel)) rfl
  · exact va_eqv (v := .int 4) (hs (Cond.eq (.elem (.static "ShadowPoolModel" "SUN" "[I") (.int 3)) (.int 4)) (by decide +kernel)) rfl
  · exact va_eqv (v := .int 5) (hs (Cond.eq (.elem (.static "ShadowPoolModel" "SUN" "[I") (.int 4)) (.int 5)) (by decide +kernel)) rfl
  · exact va_eqv (v := .int 6) (hs (Cond.eq (.elem (.static "ShadowPoolModel" "SUN" "[I") (.int 5)) (.int 6)) (by decide +kernel)) rfl
  · exact va_eqv (v := .int 6) (hs (Cond.eq (.elem (.static "ShadowPoolModel" "SUN" "[I") (.int 6)) (.int 6)) (by decide +kernel)) rfl
  · exact va_eqv (v := .int 5) (hs (Cond.eq (.elem (.static "ShadowPoolModel" "SUN" "[I") (.int 7)) (.int 5)) (by decide +kernel)) rfl
  · exact va_eqv (v := .int 4) (hs (Cond.eq (.elem (.static "ShadowPoolModel" "SUN" "[I") (.int 8)) (.int 4)) (by decide +kernel)) rfl
  · exact va_eqv (v := .int 3) (hs (Cond.eq (.elem (.static "ShadowPoolModel" "SUN" "[I") (.int 9)) (.int 3)) (by decide +kernel)) rfl
  · exact va_eqv (v := .int 2) (hs (Cond.eq (.elem (.static "ShadowPoolModel" "SUN" "[I") (.int 10)) (.int 2)) (by decide +kernel)) rfl
  · exact va_eqv (v := .int 1) (hs (Cond.eq (.elem (.static "ShadowPoolModel" "SUN" "[I") (.int 11)) (.int 1)) (by decide +kernel)) rfl
set_option maxHeartbeats 4000000 in
set_option maxRecDepth 100000 in
theorem str_start {args : Array Value} {s : State} (ht : ∀ w ∈ tables_1, w.before args s = true) (hs : ∀ w ∈ flatC (Jvm.Cond.and given_1 narrow_1), w.before args s = true) : ∀ z ∈ lw_strs, ∃ a : Nat, vk_R "ShadowPool" z.1 z.2 a s := by
  intro z hz
  have h1 := ht _ (lw_strs_tbl z hz)
  simp only [lw_strs, List.mem_cons, List.not_mem_nil, or_false] at hz
  rcases hz with rfl | rfl | rfl | rfl | rfl | rfl | rfl | rfl | rfl
  · obtain ⟨a, -, -, -, ha, -⟩ := Cond.exactly_spec (args := args) (first := s) (o := none) (s := s) (idx := []) (t := .string "ShadowPool" 25) (cls := "java/lang/String") (hs (Cond.exactly (.string "ShadowPool" 25) "java/lang/String") (by decide +kernel))
    exact ⟨a, vk_R.of h1 ha⟩
  · obtain ⟨a, -, -, -, ha, -⟩ := Cond.exactly_spec (args := args) (first := s) (o := none) (s := s) (idx := []) (t := .string "ShadowPool" 30) (cls := "java/lang/String") (hs (Cond.exactly (.string "ShadowPool" 30) "java/lang/String") (by decide +kernel))
    exact ⟨a, vk_R.of h1 ha⟩
  · obtain ⟨a, -, -, -, ha, -⟩ := Cond.exactly_spec (args := args) (first := s) (o := none) (s := s) (idx := []) (t := .string "ShadowPool" 32) (cls := "java/lang/String") (hs (Cond.exactly (.string "ShadowPool" 32) "java/lang/String") (by decide +kernel))
    exact ⟨a, vk_R.of h1 ha⟩
  · obtain ⟨a, -, -, -, ha, -⟩ := Cond.exactly_spec (args := args) (first := s) (o := none) (s := s) (idx := []) (t := .string "ShadowPool" 40) (cls := "java/lang/String") (hs (Cond.exactly (.string "ShadowPool" 40) "java/lang/String") (by decide +kernel))
    exact ⟨a, vk_R.of h1 ha⟩
  · obtain ⟨a, -, -, -, ha, -⟩ := Cond.exactly_spec (args := args) (first := s) (o := none) (s := s) (idx := []) (t := .string "ShadowPool" 49) (cls := "java/lang/String") (hs (Cond.exactly (.string "ShadowPool" 49) "java/lang/String") (by decide +kernel))
    exact ⟨a, vk_R.of h1 ha⟩
  · obtain ⟨a, -, -, -, ha, -⟩ := Cond.exactly_spec (args := args) (first := s) (o := none) (s := s) (idx := []) (t := .string "ShadowPool" 65) (cls := "java/lang/String") (hs (Cond.exactly (.string "ShadowPool" 65) "java/lang/String") (by decide +kernel))
    exact ⟨a, vk_R.of h1 ha⟩
  · obtain ⟨a, -, -, -, ha, -⟩ := Cond.exactly_spec (args := args) (first := s) (o := none) (s := s) (idx := []) (t := .string "ShadowPool" 70) (cls := "java/lang/String") (hs (Cond.exactly (.string "ShadowPool" 70) "java/lang/String") (by decide +kernel))
    exact ⟨a, vk_R.of h1 ha⟩
  · obtain ⟨a, -, -, -, ha, -⟩ := Cond.exactly_spec (args := args) (first := s) (o := none) (s := s) (idx := []) (t := .string "ShadowPool" 72) (cls := "java/lang/String") (hs (Cond.exactly (.string "ShadowPool" 72) "java/lang/String") (by decide +kernel))
    exact ⟨a, vk_R.of h1 ha⟩
  · obtain ⟨a, -, -, -, ha, -⟩ := Cond.exactly_spec (args := args) (first := s) (o := none) (s := s) (idx := []) (t := .string "ShadowPool" 80) (cls := "java/lang/String") (hs (Cond.exactly (.string "ShadowPool" 80) "java/lang/String") (by decide +kernel))
    exact ⟨a, vk_R.of h1 ha⟩
set_option maxHeartbeats 4000000 in
set_option maxRecDepth 100000 in
theorem env_start {args : Array Value} {s : State} {A : Nat → Prop} (hts : ∀ w ∈ lw_tbl, w.before args s = true) (hgv : (Jvm.Cond.and given_1 narrow_1).before args s = true) (hA : ∀ a : Nat, a < s.heap.size → ¬ A a) : EnvG A s s.heap := by
  have ht : ∀ w ∈ tables_1, w.before args s = true := fun w h => hts w (List.mem_append_right _ h)
  have hs := flat_of_before _ hgv
  have i4 := hts _ (lw_all_tbl q4)
  have i5 := hts _ (lw_all_tbl q5)
  refine ⟨fun w hw => va_Nw.of (nest_tab (lw_nest_ok w hw)) (ht w (lw_nest_tbl w hw)), ?_, ?_, ?_, str_start ht hs, ?_⟩
  · obtain ⟨t, ht1, hT⟩ := va_Tof (tm := .static "ShadowPoolModel" "SUN" "[I") (ty := .int) (N := 12) (f := fun j => .int (sunT j)) (A := A) (by decide) (hs (Cond.arrayOf (.static "ShadowPoolModel" "SUN" "[I") .int) (by decide +kernel)) (va_eqv (v := .int 12) (hs (Cond.eq (.length (.static "ShadowPoolModel" "SUN" "[I")) (.int 12)) (by decide +kernel)) rfl) (sun_start hs) hA
    exact ⟨t, va_Zof (ht (Cond.laysStatic "ShadowPoolModel" "SUN" "[I") (List.mem_of_getElem? (i := 656) (by decide +kernel))) i4 ht1 hA, hT⟩
  · exact vx_Zqof (ht (Cond.laysStatic "java/lang/Throwable" "UNASSIGNED_STACK" "[Ljava/lang/StackTraceElement;") (List.mem_of_getElem? (i := 331) (by decide +kernel))) i5 (hs (Cond.isRef (.static "java/lang/Throwable" "UNASSIGNED_STACK" "[Ljava/lang/StackTraceElement;")) (by decide +kernel)) hA
  · exact vx_Zqof (ht (Cond.laysStatic "java/lang/Throwable" "SUPPRESSED_SENTINEL" "Ljava/util/List;") (List.mem_of_getElem? (i := 333) (by decide +kernel))) i5 (hs (Cond.isRef (.static "java/lang/Throwable" "SUPPRESSED_SENTINEL" "Ljava/util/List;")) (by decide +kernel)) hA
  · exact ⟨va_Yc.of (ht _ qt306), va_Yc.of (ht _ qt384), va_Yc.of (ht _ qt408), va_Nc.of (hs (Cond.not (.castable xIS xIA)) (by decide +kernel)), va_Nc.of (hs (Cond.not (.castable xIA xIB)) (by decide +kernel)), va_Dx.of (ht (Cond.declares yRE) (List.mem_of_getElem? (i := 308) (by decide +kernel))), va_Dx.of (ht (Cond.declares yEE) (List.mem_of_getElem? (i := 310) (by decide +kernel))), va_Dx.of (ht (Cond.declares yTE) (List.mem_of_getElem? (i := 312) (by decide +kernel)))⟩
theorem ra_int {U : State} {a b : ClassId} (h1 : va_RA U a .int) (h2 : va_RA U b .int) : a = b := Option.some.inj (Eq.trans (Eq.symm h1) h2)
theorem ra_obj {U : State} {a b : ClassId} {C : String} (h1 : va_RA U a (.object C)) (h2 : va_RA U b (.object C)) : a = b := by
  obtain ⟨_, _, _, _, _, e1⟩ := h1
  obtain ⟨_, _, _, _, _, e2⟩ := h2
  exact Option.some.inj (e1.symm.trans e2)
theorem arrV_ext {cA : ClassId} {n : Nat} {f g : Nat → Value} (h : ∀ j, j < n → f j = g j) : arrV cA n f = arrV cA n g := by
  unfold arrV
  congr 1
  congr 1
  funext j
  exact h j.val j.isLt
theorem row_ext {H : Heap} {r : Nat} {cA : ClassId} {f g : Nat → Option Nat} (h : H[r]? = some (vp_cell cA (8, .inr (.inr (.inr (.inr f)))))) (hfg : ∀ j, j < 8 → f j = g j) : H[r]? = some (vp_cell cA (8, .inr (.inr (.inr (.inr g))))) := by
  rw [h, vp_cell_q, vp_cell_q]
  exact congrArg some (arrV_ext (fun j hj => by rw [hfg j hj]))
/-- what the fields hold at first -/
def bk00 : Nat → Int32 := upd (upd (upd (fun _ => 0) 1 100) 2 2) 3 30
def F00 : Fs := fun k => if k = 25 then upd (upd (fun _ => 0) 1 100) 2 2 else if k = 21 then upd (fun _ => 0) 2 30 else if k = 1 then bk00 else if k = 2 then bk00 else fun _ => 0
theorem inv_start : InvL F00 0 0 := by
  refine ⟨by decide, ⟨by decide, by decide, by decide, by decide, by decide, by decide, by decide, by decide, by decide, fun j hj => absurd hj (Nat.not_lt_zero j)⟩, by decide, fun j hj => absurd hj (Nat.not_lt_zero j), ?_, fun j hj => absurd hj (Nat.not_lt_zero j)⟩
  have key : ∀ j, j < 8 → F00 25 (13 + j) = 0 ∧ F00 25 (21 + j) = 0 := by decide
  exact fun j _ h2 => key j h2
/-- the place of a cell among the cells as they are made -/
def plc (k : Nat) : Nat := [0, 1, 11, 2, 12, 3, 4, 5, 6, 7, 8, 9, 10, 13, 14, 15, 16, 17, 18, 19, 20, 21, 22, 23, 24, 25, 26, 27].getD k 0
theorem plc_inj : ∀ i, i < 28 → ∀ j, j < 28 → plc i = plc j → i = j := by decide +kernel

set_option maxHeartbeats 8000000 in
set_option maxRecDepth 100000 in
theorem asm_start {D : va_G} {s : State} {H : Heap} {locs : List Loc} {args : Array Value} {q0 n1 n2 r1 r2 q1v ht0 sk zz nw kp qo : Nat} {w1 w2 : Nat → Nat} {k1 k2 c1 c2 c3 c4 c5 cL : ClassId} {f1 f2 : Nat → Option Nat} (hts0 : ∀ w ∈ lw_tbl, w.before args s = true) (hgv : (Jvm.Cond.and given_1 narrow_1).before args s = true) (hf1 : ∀ i, i < 8 → f1 i = some (w1 i)) (hf2 : ∀ i, i < 8 → f2 i = some (w2 i)) (hK : va_K D vwCl [(k1, .object "ShadowPool$Walker"), (k2, .object "ShadowPool$Walker"), (c1, .int), (c2, .int), (c3, .boolean), (c4, .int), (c5, .int), (cL, .long)] s) (hP : va_P D vwCl [(q0, .inr (2, [.ref n1, .ref n2])), (n1, .inr (0, [.int 0, .int 100, .int 2, .int 30, .int 0, .int 0, .int 0, .ref r1])), (r1, .inl (k1, 8, .inr (.inr (.inr (.inr f1))))), (w1 0, .inr (1, [.int 0, .int 0, .int 0, .int 0, .int 0, .int 0])), (w1 1, .inr (1, [.int 0, .int 0, .int 0, .int 0, .int 0, .int 0])), (w1 2, .inr (1, [.int 0, .int 0, .int 0, .int 0, .int 0, .int 0])), (w1 3, .inr (1, [.int 0, .int 0, .int 0, .int 0, .int 0, .int 0])), (w1 4, .inr (1, [.int 0, .int 0, .int 0, .int 0, .int 0, .int 0])), (w1 5, .inr (1, [.int 0, .int 0, .int 0, .int 0, .int 0, .int 0])), (w1 6, .inr (1, [.int 0, .int 0, .int 0, .int 0, .int 0, .int 0])), (w1 7, .inr (1, [.int 0, .int 0, .int 0, .int 0, .int 0, .int 0])), (n2, .inr (0, [.int 0, .int 100, .int 2, .int 30, .int 0, .int 0, .int 0, .ref r2])), (r2, .inl (k2, 8, .inr (.inr (.inr (.inr f2))))), (w2 0, .inr (1, [.int 0, .int 0, .int 0, .int 0, .int 0, .int 0])), (w2 1, .inr (1, [.int 0, .int 0, .int 0, .int 0, .int 0, .int 0])), (w2 2, .inr (1, [.int 0, .int 0, .int 0, .int 0, .int 0, .int 0])), (w2 3, .inr (1, [.int 0, .int 0, .int 0, .int 0, .int 0, .int 0])), (w2 4, .inr (1, [.int 0, .int 0, .int 0, .int 0, .int 0, .int 0])), (w2 5, .inr (1, [.int 0, .int 0, .int 0, .int 0, .int 0, .int 0])), (w2 6, .inr (1, [.int 0, .int 0, .int 0, .int 0, .int 0, .int 0])), (w2 7, .inr (1, [.int 0, .int 0, .int 0, .int 0, .int 0, .int 0])), (q1v, .inr (3, [.int 0, .int 0, .int 30, .ref ht0, .ref sk, .ref zz, .ref nw, .ref kp])), (ht0, .inl (c1, 8, .inl (fun _ => 0))), (sk, .inl (c2, 8, .inl (fun _ => 0))), (zz, .inl (c3, 8, .inl (fun _ => 0))), (nw, .inl (c4, 29, .inl (upd (upd (fun _ => 0) 1 100) 2 2))), (kp, .inl (c5, 29, .inl (fun _ => 0))), (qo, .inl (cL, 1, .inr (.inl (fun j => if j = 0 then 0 else 0))))] H) (hD : va_D (fun q : Nat => s.heap.size ≤ q) [(q0, .inr (2, [.ref n1, .ref n2])), (n1, .inr (0, [.int 0, .int 100, .int 2, .int 30, .int 0, .int 0, .int 0, .ref r1])), (r1, .inl (k1, 8, .inr (.inr (.inr (.inr f1))))), (w1 0, .inr (1, [.int 0, .int 0, .int 0, .int 0, .int 0, .int 0])), (w1 1, .inr (1, [.int 0, .int 0, .int 0, .int 0, .int 0, .int 0])), (w1 2, .inr (1, [.int 0, .int 0, .int 0, .int 0, .int 0, .int 0])), (w1 3, .inr (1, [.int 0, .int 0, .int 0, .int 0, .int 0, .int 0])), (w1 4, .inr (1, [.int 0, .int 0, .int 0, .int 0, .int 0, .int 0])), (w1 5, .inr (1, [.int 0, .int 0, .int 0, .int 0, .int 0, .int 0])), (w1 6, .inr (1, [.int 0, .int 0, .int 0, .int 0, .int 0, .int 0])), (w1 7, .inr (1, [.int 0, .int 0, .int 0, .int 0, .int 0, .int 0])), (n2, .inr (0, [.int 0, .int 100, .int 2, .int 30, .int 0, .int 0, .int 0, .ref r2])), (r2, .inl (k2, 8, .inr (.inr (.inr (.inr f2))))), (w2 0, .inr (1, [.int 0, .int 0, .int 0, .int 0, .int 0, .int 0])), (w2 1, .inr (1, [.int 0, .int 0, .int 0, .int 0, .int 0, .int 0])), (w2 2, .inr (1, [.int 0, .int 0, .int 0, .int 0, .int 0, .int 0])), (w2 3, .inr (1, [.int 0, .int 0, .int 0, .int 0, .int 0, .int 0])), (w2 4, .inr (1, [.int 0, .int 0, .int 0, .int 0, .int 0, .int 0])), (w2 5, .inr (1, [.int 0, .int 0, .int 0, .int 0, .int 0, .int 0])), (w2 6, .inr (1, [.int 0, .int 0, .int 0, .int 0, .int 0, .int 0])), (w2 7, .inr (1, [.int 0, .int 0, .int 0, .int 0, .int 0, .int 0])), (q1v, .inr (3, [.int 0, .int 0, .int 30, .ref ht0, .ref sk, .ref zz, .ref nw, .ref kp])), (ht0, .inl (c1, 8, .inl (fun _ => 0))), (sk, .inl (c2, 8, .inl (fun _ => 0))), (zz, .inl (c3, 8, .inl (fun _ => 0))), (nw, .inl (c4, 29, .inl (upd (upd (fun _ => 0) 1 100) 2 2))), (kp, .inl (c5, 29, .inl (fun _ => 0))), (qo, .inl (cL, 1, .inr (.inl (fun j => if j = 0 then 0 else 0))))]) (hS : va_S (fun q : Nat => s.heap.size ≤ q) s.heap H locs) : ∃ (cls : Nat → ClassId) (adr : Nat → Nat), adr 0 = q0 ∧ adr 21 = q1v ∧ adr 27 = qo ∧ (∀ k, k < 28 → s.heap.size ≤ adr k) ∧ GB (D, cls, adr) F00 0 [] [] s H locs := by
  obtain ⟨adr, hadr⟩ : ∃ adr : Nat → Nat, adr = fun k => [q0, n1, n2, r1, r2, (w1 0), (w1 1), (w1 2), (w1 3), (w1 4), (w1 5), (w1 6), (w1 7), (w2 0), (w2 1), (w2 2), (w2 3), (w2 4), (w2 5), (w2 6), (w2 7), q1v, ht0, sk, zz, nw, kp, qo].getD k 0 := ⟨_, rfl⟩
  have key : ∀ k, k < 28 → ∃ e, ([(q0, .inr (2, [.ref n1, .ref n2])), (n1, .inr (0, [.int 0, .int 100, .int 2, .int 30, .int 0, .int 0, .int 0, .ref r1])), (r1, .inl (k1, 8, .inr (.inr (.inr (.inr f1))))), (w1 0, .inr (1, [.int 0, .int 0, .int 0, .int 0, .int 0, .int 0])), (w1 1, .inr (1, [.int 0, .int 0, .int 0, .int 0, .int 0, .int 0])), (w1 2, .inr (1, [.int 0, .int 0, .int 0, .int 0, .int 0, .int 0])), (w1 3, .inr (1, [.int 0, .int 0, .int 0, .int 0, .int 0, .int 0])), (w1 4, .inr (1, [.int 0, .int 0, .int 0, .int 0, .int 0, .int 0])), (w1 5, .inr (1, [.int 0, .int 0, .int 0, .int 0, .int 0, .int 0])), (w1 6, .inr (1, [.int 0, .int 0, .int 0, .int 0, .int 0, .int 0])), (w1 7, .inr (1, [.int 0, .int 0, .int 0, .int 0, .int 0, .int 0])), (n2, .inr (0, [.int 0, .int 100, .int 2, .int 30, .int 0, .int 0, .int 0, .ref r2])), (r2, .inl (k2, 8, .inr (.inr (.inr (.inr f2))))), (w2 0, .inr (1, [.int 0, .int 0, .int 0, .int 0, .int 0, .int 0])), (w2 1, .inr (1, [.int 0, .int 0, .int 0, .int 0, .int 0, .int 0])), (w2 2, .inr (1, [.int 0, .int 0, .int 0, .int 0, .int 0, .int 0])), (w2 3, .inr (1, [.int 0, .int 0, .int 0, .int 0, .int 0, .int 0])), (w2 4, .inr (1, [.int 0, .int 0, .int 0, .int 0, .int 0, .int 0])), (w2 5, .inr (1, [.int 0, .int 0, .int 0, .int 0, .int 0, .int 0])), (w2 6, .inr (1, [.int 0, .int 0, .int 0, .int 0, .int 0, .int 0])), (w2 7, .inr (1, [.int 0, .int 0, .int 0, .int 0, .int 0, .int 0])), (q1v, .inr (3, [.int 0, .int 0, .int 30, .ref ht0, .ref sk, .ref zz, .ref nw, .ref kp])), (ht0, .inl (c1, 8, .inl (fun _ => 0))), (sk, .inl (c2, 8, .inl (fun _ => 0))), (zz, .inl (c3, 8, .inl (fun _ => 0))), (nw, .inl (c4, 29, .inl (upd (upd (fun _ => 0) 1 100) 2 2))), (kp, .inl (c5, 29, .inl (fun _ => 0))), (qo, .inl (cL, 1, .inr (.inl (fun j => if j = 0 then 0 else 0))))] : va_W)[plc k]? = some (adr k, e) := by
    intro k hk
    subst hadr
    rcases (show k = 0 ∨ k = 1 ∨ k = 2 ∨ k = 3 ∨ k = 4 ∨ k = 5 ∨ k = 6 ∨ k = 7 ∨ k = 8 ∨ k = 9 ∨ k = 10 ∨ k = 11 ∨ k = 12 ∨ k = 13 ∨ k = 14 ∨ k = 15 ∨ k = 16 ∨ k = 17 ∨ k = 18 ∨ k = 19 ∨ k = 20 ∨ k = 21 ∨ k = 22 ∨ k = 23 ∨ k = 24 ∨ k = 25 ∨ k = 26 ∨ k = 27 by omega) with rfl | rfl | rfl | rfl | rfl | rfl | rfl | rfl | rfl | rfl | rfl | rfl | rfl | rfl | rfl | rfl | rfl | rfl | rfl | rfl | rfl | rfl | rfl | rfl | rfl | rfl | rfl | rfl <;> exact ⟨_, rfl⟩
  have e2 : k1 = k2 := ra_obj (hK.2 0 _ rfl).2 (hK.2 1 _ rfl).2
  have e3 : c1 = c2 := ra_int (hK.2 2 _ rfl).2 (hK.2 3 _ rfl).2
  have e4 : c1 = c4 := ra_int (hK.2 2 _ rfl).2 (hK.2 5 _ rfl).2
  have e5 : c1 = c5 := ra_int (hK.2 2 _ rfl).2 (hK.2 6 _ rfl).2
  subst e2 e3 e4 e5
  obtain ⟨cls, hcls⟩ : ∃ cls : Nat → ClassId, cls = fun k => [k1, c1, c3, cL].getD k 0 := ⟨_, rfl⟩
  have hA28 : ∀ k, k < 28 → s.heap.size ≤ adr k := fun k hk => by
    obtain ⟨e, he⟩ := key k hk
    exact hD.2 _ _ he
  have hGA : ∀ a : Nat, a < s.heap.size → ¬ GA (D, cls, adr) s.heap.size a := by
    rintro a ha (⟨k, hk, e⟩ | h9)
    · have := hA28 k hk
      have e : a = adr k := e
      omega
    · omega
  refine ⟨cls, adr, by rw [hadr]; rfl, by rw [hadr]; rfl, by rw [hadr]; rfl, hA28, ?_⟩
  · skip
    refine ⟨?_, ?_, ?_, ⟨hS.1, fun q h1 h2 => hS.2.1 q h1 (fun h3 => h2 (Or.inr h3)), fun q hq => Or.inr (hS.2.2 q hq)⟩, env_start hts0 hgv hGA⟩
    · intro k q hq
      rw [List.append_nil] at hq
      have hk : k < 28 := by
        have := (List.getElem?_eq_some_iff.mp hq).1
        rw [wld_len] at this; exact this
      rw [wld_at0 (D, cls, adr) F00 0 hk] at hq
      cases hq
      subst hadr hcls
      rcases (show k = 0 ∨ k = 1 ∨ k = 2 ∨ k = 3 ∨ k = 4 ∨ k = 5 ∨ k = 6 ∨ k = 7 ∨ k = 8 ∨ k = 9 ∨ k = 10 ∨ k = 11 ∨ k = 12 ∨ k = 13 ∨ k = 14 ∨ k = 15 ∨ k = 16 ∨ k = 17 ∨ k = 18 ∨ k = 19 ∨ k = 20 ∨ k = 21 ∨ k = 22 ∨ k = 23 ∨ k = 24 ∨ k = 25 ∨ k = 26 ∨ k = 27 by omega) with rfl | rfl | rfl | rfl | rfl | rfl | rfl | rfl | rfl | rfl | rfl | rfl | rfl | rfl | rfl | rfl | rfl | rfl | rfl | rfl | rfl | rfl | rfl | rfl | rfl | rfl | rfl | rfl
      · exact hP 0 _ rfl
      · exact hP 1 _ rfl
      · exact hP 11 _ rfl
      · have h9 : H[r1]? = some (vp_cell k1 (8, .inr (.inr (.inr (.inr f1))))) := hP 2 _ rfl
        exact row_ext h9 (fun j hj => by
          refine Eq.trans (hf1 j hj) ?_
          rcases (show j = 0 ∨ j = 1 ∨ j = 2 ∨ j = 3 ∨ j = 4 ∨ j = 5 ∨ j = 6 ∨ j = 7 by omega) with rfl | rfl | rfl | rfl | rfl | rfl | rfl | rfl <;> rfl)
      · have h9 : H[r2]? = some (vp_cell k1 (8, .inr (.inr (.inr (.inr f2))))) := hP 12 _ rfl
        exact row_ext h9 (fun j hj => by
          refine Eq.trans (hf2 j hj) ?_
          rcases (show j = 0 ∨ j = 1 ∨ j = 2 ∨ j = 3 ∨ j = 4 ∨ j = 5 ∨ j = 6 ∨ j = 7 by omega) with rfl | rfl | rfl | rfl | rfl | rfl | rfl | rfl <;> rfl)
      · exact hP 3 _ rfl
      · exact hP 4 _ rfl
      · exact hP 5 _ rfl
      · exact hP 6 _ rfl
      · exact hP 7 _ rfl
      · exact hP 8 _ rfl
      · exact hP 9 _ rfl
      · exact hP 10 _ rfl
      · exact hP 13 _ rfl
      · exact hP 14 _ rfl
      · exact hP 15 _ rfl
      · exact hP 16 _ rfl
      · exact hP 17 _ rfl
      · exact hP 18 _ rfl
      · exact hP 19 _ rfl
      · exact hP 20 _ rfl
      · exact hP 21 _ rfl
      · exact hP 22 _ rfl
      · exact hP 23 _ rfl
      · exact hP 24 _ rfl
      · exact hP 25 _ rfl
      · exact hP 26 _ rfl
      · exact hP 27 _ rfl
    · rw [List.append_nil]
      refine ⟨fun i j x y hx9 hy9 he => ?_, fun k q hq => ?_⟩
      · have hi : i < 28 := by
          have := (List.getElem?_eq_some_iff.mp hx9).1
          rw [wld_len] at this; exact this
        have hj : j < 28 := by
          have := (List.getElem?_eq_some_iff.mp hy9).1
          rw [wld_len] at this; exact this
        rw [wld_at0 (D, cls, adr) F00 0 hi] at hx9
        rw [wld_at0 (D, cls, adr) F00 0 hj] at hy9
        cases hx9
        cases hy9
        obtain ⟨e1, h1⟩ := key i hi
        obtain ⟨e2, h2⟩ := key j hj
        exact plc_inj i hi j hj (hD.1 _ _ _ _ h1 h2 he)
      · have hk : k < 28 := by
          have := (List.getElem?_eq_some_iff.mp hq).1
          rw [wld_len] at this; exact this
        rw [wld_at0 (D, cls, adr) F00 0 hk] at hq
        cases hq
        exact GA_in (D, cls, adr) _ hk
    · rw [List.append_nil]
      subst hcls
      exact hK.sub [0, 2, 4, 7] rfl
