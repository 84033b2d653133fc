/-! THE LAW FROM ITS ENTRY -/
set_option maxHeartbeats 4000000 in
set_option maxRecDepth 100000 in
theorem str_start {args : Array Value} {s : State} (ht : ∀ w ∈ tables_1, w.before args s = true) (hs : ∀ w ∈ flatC (Jvm.Cond.and given_1 narrow_1), w.before args s = true) : ∀ z ∈ lw_strs, ∃ a : Nat, vk_R "ShadowPool" z.1 z.2 a s := by
  intro z hz
  have h1 := ht _ (lw_strs_tbl z hz)
  simp only [lw_strs, List.mem_cons, List.not_mem_nil, or_false] at hz
  rcases hz with rfl | rfl | rfl | rfl | rfl | rfl | rfl | rfl | rfl
  · obtain ⟨a, -, -, -, ha, -⟩ := Cond.exactly_spec (args := args) (first := s) (o := none) (s := s) (idx := []) (t := .string "ShadowPool" 80) (cls := "java/lang/String") (hs (Cond.exactly (.string "ShadowPool" 80) "java/lang/String") (by decide +kernel))
    exact ⟨a, vk_R.of h1 ha⟩
  · obtain ⟨a, -, -, -, ha, -⟩ := Cond.exactly_spec (args := args) (first := s) (o := none) (s := s) (idx := []) (t := .string "ShadowPool" 49) (cls := "java/lang/String") (hs (Cond.exactly (.string "ShadowPool" 49) "java/lang/String") (by decide +kernel))
    exact ⟨a, vk_R.of h1 ha⟩
  · obtain ⟨a, -, -, -, ha, -⟩ := Cond.exactly_spec (args := args) (first := s) (o := none) (s := s) (idx := []) (t := .string "ShadowPool" 25) (cls := "java/lang/String") (hs (Cond.exactly (.string "ShadowPool" 25) "java/lang/String") (by decide +kernel))
    exact ⟨a, vk_R.of h1 ha⟩
  · obtain ⟨a, -, -, -, ha, -⟩ := Cond.exactly_spec (args := args) (first := s) (o := none) (s := s) (idx := []) (t := .string "ShadowPool" 30) (cls := "java/lang/String") (hs (Cond.exactly (.string "ShadowPool" 30) "java/lang/String") (by decide +kernel))
    exact ⟨a, vk_R.of h1 ha⟩
  · obtain ⟨a, -, -, -, ha, -⟩ := Cond.exactly_spec (args := args) (first := s) (o := none) (s := s) (idx := []) (t := .string "ShadowPool" 32) (cls := "java/lang/String") (hs (Cond.exactly (.string "ShadowPool" 32) "java/lang/String") (by decide +kernel))
    exact ⟨a, vk_R.of h1 ha⟩
  · obtain ⟨a, -, -, -, ha, -⟩ := Cond.exactly_spec (args := args) (first := s) (o := none) (s := s) (idx := []) (t := .string "ShadowPool" 40) (cls := "java/lang/String") (hs (Cond.exactly (.string "ShadowPool" 40) "java/lang/String") (by decide +kernel))
    exact ⟨a, vk_R.of h1 ha⟩
  · obtain ⟨a, -, -, -, ha, -⟩ := Cond.exactly_spec (args := args) (first := s) (o := none) (s := s) (idx := []) (t := .string "ShadowPool" 65) (cls := "java/lang/String") (hs (Cond.exactly (.string "ShadowPool" 65) "java/lang/String") (by decide +kernel))
    exact ⟨a, vk_R.of h1 ha⟩
  · obtain ⟨a, -, -, -, ha, -⟩ := Cond.exactly_spec (args := args) (first := s) (o := none) (s := s) (idx := []) (t := .string "ShadowPool" 70) (cls := "java/lang/String") (hs (Cond.exactly (.string "ShadowPool" 70) "java/lang/String") (by decide +kernel))
    exact ⟨a, vk_R.of h1 ha⟩
  · obtain ⟨a, -, -, -, ha, -⟩ := Cond.exactly_spec (args := args) (first := s) (o := none) (s := s) (idx := []) (t := .string "ShadowPool" 72) (cls := "java/lang/String") (hs (Cond.exactly (.string "ShadowPool" 72) "java/lang/String") (by decide +kernel))
    exact ⟨a, vk_R.of h1 ha⟩
set_option maxHeartbeats 4000000 in
set_option maxRecDepth 100000 in
theorem env_start {args : Array Value} {s : State} {A : Nat → Prop} (hts : ∀ w ∈ lw_tbl, w.before args s = true) (hgv : (Jvm.Cond.and given_1 narrow_1).before args s = true) (hA : ∀ a : Nat, a < s.heap.size → ¬ A a) : EnvG A s s.heap := by
  have ht : ∀ w ∈ tables_1, w.before args s = true := fun w h => hts w (List.mem_append_right _ h)
  have hs := flat_of_before _ hgv
  have i5 := hts _ (lw_all_tbl q5)
  refine ⟨fun w hw => va_Nw.of (nest_tab (lw_nest_ok w hw)) (ht w (lw_nest_tbl w hw)), ⟨?_, va_Nw.of rfl (ht _ qt466)⟩, ?_, ?_, str_start ht hs, ?_⟩
  · have h := ht _ qt433
    unfold va_Nw
    simp only [Cond.before, Cond.holds] at h ⊢
    exact h
  · exact vx_Zqof (ht (Cond.laysStatic "java/lang/Throwable" "UNASSIGNED_STACK" "[Ljava/lang/StackTraceElement;") (List.mem_of_getElem? (i := 131) (by decide +kernel))) i5 (hs (Cond.isRef (.static "java/lang/Throwable" "UNASSIGNED_STACK" "[Ljava/lang/StackTraceElement;")) (by decide +kernel)) hA
  · exact vx_Zqof (ht (Cond.laysStatic "java/lang/Throwable" "SUPPRESSED_SENTINEL" "Ljava/util/List;") (List.mem_of_getElem? (i := 133) (by decide +kernel))) i5 (hs (Cond.isRef (.static "java/lang/Throwable" "SUPPRESSED_SENTINEL" "Ljava/util/List;")) (by decide +kernel)) hA
  · exact ⟨va_Yc.of (ht _ qt106), va_Yc.of (ht _ qt559), va_Yc.of (ht _ qt275), trivial, trivial, va_Dx.of (ht (Cond.declares yRE) (List.mem_of_getElem? (i := 108) (by decide +kernel))), va_Dx.of (ht (Cond.declares yEE) (List.mem_of_getElem? (i := 110) (by decide +kernel))), va_Dx.of (ht (Cond.declares yTE) (List.mem_of_getElem? (i := 112) (by decide +kernel)))⟩
theorem ra_obj {U : State} {a b : ClassId} {C : String} (h1 : va_RA U a (.object C)) (h2 : va_RA U b (.object C)) : a = b := by
  obtain ⟨_, _, _, _, _, e1⟩ := h1
  obtain ⟨_, _, _, _, _, e2⟩ := h2
  exact Option.some.inj (e1.symm.trans e2)
theorem row_ext {H : Heap} {r : Nat} {cA : ClassId} {f g : Nat → Option Nat} (h : H[r]? = some (vp_cell cA (8, .inr (.inr (.inr (.inr f)))))) (hfg : ∀ j, j < 8 → f j = g j) : H[r]? = some (vp_cell cA (8, .inr (.inr (.inr (.inr g))))) := by
  rw [h, vp_cell_q, vp_cell_q]
  exact congrArg some (arrV_ext (fun j hj => by rw [hfg j hj]))
/-- the classes of int[] and int[][] -/
theorem cls_start {args : Array Value} {s : State} (h1 : (Cond.arrayClass .int).before args s = true) (h2 : va_Nw (.arrayOver (.array .int)) s) : ∃ cI cII : ClassId, (ArrOfT s cI .int ∧ va_RA s cI .int) ∧ (ArrOfT s cII (.array .int) ∧ va_RA s cII (.array .int)) := by
  obtain ⟨cI, kI, comp, a1, a2, a3⟩ := Cond.arrayClass_spec h1
  obtain ⟨comp2, cII, kII, f1, f0, f2, f3, f4⟩ := arrayOverA_spec h2
  exact ⟨cI, cII, ⟨fun n z => ⟨fun k h => (by cases h), kI, a2, comp, a3⟩, a1⟩, ⟨fun n z => ⟨fun k h => (by cases h), kII, f2, comp2, f3⟩, f4⟩⟩
/-- what the fields hold at first -/
def bk00 : Nat → Int32 := upd (upd (upd (fun _ => 0) 1 100) 2 2) 3 30
def F00 : Fs := fun k => if k = 1 then bk00 else if k = 2 then bk00 else fun _ => 0
theorem fz_start : ∀ j, j < 6 → Fz 1 j = F00 1 j := by decide
theorem in_start : In F00 0 0 := by
  refine ⟨⟨by omega, rfl, rfl, ⟨⟨2, by omega, rfl⟩, ⟨30, by omega, rfl⟩, ⟨0, by omega, rfl⟩⟩, fun j hj => absurd hj (Nat.not_lt_zero j)⟩, ?_, ?_⟩
  · intro j hj
    refine Or.inl ?_
    show F00 (wb 1 j) 5 = 0
    unfold F00
    rw [if_neg (fun z => wb1_ne (j := j) (a := 1) (by omega) z.symm), if_neg (fun z => wb1_ne (j := j) (a := 2) (by omega) z.symm)]
  · show Bd (100 : Int32) (100 + 1600 * 0)
    exact ⟨by decide, by decide⟩
/-- the place of a cell among the cells as they are made -/
def plc (k : Nat) : Nat := [0, 1, 11, 2, 12, 3, 4, 5, 6, 7, 8, 9, 10, 13, 14, 15, 16, 17, 18, 19, 20].getD k 0
theorem plc_inj : ∀ i, i < 21 → ∀ j, j < 21 → plc i = plc j → i = j := by decide +kernel

set_option maxHeartbeats 8000000 in
set_option maxRecDepth 100000 in
theorem asm_start {D : va_G} {s : State} {H : Heap} {locs : List Loc} {args : Array Value} {q0 n1 n2 r1 r2 : Nat} {w1 w2 : Nat → Nat} {k1 k2 : ClassId} {f1 f2 : Nat → Option Nat} (hts0 : ∀ w ∈ lw_tbl, w.before args s = true) (hgv : (Jvm.Cond.and given_1 narrow_1).before args s = true) (hf1 : ∀ i, i < 8 → f1 i = some (w1 i)) (hf2 : ∀ i, i < 8 → f2 i = some (w2 i)) (hK : va_K D vwCl [(k1, .object "ShadowPool$Walker"), (k2, .object "ShadowPool$Walker")] s) (hP : va_P D vwCl [(q0, .inr (2, [.ref n1, .ref n2])), (n1, .inr (0, [.int 0, .int 100, .int 2, .int 30, .int 0, .int 0, .int 0, .ref r1])), (r1, .inl (k1, 8, .inr (.inr (.inr (.inr f1))))), (w1 0, .inr (1, [.int 0, .int 0, .int 0, .int 0, .int 0, .int 0])), (w1 1, .inr (1, [.int 0, .int 0, .int 0, .int 0, .int 0, .int 0])), (w1 2, .inr (1, [.int 0, .int 0, .int 0, .int 0, .int 0, .int 0])), (w1 3, .inr (1, [.int 0, .int 0, .int 0, .int 0, .int 0, .int 0])), (w1 4, .inr (1, [.int 0, .int 0, .int 0, .int 0, .int 0, .int 0])), (w1 5, .inr (1, [.int 0, .int 0, .int 0, .int 0, .int 0, .int 0])), (w1 6, .inr (1, [.int 0, .int 0, .int 0, .int 0, .int 0, .int 0])), (w1 7, .inr (1, [.int 0, .int 0, .int 0, .int 0, .int 0, .int 0])), (n2, .inr (0, [.int 0, .int 100, .int 2, .int 30, .int 0, .int 0, .int 0, .ref r2])), (r2, .inl (k2, 8, .inr (.inr (.inr (.inr f2))))), (w2 0, .inr (1, [.int 0, .int 0, .int 0, .int 0, .int 0, .int 0])), (w2 1, .inr (1, [.int 0, .int 0, .int 0, .int 0, .int 0, .int 0])), (w2 2, .inr (1, [.int 0, .int 0, .int 0, .int 0, .int 0, .int 0])), (w2 3, .inr (1, [.int 0, .int 0, .int 0, .int 0, .int 0, .int 0])), (w2 4, .inr (1, [.int 0, .int 0, .int 0, .int 0, .int 0, .int 0])), (w2 5, .inr (1, [.int 0, .int 0, .int 0, .int 0, .int 0, .int 0])), (w2 6, .inr (1, [.int 0, .int 0, .int 0, .int 0, .int 0, .int 0])), (w2 7, .inr (1, [.int 0, .int 0, .int 0, .int 0, .int 0, .int 0]))] H) (hD : va_D (fun q : Nat => s.heap.size ≤ q) [(q0, .inr (2, [.ref n1, .ref n2])), (n1, .inr (0, [.int 0, .int 100, .int 2, .int 30, .int 0, .int 0, .int 0, .ref r1])), (r1, .inl (k1, 8, .inr (.inr (.inr (.inr f1))))), (w1 0, .inr (1, [.int 0, .int 0, .int 0, .int 0, .int 0, .int 0])), (w1 1, .inr (1, [.int 0, .int 0, .int 0, .int 0, .int 0, .int 0])), (w1 2, .inr (1, [.int 0, .int 0, .int 0, .int 0, .int 0, .int 0])), (w1 3, .inr (1, [.int 0, .int 0, .int 0, .int 0, .int 0, .int 0])), (w1 4, .inr (1, [.int 0, .int 0, .int 0, .int 0, .int 0, .int 0])), (w1 5, .inr (1, [.int 0, .int 0, .int 0, .int 0, .int 0, .int 0])), (w1 6, .inr (1, [.int 0, .int 0, .int 0, .int 0, .int 0, .int 0])), (w1 7, .inr (1, [.int 0, .int 0, .int 0, .int 0, .int 0, .int 0])), (n2, .inr (0, [.int 0, .int 100, .int 2, .int 30, .int 0, .int 0, .int 0, .ref r2])), (r2, .inl (k2, 8, .inr (.inr (.inr (.inr f2))))), (w2 0, .inr (1, [.int 0, .int 0, .int 0, .int 0, .int 0, .int 0])), (w2 1, .inr (1, [.int 0, .int 0, .int 0, .int 0, .int 0, .int 0])), (w2 2, .inr (1, [.int 0, .int 0, .int 0, .int 0, .int 0, .int 0])), (w2 3, .inr (1, [.int 0, .int 0, .int 0, .int 0, .int 0, .int 0])), (w2 4, .inr (1, [.int 0, .int 0, .int 0, .int 0, .int 0, .int 0])), (w2 5, .inr (1, [.int 0, .int 0, .int 0, .int 0, .int 0, .int 0])), (w2 6, .inr (1, [.int 0, .int 0, .int 0, .int 0, .int 0, .int 0])), (w2 7, .inr (1, [.int 0, .int 0, .int 0, .int 0, .int 0, .int 0]))]) (hS : va_S (fun q : Nat => s.heap.size ≤ q) s.heap H locs) :
    ∃ (cls : Nat → ClassId) (adr : Nat → Nat), adr 0 = q0 ∧ GX (D, cls, adr) (fun q : Nat => s.heap.size ≤ q) (wld (D, cls, adr) F00 0 ++ []) s H locs := by
  obtain ⟨adr, hadr⟩ : ∃ adr : Nat → Nat, adr = fun k => [q0, n1, n2, r1, r2, (w1 0), (w1 1), (w1 2), (w1 3), (w1 4), (w1 5), (w1 6), (w1 7), (w2 0), (w2 1), (w2 2), (w2 3), (w2 4), (w2 5), (w2 6), (w2 7)].getD k 0 := ⟨_, rfl⟩
  have key : ∀ k, k < 21 → ∃ e, ([(q0, .inr (2, [.ref n1, .ref n2])), (n1, .inr (0, [.int 0, .int 100, .int 2, .int 30, .int 0, .int 0, .int 0, .ref r1])), (r1, .inl (k1, 8, .inr (.inr (.inr (.inr f1))))), (w1 0, .inr (1, [.int 0, .int 0, .int 0, .int 0, .int 0, .int 0])), (w1 1, .inr (1, [.int 0, .int 0, .int 0, .int 0, .int 0, .int 0])), (w1 2, .inr (1, [.int 0, .int 0, .int 0, .int 0, .int 0, .int 0])), (w1 3, .inr (1, [.int 0, .int 0, .int 0, .int 0, .int 0, .int 0])), (w1 4, .inr (1, [.int 0, .int 0, .int 0, .int 0, .int 0, .int 0])), (w1 5, .inr (1, [.int 0, .int 0, .int 0, .int 0, .int 0, .int 0])), (w1 6, .inr (1, [.int 0, .int 0, .int 0, .int 0, .int 0, .int 0])), (w1 7, .inr (1, [.int 0, .int 0, .int 0, .int 0, .int 0, .int 0])), (n2, .inr (0, [.int 0, .int 100, .int 2, .int 30, .int 0, .int 0, .int 0, .ref r2])), (r2, .inl (k2, 8, .inr (.inr (.inr (.inr f2))))), (w2 0, .inr (1, [.int 0, .int 0, .int 0, .int 0, .int 0, .int 0])), (w2 1, .inr (1, [.int 0, .int 0, .int 0, .int 0, .int 0, .int 0])), (w2 2, .inr (1, [.int 0, .int 0, .int 0, .int 0, .int 0, .int 0])), (w2 3, .inr (1, [.int 0, .int 0, .int 0, .int 0, .int 0, .int 0])), (w2 4, .inr (1, [.int 0, .int 0, .int 0, .int 0, .int 0, .int 0])), (w2 5, .inr (1, [.int 0, .int 0, .int 0, .int 0, .int 0, .int 0])), (w2 6, .inr (1, [.int 0, .int 0, .int 0, .int 0, .int 0, .int 0])), (w2 7, .inr (1, [.int 0, .int 0, .int 0, .int 0, .int 0, .int 0]))] : va_W)[plc k]? = some (adr k, e) := by
    intro k hk
    subst hadr
    rcases (show k = 0 ∨ k = 1 ∨ k = 2 ∨ k = 3 ∨ k = 4 ∨ k = 5 ∨ k = 6 ∨ k = 7 ∨ k = 8 ∨ k = 9 ∨ k = 10 ∨ k = 11 ∨ k = 12 ∨ k = 13 ∨ k = 14 ∨ k = 15 ∨ k = 16 ∨ k = 17 ∨ k = 18 ∨ k = 19 ∨ k = 20 by omega) with rfl | rfl | rfl | rfl | rfl | rfl | rfl | rfl | rfl | rfl | rfl | rfl | rfl | rfl | rfl | rfl | rfl | rfl | rfl | rfl | rfl <;> exact ⟨_, rfl⟩
  have e2 : k1 = k2 := ra_obj (hK.2 0 _ rfl).2 (hK.2 1 _ rfl).2
  subst e2
  have hEv : EnvG (fun q : Nat => s.heap.size ≤ q) s s.heap := env_start hts0 hgv (fun a h1 h2 => by have h2 : s.heap.size ≤ a := h2; omega)
  obtain ⟨cI, cII, hcI, hcII⟩ := cls_start (hts0 _ (lw_all_tbl q467)) hEv.2.1.1
  obtain ⟨cls, hcls⟩ : ∃ cls : Nat → ClassId, cls = fun k => [k1, cI, cII].getD k 0 := ⟨_, rfl⟩
  have hA21 : ∀ k, k < 21 → s.heap.size ≤ adr k := fun k hk => by
    obtain ⟨e, he⟩ := key k hk
    exact hD.2 _ _ he
  refine ⟨cls, adr, by rw [hadr]; rfl, ?_⟩
  rw [List.append_nil]
  refine ⟨?_, ?_, ?_, hS, hEv, fun q h => h⟩
  · intro k q hq
    have hk : k < 21 := by
      have := (List.getElem?_eq_some_iff.mp hq).1
      rw [wld_len] at this; exact this
    rw [wld_at0 (D, cls, adr) F00 0 hk] at hq
    cases hq
    subst hadr hcls
    rcases (show k = 0 ∨ k = 1 ∨ k = 2 ∨ k = 3 ∨ k = 4 ∨ k = 5 ∨ k = 6 ∨ k = 7 ∨ k = 8 ∨ k = 9 ∨ k = 10 ∨ k = 11 ∨ k = 12 ∨ k = 13 ∨ k = 14 ∨ k = 15 ∨ k = 16 ∨ k = 17 ∨ k = 18 ∨ k = 19 ∨ k = 20 by omega) with rfl | rfl | rfl | rfl | rfl | rfl | rfl | rfl | rfl | rfl | rfl | rfl | rfl | rfl | rfl | rfl | rfl | rfl | rfl | rfl | rfl
    · exact hP 0 _ rfl
    · exact hP 1 _ rfl
    · exact hP 11 _ rfl
    · have h9 : H[r1]? = some (vp_cell k1 (8, .inr (.inr (.inr (.inr f1))))) := hP 2 _ rfl
      exact row_ext h9 (fun j hj => by
        refine Eq.trans (hf1 j hj) ?_
        rcases (show j = 0 ∨ j = 1 ∨ j = 2 ∨ j = 3 ∨ j = 4 ∨ j = 5 ∨ j = 6 ∨ j = 7 by omega) with rfl | rfl | rfl | rfl | rfl | rfl | rfl | rfl <;> rfl)
    · have h9 : H[r2]? = some (vp_cell k1 (8, .inr (.inr (.inr (.inr f2))))) := hP 12 _ rfl
      exact row_ext h9 (fun j hj => by
        refine Eq.trans (hf2 j hj) ?_
        rcases (show j = 0 ∨ j = 1 ∨ j = 2 ∨ j = 3 ∨ j = 4 ∨ j = 5 ∨ j = 6 ∨ j = 7 by omega) with rfl | rfl | rfl | rfl | rfl | rfl | rfl | rfl <;> rfl)
    · exact hP 3 _ rfl
    · exact hP 4 _ rfl
    · exact hP 5 _ rfl
    · exact hP 6 _ rfl
    · exact hP 7 _ rfl
    · exact hP 8 _ rfl
    · exact hP 9 _ rfl
    · exact hP 10 _ rfl
    · exact hP 13 _ rfl
    · exact hP 14 _ rfl
    · exact hP 15 _ rfl
    · exact hP 16 _ rfl
    · exact hP 17 _ rfl
    · exact hP 18 _ rfl
    · exact hP 19 _ rfl
    · exact hP 20 _ rfl
  · refine ⟨fun i j x y hx9 hy9 he => ?_, fun k q hq => ?_⟩
    · have hi : i < 21 := by
        have := (List.getElem?_eq_some_iff.mp hx9).1
        rw [wld_len] at this; exact this
      have hj : j < 21 := by
        have := (List.getElem?_eq_some_iff.mp hy9).1
        rw [wld_len] at this; exact this
      rw [wld_at0 (D, cls, adr) F00 0 hi] at hx9
      rw [wld_at0 (D, cls, adr) F00 0 hj] at hy9
      cases hx9
      cases hy9
      obtain ⟨e1, h1⟩ := key i hi
      obtain ⟨e2, h2⟩ := key j hj
      exact plc_inj i hi j hj (hD.1 _ _ _ _ h1 h2 he)
    · have hk : k < 21 := by
        have := (List.getElem?_eq_some_iff.mp hq).1
        rw [wld_len] at this; exact this
      rw [wld_at0 (D, cls, adr) F00 0 hk] at hq
      cases hq
      exact hA21 k hk
  · refine ⟨hK.1, fun k q hk => ?_⟩
    subst hcls
    match k, hk with
    | 0, hk => cases hk; exact hK.2 0 _ rfl
    | 1, hk => cases hk; exact hcI
    | 2, hk => cases hk; exact hcII
    | k + 3, hk => simp [tysG] at hk
