set_option maxHeartbeats 4000000 in
set_option maxRecDepth 100000 in
theorem d_below (l : Launch) (G : gT) (v : Int32) (n : Nat) (hn1 : 1 ≤ n) (hn2 : n < 2 ^ 31) : ∀ sz : Nat, Met l yL_below (wsG yL_below cL_below 2 (some .int)) (rmC 0 0 0 0) (va_Pc [.int v, .int (nI n)] (preX G ([]) sz)) (QXi G (fun (r : Int32) (_ : Unit) => ∃ q, q < n ∧ r = nI q) (fun (_ : Unit) => []) ([]) sz) 0 0 (va_A ([]) sz) := by
  refine mk_Y (own := "ShadowPoolLaw") (Qs := fun sz => QXi G (fun (r : Int32) (_ : Unit) => ∃ q, q < n ∧ r = nI q) (fun (_ : Unit) => []) ([]) sz) (by decide +kernel) rfl (Nat.le_of_ble_eq_true rfl) ?_
  intro p e s m args below meth c ls hr hk0 hnm S g hl
  have hl : lv_has ls 2 [(0, .int v), (1, .int (nI n))] := hl
  have hx := S.1
  have hb := S.2.1
  refine lv_iload_n hx hb dL_below_0 rfl (lv_at hl 0 rfl) ?_
  refine lv_ldc (v := 2147483647) hx hb S.2.2.2.1 (S.2.2.2.2 _ q529) dL_below_1 ?_
  refine lv_iand hx hb dL_below_3 ?_
  refine lv_iload_n hx hb dL_below_4 rfl (lv_at hl 1 rfl) ?_
  refine lv_irem hx hb dL_below_5 (be_ne hn1 hn2) ?_
  have g := g.eqw rfl
  exact f_i (()) S hr hk0 g (be_ok v hn1 hn2) dL_below_6
set_option maxHeartbeats 4000000 in
set_option maxRecDepth 100000 in
theorem d_cell (l : Launch) (G : gT) (b9 L9 : Nat) (xs9 : Nat → Int32) (k : Nat) (hk : k < 2 ^ 30) : ∀ sz : Nat, Met l yL_cell (wsG yL_cell cL_cell 2 (some .int)) (rmC 0 0 0 0) (va_Pc [.ref b9, .int (nI k)] (preS G ([]) b9 L9 xs9 sz)) (QXi G (fun (_ : Int32) (_ : Unit) => True) (fun (_ : Unit) => []) ([]) sz) 0 0 (va_A ([]) sz) := by
  refine mk_S (own := "ShadowPoolLaw") (Qs := fun sz => QXi G (fun (_ : Int32) (_ : Unit) => True) (fun (_ : Unit) => []) ([]) sz) (by decide +kernel) rfl (Nat.le_of_ble_eq_true rfl) ?_
  intro p e s m args below meth c ls hr hk0 hnm S g hX9 hX9l hX9n hl
  have hl : lv_has ls 2 [(0, .ref b9), (1, .int (nI k))] := hl
  have hx := S.1
  have hb := S.2.1
  refine lv_iload_n hx hb dL_cell_0 rfl (lv_at hl 1 rfl) ?_
  refine lv_aload_n hx hb dL_cell_1 rfl (lv_at hl 0 rfl) ?_
  refine va_slen hx hb hX9 hX9l hX9n g.2.2.2.1 dL_cell_2 ?_
  refine lv_icmp_ge (tgt := 12) hx hb dL_cell_3 (by decide) (fun c_3 => ?_) (fun c_3 => ?_)
  · refine lv_ldc (v := 790386105) hx hb S.2.2.2.1 (S.2.2.2.2 _ q533) dL_cell_12 ?_
    refine lv_iload_n hx hb dL_cell_14 rfl (lv_at hl 1 rfl) ?_
    refine lv_iconst (v := 3) hx hb dL_cell_15 (by decide) ?_
    refine lv_iadd hx hb dL_cell_16 ?_
    refine lv_imul hx hb dL_cell_17 ?_
    have g := g.eqw rfl
    exact f_i (()) S hr hk0 g trivial dL_cell_18
  · refine lv_aload_n hx hb dL_cell_6 rfl (lv_at hl 0 rfl) ?_
    refine lv_iload_n hx hb dL_cell_7 rfl (lv_at hl 1 rfl) ?_
    refine va_sld hx hb hX9 hX9l hX9n g.2.2.2.1 (ce_in hk c_3) dL_cell_8 ?_
    refine lv_goto (tgt := 18) hx hb dL_cell_9 (by decide) ?_
    have g := g.eqw rfl
    exact f_i (()) S hr hk0 g trivial dL_cell_18
set_option maxHeartbeats 4000000 in
set_option maxRecDepth 100000 in
theorem d_init (l : Launch) (G : gT) (a : Nat) : ∀ sz : Nat, Met l yX3_init (wsG yX3_init cX3_init 1 none) (rmC 1 30 1 0) (va_Pc [.ref a] (preX G ([(a, simV .null (fun _ _ => 0) 1)]) sz)) (QXv G (fun (u : Nat → Nat) => u 0 = a) (fun (u : Nat → Nat) => swl G u 0 Fz 1) ([(a, simV .null (fun _ _ => 0) 1)]) sz) 1 0 (va_A ([(a, simV .null (fun _ _ => 0) 1)]) sz) := by
  refine mk_Y (own := "ShadowPoolLaw$Sim") (Qs := fun sz => QXv G (fun (u : Nat → Nat) => u 0 = a) (fun (u : Nat → Nat) => swl G u 0 Fz 1) ([(a, simV .null (fun _ _ => 0) 1)]) sz) (by decide +kernel) rfl (Nat.le_of_ble_eq_true rfl) ?_
  intro p e s m args below meth c ls hr hk0 hnm S g hl
  have hl : lv_has ls 1 [(0, .ref a)] := hl
  have hx := S.1
  have hb := S.2.1
  have g := g.eqw (List.append_nil _).symm
  refine lv_aload_n hx hb dX3_init_0 rfl (lv_at hl 0 rfl) ?_
  refine W.objInit hx hb S.2.2.2.1 (S.2.2.2.2 _ q431) (S.2.2.2.2 _ q18) (S.2.2.2.2 _ q19) rfl (by rw [S.2.2.1]; exact hl.1) rfl dX3_init_1 (Nat.le_of_ble_eq_true rfl) (Nat.le_of_ble_eq_true rfl) ?_
  refine W.eq (g2 := F0 m 4 ls []) rfl ?_
  refine lv_aload_n hx hb dX3_init_4 rfl (lv_at hl 0 rfl) ?_
  refine lv_bipush (v := 100) hx hb dX3_init_5 (by decide) ?_
  refine x_puto S g 1 (by decide) q435 dX3_init_7 (fun H locs g => ?_)
  refine lv_aload_n hx hb dX3_init_10 rfl (lv_at hl 0 rfl) ?_
  refine lv_iconst (v := 2) hx hb dX3_init_11 (by decide) ?_
  refine x_puto S g 2 (by decide) q437 dX3_init_12 (fun H locs g => ?_)
  refine lv_aload_n hx hb dX3_init_15 rfl (lv_at hl 0 rfl) ?_
  refine lv_bipush (v := 30) hx hb dX3_init_16 (by decide) ?_
  refine x_puto S g 3 (by decide) q439 dX3_init_18 (fun H locs g => ?_)
  refine lv_aload_n hx hb dX3_init_21 rfl (lv_at hl 0 rfl) ?_
  refine lv_iconst (v := 0) hx hb dX3_init_22 (by decide) ?_
  refine x_anew (len := 0) S g q432 rfl (by omega) (Nat.le_of_ble_eq_true rfl) (Nat.le_of_ble_eq_true rfl) dX3_init_23 (fun q23_0 H g => ?_)
  have g := g.perm (pm2 _ _ _ )
  refine x_puta (r := q23_0) S g q444 dX3_init_26 (fun H locs g => ?_)
  have g := g.perm (pm2 _ _ _)
  have g := g.rr (g := fun i => some ((fun _ : Nat => a) i)) (fun i hi => absurd hi (Nat.not_lt_zero i))
  have g := g.perm (pm2 _ _ _)
  have g := g.eqw (show _ = [(a, simO q23_0 Fz 1)] ++ ([(q23_0, arrR G 0 (fun i => some ((fun _ : Nat => a) i)))] ++ (crow G (fun _ => a) 0 Fz 1 ++ [])) from by rw [simO_congr q23_0 (F' := Fz) (b' := 1) fz_eq]; rfl)
  have g := g.eqw (swl_make G _ 0 Fz 1 _ _ [])
  refine W.widen (k := 1) (n := 0) (by omega) (by omega) ?_
  have g := g.eqw (List.append_nil _)
  exact f_v (mkA a q23_0 (fun _ => a)) S hr hk0 g rfl dX3_init_29
set_option maxHeartbeats 4000000 in
set_option maxRecDepth 100000 in
theorem d_add (l : Launch) (G : gT) (A : Nat → Nat) (n : Nat) (F : Fs) (b : Nat) (hi_ : Int32) (sk : Int32) (nt : Int32) (hB : b = 1 ∨ b = 2) (hn8 : n < 8) : ∀ sz : Nat, Met l yX3_add (wsG yX3_add cX3_add 6 none) (rmC 0 0 2 15) (va_Pc [.ref (A 0), .int hi_, .int sk, .int nt] (preX G (swl G A n F b) sz)) (QXv G (fun (u : Nat → Nat) => u 0 = A 0) (fun (u : Nat → Nat) => swl G u ((n + 1)) (entF F b n hi_ sk nt) b) (swl G A n F b) sz) 2 15 (va_A (swl G A n F b) sz) := by
  refine mk_Y (own := "ShadowPoolLaw$Sim") (Qs := fun sz => QXv G (fun (u : Nat → Nat) => u 0 = A 0) (fun (u : Nat → Nat) => swl G u ((n + 1)) (entF F b n hi_ sk nt) b) (swl G A n F b) sz) (by decide +kernel) rfl (Nat.le_of_ble_eq_true rfl) ?_
  intro p e s m args below meth c ls hr hk0 hnm S g hl
  have hl : lv_has ls 6 [(0, .ref (A 0)), (1, .int hi_), (2, .int sk), (3, .int nt)] := hl
  have hx := S.1
  have hb := S.2.1
  have g := g.eqw (List.append_nil _).symm
  refine lv_aload_n hx hb dX3_add_0 rfl (lv_at hl 0 rfl) ?_
  refine x_geta S g (List.mem_append_left _ (swl_m0 G _ _ _ _)) q444 dX3_add_1 ?_
  refine x_alen S g (List.mem_append_left _ (swl_m1 G _ _ _ _)) 2 rfl dX3_add_4 ?_
  refine lv_iconst (v := 1) hx hb dX3_add_5 (by decide) ?_
  refine lv_iadd hx hb dX3_add_6 ?_
  rw [show ((nI n) + 1 : Int32) = nI (n + 1) from (nI_1 n)]
  refine x_anew (len := (n + 1)) S g q432 rfl (by omega) (by show 0 + 1 ≤ 2; omega) (by show 0 + (n + 1) ≤ 15; omega) dX3_add_7 (fun q7_0 H g => ?_)
  refine lv_astore (lv' := [(4, .ref q7_0), (0, .ref (A 0)), (1, .int hi_), (2, .int sk), (3, .int nt)]) hx hb dX3_add_10 hl (by decide) rfl (fun ls hl => ?_)
  refine lv_iconst (v := 0) hx hb dX3_add_12 (by decide) ?_
  refine lv_istore (lv' := [(5, .int 0), (4, .ref q7_0), (0, .ref (A 0)), (1, .int hi_), (2, .int sk), (3, .int nt)]) hx hb dX3_add_13 hl (by decide) rfl (fun ls hl => ?_)
  have loop15 : ∀ (n_ : Nat) (i : Nat) (f : Nat → Option Nat) (H : Heap) (locs : List Loc) (ls : Array Slot) (hi : i + n_ = n) (hf : ∀ k, k < i → f k = some (A (2 + k))), GX G (va_A (swl G A n F b) s.heap.size) ([(q7_0, arrR G ((n + 1)) f)] ++ (swl G A n F b ++ [])) s H locs → lv_has ls 6 [(0, .ref (A 0)), (1, .int hi_), (2, .int sk), (3, .int nt), (4, .ref q7_0), (5, .int (nI i))] → W p l e (rmC 0 0 2 15) s m args below meth c H locs (1) (n + 1) (MQ below (QXv G (fun (u : Nat → Nat) => u 0 = A 0) (fun (u : Nat → Nat) => swl G u ((n + 1)) (entF F b n hi_ sk nt) b) (swl G A n F b) s.heap.size) args s 2 15 (va_A (swl G A n F b) s.heap.size)) (F0 m 15 ls []) := by
    intro n_
    induction n_ with
    | zero =>
      intro i f H locs ls hi hf g hl
      refine lv_iload hx hb dX3_add_15 (lv_at hl 5 rfl) ?_
      refine lv_aload_n hx hb dX3_add_17 rfl (lv_at hl 0 rfl) ?_
      refine x_geta S g (List.mem_append_right _ (List.mem_append_left _ (swl_m0 G _ _ _ _))) q444 dX3_add_18 ?_
      refine x_alen S g (List.mem_append_right _ (List.mem_append_left _ (swl_m1 G _ _ _ _))) 2 rfl dX3_add_21 ?_
      refine lv_icmp_ge (tgt := 43) hx hb dX3_add_22 (by decide) (fun c_22 => ?_) (fun c9 => absurd (nI_le (by omega) (by omega)) c9)
      refine lv_aload hx hb dX3_add_43 (lv_at hl 4 rfl) ?_
      refine lv_aload_n hx hb dX3_add_45 rfl (lv_at hl 0 rfl) ?_
      refine x_geta S g (List.mem_append_right _ (List.mem_append_left _ (swl_m0 G _ _ _ _))) q444 dX3_add_46 ?_
      refine x_alen S g (List.mem_append_right _ (List.mem_append_left _ (swl_m1 G _ _ _ _))) 2 rfl dX3_add_49 ?_
      refine lv_bipush (v := 6) hx hb dX3_add_50 (by decide) ?_
      refine x_newa (len := 6) S g q467 rfl (by omega) (by show 1 + 1 ≤ 2; omega) (by show n + 1 + 6 ≤ 15; omega) dX3_add_52 (fun q52_1 H g => ?_)
      refine lv_dup hx hb dX3_add_54 rfl ?_
      refine lv_iconst (v := 0) hx hb dX3_add_55 (by decide) ?_
      refine lv_iload_n hx hb dX3_add_56 rfl (lv_at hl 1 rfl) ?_
      refine x_iast S g (by omega) 0 rfl (by decide) dX3_add_57 (fun H locs g => ?_)
      refine lv_dup hx hb dX3_add_58 rfl ?_
      refine lv_iconst (v := 1) hx hb dX3_add_59 (by decide) ?_
      refine lv_iload_n hx hb dX3_add_60 rfl (lv_at hl 2 rfl) ?_
      refine x_iast S g (by omega) 1 rfl (by decide) dX3_add_61 (fun H locs g => ?_)
      refine lv_dup hx hb dX3_add_62 rfl ?_
      refine lv_iconst (v := 2) hx hb dX3_add_63 (by decide) ?_
      refine lv_iload_n hx hb dX3_add_64 rfl (lv_at hl 3 rfl) ?_
      refine x_iast S g (by omega) 2 rfl (by decide) dX3_add_65 (fun H locs g => ?_)
      refine lv_dup hx hb dX3_add_66 rfl ?_
      refine lv_iconst (v := 3) hx hb dX3_add_67 (by decide) ?_
      refine lv_iconst (v := 0) hx hb dX3_add_68 (by decide) ?_
      refine x_iast S g (by omega) 3 rfl (by decide) dX3_add_69 (fun H locs g => ?_)
      refine lv_dup hx hb dX3_add_70 rfl ?_
      refine lv_iconst (v := 4) hx hb dX3_add_71 (by decide) ?_
      refine lv_iconst (v := 1) hx hb dX3_add_72 (by decide) ?_
      refine x_iast S g (by omega) 4 rfl (by decide) dX3_add_73 (fun H locs g => ?_)
      refine lv_dup hx hb dX3_add_74 rfl ?_
      refine lv_iconst (v := 5) hx hb dX3_add_75 (by decide) ?_
      refine lv_iconst (v := 0) hx hb dX3_add_76 (by decide) ?_
      refine x_iast S g (by omega) 5 rfl (by decide) dX3_add_77 (fun H locs g => ?_)
      have g := g.perm (pm2 _ _ _ )
      refine x_aast S g (List.mem_append_left _ List.mem_cons_self) (by omega) n rfl (by omega) dX3_add_78 (fun H locs g => ?_)
      refine lv_aload_n hx hb dX3_add_79 rfl (lv_at hl 0 rfl) ?_
      refine lv_aload hx hb dX3_add_80 (lv_at hl 4 rfl) ?_
      have g := g.perm (pm3 _ _ _ _ )
      have g := g.eqw (swl_open G A n F b _)
      refine x_puta (r := q7_0) (v := .ref (A 1)) (F := F) (b := b) S g q444 dX3_add_82 (fun H locs g => ?_)
      have g := g.perm (pm3 _ _ _ _ )
      have g := g.perm (pm2 _ _ _ )
      have g := g.perm (pm4 _ _ _ _ _ )
      have g := g.perm (pm5 _ _ _ _ _ _ )
      have g := g.sl (List.Sublist.append (List.Sublist.refl _) (List.Sublist.append (List.Sublist.refl _) (List.Sublist.append (List.Sublist.refl _) (List.Sublist.append (List.Sublist.refl _) (List.nil_sublist _)))))
      have hin : i = n := by omega
      have hf : ∀ k, k < n → f k = some (A (2 + k)) := fun k hk => hf k (by omega)
      have g := g.ri (g := rowS (entF F b n hi_ sk nt) (wb b n)) (fun j hj => ent_row hB hj)
      have g := g.perm (pm4 _ _ _ _ _)
      have g := g.eqw (show _ = crow G (fun k => if k = n then q52_1 else A (2 + k)) (n + 1) (entF F b n hi_ sk nt) b ++ ([(q7_0, arrR G (n + 1) (va_up f n (some q52_1)))] ++ ([(A 0, simO q7_0 (entF F b n hi_ sk nt) b)] ++ [])) from by rw [ent_crow G A q52_1 hB, simO_congr q7_0 (ent_book (n := n) (hi := hi_) (sk := sk) (nt := nt) hB)]; simp only [List.append_assoc])
      have g := g.perm (pm3 _ _ _ _)
      have g := g.perm (pm3 _ _ _ _)
      have g := g.rr (g := fun k => some ((fun k => if k = n then q52_1 else A (2 + k)) k)) (fun k hk => by unfold va_up; by_cases e9 : k = n; (· simp [e9]); (· simp [e9]; exact hf k (by omega)))
      have g := g.perm (pm2 _ _ _)
      have g := g.eqw (swl_make G _ (n + 1) (entF F b n hi_ sk nt) b _ _ [])
      refine W.widen (k := 2) (n := 15) (by omega) (by omega) ?_
      have g := g.eqw (List.append_nil _)
      exact f_v (mkA (A 0) q7_0 (fun k => if k = n then q52_1 else A (2 + k))) S hr hk0 g rfl dX3_add_85
    | succ n_ ih_15 =>
      intro i f H locs ls hi hf g hl
      have hin : i < n := by omega
      refine lv_iload hx hb dX3_add_15 (lv_at hl 5 rfl) ?_
      refine lv_aload_n hx hb dX3_add_17 rfl (lv_at hl 0 rfl) ?_
      refine x_geta S g (List.mem_append_right _ (List.mem_append_left _ (swl_m0 G _ _ _ _))) q444 dX3_add_18 ?_
      refine x_alen S g (List.mem_append_right _ (List.mem_append_left _ (swl_m1 G _ _ _ _))) 2 rfl dX3_add_21 ?_
      refine lv_icmp_ge (tgt := 43) hx hb dX3_add_22 (by decide) (fun c9 => absurd c9 (nI_ge (by omega) (by omega))) (fun c_22 => ?_)
      refine lv_aload hx hb dX3_add_25 (lv_at hl 4 rfl) ?_
      refine lv_iload hx hb dX3_add_27 (lv_at hl 5 rfl) ?_
      refine lv_aload_n hx hb dX3_add_29 rfl (lv_at hl 0 rfl) ?_
      refine x_geta S g (List.mem_append_right _ (List.mem_append_left _ (swl_m0 G _ _ _ _))) q444 dX3_add_30 ?_
      refine lv_iload hx hb dX3_add_33 (lv_at hl 5 rfl) ?_
      refine x_aald (v := A (2 + i)) S g (List.mem_append_right _ (List.mem_append_left _ (swl_m1 G _ _ _ _))) (by omega) i rfl (by omega) rfl dX3_add_35 ?_
      refine x_aast S g (List.mem_append_left _ (swl_mr G _ _ _ (i := i) (by omega))) (by omega) i rfl (by omega) dX3_add_36 (fun H locs g => ?_)
      refine lv_iinc (v := nI (i + 1)) (lv' := [(5, .int (nI (i + 1))), (0, .ref (A 0)), (1, .int hi_), (2, .int sk), (3, .int nt), (4, .ref q7_0)]) hx hb dX3_add_37 hl (k := 5) rfl (nI_1 i) (by decide) rfl (fun ls hl => ?_)
      refine lv_goto (tgt := 15) hx hb dX3_add_40 (by decide) ?_
      exact ih_15 (i + 1) (va_up f i (some (A (2 + i)))) _ _ _ (by omega) (fun k hk => by unfold va_up; by_cases e9 : k = i; (· rw [if_pos e9, e9]); (· rw [if_neg e9]; exact hf k (by omega))) g (lv_sub hl [1, 2, 3, 4, 5, 0] rfl)
  refine W.widen (k := 1) (n := n + 1) (by omega) (by omega) ?_
  exact loop15 n 0 (fun _ => none) _ _ _ (by omega) (fun k hk => absurd hk (Nat.not_lt_zero k)) g (lv_sub hl [2, 3, 4, 5, 1, 0] rfl)
set_option maxHeartbeats 4000000 in
set_option maxRecDepth 100000 in
theorem d_copy (l : Launch) (G : gT) (A : Nat → Nat) (n : Nat) (F : Fs) (b : Nat) (hB : b = 1 ∨ b = 2) (hn8 : n ≤ 8) : ∀ sz : Nat, Met l yX3_copy (wsG yX3_copy cX3_copy 3 (some (.object "ShadowPoolLaw$Sim"))) (rmC 2 50 11 63) (va_Pc [.ref (A 0)] (preX G (swl G A n F b) sz)) (QXq G (fun (r : Option Nat) (u : Nat → Nat) => r = some (u 0)) (fun (u : Nat → Nat) => swl G u n F b ++ swl G A n F b) (swl G A n F b) sz) 11 63 (va_A (swl G A n F b) sz) := by
  refine mk_Y (own := "ShadowPoolLaw$Sim") (Qs := fun sz => QXq G (fun (r : Option Nat) (u : Nat → Nat) => r = some (u 0)) (fun (u : Nat → Nat) => swl G u n F b ++ swl G A n F b) (swl G A n F b) sz) (by decide +kernel) rfl (Nat.le_of_ble_eq_true rfl) ?_
  intro p e s m args below meth c ls hr hk0 hnm S g hl
  have hl : lv_has ls 3 [(0, .ref (A 0))] := hl
  have hx := S.1
  have hb := S.2.1
  have g := g.eqw (List.append_nil _).symm
  refine x_news S g q426 (Nat.le_of_ble_eq_true rfl) (Nat.le_of_ble_eq_true rfl) dX3_copy_0 (fun q0_0 H g => ?_)
  refine lv_dup hx hb dX3_copy_3 rfl ?_
  refine y_cv (rest := [.ref q0_0]) g (y_I (nA := 0) (As := []) S g (d_init l G q0_0) q430 q4 q428 q429 rfl ⟨by decide +kernel, by decide +kernel, by decide +kernel⟩ rfl ⟨Nat.le_of_ble_eq_true rfl, Nat.le_of_ble_eq_true rfl⟩ hl.1 (Nat.le_of_ble_eq_true rfl) rfl ⟨Nat.le_of_ble_eq_true rfl, Nat.le_of_ble_eq_true rfl⟩ dX3_copy_4) (fun u4_1 H locs hp9 g => ?_)
  rw [← hp9]
  refine lv_astore_n (lv' := [(1, .ref (u4_1 0)), (0, .ref (A 0))]) hx hb dX3_copy_7 rfl hl (by decide) rfl (fun ls hl => ?_)
  refine lv_aload_n hx hb dX3_copy_8 rfl (lv_at hl 0 rfl) ?_
  refine lv_aload_n hx hb dX3_copy_9 rfl (lv_at hl 1 rfl) ?_
  refine x_geti S g (List.mem_append_right _ (List.mem_append_left _ (swl_m0 G _ _ _ _))) 0 (by decide) q434 dX3_copy_10 ?_
  refine x_puti S g (Or.inl rfl) 0 (by decide) q434 dX3_copy_13 (fun H locs g => ?_)
  refine lv_aload_n hx hb dX3_copy_16 rfl (lv_at hl 0 rfl) ?_
  refine lv_aload_n hx hb dX3_copy_17 rfl (lv_at hl 1 rfl) ?_
  refine x_geti S g (List.mem_append_right _ (List.mem_append_left _ (swl_m0 G _ _ _ _))) 1 (by decide) q435 dX3_copy_18 ?_
  refine x_puti S g (Or.inl rfl) 1 (by decide) q435 dX3_copy_21 (fun H locs g => ?_)
  refine lv_aload_n hx hb dX3_copy_24 rfl (lv_at hl 0 rfl) ?_
  refine lv_aload_n hx hb dX3_copy_25 rfl (lv_at hl 1 rfl) ?_
  refine x_geti S g (List.mem_append_right _ (List.mem_append_left _ (swl_m0 G _ _ _ _))) 2 (by decide) q437 dX3_copy_26 ?_
  refine x_puti S g (Or.inl rfl) 2 (by decide) q437 dX3_copy_29 (fun H locs g => ?_)
  refine lv_aload_n hx hb dX3_copy_32 rfl (lv_at hl 0 rfl) ?_
  refine lv_aload_n hx hb dX3_copy_33 rfl (lv_at hl 1 rfl) ?_
  refine x_geti S g (List.mem_append_right _ (List.mem_append_left _ (swl_m0 G _ _ _ _))) 3 (by decide) q439 dX3_copy_34 ?_
  refine x_puti S g (Or.inl rfl) 3 (by decide) q439 dX3_copy_37 (fun H locs g => ?_)
  refine lv_aload_n hx hb dX3_copy_40 rfl (lv_at hl 0 rfl) ?_
  refine lv_aload_n hx hb dX3_copy_41 rfl (lv_at hl 1 rfl) ?_
  refine x_geti S g (List.mem_append_right _ (List.mem_append_left _ (swl_m0 G _ _ _ _))) 4 (by decide) q441 dX3_copy_42 ?_
  refine x_puti S g (Or.inl rfl) 4 (by decide) q441 dX3_copy_45 (fun H locs g => ?_)
  refine lv_aload_n hx hb dX3_copy_48 rfl (lv_at hl 0 rfl) ?_
  refine lv_aload_n hx hb dX3_copy_49 rfl (lv_at hl 1 rfl) ?_
  refine x_geti S g (List.mem_append_right _ (List.mem_append_left _ (swl_m0 G _ _ _ _))) 5 (by decide) q443 dX3_copy_50 ?_
  refine x_puti S g (Or.inl rfl) 5 (by decide) q443 dX3_copy_53 (fun H locs g => ?_)
  refine lv_aload_n hx hb dX3_copy_56 rfl (lv_at hl 0 rfl) ?_
  refine lv_aload_n hx hb dX3_copy_57 rfl (lv_at hl 1 rfl) ?_
  refine x_geta S g (List.mem_append_right _ (List.mem_append_left _ (swl_m0 G _ _ _ _))) q444 dX3_copy_58 ?_
  refine x_alen S g (List.mem_append_right _ (List.mem_append_left _ (swl_m1 G _ _ _ _))) 2 rfl dX3_copy_61 ?_
  refine x_anew (len := n) S g q432 rfl (by omega) (by show 0 + 1 + 1 + 1 ≤ 11; omega) (by show 0 + 7 + n ≤ 63; omega) dX3_copy_62 (fun q62_2 H g => ?_)
  have g := g.perm (pm2 _ _ _ )
  have g := g.eqw (swl_open G u4_1 0 (up2 (up2 (up2 (up2 (up2 (up2 Fz 1 0 (F b 0)) 1 1 (F b 1)) 1 2 (F b 2)) 1 3 (F b 3)) 1 4 (F b 4)) 1 5 (F b 5)) 1 _)
  refine x_puta (r := q62_2) (v := .ref (u4_1 1)) (F := up2 (up2 (up2 (up2 (up2 (up2 Fz 1 0 (F b 0)) 1 1 (F b 1)) 1 2 (F b 2)) 1 3 (F b 3)) 1 4 (F b 4)) 1 5 (F b 5)) (b := 1) S g q444 dX3_copy_65 (fun H locs g => ?_)
  refine lv_iconst (v := 0) hx hb dX3_copy_68 (by decide) ?_
  refine lv_istore_n (lv' := [(2, .int 0), (1, .ref (u4_1 0)), (0, .ref (A 0))]) hx hb dX3_copy_69 rfl hl (by decide) rfl (fun ls hl => ?_)
  have loop70 : ∀ (n_ : Nat) (i : Nat) (Bq : Nat → Nat) (f : Nat → Option Nat) (H : Heap) (locs : List Loc) (ls : Array Slot) (hi : i + n_ = n) (hf : ∀ k, k < i → f k = some (Bq k)), GX G (va_A (swl G A n F b) s.heap.size) (crow G Bq i F b ++ ([(u4_1 0, simO q62_2 (up2 (up2 (up2 (up2 (up2 (up2 Fz 1 0 (F b 0)) 1 1 (F b 1)) 1 2 (F b 2)) 1 3 (F b 3)) 1 4 (F b 4)) 1 5 (F b 5)) 1)] ++ ([(q62_2, arrR G n f)] ++ (swl G A n F b ++ [])))) s H locs → lv_has ls 3 [(0, .ref (A 0)), (1, .ref (u4_1 0)), (2, .int (nI i))] → W p l e (rmC 2 50 11 63) s m args below meth c H locs (3 + i) (7 + n + 6 * i) (MQ below (QXq G (fun (r : Option Nat) (u : Nat → Nat) => r = some (u 0)) (fun (u : Nat → Nat) => swl G u n F b ++ swl G A n F b) (swl G A n F b) s.heap.size) args s 11 63 (va_A (swl G A n F b) s.heap.size)) (F0 m 70 ls []) := by
    intro n_
    induction n_ with
    | zero =>
      intro i Bq f H locs ls hi hf g hl
      refine lv_iload_n hx hb dX3_copy_70 rfl (lv_at hl 2 rfl) ?_
      refine lv_aload_n hx hb dX3_copy_71 rfl (lv_at hl 0 rfl) ?_
      refine x_geta S g (List.mem_append_right _ (List.mem_append_right _ (List.mem_append_right _ (List.mem_append_left _ (swl_m0 G _ _ _ _))))) q444 dX3_copy_72 ?_
      refine x_alen S g (List.mem_append_right _ (List.mem_append_right _ (List.mem_append_right _ (List.mem_append_left _ (swl_m1 G _ _ _ _))))) 2 rfl dX3_copy_75 ?_
      refine lv_icmp_ge (tgt := 103) hx hb dX3_copy_76 (by decide) (fun c_76 => ?_) (fun c9 => absurd (nI_le (by omega) (by omega)) c9)
      refine lv_aload_n hx hb dX3_copy_103 rfl (lv_at hl 1 rfl) ?_
      have hin : i = n := by omega
      rw [hin] at g
      have hf : ∀ k, k < n → f k = some (Bq k) := fun k hk => hf k (by omega)
      have g := g.perm (pm4 _ _ _ _ _ )
      have g := g.perm (pm2 _ _ _ )
      have g := g.perm (pm3 _ _ _ _ )
      have g := g.perm (pm4 _ _ _ _ _ )
      have g := g.rr (g := fun k => some (Bq k)) hf
      have g := g.perm (pm2 _ _ _)
      have g := g.eqw (show _ = [(u4_1 0, simO q62_2 F b)] ++ ([(q62_2, arrR G n (fun k => some (Bq k)))] ++ (crow G Bq n F b ++ (swl G A n F b ++ []))) from by rw [simO_congr q62_2 cp_eq])
      have g := g.eqw (swl_make G Bq n F b _ _ _)
      refine W.widen (k := 11) (n := 63) (by omega) (by omega) ?_
      have g := g.eqw (show _ = swl G (mkA (u4_1 0) q62_2 Bq) n F b ++ swl G A n F b from by simp only [List.append_nil, List.append_assoc])
      exact f_q (mkA (u4_1 0) q62_2 Bq) S hr (Or.inl ⟨_, rfl⟩) hk0 g rfl dX3_copy_104
    | succ n_ ih_70 =>
      intro i Bq f H locs ls hi hf g hl
      have hin : i < n := by omega
      refine lv_iload_n hx hb dX3_copy_70 rfl (lv_at hl 2 rfl) ?_
      refine lv_aload_n hx hb dX3_copy_71 rfl (lv_at hl 0 rfl) ?_
      refine x_geta S g (List.mem_append_right _ (List.mem_append_right _ (List.mem_append_right _ (List.mem_append_left _ (swl_m0 G _ _ _ _))))) q444 dX3_copy_72 ?_
      refine x_alen S g (List.mem_append_right _ (List.mem_append_right _ (List.mem_append_right _ (List.mem_append_left _ (swl_m1 G _ _ _ _))))) 2 rfl dX3_copy_75 ?_
      refine lv_icmp_ge (tgt := 103) hx hb dX3_copy_76 (by decide) (fun c9 => absurd c9 (nI_ge (by omega) (by omega))) (fun c_76 => ?_)
      refine lv_aload_n hx hb dX3_copy_79 rfl (lv_at hl 1 rfl) ?_
      refine x_geta S g (List.mem_append_right _ (List.mem_append_left _ List.mem_cons_self)) q444 dX3_copy_80 ?_
      refine lv_iload_n hx hb dX3_copy_83 rfl (lv_at hl 2 rfl) ?_
      refine lv_aload_n hx hb dX3_copy_84 rfl (lv_at hl 0 rfl) ?_
      refine x_geta S g (List.mem_append_right _ (List.mem_append_right _ (List.mem_append_right _ (List.mem_append_left _ (swl_m0 G _ _ _ _))))) q444 dX3_copy_85 ?_
      refine lv_iload_n hx hb dX3_copy_88 rfl (lv_at hl 2 rfl) ?_
      refine x_aald (v := A (2 + i)) S g (List.mem_append_right _ (List.mem_append_right _ (List.mem_append_right _ (List.mem_append_left _ (swl_m1 G _ _ _ _))))) (by omega) i rfl (by omega) rfl dX3_copy_89 ?_
      refine x_clone S g (List.mem_append_right _ (List.mem_append_right _ (List.mem_append_right _ (List.mem_append_left _ (swl_mr G _ _ _ (i := i) (by omega)))))) hl.1 q461 qSame q463 q464 qSel (Nat.le_of_ble_eq_true rfl) (Nat.le_of_ble_eq_true rfl) (by show 3 + i + 1 ≤ 11; omega) (by show 7 + n + 6 * i + 6 ≤ 63; omega) dX3_copy_90 (fun q90_3 H g => ?_)
      refine x_cast S g (List.mem_append_left _ List.mem_cons_self) q432 dX3_copy_93 ?_
      have g := g.perm (pm4 _ _ _ _ _ )
      refine x_aast S g (List.mem_append_left _ List.mem_cons_self) (by omega) i rfl (by omega) dX3_copy_96 (fun H locs g => ?_)
      refine lv_iinc (v := nI (i + 1)) (lv' := [(2, .int (nI (i + 1))), (0, .ref (A 0)), (1, .ref (u4_1 0))]) hx hb dX3_copy_97 hl (k := 2) rfl (nI_1 i) (by decide) rfl (fun ls hl => ?_)
      refine lv_goto (tgt := 70) hx hb dX3_copy_100 (by decide) ?_
      have g := g.perm (pm2 _ _ _ )
      have g := g.perm (pm3 _ _ _ _ )
      have g := g.eqw (show _ = crow G ((fun k => if k = i then q90_3 else Bq k)) ((i + 1)) F b ++ ([(q62_2, arrR G n (va_up f i (some q90_3)))] ++ ([(u4_1 0, simO q62_2 (up2 (up2 (up2 (up2 (up2 (up2 Fz 1 0 (F b 0)) 1 1 (F b 1)) 1 2 (F b 2)) 1 3 (F b 3)) 1 4 (F b 4)) 1 5 (F b 5)) 1)] ++ (swl G A n F b ++ []))) from by rw [crow_s]; simp only [List.append_assoc])
      have g := g.perm (pm4 _ _ _ _ _ )
      have g := g.perm (pm3 _ _ _ _ )
      have g := g.perm (pm4 _ _ _ _ _ )
      have g := g.perm (pm4 _ _ _ _ _ )
      refine W.widen (k := 3 + (i + 1)) (n := 7 + n + 6 * (i + 1)) (by omega) (by omega) ?_
      exact ih_70 (i + 1) (fun k => if k = i then q90_3 else Bq k) (va_up f i (some q90_3)) _ _ _ (by omega) (fun k hk => by unfold va_up; by_cases e9 : k = i; (· simp [e9]); (· simp [e9]; exact hf k (by omega))) g (lv_sub hl [1, 2, 0] rfl)
  have g := g.perm (pm5 _ _ _ _ _ _ )
  have g := g.perm (pm5 _ _ _ _ _ _ )
  have g := g.perm (pm3 _ _ _ _ )
  have g := g.perm (pm5 _ _ _ _ _ _ )
  have g := g.sl (List.Sublist.append (List.Sublist.refl _) (List.Sublist.append (List.Sublist.refl _) (List.Sublist.append (List.Sublist.refl _) (List.Sublist.append (List.Sublist.refl _) (List.nil_sublist _)))))
  refine W.widen (k := 3 + 0) (n := 7 + n + 6 * 0) (by omega) (by omega) ?_
  exact loop70 n 0 (fun _ => 0) (fun _ => none) _ _ _ (by omega) (fun k hk => absurd hk (Nat.not_lt_zero k)) g (lv_sub hl [2, 1, 0] rfl)
