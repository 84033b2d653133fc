def aset (a : Nat) (u : Nat → Nat) : Nat → Nat := fun k => if k = 0 then a else u k
theorem aset_eq {a : Nat} {u : Nat → Nat} (h : u 0 = a) : aset a u = u := by
  funext k
  unfold aset
  by_cases e : k = 0
  · subst e; rw [if_pos rfl, h]
  · rw [if_neg e]
set_option maxHeartbeats 4000000 in
set_option maxRecDepth 100000 in
theorem d_act (l : Launch) (G : gT) (hfl : l.stackTraces = false) (A : Nat → Nat) (n : Nat) (F : Fs) (h : Nat) (x : Int32) (hIn : In F n h) (hhB : h ≤ 9000) : ∀ sz : Nat, Met l yL_act (wsA yL_act cL_act 9 (some .boolean) [((26 : Nat), (174 : Nat), (509 : Nat), (62 : Nat)), ((175 : Nat), (227 : Nat), (509 : Nat), (62 : Nat)), ((228 : Nat), (282 : Nat), (509 : Nat), (62 : Nat)), ((283 : Nat), (320 : Nat), (509 : Nat), (62 : Nat)), ((321 : Nat), (357 : Nat), (509 : Nat), (62 : Nat)), ((358 : Nat), (459 : Nat), (509 : Nat), (62 : Nat)), ((460 : Nat), (508 : Nat), (509 : Nat), (62 : Nat))]) (rmC 7 138 480 1920) (va_Pc [.ref (gA G 0), .ref (A 0), .int x] (preX G (wld G F 0 ++ swl G A n F 1) sz)) (QXi G (fun (r : Int32) (u : (Nat → Nat) × Fs × Nat × Nat) => r = 1 ∧ u.1 0 = A 0 ∧ In u.2.1 u.2.2.1 u.2.2.2 ∧ u.2.2.2 ≤ h + 60) (fun (u : (Nat → Nat) × Fs × Nat × Nat) => wld G u.2.1 0 ++ swl G u.1 u.2.2.1 u.2.1 1) (wld G F 0 ++ swl G A n F 1) sz) 480 1920 (va_A (wld G F 0 ++ swl G A n F 1) sz) := by
  refine mk_A (own := "ShadowPoolLaw") (Qs := fun sz => QXi G (fun (r : Int32) (u : (Nat → Nat) × Fs × Nat × Nat) => r = 1 ∧ u.1 0 = A 0 ∧ In u.2.1 u.2.2.1 u.2.2.2 ∧ u.2.2.2 ≤ h + 60) (fun (u : (Nat → Nat) × Fs × Nat × Nat) => wld G u.2.1 0 ++ swl G u.1 u.2.2.1 u.2.1 1) (wld G F 0 ++ swl G A n F 1) sz) (by decide +kernel) rfl (Nat.le_of_ble_eq_true rfl) ?_
  intro p e s m args below meth c ls hr hk0 htab S g hl
  have hl : lv_has ls 9 [(0, .ref (gA G 0)), (1, .ref (A 0)), (2, .int x)] := hl
  have hx := S.1
  have hb := S.2.1
  have g := g.eqw (show _ = _ ++ (_ ++ []) from by rw [List.append_nil])
  have hn8 := hIn.n8
  refine lv_aload_n hx hb dL_act_0 rfl (lv_at hl 1 rfl) ?_
  refine x_geta S g (List.mem_append_right _ (List.mem_append_left _ (swl_m0 G A _ _ _))) q445 dL_act_1 ?_
  refine x_alen S g (List.mem_append_right _ (List.mem_append_left _ (swl_m1 G A _ _ _))) 2 rfl dL_act_4 ?_
  refine lv_istore_n (lv' := [(3, .int (nI n)), (0, .ref (gA G 0)), (1, .ref (A 0)), (2, .int x)]) hx hb dL_act_5 rfl hl (by decide) rfl (fun ls hl => ?_)
  refine lv_iload_n hx hb dL_act_6 rfl (lv_at hl 0 rfl) ?_
  refine lv_if_ne (tgt := 14) hx hb dL_act_7 (by decide) (fun c_7 => ?_) (fun c_7 => ?_)
  · have hnp : 1 ≤ n := by rcases Nat.eq_zero_or_pos n with e9 | e9; (· exact absurd (by rw [e9]; rfl) c_7); (· exact e9)
    refine lv_iload_n hx hb dL_act_14 rfl (lv_at hl 3 rfl) ?_
    refine lv_iconst (v := 5) hx hb dL_act_15 (by decide) ?_
    refine lv_ishr hx hb dL_act_16 ?_
    refine lv_topi (fun vz16_0 evz16_0 => ?_)
    refine lv_iload_n hx hb dL_act_17 rfl (lv_at hl 0 rfl) ?_
    have g := g.eqw (List.nil_append _).symm
    refine y_ci (rest := []) (wc := []) g (y_S (nA := 2) (As := [.int vz16_0, .int (nI n)]) (wc := []) S g (d_below l G vz16_0 n (by omega) (by omega)) (lw_S q526 q527 q0 q528) ⟨by decide +kernel, by decide +kernel, by decide +kernel⟩ rfl ⟨Nat.le_of_ble_eq_true rfl, Nat.le_of_ble_eq_true rfl⟩ hl.1 (Nat.le_of_ble_eq_true rfl) rfl ⟨Nat.le_of_ble_eq_true rfl, Nat.le_of_ble_eq_true rfl⟩ dL_act_18) (fun r9 u18_1 H locs hp9 g => ?_)
    have g := g.eqw (List.nil_append _)
    obtain ⟨z18, hz18, ez18⟩ := hp9
    subst ez18
    refine lv_istore (lv' := [(4, .int (nI z18)), (3, .int (nI n)), (0, .ref (gA G 0)), (1, .ref (A 0)), (2, .int x)]) hx hb dL_act_21 hl (by decide) rfl (fun ls hl => ?_)
    refine lv_iconst (v := 1) hx hb dL_act_23 (by decide) ?_
    refine lv_istore (lv' := [(5, .int 1), (4, .int (nI z18)), (3, .int (nI n)), (0, .ref (gA G 0)), (1, .ref (A 0)), (2, .int x)]) hx hb dL_act_24 hl (by decide) rfl (fun ls hl => ?_)
    refine lv_iload_n hx hb dL_act_26 rfl (lv_at hl 2 rfl) ?_
    refine lv_if_ne (tgt := 34) hx hb dL_act_27 (by decide) (fun c_27 => ?_) (fun c9 => absurd c9 c_7)
    refine lv_iload_n hx hb dL_act_34 rfl (lv_at hl 5 rfl) ?_
    refine lv_bipush (v := 14) hx hb dL_act_35 (by decide) ?_
    have g := g.eqw (List.nil_append _).symm
    refine y_ci (rest := []) (wc := []) g (y_S (nA := 2) (As := [.int x, .int 14]) (wc := []) S g (d_below l G x 14 (by omega) (by omega)) (lw_S q526 q527 q0 q528) ⟨by decide +kernel, by decide +kernel, by decide +kernel⟩ rfl ⟨Nat.le_of_ble_eq_true rfl, Nat.le_of_ble_eq_true rfl⟩ hl.1 (Nat.le_of_ble_eq_true rfl) rfl ⟨Nat.le_of_ble_eq_true rfl, Nat.le_of_ble_eq_true rfl⟩ dL_act_37) (fun r9 u37_2 H locs hp9 g => ?_)
    have g := g.eqw (List.nil_append _)
    obtain ⟨z37, hz37, ez37⟩ := hp9
    subst ez37
    rcases (show z37 = 0 ∨ z37 = 1 ∨ z37 = 2 ∨ z37 = 3 ∨ z37 = 4 ∨ z37 = 5 ∨ z37 = 6 ∨ z37 = 7 ∨ 8 ≤ z37 by omega) with ez | ez | ez | ez | ez | ez | ez | ez | hz8
    · rw [ez]
      refine lv_tableIn (tgt := 88) (off := 48) hx hb dL_act_40 (by decide) (by decide) (by decide) (by decide) ?_
      refine lv_iload_n hx hb dL_act_88 rfl (lv_at hl 2 rfl) ?_
      refine lv_bipush (v := 8) hx hb dL_act_89 (by decide) ?_
      refine lv_icmp_ge (tgt := 98) hx hb dL_act_91 (by decide) (fun c_91 => ?_) (fun c_91 => ?_)
      · refine lv_iconst (v := 0) hx hb dL_act_98 (by decide) ?_
        refine lv_istore (lv' := [(5, .int 0), (4, .int (nI z18)), (3, .int (nI n)), (0, .ref (gA G 0)), (1, .ref (A 0)), (2, .int x)]) hx hb dL_act_99 hl (by decide) rfl (fun ls hl => ?_)
        refine lv_iconst (v := 1) hx hb dL_act_101 (by decide) ?_
        refine lv_iload_n hx hb dL_act_102 rfl (lv_at hl 5 rfl) ?_
        refine lv_iconst (v := 4) hx hb dL_act_103 (by decide) ?_
        refine lv_ishr hx hb dL_act_104 ?_
        refine lv_topi (fun vz104_3 evz104_3 => ?_)
        refine lv_bipush (v := 30) hx hb dL_act_105 (by decide) ?_
        have g := g.eqw (List.nil_append _).symm
        refine y_ci (rest := [.int 1]) (wc := []) g (y_S (nA := 2) (As := [.int vz104_3, .int 30]) (wc := []) S g (d_below l G vz104_3 30 (by omega) (by omega)) (lw_S q526 q527 q0 q528) ⟨by decide +kernel, by decide +kernel, by decide +kernel⟩ rfl ⟨Nat.le_of_ble_eq_true rfl, Nat.le_of_ble_eq_true rfl⟩ hl.1 (Nat.le_of_ble_eq_true rfl) rfl ⟨Nat.le_of_ble_eq_true rfl, Nat.le_of_ble_eq_true rfl⟩ dL_act_107) (fun r9 u107_4 H locs hp9 g => ?_)
        have g := g.eqw (List.nil_append _)
        obtain ⟨z107, hz107, ez107⟩ := hp9
        subst ez107
        refine lv_iadd hx hb dL_act_110 ?_
        rw [show (1 + (nI z107) : Int32) = nI (1 + z107) from (nI_add 1 z107)]
        refine lv_istore (lv' := [(6, .int (nI (1 + z107))), (5, .int 0), (4, .int (nI z18)), (3, .int (nI n)), (0, .ref (gA G 0)), (1, .ref (A 0)), (2, .int x)]) hx hb dL_act_111 hl (by decide) rfl (fun ls hl => ?_)
        refine lv_iload_n hx hb dL_act_113 rfl (lv_at hl 6 rfl) ?_
        refine lv_bipush (v := 7) hx hb dL_act_114 (by decide) ?_
        refine lv_ishr hx hb dL_act_116 ?_
        refine lv_topi (fun vz116_5 evz116_5 => ?_)
        refine lv_bipush (v := 6) hx hb dL_act_117 (by decide) ?_
        have g := g.eqw (List.nil_append _).symm
        refine y_ci (rest := []) (wc := []) g (y_S (nA := 2) (As := [.int vz116_5, .int 6]) (wc := []) S g (d_below l G vz116_5 6 (by omega) (by omega)) (lw_S q526 q527 q0 q528) ⟨by decide +kernel, by decide +kernel, by decide +kernel⟩ rfl ⟨Nat.le_of_ble_eq_true rfl, Nat.le_of_ble_eq_true rfl⟩ hl.1 (Nat.le_of_ble_eq_true rfl) rfl ⟨Nat.le_of_ble_eq_true rfl, Nat.le_of_ble_eq_true rfl⟩ dL_act_119) (fun r9 u119_6 H locs hp9 g => ?_)
        have g := g.eqw (List.nil_append _)
        obtain ⟨z119, hz119, ez119⟩ := hp9
        subst ez119
        refine lv_istore (lv' := [(7, .int (nI z119)), (6, .int (nI (1 + z107))), (5, .int 0), (4, .int (nI z18)), (3, .int (nI n)), (0, .ref (gA G 0)), (1, .ref (A 0)), (2, .int x)]) hx hb dL_act_122 hl (by decide) rfl (fun ls hl => ?_)
        refine lv_iload_n hx hb dL_act_124 rfl (lv_at hl 7 rfl) ?_
        refine lv_bipush (v := 6) hx hb dL_act_125 (by decide) ?_
        refine lv_ishr hx hb dL_act_127 ?_
        refine lv_topi (fun vz127_7 evz127_7 => ?_)
        refine lv_bipush (v := 10) hx hb dL_act_128 (by decide) ?_
        have g := g.eqw (List.nil_append _).symm
        refine y_ci (rest := []) (wc := []) g (y_S (nA := 2) (As := [.int vz127_7, .int 10]) (wc := []) S g (d_below l G vz127_7 10 (by omega) (by omega)) (lw_S q526 q527 q0 q528) ⟨by decide +kernel, by decide +kernel, by decide +kernel⟩ rfl ⟨Nat.le_of_ble_eq_true rfl, Nat.le_of_ble_eq_true rfl⟩ hl.1 (Nat.le_of_ble_eq_true rfl) rfl ⟨Nat.le_of_ble_eq_true rfl, Nat.le_of_ble_eq_true rfl⟩ dL_act_130) (fun r9 u130_8 H locs hp9 g => ?_)
        have g := g.eqw (List.nil_append _)
        obtain ⟨z130, hz130, ez130⟩ := hp9
        subst ez130
        refine lv_istore (lv' := [(8, .int (nI z130)), (7, .int (nI z119)), (6, .int (nI (1 + z107))), (5, .int 0), (4, .int (nI z18)), (3, .int (nI n)), (0, .ref (gA G 0)), (1, .ref (A 0)), (2, .int x)]) hx hb dL_act_133 hl (by decide) rfl (fun ls hl => ?_)
        refine lv_iload hx hb dL_act_135 (lv_at hl 3 rfl) ?_
        refine lv_if_eq (tgt := 150) hx hb dL_act_137 (by decide) (fun c_137 => ?_) (fun c9 => absurd rfl c9)
        refine lv_aload_n hx hb dL_act_150 rfl (lv_at hl 6 rfl) ?_
        refine lv_iload hx hb dL_act_151 (lv_at hl 2 rfl) ?_
        refine lv_iload hx hb dL_act_153 (lv_at hl 1 rfl) ?_
        refine lv_iload hx hb dL_act_155 (lv_at hl 0 rfl) ?_
        have hc9 := (nI_leI (a := 8) (by omega) (by omega)).mp c_91
        refine x_xc (nA := 3) (name := "java/lang/IllegalStateException") (As := [.int (nI (1 + z107)), .int (nI z119), .int (nI z130)]) (rest := []) S g (x_addWalker_full l hfl G F 0 (nI (1 + z107)) (nI z119) (nI z130) (by rw [hIn.c6]; congr 1; omega) (inR_N (lo := 1) (hi := 30) (by omega) (by omega) (by decide)) (inR_N (lo := 0) (hi := 5) (Nat.zero_le _) (by omega) (by decide)) (inR_N (lo := 0) (hi := 9) (Nat.zero_le _) (by omega) (by decide))) (lw_V q542 q543 q544 q1 q545) ⟨rfl, by decide +kernel, by decide +kernel, by decide +kernel⟩ rfl ⟨Nat.le_of_ble_eq_true rfl, Nat.le_of_ble_eq_true rfl⟩ hl.1 (Nat.le_of_ble_eq_true rfl) rfl ⟨Nat.le_of_ble_eq_true rfl, Nat.le_of_ble_eq_true rfl⟩ dL_act_157 [] ⟨26, 174, 509, 62⟩ [⟨175, 227, 509, 62⟩, ⟨228, 282, 509, 62⟩, ⟨283, 320, 509, 62⟩, ⟨321, 357, 509, 62⟩, ⟨358, 459, 509, 62⟩, ⟨460, 508, 509, 62⟩] htab (fun z hz => absurd hz List.not_mem_nil) (by decide) (by decide) q537 g.2.2.2.2.1.2.2.2.2.2.2.1 (fun H locs q g => ?_)
        refine lv_astore (lv' := [(6, .ref q), (8, .int (nI z130)), (7, .int (nI z119)), (5, .int 0), (4, .int (nI z18)), (3, .int (nI n)), (0, .ref (gA G 0)), (1, .ref (A 0)), (2, .int x)]) hx hb dL_act_509 hl (by decide) rfl (fun ls hl => ?_)
        refine lv_iload hx hb dL_act_511 (lv_at hl 3 rfl) ?_
        refine lv_if_ne (tgt := 520) hx hb dL_act_513 (by decide) (fun c9 => absurd rfl c9) (fun c_513 => ?_)
        refine lv_iconst (v := 1) hx hb dL_act_516 (by decide) ?_
        refine lv_goto (tgt := 521) hx hb dL_act_517 (by decide) ?_
        refine W.widen (k := 480) (n := 1920) (by omega) (by omega) ?_
        have g := g.eqw (show _ = wld G F 0 ++ swl G A n F 1 from by simp only [List.append_nil, List.append_assoc])
        exact f_z ((A, F, n, h)) S hr hk0 g (by first | exact Or.inl rfl | exact Or.inr rfl) ⟨rfl, rfl, hIn, (show h ≤ h + 60 from by omega)⟩ dL_act_521
      · refine lv_iconst (v := 1) hx hb dL_act_94 (by decide) ?_
        refine lv_goto (tgt := 99) hx hb dL_act_95 (by decide) ?_
        refine lv_istore (lv' := [(5, .int 1), (4, .int (nI z18)), (3, .int (nI n)), (0, .ref (gA G 0)), (1, .ref (A 0)), (2, .int x)]) hx hb dL_act_99 hl (by decide) rfl (fun ls hl => ?_)
        refine lv_iconst (v := 1) hx hb dL_act_101 (by decide) ?_
        refine lv_iload_n hx hb dL_act_102 rfl (lv_at hl 5 rfl) ?_
        refine lv_iconst (v := 4) hx hb dL_act_103 (by decide) ?_
        refine lv_ishr hx hb dL_act_104 ?_
        refine lv_topi (fun vz104_9 evz104_9 => ?_)
        refine lv_bipush (v := 30) hx hb dL_act_105 (by decide) ?_
        have g := g.eqw (List.nil_append _).symm
        refine y_ci (rest := [.int 1]) (wc := []) g (y_S (nA := 2) (As := [.int vz104_9, .int 30]) (wc := []) S g (d_below l G vz104_9 30 (by omega) (by omega)) (lw_S q526 q527 q0 q528) ⟨by decide +kernel, by decide +kernel, by decide +kernel⟩ rfl ⟨Nat.le_of_ble_eq_true rfl, Nat.le_of_ble_eq_true rfl⟩ hl.1 (Nat.le_of_ble_eq_true rfl) rfl ⟨Nat.le_of_ble_eq_true rfl, Nat.le_of_ble_eq_true rfl⟩ dL_act_107) (fun r9 u107_10 H locs hp9 g => ?_)
        have g := g.eqw (List.nil_append _)
        obtain ⟨z107, hz107, ez107⟩ := hp9
        subst ez107
        refine lv_iadd hx hb dL_act_110 ?_
        rw [show (1 + (nI z107) : Int32) = nI (1 + z107) from (nI_add 1 z107)]
        refine lv_istore (lv' := [(6, .int (nI (1 + z107))), (5, .int 1), (4, .int (nI z18)), (3, .int (nI n)), (0, .ref (gA G 0)), (1, .ref (A 0)), (2, .int x)]) hx hb dL_act_111 hl (by decide) rfl (fun ls hl => ?_)
        refine lv_iload_n hx hb dL_act_113 rfl (lv_at hl 6 rfl) ?_
        refine lv_bipush (v := 7) hx hb dL_act_114 (by decide) ?_
        refine lv_ishr hx hb dL_act_116 ?_
        refine lv_topi (fun vz116_11 evz116_11 => ?_)
        refine lv_bipush (v := 6) hx hb dL_act_117 (by decide) ?_
        have g := g.eqw (List.nil_append _).symm
        refine y_ci (rest := []) (wc := []) g (y_S (nA := 2) (As := [.int vz116_11, .int 6]) (wc := []) S g (d_below l G vz116_11 6 (by omega) (by omega)) (lw_S q526 q527 q0 q528) ⟨by decide +kernel, by decide +kernel, by decide +kernel⟩ rfl ⟨Nat.le_of_ble_eq_true rfl, Nat.le_of_ble_eq_true rfl⟩ hl.1 (Nat.le_of_ble_eq_true rfl) rfl ⟨Nat.le_of_ble_eq_true rfl, Nat.le_of_ble_eq_true rfl⟩ dL_act_119) (fun r9 u119_12 H locs hp9 g => ?_)
        have g := g.eqw (List.nil_append _)
        obtain ⟨z119, hz119, ez119⟩ := hp9
        subst ez119
        refine lv_istore (lv' := [(7, .int (nI z119)), (6, .int (nI (1 + z107))), (5, .int 1), (4, .int (nI z18)), (3, .int (nI n)), (0, .ref (gA G 0)), (1, .ref (A 0)), (2, .int x)]) hx hb dL_act_122 hl (by decide) rfl (fun ls hl => ?_)
        refine lv_iload_n hx hb dL_act_124 rfl (lv_at hl 7 rfl) ?_
        refine lv_bipush (v := 6) hx hb dL_act_125 (by decide) ?_
        refine lv_ishr hx hb dL_act_127 ?_
        refine lv_topi (fun vz127_13 evz127_13 => ?_)
        refine lv_bipush (v := 10) hx hb dL_act_128 (by decide) ?_
        have g := g.eqw (List.nil_append _).symm
        refine y_ci (rest := []) (wc := []) g (y_S (nA := 2) (As := [.int vz127_13, .int 10]) (wc := []) S g (d_below l G vz127_13 10 (by omega) (by omega)) (lw_S q526 q527 q0 q528) ⟨by decide +kernel, by decide +kernel, by decide +kernel⟩ rfl ⟨Nat.le_of_ble_eq_true rfl, Nat.le_of_ble_eq_true rfl⟩ hl.1 (Nat.le_of_ble_eq_true rfl) rfl ⟨Nat.le_of_ble_eq_true rfl, Nat.le_of_ble_eq_true rfl⟩ dL_act_130) (fun r9 u130_14 H locs hp9 g => ?_)
        have g := g.eqw (List.nil_append _)
        obtain ⟨z130, hz130, ez130⟩ := hp9
        subst ez130
        refine lv_istore (lv' := [(8, .int (nI z130)), (7, .int (nI z119)), (6, .int (nI (1 + z107))), (5, .int 1), (4, .int (nI z18)), (3, .int (nI n)), (0, .ref (gA G 0)), (1, .ref (A 0)), (2, .int x)]) hx hb dL_act_133 hl (by decide) rfl (fun ls hl => ?_)
        refine lv_iload hx hb dL_act_135 (lv_at hl 3 rfl) ?_
        refine lv_if_eq (tgt := 150) hx hb dL_act_137 (by decide) (fun c9 => absurd c9 (by decide)) (fun c_137 => ?_)
        refine lv_aload_n hx hb dL_act_140 rfl (lv_at hl 7 rfl) ?_
        refine lv_iload hx hb dL_act_141 (lv_at hl 2 rfl) ?_
        refine lv_iload hx hb dL_act_143 (lv_at hl 1 rfl) ?_
        refine lv_iload hx hb dL_act_145 (lv_at hl 0 rfl) ?_
        have hc9 : ¬ 8 ≤ n := fun z => c_91 ((nI_leI (a := 8) (by omega) (by omega)).mpr z)
        have g := g.perm (pm2 _ _ _ )
        refine y_cv (rest := []) g (y_V (nA := 3) (As := [.int (nI (1 + z107)), .int (nI z119), .int (nI z130)]) S g (d_add l G A n F 1 (nI (1 + z107)) (nI z119) (nI z130) (Or.inl rfl) (by omega)) (swl_m0 G _ _ _ _) (lw_V q538 q539 q540 q4 q541) ⟨rfl, by decide +kernel, by decide +kernel, by decide +kernel⟩ rfl ⟨Nat.le_of_ble_eq_true rfl, Nat.le_of_ble_eq_true rfl⟩ hl.1 (Nat.le_of_ble_eq_true rfl) rfl ⟨Nat.le_of_ble_eq_true rfl, Nat.le_of_ble_eq_true rfl⟩ dL_act_147) (fun u147_15 H locs hp9 g => ?_)
        have hA147 := hp9
        refine lv_aload_n hx hb dL_act_150 rfl (lv_at hl 6 rfl) ?_
        refine lv_iload hx hb dL_act_151 (lv_at hl 2 rfl) ?_
        refine lv_iload hx hb dL_act_153 (lv_at hl 1 rfl) ?_
        refine lv_iload hx hb dL_act_155 (lv_at hl 0 rfl) ?_
        have g := g.perm (pm2 _ _ _ )
        refine x_ci (rest := []) g (x_V (nA := 3) (As := [.int (nI (1 + z107)), .int (nI z119), .int (nI z130)]) S g (c_addWalker_ok l G F 0 (nI (1 + z107)) (nI z119) (nI z130) n hIn.c6 (by omega) (inR_N (lo := 1) (hi := 30) (by omega) (by omega) (by decide)) (inR_N (lo := 0) (hi := 5) (Nat.zero_le _) (by omega) (by decide)) (inR_N (lo := 0) (hi := 9) (Nat.zero_le _) (by omega) (by decide))) (lw_V q542 q543 q544 q1 q545) ⟨rfl, by decide +kernel, by decide +kernel, by decide +kernel⟩ rfl ⟨Nat.le_of_ble_eq_true rfl, Nat.le_of_ble_eq_true rfl⟩ hl.1 (Nat.le_of_ble_eq_true rfl) rfl ⟨Nat.le_of_ble_eq_true rfl, Nat.le_of_ble_eq_true rfl⟩ dL_act_157) (fun H locs g => ?_)
        refine lv_iload_n hx hb dL_act_160 rfl (lv_at hl 5 rfl) ?_
        refine lv_icmp_ne (tgt := 173) hx hb dL_act_161 (by decide) (fun c9 => absurd rfl c9) (fun c_161 => ?_)
        refine lv_iload hx hb dL_act_164 (lv_at hl 3 rfl) ?_
        refine lv_if_eq (tgt := 173) hx hb dL_act_166 (by decide) (fun c9 => absurd c9 (by decide)) (fun c_166 => ?_)
        refine lv_iconst (v := 1) hx hb dL_act_169 (by decide) ?_
        refine lv_goto (tgt := 174) hx hb dL_act_170 (by decide) ?_
        refine W.widen (k := 480) (n := 1920) (by omega) (by omega) ?_
        have g := g.eqw (show _ = wld G (entF F 1 n (nI (1 + z107)) (nI z119) (nI z130)) 0 ++ swl G u147_15 ((n + 1)) (entF F 1 n (nI (1 + z107)) (nI z119) (nI z130)) 1 from by simp only [List.append_nil, List.append_assoc])
        exact f_z ((u147_15, entF F 1 n (nI (1 + z107)) (nI z119) (nI z130), (n + 1), h)) S hr hk0 g (by first | exact Or.inl rfl | exact Or.inr rfl) ⟨rfl, hA147, (in_add hIn (by omega) hz107 hz119 hz130), (show h ≤ h + 60 from by omega)⟩ dL_act_174
    · rw [ez]
      refine lv_tableIn (tgt := 88) (off := 48) hx hb dL_act_40 (by decide) (by decide) (by decide) (by decide) ?_
      refine lv_iload_n hx hb dL_act_88 rfl (lv_at hl 2 rfl) ?_
      refine lv_bipush (v := 8) hx hb dL_act_89 (by decide) ?_
      refine lv_icmp_ge (tgt := 98) hx hb dL_act_91 (by decide) (fun c_91 => ?_) (fun c_91 => ?_)
      · refine lv_iconst (v := 0) hx hb dL_act_98 (by decide) ?_
        refine lv_istore (lv' := [(5, .int 0), (4, .int (nI z18)), (3, .int (nI n)), (0, .ref (gA G 0)), (1, .ref (A 0)), (2, .int x)]) hx hb dL_act_99 hl (by decide) rfl (fun ls hl => ?_)
        refine lv_iconst (v := 1) hx hb dL_act_101 (by decide) ?_
        refine lv_iload_n hx hb dL_act_102 rfl (lv_at hl 5 rfl) ?_
        refine lv_iconst (v := 4) hx hb dL_act_103 (by decide) ?_
        refine lv_ishr hx hb dL_act_104 ?_
        refine lv_topi (fun vz104_16 evz104_16 => ?_)
        refine lv_bipush (v := 30) hx hb dL_act_105 (by decide) ?_
        have g := g.eqw (List.nil_append _).symm
        refine y_ci (rest := [.int 1]) (wc := []) g (y_S (nA := 2) (As := [.int vz104_16, .int 30]) (wc := []) S g (d_below l G vz104_16 30 (by omega) (by omega)) (lw_S q526 q527 q0 q528) ⟨by decide +kernel, by decide +kernel, by decide +kernel⟩ rfl ⟨Nat.le_of_ble_eq_true rfl, Nat.le_of_ble_eq_true rfl⟩ hl.1 (Nat.le_of_ble_eq_true rfl) rfl ⟨Nat.le_of_ble_eq_true rfl, Nat.le_of_ble_eq_true rfl⟩ dL_act_107) (fun r9 u107_17 H locs hp9 g => ?_)
        have g := g.eqw (List.nil_append _)
        obtain ⟨z107, hz107, ez107⟩ := hp9
        subst ez107
        refine lv_iadd hx hb dL_act_110 ?_
        rw [show (1 + (nI z107) : Int32) = nI (1 + z107) from (nI_add 1 z107)]
        refine lv_istore (lv' := [(6, .int (nI (1 + z107))), (5, .int 0), (4, .int (nI z18)), (3, .int (nI n)), (0, .ref (gA G 0)), (1, .ref (A 0)), (2, .int x)]) hx hb dL_act_111 hl (by decide) rfl (fun ls hl => ?_)
        refine lv_iload_n hx hb dL_act_113 rfl (lv_at hl 6 rfl) ?_
        refine lv_bipush (v := 7) hx hb dL_act_114 (by decide) ?_
        refine lv_ishr hx hb dL_act_116 ?_
        refine lv_topi (fun vz116_18 evz116_18 => ?_)
        refine lv_bipush (v := 6) hx hb dL_act_117 (by decide) ?_
        have g := g.eqw (List.nil_append _).symm
        refine y_ci (rest := []) (wc := []) g (y_S (nA := 2) (As := [.int vz116_18, .int 6]) (wc := []) S g (d_below l G vz116_18 6 (by omega) (by omega)) (lw_S q526 q527 q0 q528) ⟨by decide +kernel, by decide +kernel, by decide +kernel⟩ rfl ⟨Nat.le_of_ble_eq_true rfl, Nat.le_of_ble_eq_true rfl⟩ hl.1 (Nat.le_of_ble_eq_true rfl) rfl ⟨Nat.le_of_ble_eq_true rfl, Nat.le_of_ble_eq_true rfl⟩ dL_act_119) (fun r9 u119_19 H locs hp9 g => ?_)
        have g := g.eqw (List.nil_append _)
        obtain ⟨z119, hz119, ez119⟩ := hp9
        subst ez119
        refine lv_istore (lv' := [(7, .int (nI z119)), (6, .int (nI (1 + z107))), (5, .int 0), (4, .int (nI z18)), (3, .int (nI n)), (0, .ref (gA G 0)), (1, .ref (A 0)), (2, .int x)]) hx hb dL_act_122 hl (by decide) rfl (fun ls hl => ?_)
        refine lv_iload_n hx hb dL_act_124 rfl (lv_at hl 7 rfl) ?_
        refine lv_bipush (v := 6) hx hb dL_act_125 (by decide) ?_
        refine lv_ishr hx hb dL_act_127 ?_
        refine lv_topi (fun vz127_20 evz127_20 => ?_)
        refine lv_bipush (v := 10) hx hb dL_act_128 (by decide) ?_
        have g := g.eqw (List.nil_append _).symm
        refine y_ci (rest := []) (wc := []) g (y_S (nA := 2) (As := [.int vz127_20, .int 10]) (wc := []) S g (d_below l G vz127_20 10 (by omega) (by omega)) (lw_S q526 q527 q0 q528) ⟨by decide +kernel, by decide +kernel, by decide +kernel⟩ rfl ⟨Nat.le_of_ble_eq_true rfl, Nat.le_of_ble_eq_true rfl⟩ hl.1 (Nat.le_of_ble_eq_true rfl) rfl ⟨Nat.le_of_ble_eq_true rfl, Nat.le_of_ble_eq_true rfl⟩ dL_act_130) (fun r9 u130_21 H locs hp9 g => ?_)
        have g := g.eqw (List.nil_append _)
        obtain ⟨z130, hz130, ez130⟩ := hp9
        subst ez130
        refine lv_istore (lv' := [(8, .int (nI z130)), (7, .int (nI z119)), (6, .int (nI (1 + z107))), (5, .int 0), (4, .int (nI z18)), (3, .int (nI n)), (0, .ref (gA G 0)), (1, .ref (A 0)), (2, .int x)]) hx hb dL_act_133 hl (by decide) rfl (fun ls hl => ?_)
        refine lv_iload hx hb dL_act_135 (lv_at hl 3 rfl) ?_
        refine lv_if_eq (tgt := 150) hx hb dL_act_137 (by decide) (fun c_137 => ?_) (fun c9 => absurd rfl c9)
        refine lv_aload_n hx hb dL_act_150 rfl (lv_at hl 6 rfl) ?_
        refine lv_iload hx hb dL_act_151 (lv_at hl 2 rfl) ?_
        refine lv_iload hx hb dL_act_153 (lv_at hl 1 rfl) ?_
        refine lv_iload hx hb dL_act_155 (lv_at hl 0 rfl) ?_
        have hc9 := (nI_leI (a := 8) (by omega) (by omega)).mp c_91
        refine x_xc (nA := 3) (name := "java/lang/IllegalStateException") (As := [.int (nI (1 + z107)), .int (nI z119), .int (nI z130)]) (rest := []) S g (x_addWalker_full l hfl G F 0 (nI (1 + z107)) (nI z119) (nI z130) (by rw [hIn.c6]; congr 1; omega) (inR_N (lo := 1) (hi := 30) (by omega) (by omega) (by decide)) (inR_N (lo := 0) (hi := 5) (Nat.zero_le _) (by omega) (by decide)) (inR_N (lo := 0) (hi := 9) (Nat.zero_le _) (by omega) (by decide))) (lw_V q542 q543 q544 q1 q545) ⟨rfl, by decide +kernel, by decide +kernel, by decide +kernel⟩ rfl ⟨Nat.le_of_ble_eq_true rfl, Nat.le_of_ble_eq_true rfl⟩ hl.1 (Nat.le_of_ble_eq_true rfl) rfl ⟨Nat.le_of_ble_eq_true rfl, Nat.le_of_ble_eq_true rfl⟩ dL_act_157 [] ⟨26, 174, 509, 62⟩ [⟨175, 227, 509, 62⟩, ⟨228, 282, 509, 62⟩, ⟨283, 320, 509, 62⟩, ⟨321, 357, 509, 62⟩, ⟨358, 459, 509, 62⟩, ⟨460, 508, 509, 62⟩] htab (fun z hz => absurd hz List.not_mem_nil) (by decide) (by decide) q537 g.2.2.2.2.1.2.2.2.2.2.2.1 (fun H locs q g => ?_)
        refine lv_astore (lv' := [(6, .ref q), (8, .int (nI z130)), (7, .int (nI z119)), (5, .int 0), (4, .int (nI z18)), (3, .int (nI n)), (0, .ref (gA G 0)), (1, .ref (A 0)), (2, .int x)]) hx hb dL_act_509 hl (by decide) rfl (fun ls hl => ?_)
        refine lv_iload hx hb dL_act_511 (lv_at hl 3 rfl) ?_
        refine lv_if_ne (tgt := 520) hx hb dL_act_513 (by decide) (fun c9 => absurd rfl c9) (fun c_513 => ?_)
        refine lv_iconst (v := 1) hx hb dL_act_516 (by decide) ?_
        refine lv_goto (tgt := 521) hx hb dL_act_517 (by decide) ?_
        refine W.widen (k := 480) (n := 1920) (by omega) (by omega) ?_
        have g := g.eqw (show _ = wld G F 0 ++ swl G A n F 1 from by simp only [List.append_nil, List.append_assoc])
        exact f_z ((A, F, n, h)) S hr hk0 g (by first | exact Or.inl rfl | exact Or.inr rfl) ⟨rfl, rfl, hIn, (show h ≤ h + 60 from by omega)⟩ dL_act_521
      · refine lv_iconst (v := 1) hx hb dL_act_94 (by decide) ?_
        refine lv_goto (tgt := 99) hx hb dL_act_95 (by decide) ?_
        refine lv_istore (lv' := [(5, .int 1), (4, .int (nI z18)), (3, .int (nI n)), (0, .ref (gA G 0)), (1, .ref (A 0)), (2, .int x)]) hx hb dL_act_99 hl (by decide) rfl (fun ls hl => ?_)
        refine lv_iconst (v := 1) hx hb dL_act_101 (by decide) ?_
        refine lv_iload_n hx hb dL_act_102 rfl (lv_at hl 5 rfl) ?_
        refine lv_iconst (v := 4) hx hb dL_act_103 (by decide) ?_
        refine lv_ishr hx hb dL_act_104 ?_
        refine lv_topi (fun vz104_22 evz104_22 => ?_)
        refine lv_bipush (v := 30) hx hb dL_act_105 (by decide) ?_
        have g := g.eqw (List.nil_append _).symm
        refine y_ci (rest := [.int 1]) (wc := []) g (y_S (nA := 2) (As := [.int vz104_22, .int 30]) (wc := []) S g (d_below l G vz104_22 30 (by omega) (by omega)) (lw_S q526 q527 q0 q528) ⟨by decide +kernel, by decide +kernel, by decide +kernel⟩ rfl ⟨Nat.le_of_ble_eq_true rfl, Nat.le_of_ble_eq_true rfl⟩ hl.1 (Nat.le_of_ble_eq_true rfl) rfl ⟨Nat.le_of_ble_eq_true rfl, Nat.le_of_ble_eq_true rfl⟩ dL_act_107) (fun r9 u107_23 H locs hp9 g => ?_)
        have g := g.eqw (List.nil_append _)
        obtain ⟨z107, hz107, ez107⟩ := hp9
        subst ez107
        refine lv_iadd hx hb dL_act_110 ?_
        rw [show (1 + (nI z107) : Int32) = nI (1 + z107) from (nI_add 1 z107)]
        refine lv_istore (lv' := [(6, .int (nI (1 + z107))), (5, .int 1), (4, .int (nI z18)), (3, .int (nI n)), (0, .ref (gA G 0)), (1, .ref (A 0)), (2, .int x)]) hx hb dL_act_111 hl (by decide) rfl (fun ls hl => ?_)
        refine lv_iload_n hx hb dL_act_113 rfl (lv_at hl 6 rfl) ?_
        refine lv_bipush (v := 7) hx hb dL_act_114 (by decide) ?_
        refine lv_ishr hx hb dL_act_116 ?_
        refine lv_topi (fun vz116_24 evz116_24 => ?_)
        refine lv_bipush (v := 6) hx hb dL_act_117 (by decide) ?_
        have g := g.eqw (List.nil_append _).symm
        refine y_ci (rest := []) (wc := []) g (y_S (nA := 2) (As := [.int vz116_24, .int 6]) (wc := []) S g (d_below l G vz116_24 6 (by omega) (by omega)) (lw_S q526 q527 q0 q528) ⟨by decide +kernel, by decide +kernel, by decide +kernel⟩ rfl ⟨Nat.le_of_ble_eq_true rfl, Nat.le_of_ble_eq_true rfl⟩ hl.1 (Nat.le_of_ble_eq_true rfl) rfl ⟨Nat.le_of_ble_eq_true rfl, Nat.le_of_ble_eq_true rfl⟩ dL_act_119) (fun r9 u119_25 H locs hp9 g => ?_)
        have g := g.eqw (List.nil_append _)
        obtain ⟨z119, hz119, ez119⟩ := hp9
        subst ez119
        refine lv_istore (lv' := [(7, .int (nI z119)), (6, .int (nI (1 + z107))), (5, .int 1), (4, .int (nI z18)), (3, .int (nI n)), (0, .ref (gA G 0)), (1, .ref (A 0)), (2, .int x)]) hx hb dL_act_122 hl (by decide) rfl (fun ls hl => ?_)
        refine lv_iload_n hx hb dL_act_124 rfl (lv_at hl 7 rfl) ?_
        refine lv_bipush (v := 6) hx hb dL_act_125 (by decide) ?_
        refine lv_ishr hx hb dL_act_127 ?_
        refine lv_topi (fun vz127_26 evz127_26 => ?_)
        refine lv_bipush (v := 10) hx hb dL_act_128 (by decide) ?_
        have g := g.eqw (List.nil_append _).symm
        refine y_ci (rest := []) (wc := []) g (y_S (nA := 2) (As := [.int vz127_26, .int 10]) (wc := []) S g (d_below l G vz127_26 10 (by omega) (by omega)) (lw_S q526 q527 q0 q528) ⟨by decide +kernel, by decide +kernel, by decide +kernel⟩ rfl ⟨Nat.le_of_ble_eq_true rfl, Nat.le_of_ble_eq_true rfl⟩ hl.1 (Nat.le_of_ble_eq_true rfl) rfl ⟨Nat.le_of_ble_eq_true rfl, Nat.le_of_ble_eq_true rfl⟩ dL_act_130) (fun r9 u130_27 H locs hp9 g => ?_)
        have g := g.eqw (List.nil_append _)
        obtain ⟨z130, hz130, ez130⟩ := hp9
        subst ez130
        refine lv_istore (lv' := [(8, .int (nI z130)), (7, .int (nI z119)), (6, .int (nI (1 + z107))), (5, .int 1), (4, .int (nI z18)), (3, .int (nI n)), (0, .ref (gA G 0)), (1, .ref (A 0)), (2, .int x)]) hx hb dL_act_133 hl (by decide) rfl (fun ls hl => ?_)
        refine lv_iload hx hb dL_act_135 (lv_at hl 3 rfl) ?_
        refine lv_if_eq (tgt := 150) hx hb dL_act_137 (by decide) (fun c9 => absurd c9 (by decide)) (fun c_137 => ?_)
        refine lv_aload_n hx hb dL_act_140 rfl (lv_at hl 7 rfl) ?_
        refine lv_iload hx hb dL_act_141 (lv_at hl 2 rfl) ?_
        refine lv_iload hx hb dL_act_143 (lv_at hl 1 rfl) ?_
        refine lv_iload hx hb dL_act_145 (lv_at hl 0 rfl) ?_
        have hc9 : ¬ 8 ≤ n := fun z => c_91 ((nI_leI (a := 8) (by omega) (by omega)).mpr z)
        have g := g.perm (pm2 _ _ _ )
        refine y_cv (rest := []) g (y_V (nA := 3) (As := [.int (nI (1 + z107)), .int (nI z119), .int (nI z130)]) S g (d_add l G A n F 1 (nI (1 + z107)) (nI z119) (nI z130) (Or.inl rfl) (by omega)) (swl_m0 G _ _ _ _) (lw_V q538 q539 q540 q4 q541) ⟨rfl, by decide +kernel, by decide +kernel, by decide +kernel⟩ rfl ⟨Nat.le_of_ble_eq_true rfl, Nat.le_of_ble_eq_true rfl⟩ hl.1 (Nat.le_of_ble_eq_true rfl) rfl ⟨Nat.le_of_ble_eq_true rfl, Nat.le_of_ble_eq_true rfl⟩ dL_act_147) (fun u147_28 H locs hp9 g => ?_)
        have hA147 := hp9
        refine lv_aload_n hx hb dL_act_150 rfl (lv_at hl 6 rfl) ?_
        refine lv_iload hx hb dL_act_151 (lv_at hl 2 rfl) ?_
        refine lv_iload hx hb dL_act_153 (lv_at hl 1 rfl) ?_
        refine lv_iload hx hb dL_act_155 (lv_at hl 0 rfl) ?_
        have g := g.perm (pm2 _ _ _ )
        refine x_ci (rest := []) g (x_V (nA := 3) (As := [.int (nI (1 + z107)), .int (nI z119), .int (nI z130)]) S g (c_addWalker_ok l G F 0 (nI (1 + z107)) (nI z119) (nI z130) n hIn.c6 (by omega) (inR_N (lo := 1) (hi := 30) (by omega) (by omega) (by decide)) (inR_N (lo := 0) (hi := 5) (Nat.zero_le _) (by omega) (by decide)) (inR_N (lo := 0) (hi := 9) (Nat.zero_le _) (by omega) (by decide))) (lw_V q542 q543 q544 q1 q545) ⟨rfl, by decide +kernel, by decide +kernel, by decide +kernel⟩ rfl ⟨Nat.le_of_ble_eq_true rfl, Nat.le_of_ble_eq_true rfl⟩ hl.1 (Nat.le_of_ble_eq_true rfl) rfl ⟨Nat.le_of_ble_eq_true rfl, Nat.le_of_ble_eq_true rfl⟩ dL_act_157) (fun H locs g => ?_)
        refine lv_iload_n hx hb dL_act_160 rfl (lv_at hl 5 rfl) ?_
        refine lv_icmp_ne (tgt := 173) hx hb dL_act_161 (by decide) (fun c9 => absurd rfl c9) (fun c_161 => ?_)
        refine lv_iload hx hb dL_act_164 (lv_at hl 3 rfl) ?_
        refine lv_if_eq (tgt := 173) hx hb dL_act_166 (by decide) (fun c9 => absurd c9 (by decide)) (fun c_166 => ?_)
        refine lv_iconst (v := 1) hx hb dL_act_169 (by decide) ?_
        refine lv_goto (tgt := 174) hx hb dL_act_170 (by decide) ?_
        refine W.widen (k := 480) (n := 1920) (by omega) (by omega) ?_
        have g := g.eqw (show _ = wld G (entF F 1 n (nI (1 + z107)) (nI z119) (nI z130)) 0 ++ swl G u147_28 ((n + 1)) (entF F 1 n (nI (1 + z107)) (nI z119) (nI z130)) 1 from by simp only [List.append_nil, List.append_assoc])
        exact f_z ((u147_28, entF F 1 n (nI (1 + z107)) (nI z119) (nI z130), (n + 1), h)) S hr hk0 g (by first | exact Or.inl rfl | exact Or.inr rfl) ⟨rfl, hA147, (in_add hIn (by omega) hz107 hz119 hz130), (show h ≤ h + 60 from by omega)⟩ dL_act_174
    · rw [ez]
      refine lv_tableIn (tgt := 175) (off := 135) hx hb dL_act_40 (by decide) (by decide) (by decide) (by decide) ?_
      refine lv_aload_n hx hb dL_act_175 rfl (lv_at hl 4 rfl) ?_
      refine x_geta S g (List.mem_append_right _ (List.mem_append_left _ (swl_m0 G A _ _ _))) q445 dL_act_176 ?_
      refine lv_iload hx hb dL_act_179 (lv_at hl 1 rfl) ?_
      refine x_aald (v := A (2 + z18)) S g (List.mem_append_right _ (List.mem_append_left _ (swl_m1 G A _ _ _))) (by omega) z18 rfl (by omega) rfl dL_act_181 ?_
      refine lv_iconst (v := 4) hx hb dL_act_182 (by decide) ?_
      refine lv_iconst (v := 1) hx hb dL_act_183 (by decide) ?_
      refine lv_aload_n hx hb dL_act_184 rfl (lv_at hl 4 rfl) ?_
      refine x_geta S g (List.mem_append_right _ (List.mem_append_left _ (swl_m0 G A _ _ _))) q445 dL_act_185 ?_
      refine lv_iload hx hb dL_act_188 (lv_at hl 1 rfl) ?_
      refine x_aald (v := A (2 + z18)) S g (List.mem_append_right _ (List.mem_append_left _ (swl_m1 G A _ _ _))) (by omega) z18 rfl (by omega) rfl dL_act_190 ?_
      refine lv_iconst (v := 4) hx hb dL_act_191 (by decide) ?_
      refine x_rald S g (List.mem_append_right _ (List.mem_append_left _ (swl_mr G A _ _ (i := z18) (by omega)))) 4 5 rfl (by decide) rfl dL_act_192 ?_
      refine lv_isub hx hb dL_act_193 ?_
      have g := g.perm (pm2 _ _ _ )
      refine x_rst S g (Or.inl rfl) (q := z18) (by omega) 4 5 rfl (by decide) rfl dL_act_194 (fun H locs g => ?_)
      have g := g.eqw (show swl G A n (up2 F (wb 1 z18) 5 (1 - (F (wb 1 z18) 5))) 1 ++ (wld G F 0 ++ []) = swl G A n (up2 F (wb 1 z18) 5 (if F (wb 1 z18) 5 = 0 then 1 else 0)) 1 ++ (wld G F 0 ++ []) from by rw [tm_eq (hIn.wk hz18).mem])
      refine lv_aload_n hx hb dL_act_195 rfl (lv_at hl 3 rfl) ?_
      refine lv_iload hx hb dL_act_196 (lv_at hl 1 rfl) ?_
      have g := g.perm (pm2 _ _ _ )
      refine x_ci (rest := []) g (x_V (nA := 1) (As := [.int (nI z18)]) S g (c_turnMember_ok l G F 0 z18 n hIn.c6 hz18 hn8) (lw_V q573 q574 q575 q1 q576) ⟨rfl, by decide +kernel, by decide +kernel, by decide +kernel⟩ rfl ⟨Nat.le_of_ble_eq_true rfl, Nat.le_of_ble_eq_true rfl⟩ hl.1 (Nat.le_of_ble_eq_true rfl) rfl ⟨Nat.le_of_ble_eq_true rfl, Nat.le_of_ble_eq_true rfl⟩ dL_act_198) (fun H locs g => ?_)
      refine lv_aload_n hx hb dL_act_201 rfl (lv_at hl 4 rfl) ?_
      refine x_geta S g (List.mem_append_right _ (List.mem_append_left _ (swl_m0 G A _ _ _))) q445 dL_act_202 ?_
      refine lv_iload hx hb dL_act_205 (lv_at hl 1 rfl) ?_
      refine x_aald (v := A (2 + z18)) S g (List.mem_append_right _ (List.mem_append_left _ (swl_m1 G A _ _ _))) (by omega) z18 rfl (by omega) rfl dL_act_207 ?_
      refine lv_iconst (v := 4) hx hb dL_act_208 (by decide) ?_
      refine x_rald S g (List.mem_append_right _ (List.mem_append_left _ (swl_mr G A _ _ (i := z18) (by omega)))) 4 5 rfl (by decide) rfl dL_act_209 ?_
      rw [show ((up2 F (wb 1 z18) 5 (if F (wb 1 z18) 5 = 0 then 1 else 0)) (wb 1 z18) 5 : Int32) = if F (wb 1 z18) 5 = 0 then 1 else 0 from (up2_s _ _ _ _)]
      refine lv_iconst (v := 1) hx hb dL_act_210 (by decide) ?_
      refine lv_icmp_ne (tgt := 218) hx hb dL_act_211 (by decide) (fun c_211 => ?_) (fun c_211 => ?_)
      · refine lv_iconst (v := 0) hx hb dL_act_218 (by decide) ?_
        refine lv_icmp_ne (tgt := 226) hx hb dL_act_219 (by decide) (fun c9 => absurd (tm_01 c_211) c9) (fun c_219 => ?_)
        refine lv_iconst (v := 1) hx hb dL_act_222 (by decide) ?_
        refine lv_goto (tgt := 227) hx hb dL_act_223 (by decide) ?_
        refine W.widen (k := 480) (n := 1920) (by omega) (by omega) ?_
        have g := g.eqw (show _ = wld G (up2 F (wb 1 z18) 5 (if F (wb 1 z18) 5 = 0 then 1 else 0)) 0 ++ swl G A n (up2 F (wb 1 z18) 5 (if F (wb 1 z18) 5 = 0 then 1 else 0)) 1 from by simp only [List.append_nil, List.append_assoc])
        exact f_z ((A, up2 F (wb 1 z18) 5 (if F (wb 1 z18) 5 = 0 then 1 else 0), n, h)) S hr hk0 g (by first | exact Or.inl rfl | exact Or.inr rfl) ⟨rfl, rfl, (in_turn hIn hz18), (show h ≤ h + 60 from by omega)⟩ dL_act_227
      · refine lv_iconst (v := 1) hx hb dL_act_214 (by decide) ?_
        refine lv_goto (tgt := 219) hx hb dL_act_215 (by decide) ?_
        refine lv_icmp_ne (tgt := 226) hx hb dL_act_219 (by decide) (fun c9 => absurd c_211 c9) (fun c_219 => ?_)
        refine lv_iconst (v := 1) hx hb dL_act_222 (by decide) ?_
        refine lv_goto (tgt := 227) hx hb dL_act_223 (by decide) ?_
        refine W.widen (k := 480) (n := 1920) (by omega) (by omega) ?_
        have g := g.eqw (show _ = wld G (up2 F (wb 1 z18) 5 (if F (wb 1 z18) 5 = 0 then 1 else 0)) 0 ++ swl G A n (up2 F (wb 1 z18) 5 (if F (wb 1 z18) 5 = 0 then 1 else 0)) 1 from by simp only [List.append_nil, List.append_assoc])
        exact f_z ((A, up2 F (wb 1 z18) 5 (if F (wb 1 z18) 5 = 0 then 1 else 0), n, h)) S hr hk0 g (by first | exact Or.inl rfl | exact Or.inr rfl) ⟨rfl, rfl, (in_turn hIn hz18), (show h ≤ h + 60 from by omega)⟩ dL_act_227
    · rw [ez]
      refine lv_tableIn (tgt := 228) (off := 188) hx hb dL_act_40 (by decide) (by decide) (by decide) (by decide) ?_
      refine lv_aload_n hx hb dL_act_228 rfl (lv_at hl 4 rfl) ?_
      refine x_geta S g (List.mem_append_right _ (List.mem_append_left _ (swl_m0 G A _ _ _))) q445 dL_act_229 ?_
      refine lv_iload hx hb dL_act_232 (lv_at hl 1 rfl) ?_
      refine x_aald (v := A (2 + z18)) S g (List.mem_append_right _ (List.mem_append_left _ (swl_m1 G A _ _ _))) (by omega) z18 rfl (by omega) rfl dL_act_234 ?_
      refine lv_iconst (v := 2) hx hb dL_act_235 (by decide) ?_
      refine x_rald S g (List.mem_append_right _ (List.mem_append_left _ (swl_mr G A _ _ (i := z18) (by omega)))) 2 2 rfl (by decide) rfl dL_act_236 ?_
      refine lv_istore (lv' := [(6, .int (F (wb 1 z18) 2)), (5, .int 1), (4, .int (nI z18)), (3, .int (nI n)), (0, .ref (gA G 0)), (1, .ref (A 0)), (2, .int x)]) hx hb dL_act_237 hl (by decide) rfl (fun ls hl => ?_)
      refine lv_aload_n hx hb dL_act_239 rfl (lv_at hl 5 rfl) ?_
      refine x_geta S g (List.mem_append_right _ (List.mem_append_left _ (swl_m0 G A _ _ _))) q445 dL_act_240 ?_
      refine lv_iload hx hb dL_act_243 (lv_at hl 2 rfl) ?_
      refine x_aald (v := A (2 + z18)) S g (List.mem_append_right _ (List.mem_append_left _ (swl_m1 G A _ _ _))) (by omega) z18 rfl (by omega) rfl dL_act_245 ?_
      refine lv_iconst (v := 2) hx hb dL_act_246 (by decide) ?_
      refine lv_iload_n hx hb dL_act_247 rfl (lv_at hl 6 rfl) ?_
      refine lv_bipush (v := 7) hx hb dL_act_248 (by decide) ?_
      refine lv_ishr hx hb dL_act_250 ?_
      refine lv_topi (fun vz250_29 evz250_29 => ?_)
      refine lv_bipush (v := 10) hx hb dL_act_251 (by decide) ?_
      have g := g.eqw (List.nil_append _).symm
      refine y_ci (rest := [.int 2, .ref (A (2 + z18))]) (wc := []) g (y_S (nA := 2) (As := [.int vz250_29, .int 10]) (wc := []) S g (d_below l G vz250_29 10 (by omega) (by omega)) (lw_S q526 q527 q0 q528) ⟨by decide +kernel, by decide +kernel, by decide +kernel⟩ rfl ⟨Nat.le_of_ble_eq_true rfl, Nat.le_of_ble_eq_true rfl⟩ hl.1 (Nat.le_of_ble_eq_true rfl) rfl ⟨Nat.le_of_ble_eq_true rfl, Nat.le_of_ble_eq_true rfl⟩ dL_act_253) (fun r9 u253_30 H locs hp9 g => ?_)
      have g := g.eqw (List.nil_append _)
      obtain ⟨z253, hz253, ez253⟩ := hp9
      subst ez253
      have g := g.perm (pm2 _ _ _ )
      refine x_rst S g (Or.inl rfl) (q := z18) (by omega) 2 2 rfl (by decide) rfl dL_act_256 (fun H locs g => ?_)
      refine lv_aload_n hx hb dL_act_257 rfl (lv_at hl 4 rfl) ?_
      refine lv_iload hx hb dL_act_258 (lv_at hl 2 rfl) ?_
      refine lv_aload_n hx hb dL_act_260 rfl (lv_at hl 5 rfl) ?_
      refine x_geta S g (List.mem_append_left _ (swl_m0 G A _ _ _)) q445 dL_act_261 ?_
      refine lv_iload hx hb dL_act_264 (lv_at hl 2 rfl) ?_
      refine x_aald (v := A (2 + z18)) S g (List.mem_append_left _ (swl_m1 G A _ _ _)) (by omega) z18 rfl (by omega) rfl dL_act_266 ?_
      refine lv_iconst (v := 2) hx hb dL_act_267 (by decide) ?_
      refine x_rald S g (List.mem_append_left _ (swl_mr G A _ _ (i := z18) (by omega))) 2 2 rfl (by decide) rfl dL_act_268 ?_
      rw [show ((up2 F (wb 1 z18) 2 (nI z253)) (wb 1 z18) 2 : Int32) = nI z253 from (up2_s _ _ _ _)]
      have g := g.perm (pm2 _ _ _ )
      refine x_ci (rest := []) g (x_V (nA := 2) (As := [.int (nI z18), .int (nI z253)]) S g (c_setNet_ok l G F 0 z18 n (nI z253) hIn.c6 hz18 hn8 (inR_N (lo := 0) (hi := 9) (Nat.zero_le _) (by omega) (by decide))) (lw_V q577 q578 q579 q1 q580) ⟨rfl, by decide +kernel, by decide +kernel, by decide +kernel⟩ rfl ⟨Nat.le_of_ble_eq_true rfl, Nat.le_of_ble_eq_true rfl⟩ hl.1 (Nat.le_of_ble_eq_true rfl) rfl ⟨Nat.le_of_ble_eq_true rfl, Nat.le_of_ble_eq_true rfl⟩ dL_act_269) (fun H locs g => ?_)
      refine lv_iload hx hb dL_act_272 (lv_at hl 0 rfl) ?_
      refine lv_icmp_ne (tgt := 281) hx hb dL_act_274 (by decide) (fun c9 => absurd rfl c9) (fun c_274 => ?_)
      refine lv_iconst (v := 1) hx hb dL_act_277 (by decide) ?_
      refine lv_goto (tgt := 282) hx hb dL_act_278 (by decide) ?_
      refine W.widen (k := 480) (n := 1920) (by omega) (by omega) ?_
      have g := g.eqw (show _ = wld G (up2 F (wb 1 z18) 2 (nI z253)) 0 ++ swl G A n (up2 F (wb 1 z18) 2 (nI z253)) 1 from by simp only [List.append_nil, List.append_assoc])
      exact f_z ((A, up2 F (wb 1 z18) 2 (nI z253), n, h)) S hr hk0 g (by first | exact Or.inl rfl | exact Or.inr rfl) ⟨rfl, rfl, (in_net hIn hz18 hz253), (show h ≤ h + 60 from by omega)⟩ dL_act_282
    · rw [ez]
      refine lv_tableIn (tgt := 283) (off := 243) hx hb dL_act_40 (by decide) (by decide) (by decide) (by decide) ?_
      refine lv_aload_n hx hb dL_act_283 rfl (lv_at hl 4 rfl) ?_
      refine x_geta S g (List.mem_append_right _ (List.mem_append_left _ (swl_m0 G A _ _ _))) q445 dL_act_284 ?_
      refine lv_iload hx hb dL_act_287 (lv_at hl 1 rfl) ?_
      refine x_aald (v := A (2 + z18)) S g (List.mem_append_right _ (List.mem_append_left _ (swl_m1 G A _ _ _))) (by omega) z18 rfl (by omega) rfl dL_act_289 ?_
      refine lv_iconst (v := 3) hx hb dL_act_290 (by decide) ?_
      refine x_rald S g (List.mem_append_right _ (List.mem_append_left _ (swl_mr G A _ _ (i := z18) (by omega)))) 3 3 rfl (by decide) rfl dL_act_291 ?_
      refine lv_istore (lv' := [(6, .int (F (wb 1 z18) 3)), (5, .int 1), (4, .int (nI z18)), (3, .int (nI n)), (0, .ref (gA G 0)), (1, .ref (A 0)), (2, .int x)]) hx hb dL_act_292 hl (by decide) rfl (fun ls hl => ?_)
      refine lv_aload_n hx hb dL_act_294 rfl (lv_at hl 5 rfl) ?_
      refine x_geta S g (List.mem_append_right _ (List.mem_append_left _ (swl_m0 G A _ _ _))) q445 dL_act_295 ?_
      refine lv_iload hx hb dL_act_298 (lv_at hl 2 rfl) ?_
      refine x_aald (v := A (2 + z18)) S g (List.mem_append_right _ (List.mem_append_left _ (swl_m1 G A _ _ _))) (by omega) z18 rfl (by omega) rfl dL_act_300 ?_
      refine lv_iconst (v := 3) hx hb dL_act_301 (by decide) ?_
      refine lv_iconst (v := 0) hx hb dL_act_302 (by decide) ?_
      have g := g.perm (pm2 _ _ _ )
      refine x_rst S g (Or.inl rfl) (q := z18) (by omega) 3 3 rfl (by decide) rfl dL_act_303 (fun H locs g => ?_)
      refine lv_aload_n hx hb dL_act_304 rfl (lv_at hl 4 rfl) ?_
      refine lv_iload hx hb dL_act_305 (lv_at hl 2 rfl) ?_
      have g := g.perm (pm2 _ _ _ )
      refine x_ci (rest := []) g (x_V (nA := 1) (As := [.int (nI z18)]) S g (c_rest_ok l G F 0 z18 n hIn.c6 hz18 hn8) (lw_V q581 q582 q583 q1 q584) ⟨rfl, by decide +kernel, by decide +kernel, by decide +kernel⟩ rfl ⟨Nat.le_of_ble_eq_true rfl, Nat.le_of_ble_eq_true rfl⟩ hl.1 (Nat.le_of_ble_eq_true rfl) rfl ⟨Nat.le_of_ble_eq_true rfl, Nat.le_of_ble_eq_true rfl⟩ dL_act_307) (fun H locs g => ?_)
      refine lv_iload hx hb dL_act_310 (lv_at hl 0 rfl) ?_
      refine lv_icmp_ne (tgt := 319) hx hb dL_act_312 (by decide) (fun c9 => absurd rfl c9) (fun c_312 => ?_)
      refine lv_iconst (v := 1) hx hb dL_act_315 (by decide) ?_
      refine lv_goto (tgt := 320) hx hb dL_act_316 (by decide) ?_
      refine W.widen (k := 480) (n := 1920) (by omega) (by omega) ?_
      have g := g.eqw (show _ = wld G (up2 F (wb 1 z18) 3 0) 0 ++ swl G A n (up2 F (wb 1 z18) 3 0) 1 from by simp only [List.append_nil, List.append_assoc])
      exact f_z ((A, up2 F (wb 1 z18) 3 0, n, h)) S hr hk0 g (by first | exact Or.inl rfl | exact Or.inr rfl) ⟨rfl, rfl, (in_rest hIn hz18), (show h ≤ h + 60 from by omega)⟩ dL_act_320
    · rw [ez]
      refine lv_tableIn (tgt := 321) (off := 281) hx hb dL_act_40 (by decide) (by decide) (by decide) (by decide) ?_
      refine lv_aload_n hx hb dL_act_321 rfl (lv_at hl 4 rfl) ?_
      refine x_geti S g (List.mem_append_right _ (List.mem_append_left _ (swl_m0 G A _ _ _))) 2 (by decide) q438 dL_act_322 ?_
      refine lv_istore (lv' := [(6, .int (F 1 2)), (5, .int 1), (4, .int (nI z18)), (3, .int (nI n)), (0, .ref (gA G 0)), (1, .ref (A 0)), (2, .int x)]) hx hb dL_act_325 hl (by decide) rfl (fun ls hl => ?_)
      refine lv_aload_n hx hb dL_act_327 rfl (lv_at hl 5 rfl) ?_
      refine lv_iload_n hx hb dL_act_328 rfl (lv_at hl 6 rfl) ?_
      refine lv_iconst (v := 4) hx hb dL_act_329 (by decide) ?_
      refine lv_ishr hx hb dL_act_330 ?_
      refine lv_topi (fun vz330_31 evz330_31 => ?_)
      refine lv_bipush (v := 10) hx hb dL_act_331 (by decide) ?_
      have g := g.eqw (List.nil_append _).symm
      refine y_ci (rest := [.ref (A 0)]) (wc := []) g (y_S (nA := 2) (As := [.int vz330_31, .int 10]) (wc := []) S g (d_below l G vz330_31 10 (by omega) (by omega)) (lw_S q526 q527 q0 q528) ⟨by decide +kernel, by decide +kernel, by decide +kernel⟩ rfl ⟨Nat.le_of_ble_eq_true rfl, Nat.le_of_ble_eq_true rfl⟩ hl.1 (Nat.le_of_ble_eq_true rfl) rfl ⟨Nat.le_of_ble_eq_true rfl, Nat.le_of_ble_eq_true rfl⟩ dL_act_333) (fun r9 u333_32 H locs hp9 g => ?_)
      have g := g.eqw (List.nil_append _)
      obtain ⟨z333, hz333, ez333⟩ := hp9
      subst ez333
      have g := g.perm (pm2 _ _ _ )
      refine x_puti S g (Or.inl rfl) 2 (by decide) q438 dL_act_336 (fun H locs g => ?_)
      refine lv_aload_n hx hb dL_act_339 rfl (lv_at hl 4 rfl) ?_
      refine lv_aload_n hx hb dL_act_340 rfl (lv_at hl 5 rfl) ?_
      refine x_geti S g (List.mem_append_left _ (swl_m0 G A _ _ _)) 2 (by decide) q438 dL_act_341 ?_
      rw [show ((up2 F 1 2 (nI z333)) 1 2 : Int32) = nI z333 from (up2_s _ _ _ _)]
      have g := g.perm (pm2 _ _ _ )
      refine x_ci (rest := []) g (x_V (nA := 1) (As := [.int (nI z333)]) S g (c_setRate_ok l G F 0 (nI z333) (inR_N (lo := 0) (hi := 9) (Nat.zero_le _) (by omega) (by decide))) (lw_V q585 q586 q587 q1 q588) ⟨rfl, by decide +kernel, by decide +kernel, by decide +kernel⟩ rfl ⟨Nat.le_of_ble_eq_true rfl, Nat.le_of_ble_eq_true rfl⟩ hl.1 (Nat.le_of_ble_eq_true rfl) rfl ⟨Nat.le_of_ble_eq_true rfl, Nat.le_of_ble_eq_true rfl⟩ dL_act_344) (fun H locs g => ?_)
      refine lv_iload hx hb dL_act_347 (lv_at hl 0 rfl) ?_
      refine lv_icmp_ne (tgt := 356) hx hb dL_act_349 (by decide) (fun c9 => absurd rfl c9) (fun c_349 => ?_)
      refine lv_iconst (v := 1) hx hb dL_act_352 (by decide) ?_
      refine lv_goto (tgt := 357) hx hb dL_act_353 (by decide) ?_
      refine W.widen (k := 480) (n := 1920) (by omega) (by omega) ?_
      have g := g.eqw (show _ = wld G (up2 F 1 2 (nI z333)) 0 ++ swl G A n (up2 F 1 2 (nI z333)) 1 from by simp only [List.append_nil, List.append_assoc])
      exact f_z ((A, up2 F 1 2 (nI z333), n, h)) S hr hk0 g (by first | exact Or.inl rfl | exact Or.inr rfl) ⟨rfl, rfl, (in_rate hIn hz333), (show h ≤ h + 60 from by omega)⟩ dL_act_357
    · rw [ez]
      refine lv_tableIn (tgt := 358) (off := 318) hx hb dL_act_40 (by decide) (by decide) (by decide) (by decide) ?_
      refine lv_aload_n hx hb dL_act_358 rfl (lv_at hl 4 rfl) ?_
      refine x_geti S g (List.mem_append_right _ (List.mem_append_left _ (swl_m0 G A _ _ _))) 4 (by decide) q442 dL_act_359 ?_
      refine lv_istore (lv' := [(6, .int (F 1 4)), (5, .int 1), (4, .int (nI z18)), (3, .int (nI n)), (0, .ref (gA G 0)), (1, .ref (A 0)), (2, .int x)]) hx hb dL_act_362 hl (by decide) rfl (fun ls hl => ?_)
      refine lv_aload_n hx hb dL_act_364 rfl (lv_at hl 5 rfl) ?_
      refine lv_iload_n hx hb dL_act_365 rfl (lv_at hl 6 rfl) ?_
      refine lv_iconst (v := 4) hx hb dL_act_366 (by decide) ?_
      refine lv_ishr hx hb dL_act_367 ?_
      refine lv_topi (fun vz367_33 evz367_33 => ?_)
      refine lv_iload_n hx hb dL_act_368 rfl (lv_at hl 6 rfl) ?_
      refine lv_bipush (v := 8) hx hb dL_act_369 (by decide) ?_
      refine lv_ishr hx hb dL_act_371 ?_
      refine lv_topi (fun vz371_34 evz371_34 => ?_)
      refine lv_iconst (v := 2) hx hb dL_act_372 (by decide) ?_
      have g := g.eqw (List.nil_append _).symm
      refine y_ci (rest := [.int vz367_33, .ref (A 0)]) (wc := []) g (y_S (nA := 2) (As := [.int vz371_34, .int 2]) (wc := []) S g (d_below l G vz371_34 2 (by omega) (by omega)) (lw_S q526 q527 q0 q528) ⟨by decide +kernel, by decide +kernel, by decide +kernel⟩ rfl ⟨Nat.le_of_ble_eq_true rfl, Nat.le_of_ble_eq_true rfl⟩ hl.1 (Nat.le_of_ble_eq_true rfl) rfl ⟨Nat.le_of_ble_eq_true rfl, Nat.le_of_ble_eq_true rfl⟩ dL_act_373) (fun r9 u373_35 H locs hp9 g => ?_)
      have g := g.eqw (List.nil_append _)
      obtain ⟨z373, hz373, ez373⟩ := hp9
      subst ez373
      refine lv_if_ne (tgt := 385) hx hb dL_act_376 (by decide) (fun c_376 => ?_) (fun c_376 => ?_)
      · refine lv_bipush (v := 40) hx hb dL_act_385 (by decide) ?_
        have g := g.eqw (List.nil_append _).symm
        refine y_ci (rest := [.ref (A 0)]) (wc := []) g (y_S (nA := 2) (As := [.int vz367_33, .int 40]) (wc := []) S g (d_below l G vz367_33 40 (by omega) (by omega)) (lw_S q526 q527 q0 q528) ⟨by decide +kernel, by decide +kernel, by decide +kernel⟩ rfl ⟨Nat.le_of_ble_eq_true rfl, Nat.le_of_ble_eq_true rfl⟩ hl.1 (Nat.le_of_ble_eq_true rfl) rfl ⟨Nat.le_of_ble_eq_true rfl, Nat.le_of_ble_eq_true rfl⟩ dL_act_387) (fun r9 u387_36 H locs hp9 g => ?_)
        have g := g.eqw (List.nil_append _)
        obtain ⟨z387, hz387, ez387⟩ := hp9
        subst ez387
        have g := g.perm (pm2 _ _ _ )
        refine x_puti S g (Or.inl rfl) 3 (by decide) q440 dL_act_390 (fun H locs g => ?_)
        refine lv_aload_n hx hb dL_act_393 rfl (lv_at hl 5 rfl) ?_
        refine lv_iload_n hx hb dL_act_394 rfl (lv_at hl 6 rfl) ?_
        refine lv_bipush (v := 9) hx hb dL_act_395 (by decide) ?_
        refine lv_ishr hx hb dL_act_397 ?_
        refine lv_topi (fun vz397_37 evz397_37 => ?_)
        refine lv_iconst (v := 3) hx hb dL_act_398 (by decide) ?_
        have g := g.eqw (List.nil_append _).symm
        refine y_ci (rest := [.ref (A 0)]) (wc := []) g (y_S (nA := 2) (As := [.int vz397_37, .int 3]) (wc := []) S g (d_below l G vz397_37 3 (by omega) (by omega)) (lw_S q526 q527 q0 q528) ⟨by decide +kernel, by decide +kernel, by decide +kernel⟩ rfl ⟨Nat.le_of_ble_eq_true rfl, Nat.le_of_ble_eq_true rfl⟩ hl.1 (Nat.le_of_ble_eq_true rfl) rfl ⟨Nat.le_of_ble_eq_true rfl, Nat.le_of_ble_eq_true rfl⟩ dL_act_399) (fun r9 u399_38 H locs hp9 g => ?_)
        have g := g.eqw (List.nil_append _)
        obtain ⟨z399, hz399, ez399⟩ := hp9
        subst ez399
        refine lv_if_ne (tgt := 409) hx hb dL_act_402 (by decide) (fun c_402 => ?_) (fun c_402 => ?_)
        · refine lv_iload_n hx hb dL_act_409 rfl (lv_at hl 6 rfl) ?_
          refine lv_bipush (v := 6) hx hb dL_act_410 (by decide) ?_
          refine lv_ishr hx hb dL_act_412 ?_
          refine lv_topi (fun vz412_39 evz412_39 => ?_)
          refine lv_iload_n hx hb dL_act_413 rfl (lv_at hl 6 rfl) ?_
          refine lv_iconst (v := 3) hx hb dL_act_414 (by decide) ?_
          refine lv_ishr hx hb dL_act_415 ?_
          refine lv_topi (fun vz415_40 evz415_40 => ?_)
          refine lv_iconst (v := 2) hx hb dL_act_416 (by decide) ?_
          have g := g.eqw (List.nil_append _).symm
          refine y_ci (rest := [.int vz412_39, .ref (A 0)]) (wc := []) g (y_S (nA := 2) (As := [.int vz415_40, .int 2]) (wc := []) S g (d_below l G vz415_40 2 (by omega) (by omega)) (lw_S q526 q527 q0 q528) ⟨by decide +kernel, by decide +kernel, by decide +kernel⟩ rfl ⟨Nat.le_of_ble_eq_true rfl, Nat.le_of_ble_eq_true rfl⟩ hl.1 (Nat.le_of_ble_eq_true rfl) rfl ⟨Nat.le_of_ble_eq_true rfl, Nat.le_of_ble_eq_true rfl⟩ dL_act_417) (fun r9 u417_41 H locs hp9 g => ?_)
          have g := g.eqw (List.nil_append _)
          obtain ⟨z417, hz417, ez417⟩ := hp9
          subst ez417
          refine lv_if_ne (tgt := 429) hx hb dL_act_420 (by decide) (fun c_420 => ?_) (fun c_420 => ?_)
          · refine lv_bipush (v := 60) hx hb dL_act_429 (by decide) ?_
            have g := g.eqw (List.nil_append _).symm
            refine y_ci (rest := [.ref (A 0)]) (wc := []) g (y_S (nA := 2) (As := [.int vz412_39, .int 60]) (wc := []) S g (d_below l G vz412_39 60 (by omega) (by omega)) (lw_S q526 q527 q0 q528) ⟨by decide +kernel, by decide +kernel, by decide +kernel⟩ rfl ⟨Nat.le_of_ble_eq_true rfl, Nat.le_of_ble_eq_true rfl⟩ hl.1 (Nat.le_of_ble_eq_true rfl) rfl ⟨Nat.le_of_ble_eq_true rfl, Nat.le_of_ble_eq_true rfl⟩ dL_act_431) (fun r9 u431_42 H locs hp9 g => ?_)
            have g := g.eqw (List.nil_append _)
            obtain ⟨z431, hz431, ez431⟩ := hp9
            subst ez431
            refine x_puti S g (Or.inl rfl) 4 (by decide) q442 dL_act_434 (fun H locs g => ?_)
            refine lv_aload_n hx hb dL_act_437 rfl (lv_at hl 4 rfl) ?_
            refine lv_aload_n hx hb dL_act_438 rfl (lv_at hl 5 rfl) ?_
            refine x_geti S g (List.mem_append_left _ (swl_m0 G A _ _ _)) 3 (by decide) q440 dL_act_439 ?_
            rw [show ((up2 (up2 F 1 3 (nI z387)) 1 4 (nI z431)) 1 3 : Int32) = nI z387 from (by rw [up2_ne _ _ (by omega), up2_s])]
            refine lv_aload_n hx hb dL_act_442 rfl (lv_at hl 5 rfl) ?_
            refine x_geti S g (List.mem_append_left _ (swl_m0 G A _ _ _)) 4 (by decide) q442 dL_act_443 ?_
            rw [show ((up2 (up2 F 1 3 (nI z387)) 1 4 (nI z431)) 1 4 : Int32) = nI z431 from (up2_s _ _ _ _)]
            have g := g.perm (pm2 _ _ _ )
            refine x_ci (rest := []) g (x_V (nA := 2) (As := [.int (nI z387), .int (nI z431)]) S g (c_reinsure_ok l G F 0 (nI z387) (nI z431) (inR_N (lo := 0) (hi := 200) (Nat.zero_le _) (by omega) (by decide)) (inR_N (lo := 0) (hi := 400) (Nat.zero_le _) (by omega) (by decide))) (lw_V q590 q591 q592 q1 q593) ⟨rfl, by decide +kernel, by decide +kernel, by decide +kernel⟩ rfl ⟨Nat.le_of_ble_eq_true rfl, Nat.le_of_ble_eq_true rfl⟩ hl.1 (Nat.le_of_ble_eq_true rfl) rfl ⟨Nat.le_of_ble_eq_true rfl, Nat.le_of_ble_eq_true rfl⟩ dL_act_446) (fun H locs g => ?_)
            refine lv_iload hx hb dL_act_449 (lv_at hl 0 rfl) ?_
            refine lv_icmp_ne (tgt := 458) hx hb dL_act_451 (by decide) (fun c9 => absurd rfl c9) (fun c_451 => ?_)
            refine lv_iconst (v := 1) hx hb dL_act_454 (by decide) ?_
            refine lv_goto (tgt := 459) hx hb dL_act_455 (by decide) ?_
            refine W.widen (k := 480) (n := 1920) (by omega) (by omega) ?_
            have g := g.eqw (show _ = wld G (up2 (up2 F 1 3 (nI z387)) 1 4 (nI z431)) 0 ++ swl G A n (up2 (up2 F 1 3 (nI z387)) 1 4 (nI z431)) 1 from by simp only [List.append_nil, List.append_assoc])
            exact f_z ((A, up2 (up2 F 1 3 (nI z387)) 1 4 (nI z431), n, h)) S hr hk0 g (by first | exact Or.inl rfl | exact Or.inr rfl) ⟨rfl, rfl, (in_reins hIn (by omega) (by omega)), (show h ≤ h + 60 from by omega)⟩ dL_act_459
          · refine lv_sipush (v := 401) hx hb dL_act_423 (by decide) ?_
            refine lv_goto (tgt := 431) hx hb dL_act_426 (by decide) ?_
            have g := g.eqw (List.nil_append _).symm
            refine y_ci (rest := [.ref (A 0)]) (wc := []) g (y_S (nA := 2) (As := [.int vz412_39, .int 401]) (wc := []) S g (d_below l G vz412_39 401 (by omega) (by omega)) (lw_S q526 q527 q0 q528) ⟨by decide +kernel, by decide +kernel, by decide +kernel⟩ rfl ⟨Nat.le_of_ble_eq_true rfl, Nat.le_of_ble_eq_true rfl⟩ hl.1 (Nat.le_of_ble_eq_true rfl) rfl ⟨Nat.le_of_ble_eq_true rfl, Nat.le_of_ble_eq_true rfl⟩ dL_act_431) (fun r9 u431_43 H locs hp9 g => ?_)
            have g := g.eqw (List.nil_append _)
            obtain ⟨z431, hz431, ez431⟩ := hp9
            subst ez431
            refine x_puti S g (Or.inl rfl) 4 (by decide) q442 dL_act_434 (fun H locs g => ?_)
            refine lv_aload_n hx hb dL_act_437 rfl (lv_at hl 4 rfl) ?_
            refine lv_aload_n hx hb dL_act_438 rfl (lv_at hl 5 rfl) ?_
            refine x_geti S g (List.mem_append_left _ (swl_m0 G A _ _ _)) 3 (by decide) q440 dL_act_439 ?_
            rw [show ((up2 (up2 F 1 3 (nI z387)) 1 4 (nI z431)) 1 3 : Int32) = nI z387 from (by rw [up2_ne _ _ (by omega), up2_s])]
            refine lv_aload_n hx hb dL_act_442 rfl (lv_at hl 5 rfl) ?_
            refine x_geti S g (List.mem_append_left _ (swl_m0 G A _ _ _)) 4 (by decide) q442 dL_act_443 ?_
            rw [show ((up2 (up2 F 1 3 (nI z387)) 1 4 (nI z431)) 1 4 : Int32) = nI z431 from (up2_s _ _ _ _)]
            have g := g.perm (pm2 _ _ _ )
            refine x_ci (rest := []) g (x_V (nA := 2) (As := [.int (nI z387), .int (nI z431)]) S g (c_reinsure_ok l G F 0 (nI z387) (nI z431) (inR_N (lo := 0) (hi := 200) (Nat.zero_le _) (by omega) (by decide)) (inR_N (lo := 0) (hi := 400) (Nat.zero_le _) (by omega) (by decide))) (lw_V q590 q591 q592 q1 q593) ⟨rfl, by decide +kernel, by decide +kernel, by decide +kernel⟩ rfl ⟨Nat.le_of_ble_eq_true rfl, Nat.le_of_ble_eq_true rfl⟩ hl.1 (Nat.le_of_ble_eq_true rfl) rfl ⟨Nat.le_of_ble_eq_true rfl, Nat.le_of_ble_eq_true rfl⟩ dL_act_446) (fun H locs g => ?_)
            refine lv_iload hx hb dL_act_449 (lv_at hl 0 rfl) ?_
            refine lv_icmp_ne (tgt := 458) hx hb dL_act_451 (by decide) (fun c9 => absurd rfl c9) (fun c_451 => ?_)
            refine lv_iconst (v := 1) hx hb dL_act_454 (by decide) ?_
            refine lv_goto (tgt := 459) hx hb dL_act_455 (by decide) ?_
            refine W.widen (k := 480) (n := 1920) (by omega) (by omega) ?_
            have g := g.eqw (show _ = wld G (up2 (up2 F 1 3 (nI z387)) 1 4 (nI z431)) 0 ++ swl G A n (up2 (up2 F 1 3 (nI z387)) 1 4 (nI z431)) 1 from by simp only [List.append_nil, List.append_assoc])
            exact f_z ((A, up2 (up2 F 1 3 (nI z387)) 1 4 (nI z431), n, h)) S hr hk0 g (by first | exact Or.inl rfl | exact Or.inr rfl) ⟨rfl, rfl, (in_reins hIn (by omega) (by omega)), (show h ≤ h + 60 from by omega)⟩ dL_act_459
        · refine lv_iconst (v := 0) hx hb dL_act_405 (by decide) ?_
          refine lv_goto (tgt := 434) hx hb dL_act_406 (by decide) ?_
          refine x_puti S g (Or.inl rfl) 4 (by decide) q442 dL_act_434 (fun H locs g => ?_)
          refine lv_aload_n hx hb dL_act_437 rfl (lv_at hl 4 rfl) ?_
          refine lv_aload_n hx hb dL_act_438 rfl (lv_at hl 5 rfl) ?_
          refine x_geti S g (List.mem_append_left _ (swl_m0 G A _ _ _)) 3 (by decide) q440 dL_act_439 ?_
          rw [show ((up2 (up2 F 1 3 (nI z387)) 1 4 0) 1 3 : Int32) = nI z387 from (by rw [up2_ne _ _ (by omega), up2_s])]
          refine lv_aload_n hx hb dL_act_442 rfl (lv_at hl 5 rfl) ?_
          refine x_geti S g (List.mem_append_left _ (swl_m0 G A _ _ _)) 4 (by decide) q442 dL_act_443 ?_
          rw [show ((up2 (up2 F 1 3 (nI z387)) 1 4 0) 1 4 : Int32) = 0 from (up2_s _ _ _ _)]
          have g := g.perm (pm2 _ _ _ )
          refine x_ci (rest := []) g (x_V (nA := 2) (As := [.int (nI z387), .int 0]) S g (c_reinsure_ok l G F 0 (nI z387) 0 (inR_N (lo := 0) (hi := 200) (Nat.zero_le _) (by omega) (by decide)) (by decide)) (lw_V q590 q591 q592 q1 q593) ⟨rfl, by decide +kernel, by decide +kernel, by decide +kernel⟩ rfl ⟨Nat.le_of_ble_eq_true rfl, Nat.le_of_ble_eq_true rfl⟩ hl.1 (Nat.le_of_ble_eq_true rfl) rfl ⟨Nat.le_of_ble_eq_true rfl, Nat.le_of_ble_eq_true rfl⟩ dL_act_446) (fun H locs g => ?_)
          refine lv_iload hx hb dL_act_449 (lv_at hl 0 rfl) ?_
          refine lv_icmp_ne (tgt := 458) hx hb dL_act_451 (by decide) (fun c9 => absurd rfl c9) (fun c_451 => ?_)
          refine lv_iconst (v := 1) hx hb dL_act_454 (by decide) ?_
          refine lv_goto (tgt := 459) hx hb dL_act_455 (by decide) ?_
          refine W.widen (k := 480) (n := 1920) (by omega) (by omega) ?_
          have g := g.eqw (show _ = wld G (up2 (up2 F 1 3 (nI z387)) 1 4 0) 0 ++ swl G A n (up2 (up2 F 1 3 (nI z387)) 1 4 0) 1 from by simp only [List.append_nil, List.append_assoc])
          exact f_z ((A, up2 (up2 F 1 3 (nI z387)) 1 4 0, n, h)) S hr hk0 g (by first | exact Or.inl rfl | exact Or.inr rfl) ⟨rfl, rfl, (in_reins (y := 0) hIn (by omega) (by omega)), (show h ≤ h + 60 from by omega)⟩ dL_act_459
      · refine lv_sipush (v := 201) hx hb dL_act_379 (by decide) ?_
        refine lv_goto (tgt := 387) hx hb dL_act_382 (by decide) ?_
        have g := g.eqw (List.nil_append _).symm
        refine y_ci (rest := [.ref (A 0)]) (wc := []) g (y_S (nA := 2) (As := [.int vz367_33, .int 201]) (wc := []) S g (d_below l G vz367_33 201 (by omega) (by omega)) (lw_S q526 q527 q0 q528) ⟨by decide +kernel, by decide +kernel, by decide +kernel⟩ rfl ⟨Nat.le_of_ble_eq_true rfl, Nat.le_of_ble_eq_true rfl⟩ hl.1 (Nat.le_of_ble_eq_true rfl) rfl ⟨Nat.le_of_ble_eq_true rfl, Nat.le_of_ble_eq_true rfl⟩ dL_act_387) (fun r9 u387_44 H locs hp9 g => ?_)
        have g := g.eqw (List.nil_append _)
        obtain ⟨z387, hz387, ez387⟩ := hp9
        subst ez387
        have g := g.perm (pm2 _ _ _ )
        refine x_puti S g (Or.inl rfl) 3 (by decide) q440 dL_act_390 (fun H locs g => ?_)
        refine lv_aload_n hx hb dL_act_393 rfl (lv_at hl 5 rfl) ?_
        refine lv_iload_n hx hb dL_act_394 rfl (lv_at hl 6 rfl) ?_
        refine lv_bipush (v := 9) hx hb dL_act_395 (by decide) ?_
        refine lv_ishr hx hb dL_act_397 ?_
        refine lv_topi (fun vz397_45 evz397_45 => ?_)
        refine lv_iconst (v := 3) hx hb dL_act_398 (by decide) ?_
        have g := g.eqw (List.nil_append _).symm
        refine y_ci (rest := [.ref (A 0)]) (wc := []) g (y_S (nA := 2) (As := [.int vz397_45, .int 3]) (wc := []) S g (d_below l G vz397_45 3 (by omega) (by omega)) (lw_S q526 q527 q0 q528) ⟨by decide +kernel, by decide +kernel, by decide +kernel⟩ rfl ⟨Nat.le_of_ble_eq_true rfl, Nat.le_of_ble_eq_true rfl⟩ hl.1 (Nat.le_of_ble_eq_true rfl) rfl ⟨Nat.le_of_ble_eq_true rfl, Nat.le_of_ble_eq_true rfl⟩ dL_act_399) (fun r9 u399_46 H locs hp9 g => ?_)
        have g := g.eqw (List.nil_append _)
        obtain ⟨z399, hz399, ez399⟩ := hp9
        subst ez399
        refine lv_if_ne (tgt := 409) hx hb dL_act_402 (by decide) (fun c_402 => ?_) (fun c_402 => ?_)
        · refine lv_iload_n hx hb dL_act_409 rfl (lv_at hl 6 rfl) ?_
          refine lv_bipush (v := 6) hx hb dL_act_410 (by decide) ?_
          refine lv_ishr hx hb dL_act_412 ?_
          refine lv_topi (fun vz412_47 evz412_47 => ?_)
          refine lv_iload_n hx hb dL_act_413 rfl (lv_at hl 6 rfl) ?_
          refine lv_iconst (v := 3) hx hb dL_act_414 (by decide) ?_
          refine lv_ishr hx hb dL_act_415 ?_
          refine lv_topi (fun vz415_48 evz415_48 => ?_)
          refine lv_iconst (v := 2) hx hb dL_act_416 (by decide) ?_
          have g := g.eqw (List.nil_append _).symm
          refine y_ci (rest := [.int vz412_47, .ref (A 0)]) (wc := []) g (y_S (nA := 2) (As := [.int vz415_48, .int 2]) (wc := []) S g (d_below l G vz415_48 2 (by omega) (by omega)) (lw_S q526 q527 q0 q528) ⟨by decide +kernel, by decide +kernel, by decide +kernel⟩ rfl ⟨Nat.le_of_ble_eq_true rfl, Nat.le_of_ble_eq_true rfl⟩ hl.1 (Nat.le_of_ble_eq_true rfl) rfl ⟨Nat.le_of_ble_eq_true rfl, Nat.le_of_ble_eq_true rfl⟩ dL_act_417) (fun r9 u417_49 H locs hp9 g => ?_)
          have g := g.eqw (List.nil_append _)
          obtain ⟨z417, hz417, ez417⟩ := hp9
          subst ez417
          refine lv_if_ne (tgt := 429) hx hb dL_act_420 (by decide) (fun c_420 => ?_) (fun c_420 => ?_)
          · refine lv_bipush (v := 60) hx hb dL_act_429 (by decide) ?_
            have g := g.eqw (List.nil_append _).symm
            refine y_ci (rest := [.ref (A 0)]) (wc := []) g (y_S (nA := 2) (As := [.int vz412_47, .int 60]) (wc := []) S g (d_below l G vz412_47 60 (by omega) (by omega)) (lw_S q526 q527 q0 q528) ⟨by decide +kernel, by decide +kernel, by decide +kernel⟩ rfl ⟨Nat.le_of_ble_eq_true rfl, Nat.le_of_ble_eq_true rfl⟩ hl.1 (Nat.le_of_ble_eq_true rfl) rfl ⟨Nat.le_of_ble_eq_true rfl, Nat.le_of_ble_eq_true rfl⟩ dL_act_431) (fun r9 u431_50 H locs hp9 g => ?_)
            have g := g.eqw (List.nil_append _)
            obtain ⟨z431, hz431, ez431⟩ := hp9
            subst ez431
            refine x_puti S g (Or.inl rfl) 4 (by decide) q442 dL_act_434 (fun H locs g => ?_)
            refine lv_aload_n hx hb dL_act_437 rfl (lv_at hl 4 rfl) ?_
            refine lv_aload_n hx hb dL_act_438 rfl (lv_at hl 5 rfl) ?_
            refine x_geti S g (List.mem_append_left _ (swl_m0 G A _ _ _)) 3 (by decide) q440 dL_act_439 ?_
            rw [show ((up2 (up2 F 1 3 (nI z387)) 1 4 (nI z431)) 1 3 : Int32) = nI z387 from (by rw [up2_ne _ _ (by omega), up2_s])]
            refine lv_aload_n hx hb dL_act_442 rfl (lv_at hl 5 rfl) ?_
            refine x_geti S g (List.mem_append_left _ (swl_m0 G A _ _ _)) 4 (by decide) q442 dL_act_443 ?_
            rw [show ((up2 (up2 F 1 3 (nI z387)) 1 4 (nI z431)) 1 4 : Int32) = nI z431 from (up2_s _ _ _ _)]
            have g := g.perm (pm2 _ _ _ )
            refine x_ci (rest := []) g (x_V (nA := 2) (As := [.int (nI z387), .int (nI z431)]) S g (c_reinsure_ok l G F 0 (nI z387) (nI z431) (inR_N (lo := 0) (hi := 200) (Nat.zero_le _) (by omega) (by decide)) (inR_N (lo := 0) (hi := 400) (Nat.zero_le _) (by omega) (by decide))) (lw_V q590 q591 q592 q1 q593) ⟨rfl, by decide +kernel, by decide +kernel, by decide +kernel⟩ rfl ⟨Nat.le_of_ble_eq_true rfl, Nat.le_of_ble_eq_true rfl⟩ hl.1 (Nat.le_of_ble_eq_true rfl) rfl ⟨Nat.le_of_ble_eq_true rfl, Nat.le_of_ble_eq_true rfl⟩ dL_act_446) (fun H locs g => ?_)
            refine lv_iload hx hb dL_act_449 (lv_at hl 0 rfl) ?_
            refine lv_icmp_ne (tgt := 458) hx hb dL_act_451 (by decide) (fun c9 => absurd rfl c9) (fun c_451 => ?_)
            refine lv_iconst (v := 1) hx hb dL_act_454 (by decide) ?_
            refine lv_goto (tgt := 459) hx hb dL_act_455 (by decide) ?_
            refine W.widen (k := 480) (n := 1920) (by omega) (by omega) ?_
            have g := g.eqw (show _ = wld G (up2 (up2 F 1 3 (nI z387)) 1 4 (nI z431)) 0 ++ swl G A n (up2 (up2 F 1 3 (nI z387)) 1 4 (nI z431)) 1 from by simp only [List.append_nil, List.append_assoc])
            exact f_z ((A, up2 (up2 F 1 3 (nI z387)) 1 4 (nI z431), n, h)) S hr hk0 g (by first | exact Or.inl rfl | exact Or.inr rfl) ⟨rfl, rfl, (in_reins hIn (by omega) (by omega)), (show h ≤ h + 60 from by omega)⟩ dL_act_459
          · refine lv_sipush (v := 401) hx hb dL_act_423 (by decide) ?_
            refine lv_goto (tgt := 431) hx hb dL_act_426 (by decide) ?_
            have g := g.eqw (List.nil_append _).symm
            refine y_ci (rest := [.ref (A 0)]) (wc := []) g (y_S (nA := 2) (As := [.int vz412_47, .int 401]) (wc := []) S g (d_below l G vz412_47 401 (by omega) (by omega)) (lw_S q526 q527 q0 q528) ⟨by decide +kernel, by decide +kernel, by decide +kernel⟩ rfl ⟨Nat.le_of_ble_eq_true rfl, Nat.le_of_ble_eq_true rfl⟩ hl.1 (Nat.le_of_ble_eq_true rfl) rfl ⟨Nat.le_of_ble_eq_true rfl, Nat.le_of_ble_eq_true rfl⟩ dL_act_431) (fun r9 u431_51 H locs hp9 g => ?_)
            have g := g.eqw (List.nil_append _)
            obtain ⟨z431, hz431, ez431⟩ := hp9
            subst ez431
            refine x_puti S g (Or.inl rfl) 4 (by decide) q442 dL_act_434 (fun H locs g => ?_)
            refine lv_aload_n hx hb dL_act_437 rfl (lv_at hl 4 rfl) ?_
            refine lv_aload_n hx hb dL_act_438 rfl (lv_at hl 5 rfl) ?_
            refine x_geti S g (List.mem_append_left _ (swl_m0 G A _ _ _)) 3 (by decide) q440 dL_act_439 ?_
            rw [show ((up2 (up2 F 1 3 (nI z387)) 1 4 (nI z431)) 1 3 : Int32) = nI z387 from (by rw [up2_ne _ _ (by omega), up2_s])]
            refine lv_aload_n hx hb dL_act_442 rfl (lv_at hl 5 rfl) ?_
            refine x_geti S g (List.mem_append_left _ (swl_m0 G A _ _ _)) 4 (by decide) q442 dL_act_443 ?_
            rw [show ((up2 (up2 F 1 3 (nI z387)) 1 4 (nI z431)) 1 4 : Int32) = nI z431 from (up2_s _ _ _ _)]
            have g := g.perm (pm2 _ _ _ )
            refine x_ci (rest := []) g (x_V (nA := 2) (As := [.int (nI z387), .int (nI z431)]) S g (c_reinsure_ok l G F 0 (nI z387) (nI z431) (inR_N (lo := 0) (hi := 200) (Nat.zero_le _) (by omega) (by decide)) (inR_N (lo := 0) (hi := 400) (Nat.zero_le _) (by omega) (by decide))) (lw_V q590 q591 q592 q1 q593) ⟨rfl, by decide +kernel, by decide +kernel, by decide +kernel⟩ rfl ⟨Nat.le_of_ble_eq_true rfl, Nat.le_of_ble_eq_true rfl⟩ hl.1 (Nat.le_of_ble_eq_true rfl) rfl ⟨Nat.le_of_ble_eq_true rfl, Nat.le_of_ble_eq_true rfl⟩ dL_act_446) (fun H locs g => ?_)
            refine lv_iload hx hb dL_act_449 (lv_at hl 0 rfl) ?_
            refine lv_icmp_ne (tgt := 458) hx hb dL_act_451 (by decide) (fun c9 => absurd rfl c9) (fun c_451 => ?_)
            refine lv_iconst (v := 1) hx hb dL_act_454 (by decide) ?_
            refine lv_goto (tgt := 459) hx hb dL_act_455 (by decide) ?_
            refine W.widen (k := 480) (n := 1920) (by omega) (by omega) ?_
            have g := g.eqw (show _ = wld G (up2 (up2 F 1 3 (nI z387)) 1 4 (nI z431)) 0 ++ swl G A n (up2 (up2 F 1 3 (nI z387)) 1 4 (nI z431)) 1 from by simp only [List.append_nil, List.append_assoc])
            exact f_z ((A, up2 (up2 F 1 3 (nI z387)) 1 4 (nI z431), n, h)) S hr hk0 g (by first | exact Or.inl rfl | exact Or.inr rfl) ⟨rfl, rfl, (in_reins hIn (by omega) (by omega)), (show h ≤ h + 60 from by omega)⟩ dL_act_459
        · refine lv_iconst (v := 0) hx hb dL_act_405 (by decide) ?_
          refine lv_goto (tgt := 434) hx hb dL_act_406 (by decide) ?_
          refine x_puti S g (Or.inl rfl) 4 (by decide) q442 dL_act_434 (fun H locs g => ?_)
          refine lv_aload_n hx hb dL_act_437 rfl (lv_at hl 4 rfl) ?_
          refine lv_aload_n hx hb dL_act_438 rfl (lv_at hl 5 rfl) ?_
          refine x_geti S g (List.mem_append_left _ (swl_m0 G A _ _ _)) 3 (by decide) q440 dL_act_439 ?_
          rw [show ((up2 (up2 F 1 3 (nI z387)) 1 4 0) 1 3 : Int32) = nI z387 from (by rw [up2_ne _ _ (by omega), up2_s])]
          refine lv_aload_n hx hb dL_act_442 rfl (lv_at hl 5 rfl) ?_
          refine x_geti S g (List.mem_append_left _ (swl_m0 G A _ _ _)) 4 (by decide) q442 dL_act_443 ?_
          rw [show ((up2 (up2 F 1 3 (nI z387)) 1 4 0) 1 4 : Int32) = 0 from (up2_s _ _ _ _)]
          have g := g.perm (pm2 _ _ _ )
          refine x_ci (rest := []) g (x_V (nA := 2) (As := [.int (nI z387), .int 0]) S g (c_reinsure_ok l G F 0 (nI z387) 0 (inR_N (lo := 0) (hi := 200) (Nat.zero_le _) (by omega) (by decide)) (by decide)) (lw_V q590 q591 q592 q1 q593) ⟨rfl, by decide +kernel, by decide +kernel, by decide +kernel⟩ rfl ⟨Nat.le_of_ble_eq_true rfl, Nat.le_of_ble_eq_true rfl⟩ hl.1 (Nat.le_of_ble_eq_true rfl) rfl ⟨Nat.le_of_ble_eq_true rfl, Nat.le_of_ble_eq_true rfl⟩ dL_act_446) (fun H locs g => ?_)
          refine lv_iload hx hb dL_act_449 (lv_at hl 0 rfl) ?_
          refine lv_icmp_ne (tgt := 458) hx hb dL_act_451 (by decide) (fun c9 => absurd rfl c9) (fun c_451 => ?_)
          refine lv_iconst (v := 1) hx hb dL_act_454 (by decide) ?_
          refine lv_goto (tgt := 459) hx hb dL_act_455 (by decide) ?_
          refine W.widen (k := 480) (n := 1920) (by omega) (by omega) ?_
          have g := g.eqw (show _ = wld G (up2 (up2 F 1 3 (nI z387)) 1 4 0) 0 ++ swl G A n (up2 (up2 F 1 3 (nI z387)) 1 4 0) 1 from by simp only [List.append_nil, List.append_assoc])
          exact f_z ((A, up2 (up2 F 1 3 (nI z387)) 1 4 0, n, h)) S hr hk0 g (by first | exact Or.inl rfl | exact Or.inr rfl) ⟨rfl, rfl, (in_reins (y := 0) hIn (by omega) (by omega)), (show h ≤ h + 60 from by omega)⟩ dL_act_459
    · rw [ez]
      refine lv_tableIn (tgt := 358) (off := 318) hx hb dL_act_40 (by decide) (by decide) (by decide) (by decide) ?_
      refine lv_aload_n hx hb dL_act_358 rfl (lv_at hl 4 rfl) ?_
      refine x_geti S g (List.mem_append_right _ (List.mem_append_left _ (swl_m0 G A _ _ _))) 4 (by decide) q442 dL_act_359 ?_
      refine lv_istore (lv' := [(6, .int (F 1 4)), (5, .int 1), (4, .int (nI z18)), (3, .int (nI n)), (0, .ref (gA G 0)), (1, .ref (A 0)), (2, .int x)]) hx hb dL_act_362 hl (by decide) rfl (fun ls hl => ?_)
      refine lv_aload_n hx hb dL_act_364 rfl (lv_at hl 5 rfl) ?_
      refine lv_iload_n hx hb dL_act_365 rfl (lv_at hl 6 rfl) ?_
      refine lv_iconst (v := 4) hx hb dL_act_366 (by decide) ?_
      refine lv_ishr hx hb dL_act_367 ?_
      refine lv_topi (fun vz367_52 evz367_52 => ?_)
      refine lv_iload_n hx hb dL_act_368 rfl (lv_at hl 6 rfl) ?_
      refine lv_bipush (v := 8) hx hb dL_act_369 (by decide) ?_
      refine lv_ishr hx hb dL_act_371 ?_
      refine lv_topi (fun vz371_53 evz371_53 => ?_)
      refine lv_iconst (v := 2) hx hb dL_act_372 (by decide) ?_
      have g := g.eqw (List.nil_append _).symm
      refine y_ci (rest := [.int vz367_52, .ref (A 0)]) (wc := []) g (y_S (nA := 2) (As := [.int vz371_53, .int 2]) (wc := []) S g (d_below l G vz371_53 2 (by omega) (by omega)) (lw_S q526 q527 q0 q528) ⟨by decide +kernel, by decide +kernel, by decide +kernel⟩ rfl ⟨Nat.le_of_ble_eq_true rfl, Nat.le_of_ble_eq_true rfl⟩ hl.1 (Nat.le_of_ble_eq_true rfl) rfl ⟨Nat.le_of_ble_eq_true rfl, Nat.le_of_ble_eq_true rfl⟩ dL_act_373) (fun r9 u373_54 H locs hp9 g => ?_)
      have g := g.eqw (List.nil_append _)
      obtain ⟨z373, hz373, ez373⟩ := hp9
      subst ez373
      refine lv_if_ne (tgt := 385) hx hb dL_act_376 (by decide) (fun c_376 => ?_) (fun c_376 => ?_)
      · refine lv_bipush (v := 40) hx hb dL_act_385 (by decide) ?_
        have g := g.eqw (List.nil_append _).symm
        refine y_ci (rest := [.ref (A 0)]) (wc := []) g (y_S (nA := 2) (As := [.int vz367_52, .int 40]) (wc := []) S g (d_below l G vz367_52 40 (by omega) (by omega)) (lw_S q526 q527 q0 q528) ⟨by decide +kernel, by decide +kernel, by decide +kernel⟩ rfl ⟨Nat.le_of_ble_eq_true rfl, Nat.le_of_ble_eq_true rfl⟩ hl.1 (Nat.le_of_ble_eq_true rfl) rfl ⟨Nat.le_of_ble_eq_true rfl, Nat.le_of_ble_eq_true rfl⟩ dL_act_387) (fun r9 u387_55 H locs hp9 g => ?_)
        have g := g.eqw (List.nil_append _)
        obtain ⟨z387, hz387, ez387⟩ := hp9
        subst ez387
        have g := g.perm (pm2 _ _ _ )
        refine x_puti S g (Or.inl rfl) 3 (by decide) q440 dL_act_390 (fun H locs g => ?_)
        refine lv_aload_n hx hb dL_act_393 rfl (lv_at hl 5 rfl) ?_
        refine lv_iload_n hx hb dL_act_394 rfl (lv_at hl 6 rfl) ?_
        refine lv_bipush (v := 9) hx hb dL_act_395 (by decide) ?_
        refine lv_ishr hx hb dL_act_397 ?_
        refine lv_topi (fun vz397_56 evz397_56 => ?_)
        refine lv_iconst (v := 3) hx hb dL_act_398 (by decide) ?_
        have g := g.eqw (List.nil_append _).symm
        refine y_ci (rest := [.ref (A 0)]) (wc := []) g (y_S (nA := 2) (As := [.int vz397_56, .int 3]) (wc := []) S g (d_below l G vz397_56 3 (by omega) (by omega)) (lw_S q526 q527 q0 q528) ⟨by decide +kernel, by decide +kernel, by decide +kernel⟩ rfl ⟨Nat.le_of_ble_eq_true rfl, Nat.le_of_ble_eq_true rfl⟩ hl.1 (Nat.le_of_ble_eq_true rfl) rfl ⟨Nat.le_of_ble_eq_true rfl, Nat.le_of_ble_eq_true rfl⟩ dL_act_399) (fun r9 u399_57 H locs hp9 g => ?_)
        have g := g.eqw (List.nil_append _)
        obtain ⟨z399, hz399, ez399⟩ := hp9
        subst ez399
        refine lv_if_ne (tgt := 409) hx hb dL_act_402 (by decide) (fun c_402 => ?_) (fun c_402 => ?_)
        · refine lv_iload_n hx hb dL_act_409 rfl (lv_at hl 6 rfl) ?_
          refine lv_bipush (v := 6) hx hb dL_act_410 (by decide) ?_
          refine lv_ishr hx hb dL_act_412 ?_
          refine lv_topi (fun vz412_58 evz412_58 => ?_)
          refine lv_iload_n hx hb dL_act_413 rfl (lv_at hl 6 rfl) ?_
          refine lv_iconst (v := 3) hx hb dL_act_414 (by decide) ?_
          refine lv_ishr hx hb dL_act_415 ?_
          refine lv_topi (fun vz415_59 evz415_59 => ?_)
          refine lv_iconst (v := 2) hx hb dL_act_416 (by decide) ?_
          have g := g.eqw (List.nil_append _).symm
          refine y_ci (rest := [.int vz412_58, .ref (A 0)]) (wc := []) g (y_S (nA := 2) (As := [.int vz415_59, .int 2]) (wc := []) S g (d_below l G vz415_59 2 (by omega) (by omega)) (lw_S q526 q527 q0 q528) ⟨by decide +kernel, by decide +kernel, by decide +kernel⟩ rfl ⟨Nat.le_of_ble_eq_true rfl, Nat.le_of_ble_eq_true rfl⟩ hl.1 (Nat.le_of_ble_eq_true rfl) rfl ⟨Nat.le_of_ble_eq_true rfl, Nat.le_of_ble_eq_true rfl⟩ dL_act_417) (fun r9 u417_60 H locs hp9 g => ?_)
          have g := g.eqw (List.nil_append _)
          obtain ⟨z417, hz417, ez417⟩ := hp9
          subst ez417
          refine lv_if_ne (tgt := 429) hx hb dL_act_420 (by decide) (fun c_420 => ?_) (fun c_420 => ?_)
          · refine lv_bipush (v := 60) hx hb dL_act_429 (by decide) ?_
            have g := g.eqw (List.nil_append _).symm
            refine y_ci (rest := [.ref (A 0)]) (wc := []) g (y_S (nA := 2) (As := [.int vz412_58, .int 60]) (wc := []) S g (d_below l G vz412_58 60 (by omega) (by omega)) (lw_S q526 q527 q0 q528) ⟨by decide +kernel, by decide +kernel, by decide +kernel⟩ rfl ⟨Nat.le_of_ble_eq_true rfl, Nat.le_of_ble_eq_true rfl⟩ hl.1 (Nat.le_of_ble_eq_true rfl) rfl ⟨Nat.le_of_ble_eq_true rfl, Nat.le_of_ble_eq_true rfl⟩ dL_act_431) (fun r9 u431_61 H locs hp9 g => ?_)
            have g := g.eqw (List.nil_append _)
            obtain ⟨z431, hz431, ez431⟩ := hp9
            subst ez431
            refine x_puti S g (Or.inl rfl) 4 (by decide) q442 dL_act_434 (fun H locs g => ?_)
            refine lv_aload_n hx hb dL_act_437 rfl (lv_at hl 4 rfl) ?_
            refine lv_aload_n hx hb dL_act_438 rfl (lv_at hl 5 rfl) ?_
            refine x_geti S g (List.mem_append_left _ (swl_m0 G A _ _ _)) 3 (by decide) q440 dL_act_439 ?_
            rw [show ((up2 (up2 F 1 3 (nI z387)) 1 4 (nI z431)) 1 3 : Int32) = nI z387 from (by rw [up2_ne _ _ (by omega), up2_s])]
            refine lv_aload_n hx hb dL_act_442 rfl (lv_at hl 5 rfl) ?_
            refine x_geti S g (List.mem_append_left _ (swl_m0 G A _ _ _)) 4 (by decide) q442 dL_act_443 ?_
            rw [show ((up2 (up2 F 1 3 (nI z387)) 1 4 (nI z431)) 1 4 : Int32) = nI z431 from (up2_s _ _ _ _)]
            have g := g.perm (pm2 _ _ _ )
            refine x_ci (rest := []) g (x_V (nA := 2) (As := [.int (nI z387), .int (nI z431)]) S g (c_reinsure_ok l G F 0 (nI z387) (nI z431) (inR_N (lo := 0) (hi := 200) (Nat.zero_le _) (by omega) (by decide)) (inR_N (lo := 0) (hi := 400) (Nat.zero_le _) (by omega) (by decide))) (lw_V q590 q591 q592 q1 q593) ⟨rfl, by decide +kernel, by decide +kernel, by decide +kernel⟩ rfl ⟨Nat.le_of_ble_eq_true rfl, Nat.le_of_ble_eq_true rfl⟩ hl.1 (Nat.le_of_ble_eq_true rfl) rfl ⟨Nat.le_of_ble_eq_true rfl, Nat.le_of_ble_eq_true rfl⟩ dL_act_446) (fun H locs g => ?_)
            refine lv_iload hx hb dL_act_449 (lv_at hl 0 rfl) ?_
            refine lv_icmp_ne (tgt := 458) hx hb dL_act_451 (by decide) (fun c9 => absurd rfl c9) (fun c_451 => ?_)
            refine lv_iconst (v := 1) hx hb dL_act_454 (by decide) ?_
            refine lv_goto (tgt := 459) hx hb dL_act_455 (by decide) ?_
            refine W.widen (k := 480) (n := 1920) (by omega) (by omega) ?_
            have g := g.eqw (show _ = wld G (up2 (up2 F 1 3 (nI z387)) 1 4 (nI z431)) 0 ++ swl G A n (up2 (up2 F 1 3 (nI z387)) 1 4 (nI z431)) 1 from by simp only [List.append_nil, List.append_assoc])
            exact f_z ((A, up2 (up2 F 1 3 (nI z387)) 1 4 (nI z431), n, h)) S hr hk0 g (by first | exact Or.inl rfl | exact Or.inr rfl) ⟨rfl, rfl, (in_reins hIn (by omega) (by omega)), (show h ≤ h + 60 from by omega)⟩ dL_act_459
          · refine lv_sipush (v := 401) hx hb dL_act_423 (by decide) ?_
            refine lv_goto (tgt := 431) hx hb dL_act_426 (by decide) ?_
            have g := g.eqw (List.nil_append _).symm
            refine y_ci (rest := [.ref (A 0)]) (wc := []) g (y_S (nA := 2) (As := [.int vz412_58, .int 401]) (wc := []) S g (d_below l G vz412_58 401 (by omega) (by omega)) (lw_S q526 q527 q0 q528) ⟨by decide +kernel, by decide +kernel, by decide +kernel⟩ rfl ⟨Nat.le_of_ble_eq_true rfl, Nat.le_of_ble_eq_true rfl⟩ hl.1 (Nat.le_of_ble_eq_true rfl) rfl ⟨Nat.le_of_ble_eq_true rfl, Nat.le_of_ble_eq_true rfl⟩ dL_act_431) (fun r9 u431_62 H locs hp9 g => ?_)
            have g := g.eqw (List.nil_append _)
            obtain ⟨z431, hz431, ez431⟩ := hp9
            subst ez431
            refine x_puti S g (Or.inl rfl) 4 (by decide) q442 dL_act_434 (fun H locs g => ?_)
            refine lv_aload_n hx hb dL_act_437 rfl (lv_at hl 4 rfl) ?_
            refine lv_aload_n hx hb dL_act_438 rfl (lv_at hl 5 rfl) ?_
            refine x_geti S g (List.mem_append_left _ (swl_m0 G A _ _ _)) 3 (by decide) q440 dL_act_439 ?_
            rw [show ((up2 (up2 F 1 3 (nI z387)) 1 4 (nI z431)) 1 3 : Int32) = nI z387 from (by rw [up2_ne _ _ (by omega), up2_s])]
            refine lv_aload_n hx hb dL_act_442 rfl (lv_at hl 5 rfl) ?_
            refine x_geti S g (List.mem_append_left _ (swl_m0 G A _ _ _)) 4 (by decide) q442 dL_act_443 ?_
            rw [show ((up2 (up2 F 1 3 (nI z387)) 1 4 (nI z431)) 1 4 : Int32) = nI z431 from (up2_s _ _ _ _)]
            have g := g.perm (pm2 _ _ _ )
            refine x_ci (rest := []) g (x_V (nA := 2) (As := [.int (nI z387), .int (nI z431)]) S g (c_reinsure_ok l G F 0 (nI z387) (nI z431) (inR_N (lo := 0) (hi := 200) (Nat.zero_le _) (by omega) (by decide)) (inR_N (lo := 0) (hi := 400) (Nat.zero_le _) (by omega) (by decide))) (lw_V q590 q591 q592 q1 q593) ⟨rfl, by decide +kernel, by decide +kernel, by decide +kernel⟩ rfl ⟨Nat.le_of_ble_eq_true rfl, Nat.le_of_ble_eq_true rfl⟩ hl.1 (Nat.le_of_ble_eq_true rfl) rfl ⟨Nat.le_of_ble_eq_true rfl, Nat.le_of_ble_eq_true rfl⟩ dL_act_446) (fun H locs g => ?_)
            refine lv_iload hx hb dL_act_449 (lv_at hl 0 rfl) ?_
            refine lv_icmp_ne (tgt := 458) hx hb dL_act_451 (by decide) (fun c9 => absurd rfl c9) (fun c_451 => ?_)
            refine lv_iconst (v := 1) hx hb dL_act_454 (by decide) ?_
            refine lv_goto (tgt := 459) hx hb dL_act_455 (by decide) ?_
            refine W.widen (k := 480) (n := 1920) (by omega) (by omega) ?_
            have g := g.eqw (show _ = wld G (up2 (up2 F 1 3 (nI z387)) 1 4 (nI z431)) 0 ++ swl G A n (up2 (up2 F 1 3 (nI z387)) 1 4 (nI z431)) 1 from by simp only [List.append_nil, List.append_assoc])
            exact f_z ((A, up2 (up2 F 1 3 (nI z387)) 1 4 (nI z431), n, h)) S hr hk0 g (by first | exact Or.inl rfl | exact Or.inr rfl) ⟨rfl, rfl, (in_reins hIn (by omega) (by omega)), (show h ≤ h + 60 from by omega)⟩ dL_act_459
        · refine lv_iconst (v := 0) hx hb dL_act_405 (by decide) ?_
          refine lv_goto (tgt := 434) hx hb dL_act_406 (by decide) ?_
          refine x_puti S g (Or.inl rfl) 4 (by decide) q442 dL_act_434 (fun H locs g => ?_)
          refine lv_aload_n hx hb dL_act_437 rfl (lv_at hl 4 rfl) ?_
          refine lv_aload_n hx hb dL_act_438 rfl (lv_at hl 5 rfl) ?_
          refine x_geti S g (List.mem_append_left _ (swl_m0 G A _ _ _)) 3 (by decide) q440 dL_act_439 ?_
          rw [show ((up2 (up2 F 1 3 (nI z387)) 1 4 0) 1 3 : Int32) = nI z387 from (by rw [up2_ne _ _ (by omega), up2_s])]
          refine lv_aload_n hx hb dL_act_442 rfl (lv_at hl 5 rfl) ?_
          refine x_geti S g (List.mem_append_left _ (swl_m0 G A _ _ _)) 4 (by decide) q442 dL_act_443 ?_
          rw [show ((up2 (up2 F 1 3 (nI z387)) 1 4 0) 1 4 : Int32) = 0 from (up2_s _ _ _ _)]
          have g := g.perm (pm2 _ _ _ )
          refine x_ci (rest := []) g (x_V (nA := 2) (As := [.int (nI z387), .int 0]) S g (c_reinsure_ok l G F 0 (nI z387) 0 (inR_N (lo := 0) (hi := 200) (Nat.zero_le _) (by omega) (by decide)) (by decide)) (lw_V q590 q591 q592 q1 q593) ⟨rfl, by decide +kernel, by decide +kernel, by decide +kernel⟩ rfl ⟨Nat.le_of_ble_eq_true rfl, Nat.le_of_ble_eq_true rfl⟩ hl.1 (Nat.le_of_ble_eq_true rfl) rfl ⟨Nat.le_of_ble_eq_true rfl, Nat.le_of_ble_eq_true rfl⟩ dL_act_446) (fun H locs g => ?_)
          refine lv_iload hx hb dL_act_449 (lv_at hl 0 rfl) ?_
          refine lv_icmp_ne (tgt := 458) hx hb dL_act_451 (by decide) (fun c9 => absurd rfl c9) (fun c_451 => ?_)
          refine lv_iconst (v := 1) hx hb dL_act_454 (by decide) ?_
          refine lv_goto (tgt := 459) hx hb dL_act_455 (by decide) ?_
          refine W.widen (k := 480) (n := 1920) (by omega) (by omega) ?_
          have g := g.eqw (show _ = wld G (up2 (up2 F 1 3 (nI z387)) 1 4 0) 0 ++ swl G A n (up2 (up2 F 1 3 (nI z387)) 1 4 0) 1 from by simp only [List.append_nil, List.append_assoc])
          exact f_z ((A, up2 (up2 F 1 3 (nI z387)) 1 4 0, n, h)) S hr hk0 g (by first | exact Or.inl rfl | exact Or.inr rfl) ⟨rfl, rfl, (in_reins (y := 0) hIn (by omega) (by omega)), (show h ≤ h + 60 from by omega)⟩ dL_act_459
      · refine lv_sipush (v := 201) hx hb dL_act_379 (by decide) ?_
        refine lv_goto (tgt := 387) hx hb dL_act_382 (by decide) ?_
        have g := g.eqw (List.nil_append _).symm
        refine y_ci (rest := [.ref (A 0)]) (wc := []) g (y_S (nA := 2) (As := [.int vz367_52, .int 201]) (wc := []) S g (d_below l G vz367_52 201 (by omega) (by omega)) (lw_S q526 q527 q0 q528) ⟨by decide +kernel, by decide +kernel, by decide +kernel⟩ rfl ⟨Nat.le_of_ble_eq_true rfl, Nat.le_of_ble_eq_true rfl⟩ hl.1 (Nat.le_of_ble_eq_true rfl) rfl ⟨Nat.le_of_ble_eq_true rfl, Nat.le_of_ble_eq_true rfl⟩ dL_act_387) (fun r9 u387_63 H locs hp9 g => ?_)
        have g := g.eqw (List.nil_append _)
        obtain ⟨z387, hz387, ez387⟩ := hp9
        subst ez387
        have g := g.perm (pm2 _ _ _ )
        refine x_puti S g (Or.inl rfl) 3 (by decide) q440 dL_act_390 (fun H locs g => ?_)
        refine lv_aload_n hx hb dL_act_393 rfl (lv_at hl 5 rfl) ?_
        refine lv_iload_n hx hb dL_act_394 rfl (lv_at hl 6 rfl) ?_
        refine lv_bipush (v := 9) hx hb dL_act_395 (by decide) ?_
        refine lv_ishr hx hb dL_act_397 ?_
        refine lv_topi (fun vz397_64 evz397_64 => ?_)
        refine lv_iconst (v := 3) hx hb dL_act_398 (by decide) ?_
        have g := g.eqw (List.nil_append _).symm
        refine y_ci (rest := [.ref (A 0)]) (wc := []) g (y_S (nA := 2) (As := [.int vz397_64, .int 3]) (wc := []) S g (d_below l G vz397_64 3 (by omega) (by omega)) (lw_S q526 q527 q0 q528) ⟨by decide +kernel, by decide +kernel, by decide +kernel⟩ rfl ⟨Nat.le_of_ble_eq_true rfl, Nat.le_of_ble_eq_true rfl⟩ hl.1 (Nat.le_of_ble_eq_true rfl) rfl ⟨Nat.le_of_ble_eq_true rfl, Nat.le_of_ble_eq_true rfl⟩ dL_act_399) (fun r9 u399_65 H locs hp9 g => ?_)
        have g := g.eqw (List.nil_append _)
        obtain ⟨z399, hz399, ez399⟩ := hp9
        subst ez399
        refine lv_if_ne (tgt := 409) hx hb dL_act_402 (by decide) (fun c_402 => ?_) (fun c_402 => ?_)
        · refine lv_iload_n hx hb dL_act_409 rfl (lv_at hl 6 rfl) ?_
          refine lv_bipush (v := 6) hx hb dL_act_410 (by decide) ?_
          refine lv_ishr hx hb dL_act_412 ?_
          refine lv_topi (fun vz412_66 evz412_66 => ?_)
          refine lv_iload_n hx hb dL_act_413 rfl (lv_at hl 6 rfl) ?_
          refine lv_iconst (v := 3) hx hb dL_act_414 (by decide) ?_
          refine lv_ishr hx hb dL_act_415 ?_
          refine lv_topi (fun vz415_67 evz415_67 => ?_)
          refine lv_iconst (v := 2) hx hb dL_act_416 (by decide) ?_
          have g := g.eqw (List.nil_append _).symm
          refine y_ci (rest := [.int vz412_66, .ref (A 0)]) (wc := []) g (y_S (nA := 2) (As := [.int vz415_67, .int 2]) (wc := []) S g (d_below l G vz415_67 2 (by omega) (by omega)) (lw_S q526 q527 q0 q528) ⟨by decide +kernel, by decide +kernel, by decide +kernel⟩ rfl ⟨Nat.le_of_ble_eq_true rfl, Nat.le_of_ble_eq_true rfl⟩ hl.1 (Nat.le_of_ble_eq_true rfl) rfl ⟨Nat.le_of_ble_eq_true rfl, Nat.le_of_ble_eq_true rfl⟩ dL_act_417) (fun r9 u417_68 H locs hp9 g => ?_)
          have g := g.eqw (List.nil_append _)
          obtain ⟨z417, hz417, ez417⟩ := hp9
          subst ez417
          refine lv_if_ne (tgt := 429) hx hb dL_act_420 (by decide) (fun c_420 => ?_) (fun c_420 => ?_)
          · refine lv_bipush (v := 60) hx hb dL_act_429 (by decide) ?_
            have g := g.eqw (List.nil_append _).symm
            refine y_ci (rest := [.ref (A 0)]) (wc := []) g (y_S (nA := 2) (As := [.int vz412_66, .int 60]) (wc := []) S g (d_below l G vz412_66 60 (by omega) (by omega)) (lw_S q526 q527 q0 q528) ⟨by decide +kernel, by decide +kernel, by decide +kernel⟩ rfl ⟨Nat.le_of_ble_eq_true rfl, Nat.le_of_ble_eq_true rfl⟩ hl.1 (Nat.le_of_ble_eq_true rfl) rfl ⟨Nat.le_of_ble_eq_true rfl, Nat.le_of_ble_eq_true rfl⟩ dL_act_431) (fun r9 u431_69 H locs hp9 g => ?_)
            have g := g.eqw (List.nil_append _)
            obtain ⟨z431, hz431, ez431⟩ := hp9
            subst ez431
            refine x_puti S g (Or.inl rfl) 4 (by decide) q442 dL_act_434 (fun H locs g => ?_)
            refine lv_aload_n hx hb dL_act_437 rfl (lv_at hl 4 rfl) ?_
            refine lv_aload_n hx hb dL_act_438 rfl (lv_at hl 5 rfl) ?_
            refine x_geti S g (List.mem_append_left _ (swl_m0 G A _ _ _)) 3 (by decide) q440 dL_act_439 ?_
            rw [show ((up2 (up2 F 1 3 (nI z387)) 1 4 (nI z431)) 1 3 : Int32) = nI z387 from (by rw [up2_ne _ _ (by omega), up2_s])]
            refine lv_aload_n hx hb dL_act_442 rfl (lv_at hl 5 rfl) ?_
            refine x_geti S g (List.mem_append_left _ (swl_m0 G A _ _ _)) 4 (by decide) q442 dL_act_443 ?_
            rw [show ((up2 (up2 F 1 3 (nI z387)) 1 4 (nI z431)) 1 4 : Int32) = nI z431 from (up2_s _ _ _ _)]
            have g := g.perm (pm2 _ _ _ )
            refine x_ci (rest := []) g (x_V (nA := 2) (As := [.int (nI z387), .int (nI z431)]) S g (c_reinsure_ok l G F 0 (nI z387) (nI z431) (inR_N (lo := 0) (hi := 200) (Nat.zero_le _) (by omega) (by decide)) (inR_N (lo := 0) (hi := 400) (Nat.zero_le _) (by omega) (by decide))) (lw_V q590 q591 q592 q1 q593) ⟨rfl, by decide +kernel, by decide +kernel, by decide +kernel⟩ rfl ⟨Nat.le_of_ble_eq_true rfl, Nat.le_of_ble_eq_true rfl⟩ hl.1 (Nat.le_of_ble_eq_true rfl) rfl ⟨Nat.le_of_ble_eq_true rfl, Nat.le_of_ble_eq_true rfl⟩ dL_act_446) (fun H locs g => ?_)
            refine lv_iload hx hb dL_act_449 (lv_at hl 0 rfl) ?_
            refine lv_icmp_ne (tgt := 458) hx hb dL_act_451 (by decide) (fun c9 => absurd rfl c9) (fun c_451 => ?_)
            refine lv_iconst (v := 1) hx hb dL_act_454 (by decide) ?_
            refine lv_goto (tgt := 459) hx hb dL_act_455 (by decide) ?_
            refine W.widen (k := 480) (n := 1920) (by omega) (by omega) ?_
            have g := g.eqw (show _ = wld G (up2 (up2 F 1 3 (nI z387)) 1 4 (nI z431)) 0 ++ swl G A n (up2 (up2 F 1 3 (nI z387)) 1 4 (nI z431)) 1 from by simp only [List.append_nil, List.append_assoc])
            exact f_z ((A, up2 (up2 F 1 3 (nI z387)) 1 4 (nI z431), n, h)) S hr hk0 g (by first | exact Or.inl rfl | exact Or.inr rfl) ⟨rfl, rfl, (in_reins hIn (by omega) (by omega)), (show h ≤ h + 60 from by omega)⟩ dL_act_459
          · refine lv_sipush (v := 401) hx hb dL_act_423 (by decide) ?_
            refine lv_goto (tgt := 431) hx hb dL_act_426 (by decide) ?_
            have g := g.eqw (List.nil_append _).symm
            refine y_ci (rest := [.ref (A 0)]) (wc := []) g (y_S (nA := 2) (As := [.int vz412_66, .int 401]) (wc := []) S g (d_below l G vz412_66 401 (by omega) (by omega)) (lw_S q526 q527 q0 q528) ⟨by decide +kernel, by decide +kernel, by decide +kernel⟩ rfl ⟨Nat.le_of_ble_eq_true rfl, Nat.le_of_ble_eq_true rfl⟩ hl.1 (Nat.le_of_ble_eq_true rfl) rfl ⟨Nat.le_of_ble_eq_true rfl, Nat.le_of_ble_eq_true rfl⟩ dL_act_431) (fun r9 u431_70 H locs hp9 g => ?_)
            have g := g.eqw (List.nil_append _)
            obtain ⟨z431, hz431, ez431⟩ := hp9
            subst ez431
            refine x_puti S g (Or.inl rfl) 4 (by decide) q442 dL_act_434 (fun H locs g => ?_)
            refine lv_aload_n hx hb dL_act_437 rfl (lv_at hl 4 rfl) ?_
            refine lv_aload_n hx hb dL_act_438 rfl (lv_at hl 5 rfl) ?_
            refine x_geti S g (List.mem_append_left _ (swl_m0 G A _ _ _)) 3 (by decide) q440 dL_act_439 ?_
            rw [show ((up2 (up2 F 1 3 (nI z387)) 1 4 (nI z431)) 1 3 : Int32) = nI z387 from (by rw [up2_ne _ _ (by omega), up2_s])]
            refine lv_aload_n hx hb dL_act_442 rfl (lv_at hl 5 rfl) ?_
            refine x_geti S g (List.mem_append_left _ (swl_m0 G A _ _ _)) 4 (by decide) q442 dL_act_443 ?_
            rw [show ((up2 (up2 F 1 3 (nI z387)) 1 4 (nI z431)) 1 4 : Int32) = nI z431 from (up2_s _ _ _ _)]
            have g := g.perm (pm2 _ _ _ )
            refine x_ci (rest := []) g (x_V (nA := 2) (As := [.int (nI z387), .int (nI z431)]) S g (c_reinsure_ok l G F 0 (nI z387) (nI z431) (inR_N (lo := 0) (hi := 200) (Nat.zero_le _) (by omega) (by decide)) (inR_N (lo := 0) (hi := 400) (Nat.zero_le _) (by omega) (by decide))) (lw_V q590 q591 q592 q1 q593) ⟨rfl, by decide +kernel, by decide +kernel, by decide +kernel⟩ rfl ⟨Nat.le_of_ble_eq_true rfl, Nat.le_of_ble_eq_true rfl⟩ hl.1 (Nat.le_of_ble_eq_true rfl) rfl ⟨Nat.le_of_ble_eq_true rfl, Nat.le_of_ble_eq_true rfl⟩ dL_act_446) (fun H locs g => ?_)
            refine lv_iload hx hb dL_act_449 (lv_at hl 0 rfl) ?_
            refine lv_icmp_ne (tgt := 458) hx hb dL_act_451 (by decide) (fun c9 => absurd rfl c9) (fun c_451 => ?_)
            refine lv_iconst (v := 1) hx hb dL_act_454 (by decide) ?_
            refine lv_goto (tgt := 459) hx hb dL_act_455 (by decide) ?_
            refine W.widen (k := 480) (n := 1920) (by omega) (by omega) ?_
            have g := g.eqw (show _ = wld G (up2 (up2 F 1 3 (nI z387)) 1 4 (nI z431)) 0 ++ swl G A n (up2 (up2 F 1 3 (nI z387)) 1 4 (nI z431)) 1 from by simp only [List.append_nil, List.append_assoc])
            exact f_z ((A, up2 (up2 F 1 3 (nI z387)) 1 4 (nI z431), n, h)) S hr hk0 g (by first | exact Or.inl rfl | exact Or.inr rfl) ⟨rfl, rfl, (in_reins hIn (by omega) (by omega)), (show h ≤ h + 60 from by omega)⟩ dL_act_459
        · refine lv_iconst (v := 0) hx hb dL_act_405 (by decide) ?_
          refine lv_goto (tgt := 434) hx hb dL_act_406 (by decide) ?_
          refine x_puti S g (Or.inl rfl) 4 (by decide) q442 dL_act_434 (fun H locs g => ?_)
          refine lv_aload_n hx hb dL_act_437 rfl (lv_at hl 4 rfl) ?_
          refine lv_aload_n hx hb dL_act_438 rfl (lv_at hl 5 rfl) ?_
          refine x_geti S g (List.mem_append_left _ (swl_m0 G A _ _ _)) 3 (by decide) q440 dL_act_439 ?_
          rw [show ((up2 (up2 F 1 3 (nI z387)) 1 4 0) 1 3 : Int32) = nI z387 from (by rw [up2_ne _ _ (by omega), up2_s])]
          refine lv_aload_n hx hb dL_act_442 rfl (lv_at hl 5 rfl) ?_
          refine x_geti S g (List.mem_append_left _ (swl_m0 G A _ _ _)) 4 (by decide) q442 dL_act_443 ?_
          rw [show ((up2 (up2 F 1 3 (nI z387)) 1 4 0) 1 4 : Int32) = 0 from (up2_s _ _ _ _)]
          have g := g.perm (pm2 _ _ _ )
          refine x_ci (rest := []) g (x_V (nA := 2) (As := [.int (nI z387), .int 0]) S g (c_reinsure_ok l G F 0 (nI z387) 0 (inR_N (lo := 0) (hi := 200) (Nat.zero_le _) (by omega) (by decide)) (by decide)) (lw_V q590 q591 q592 q1 q593) ⟨rfl, by decide +kernel, by decide +kernel, by decide +kernel⟩ rfl ⟨Nat.le_of_ble_eq_true rfl, Nat.le_of_ble_eq_true rfl⟩ hl.1 (Nat.le_of_ble_eq_true rfl) rfl ⟨Nat.le_of_ble_eq_true rfl, Nat.le_of_ble_eq_true rfl⟩ dL_act_446) (fun H locs g => ?_)
          refine lv_iload hx hb dL_act_449 (lv_at hl 0 rfl) ?_
          refine lv_icmp_ne (tgt := 458) hx hb dL_act_451 (by decide) (fun c9 => absurd rfl c9) (fun c_451 => ?_)
          refine lv_iconst (v := 1) hx hb dL_act_454 (by decide) ?_
          refine lv_goto (tgt := 459) hx hb dL_act_455 (by decide) ?_
          refine W.widen (k := 480) (n := 1920) (by omega) (by omega) ?_
          have g := g.eqw (show _ = wld G (up2 (up2 F 1 3 (nI z387)) 1 4 0) 0 ++ swl G A n (up2 (up2 F 1 3 (nI z387)) 1 4 0) 1 from by simp only [List.append_nil, List.append_assoc])
          exact f_z ((A, up2 (up2 F 1 3 (nI z387)) 1 4 0, n, h)) S hr hk0 g (by first | exact Or.inl rfl | exact Or.inr rfl) ⟨rfl, rfl, (in_reins (y := 0) hIn (by omega) (by omega)), (show h ≤ h + 60 from by omega)⟩ dL_act_459
    · refine lv_tableOut (tgt := 460) hx hb dL_act_40 (tb_out hz8 hz37) (by decide) ?_
      refine lv_iconst (v := 1) hx hb dL_act_460 (by decide) ?_
      refine lv_iload_n hx hb dL_act_461 rfl (lv_at hl 5 rfl) ?_
      refine lv_iconst (v := 4) hx hb dL_act_462 (by decide) ?_
      refine lv_ishr hx hb dL_act_463 ?_
      refine lv_topi (fun vz463_71 evz463_71 => ?_)
      refine lv_iload_n hx hb dL_act_464 rfl (lv_at hl 5 rfl) ?_
      refine lv_bipush (v := 8) hx hb dL_act_465 (by decide) ?_
      refine lv_ishr hx hb dL_act_467 ?_
      refine lv_topi (fun vz467_72 evz467_72 => ?_)
      refine lv_iconst (v := 5) hx hb dL_act_468 (by decide) ?_
      have g := g.eqw (List.nil_append _).symm
      refine y_ci (rest := [.int vz463_71, .int 1]) (wc := []) g (y_S (nA := 2) (As := [.int vz467_72, .int 5]) (wc := []) S g (d_below l G vz467_72 5 (by omega) (by omega)) (lw_S q526 q527 q0 q528) ⟨by decide +kernel, by decide +kernel, by decide +kernel⟩ rfl ⟨Nat.le_of_ble_eq_true rfl, Nat.le_of_ble_eq_true rfl⟩ hl.1 (Nat.le_of_ble_eq_true rfl) rfl ⟨Nat.le_of_ble_eq_true rfl, Nat.le_of_ble_eq_true rfl⟩ dL_act_469) (fun r9 u469_73 H locs hp9 g => ?_)
      have g := g.eqw (List.nil_append _)
      obtain ⟨z469, hz469, ez469⟩ := hp9
      subst ez469
      refine lv_if_ne (tgt := 480) hx hb dL_act_472 (by decide) (fun c_472 => ?_) (fun c_472 => ?_)
      · refine lv_bipush (v := 7) hx hb dL_act_480 (by decide) ?_
        have g := g.eqw (List.nil_append _).symm
        refine y_ci (rest := [.int 1]) (wc := []) g (y_S (nA := 2) (As := [.int vz463_71, .int 7]) (wc := []) S g (d_below l G vz463_71 7 (by omega) (by omega)) (lw_S q526 q527 q0 q528) ⟨by decide +kernel, by decide +kernel, by decide +kernel⟩ rfl ⟨Nat.le_of_ble_eq_true rfl, Nat.le_of_ble_eq_true rfl⟩ hl.1 (Nat.le_of_ble_eq_true rfl) rfl ⟨Nat.le_of_ble_eq_true rfl, Nat.le_of_ble_eq_true rfl⟩ dL_act_482) (fun r9 u482_74 H locs hp9 g => ?_)
        have g := g.eqw (List.nil_append _)
        obtain ⟨z482, hz482, ez482⟩ := hp9
        subst ez482
        refine lv_iadd hx hb dL_act_485 ?_
        rw [show (1 + (nI z482) : Int32) = nI (1 + z482) from (nI_add 1 z482)]
        refine lv_istore (lv' := [(6, .int (nI (1 + z482))), (5, .int 1), (4, .int (nI z18)), (3, .int (nI n)), (0, .ref (gA G 0)), (1, .ref (A 0)), (2, .int x)]) hx hb dL_act_486 hl (by decide) rfl (fun ls hl => ?_)
        refine lv_aload_n hx hb dL_act_488 rfl (lv_at hl 4 rfl) ?_
        refine lv_iload hx hb dL_act_489 (lv_at hl 0 rfl) ?_
        refine x_ci (rest := []) g (x_V (nA := 1) (As := [.int (nI (1 + z482))]) S g (c_pass_ok l G F 0 (1 + z482) n h hIn.ok hn8 (by omega) (by omega) (by omega)) (lw_V q97 q98 q99 q1 q100) ⟨rfl, by decide +kernel, by decide +kernel, by decide +kernel⟩ rfl ⟨Nat.le_of_ble_eq_true rfl, Nat.le_of_ble_eq_true rfl⟩ hl.1 (Nat.le_of_ble_eq_true rfl) rfl ⟨Nat.le_of_ble_eq_true rfl, Nat.le_of_ble_eq_true rfl⟩ dL_act_491) (fun H locs g => ?_)
        refine lv_aload_n hx hb dL_act_494 rfl (lv_at hl 5 rfl) ?_
        refine lv_iload hx hb dL_act_495 (lv_at hl 0 rfl) ?_
        have g := g.perm (pm2 _ _ _ )
        refine y_ci (rest := [.int ((gbL 1 n (1 + z482) h 0 F).1)]) g (y_V (nA := 1) (As := [.int (nI (1 + z482))]) S g (d_passN l G A n F 1 h (1 + z482) (Or.inl rfl) (by omega) (by omega) hIn.1) (swl_m0 G _ _ _ _) (lw_V q492 q493 q494 q4 q495) ⟨rfl, by decide +kernel, by decide +kernel, by decide +kernel⟩ rfl ⟨Nat.le_of_ble_eq_true rfl, Nat.le_of_ble_eq_true rfl⟩ hl.1 (Nat.le_of_ble_eq_true rfl) rfl ⟨Nat.le_of_ble_eq_true rfl, Nat.le_of_ble_eq_true rfl⟩ dL_act_497) (fun r9 u497_75 H locs hp9 g => ?_)
        subst hp9
        refine lv_icmp_ne (tgt := 507) hx hb dL_act_500 (by decide) (fun c9 => absurd rfl c9) (fun c_500 => ?_)
        refine lv_iconst (v := 1) hx hb dL_act_503 (by decide) ?_
        refine lv_goto (tgt := 508) hx hb dL_act_504 (by decide) ?_
        have g := g.perm (pm2 _ _ _ )
        refine W.widen (k := 480) (n := 1920) (by omega) (by omega) ?_
        have g := g.eqw (show _ = wld G ((gbL 1 n (1 + z482) h 0 F).2) 0 ++ swl G A n ((gbL 1 n (1 + z482) h 0 F).2) 1 from by simp only [List.append_nil, List.append_assoc])
        exact f_z ((A, (gbL 1 n (1 + z482) h 0 F).2, n, h + (1 + z482))) S hr hk0 g (by first | exact Or.inl rfl | exact Or.inr rfl) ⟨rfl, rfl, (in_pass hIn (by omega) (by omega)), (show h + (1 + z482) ≤ h + 60 from by omega)⟩ dL_act_508
      · refine lv_bipush (v := 60) hx hb dL_act_475 (by decide) ?_
        refine lv_goto (tgt := 482) hx hb dL_act_477 (by decide) ?_
        have g := g.eqw (List.nil_append _).symm
        refine y_ci (rest := [.int 1]) (wc := []) g (y_S (nA := 2) (As := [.int vz463_71, .int 60]) (wc := []) S g (d_below l G vz463_71 60 (by omega) (by omega)) (lw_S q526 q527 q0 q528) ⟨by decide +kernel, by decide +kernel, by decide +kernel⟩ rfl ⟨Nat.le_of_ble_eq_true rfl, Nat.le_of_ble_eq_true rfl⟩ hl.1 (Nat.le_of_ble_eq_true rfl) rfl ⟨Nat.le_of_ble_eq_true rfl, Nat.le_of_ble_eq_true rfl⟩ dL_act_482) (fun r9 u482_76 H locs hp9 g => ?_)
        have g := g.eqw (List.nil_append _)
        obtain ⟨z482, hz482, ez482⟩ := hp9
        subst ez482
        refine lv_iadd hx hb dL_act_485 ?_
        rw [show (1 + (nI z482) : Int32) = nI (1 + z482) from (nI_add 1 z482)]
        refine lv_istore (lv' := [(6, .int (nI (1 + z482))), (5, .int 1), (4, .int (nI z18)), (3, .int (nI n)), (0, .ref (gA G 0)), (1, .ref (A 0)), (2, .int x)]) hx hb dL_act_486 hl (by decide) rfl (fun ls hl => ?_)
        refine lv_aload_n hx hb dL_act_488 rfl (lv_at hl 4 rfl) ?_
        refine lv_iload hx hb dL_act_489 (lv_at hl 0 rfl) ?_
        refine x_ci (rest := []) g (x_V (nA := 1) (As := [.int (nI (1 + z482))]) S g (c_pass_ok l G F 0 (1 + z482) n h hIn.ok hn8 (by omega) (by omega) (by omega)) (lw_V q97 q98 q99 q1 q100) ⟨rfl, by decide +kernel, by decide +kernel, by decide +kernel⟩ rfl ⟨Nat.le_of_ble_eq_true rfl, Nat.le_of_ble_eq_true rfl⟩ hl.1 (Nat.le_of_ble_eq_true rfl) rfl ⟨Nat.le_of_ble_eq_true rfl, Nat.le_of_ble_eq_true rfl⟩ dL_act_491) (fun H locs g => ?_)
        refine lv_aload_n hx hb dL_act_494 rfl (lv_at hl 5 rfl) ?_
        refine lv_iload hx hb dL_act_495 (lv_at hl 0 rfl) ?_
        have g := g.perm (pm2 _ _ _ )
        refine y_ci (rest := [.int ((gbL 1 n (1 + z482) h 0 F).1)]) g (y_V (nA := 1) (As := [.int (nI (1 + z482))]) S g (d_passN l G A n F 1 h (1 + z482) (Or.inl rfl) (by omega) (by omega) hIn.1) (swl_m0 G _ _ _ _) (lw_V q492 q493 q494 q4 q495) ⟨rfl, by decide +kernel, by decide +kernel, by decide +kernel⟩ rfl ⟨Nat.le_of_ble_eq_true rfl, Nat.le_of_ble_eq_true rfl⟩ hl.1 (Nat.le_of_ble_eq_true rfl) rfl ⟨Nat.le_of_ble_eq_true rfl, Nat.le_of_ble_eq_true rfl⟩ dL_act_497) (fun r9 u497_77 H locs hp9 g => ?_)
        subst hp9
        refine lv_icmp_ne (tgt := 507) hx hb dL_act_500 (by decide) (fun c9 => absurd rfl c9) (fun c_500 => ?_)
        refine lv_iconst (v := 1) hx hb dL_act_503 (by decide) ?_
        refine lv_goto (tgt := 508) hx hb dL_act_504 (by decide) ?_
        have g := g.perm (pm2 _ _ _ )
        refine W.widen (k := 480) (n := 1920) (by omega) (by omega) ?_
        have g := g.eqw (show _ = wld G ((gbL 1 n (1 + z482) h 0 F).2) 0 ++ swl G A n ((gbL 1 n (1 + z482) h 0 F).2) 1 from by simp only [List.append_nil, List.append_assoc])
        exact f_z ((A, (gbL 1 n (1 + z482) h 0 F).2, n, h + (1 + z482))) S hr hk0 g (by first | exact Or.inl rfl | exact Or.inr rfl) ⟨rfl, rfl, (in_pass hIn (by omega) (by omega)), (show h + (1 + z482) ≤ h + 60 from by omega)⟩ dL_act_508
  · refine lv_iconst (v := 0) hx hb dL_act_10 (by decide) ?_
    refine lv_goto (tgt := 21) hx hb dL_act_11 (by decide) ?_
    refine lv_istore (lv' := [(4, .int 0), (3, .int (nI n)), (0, .ref (gA G 0)), (1, .ref (A 0)), (2, .int x)]) hx hb dL_act_21 hl (by decide) rfl (fun ls hl => ?_)
    refine lv_iconst (v := 1) hx hb dL_act_23 (by decide) ?_
    refine lv_istore (lv' := [(5, .int 1), (4, .int 0), (3, .int (nI n)), (0, .ref (gA G 0)), (1, .ref (A 0)), (2, .int x)]) hx hb dL_act_24 hl (by decide) rfl (fun ls hl => ?_)
    refine lv_iload_n hx hb dL_act_26 rfl (lv_at hl 2 rfl) ?_
    refine lv_if_ne (tgt := 34) hx hb dL_act_27 (by decide) (fun c9 => absurd c_7 c9) (fun c_27 => ?_)
    refine lv_iconst (v := 0) hx hb dL_act_30 (by decide) ?_
    refine lv_goto (tgt := 40) hx hb dL_act_31 (by decide) ?_
    refine lv_tableIn (tgt := 88) (off := 48) hx hb dL_act_40 (by decide) (by decide) (by decide) (by decide) ?_
    refine lv_iload_n hx hb dL_act_88 rfl (lv_at hl 2 rfl) ?_
    refine lv_bipush (v := 8) hx hb dL_act_89 (by decide) ?_
    refine lv_icmp_ge (tgt := 98) hx hb dL_act_91 (by decide) (fun c_91 => ?_) (fun c_91 => ?_)
    · refine lv_iconst (v := 0) hx hb dL_act_98 (by decide) ?_
      refine lv_istore (lv' := [(5, .int 0), (4, .int 0), (3, .int (nI n)), (0, .ref (gA G 0)), (1, .ref (A 0)), (2, .int x)]) hx hb dL_act_99 hl (by decide) rfl (fun ls hl => ?_)
      refine lv_iconst (v := 1) hx hb dL_act_101 (by decide) ?_
      refine lv_iload_n hx hb dL_act_102 rfl (lv_at hl 5 rfl) ?_
      refine lv_iconst (v := 4) hx hb dL_act_103 (by decide) ?_
      refine lv_ishr hx hb dL_act_104 ?_
      refine lv_topi (fun vz104_78 evz104_78 => ?_)
      refine lv_bipush (v := 30) hx hb dL_act_105 (by decide) ?_
      have g := g.eqw (List.nil_append _).symm
      refine y_ci (rest := [.int 1]) (wc := []) g (y_S (nA := 2) (As := [.int vz104_78, .int 30]) (wc := []) S g (d_below l G vz104_78 30 (by omega) (by omega)) (lw_S q526 q527 q0 q528) ⟨by decide +kernel, by decide +kernel, by decide +kernel⟩ rfl ⟨Nat.le_of_ble_eq_true rfl, Nat.le_of_ble_eq_true rfl⟩ hl.1 (Nat.le_of_ble_eq_true rfl) rfl ⟨Nat.le_of_ble_eq_true rfl, Nat.le_of_ble_eq_true rfl⟩ dL_act_107) (fun r9 u107_79 H locs hp9 g => ?_)
      have g := g.eqw (List.nil_append _)
      obtain ⟨z107, hz107, ez107⟩ := hp9
      subst ez107
      refine lv_iadd hx hb dL_act_110 ?_
      rw [show (1 + (nI z107) : Int32) = nI (1 + z107) from (nI_add 1 z107)]
      refine lv_istore (lv' := [(6, .int (nI (1 + z107))), (5, .int 0), (4, .int 0), (3, .int (nI n)), (0, .ref (gA G 0)), (1, .ref (A 0)), (2, .int x)]) hx hb dL_act_111 hl (by decide) rfl (fun ls hl => ?_)
      refine lv_iload_n hx hb dL_act_113 rfl (lv_at hl 6 rfl) ?_
      refine lv_bipush (v := 7) hx hb dL_act_114 (by decide) ?_
      refine lv_ishr hx hb dL_act_116 ?_
      refine lv_topi (fun vz116_80 evz116_80 => ?_)
      refine lv_bipush (v := 6) hx hb dL_act_117 (by decide) ?_
      have g := g.eqw (List.nil_append _).symm
      refine y_ci (rest := []) (wc := []) g (y_S (nA := 2) (As := [.int vz116_80, .int 6]) (wc := []) S g (d_below l G vz116_80 6 (by omega) (by omega)) (lw_S q526 q527 q0 q528) ⟨by decide +kernel, by decide +kernel, by decide +kernel⟩ rfl ⟨Nat.le_of_ble_eq_true rfl, Nat.le_of_ble_eq_true rfl⟩ hl.1 (Nat.le_of_ble_eq_true rfl) rfl ⟨Nat.le_of_ble_eq_true rfl, Nat.le_of_ble_eq_true rfl⟩ dL_act_119) (fun r9 u119_81 H locs hp9 g => ?_)
      have g := g.eqw (List.nil_append _)
      obtain ⟨z119, hz119, ez119⟩ := hp9
      subst ez119
      refine lv_istore (lv' := [(7, .int (nI z119)), (6, .int (nI (1 + z107))), (5, .int 0), (4, .int 0), (3, .int (nI n)), (0, .ref (gA G 0)), (1, .ref (A 0)), (2, .int x)]) hx hb dL_act_122 hl (by decide) rfl (fun ls hl => ?_)
      refine lv_iload_n hx hb dL_act_124 rfl (lv_at hl 7 rfl) ?_
      refine lv_bipush (v := 6) hx hb dL_act_125 (by decide) ?_
      refine lv_ishr hx hb dL_act_127 ?_
      refine lv_topi (fun vz127_82 evz127_82 => ?_)
      refine lv_bipush (v := 10) hx hb dL_act_128 (by decide) ?_
      have g := g.eqw (List.nil_append _).symm
      refine y_ci (rest := []) (wc := []) g (y_S (nA := 2) (As := [.int vz127_82, .int 10]) (wc := []) S g (d_below l G vz127_82 10 (by omega) (by omega)) (lw_S q526 q527 q0 q528) ⟨by decide +kernel, by decide +kernel, by decide +kernel⟩ rfl ⟨Nat.le_of_ble_eq_true rfl, Nat.le_of_ble_eq_true rfl⟩ hl.1 (Nat.le_of_ble_eq_true rfl) rfl ⟨Nat.le_of_ble_eq_true rfl, Nat.le_of_ble_eq_true rfl⟩ dL_act_130) (fun r9 u130_83 H locs hp9 g => ?_)
      have g := g.eqw (List.nil_append _)
      obtain ⟨z130, hz130, ez130⟩ := hp9
      subst ez130
      refine lv_istore (lv' := [(8, .int (nI z130)), (7, .int (nI z119)), (6, .int (nI (1 + z107))), (5, .int 0), (4, .int 0), (3, .int (nI n)), (0, .ref (gA G 0)), (1, .ref (A 0)), (2, .int x)]) hx hb dL_act_133 hl (by decide) rfl (fun ls hl => ?_)
      refine lv_iload hx hb dL_act_135 (lv_at hl 3 rfl) ?_
      refine lv_if_eq (tgt := 150) hx hb dL_act_137 (by decide) (fun c_137 => ?_) (fun c9 => absurd rfl c9)
      refine lv_aload_n hx hb dL_act_150 rfl (lv_at hl 6 rfl) ?_
      refine lv_iload hx hb dL_act_151 (lv_at hl 2 rfl) ?_
      refine lv_iload hx hb dL_act_153 (lv_at hl 1 rfl) ?_
      refine lv_iload hx hb dL_act_155 (lv_at hl 0 rfl) ?_
      have hc9 := (nI_leI (a := 8) (by omega) (by omega)).mp c_91
      refine x_xc (nA := 3) (name := "java/lang/IllegalStateException") (As := [.int (nI (1 + z107)), .int (nI z119), .int (nI z130)]) (rest := []) S g (x_addWalker_full l hfl G F 0 (nI (1 + z107)) (nI z119) (nI z130) (by rw [hIn.c6]; congr 1; omega) (inR_N (lo := 1) (hi := 30) (by omega) (by omega) (by decide)) (inR_N (lo := 0) (hi := 5) (Nat.zero_le _) (by omega) (by decide)) (inR_N (lo := 0) (hi := 9) (Nat.zero_le _) (by omega) (by decide))) (lw_V q542 q543 q544 q1 q545) ⟨rfl, by decide +kernel, by decide +kernel, by decide +kernel⟩ rfl ⟨Nat.le_of_ble_eq_true rfl, Nat.le_of_ble_eq_true rfl⟩ hl.1 (Nat.le_of_ble_eq_true rfl) rfl ⟨Nat.le_of_ble_eq_true rfl, Nat.le_of_ble_eq_true rfl⟩ dL_act_157 [] ⟨26, 174, 509, 62⟩ [⟨175, 227, 509, 62⟩, ⟨228, 282, 509, 62⟩, ⟨283, 320, 509, 62⟩, ⟨321, 357, 509, 62⟩, ⟨358, 459, 509, 62⟩, ⟨460, 508, 509, 62⟩] htab (fun z hz => absurd hz List.not_mem_nil) (by decide) (by decide) q537 g.2.2.2.2.1.2.2.2.2.2.2.1 (fun H locs q g => ?_)
      refine lv_astore (lv' := [(6, .ref q), (8, .int (nI z130)), (7, .int (nI z119)), (5, .int 0), (4, .int 0), (3, .int (nI n)), (0, .ref (gA G 0)), (1, .ref (A 0)), (2, .int x)]) hx hb dL_act_509 hl (by decide) rfl (fun ls hl => ?_)
      refine lv_iload hx hb dL_act_511 (lv_at hl 3 rfl) ?_
      refine lv_if_ne (tgt := 520) hx hb dL_act_513 (by decide) (fun c9 => absurd rfl c9) (fun c_513 => ?_)
      refine lv_iconst (v := 1) hx hb dL_act_516 (by decide) ?_
      refine lv_goto (tgt := 521) hx hb dL_act_517 (by decide) ?_
      refine W.widen (k := 480) (n := 1920) (by omega) (by omega) ?_
      have g := g.eqw (show _ = wld G F 0 ++ swl G A n F 1 from by simp only [List.append_nil, List.append_assoc])
      exact f_z ((A, F, n, h)) S hr hk0 g (by first | exact Or.inl rfl | exact Or.inr rfl) ⟨rfl, rfl, hIn, (show h ≤ h + 60 from by omega)⟩ dL_act_521
    · refine lv_iconst (v := 1) hx hb dL_act_94 (by decide) ?_
      refine lv_goto (tgt := 99) hx hb dL_act_95 (by decide) ?_
      refine lv_istore (lv' := [(5, .int 1), (4, .int 0), (3, .int (nI n)), (0, .ref (gA G 0)), (1, .ref (A 0)), (2, .int x)]) hx hb dL_act_99 hl (by decide) rfl (fun ls hl => ?_)
      refine lv_iconst (v := 1) hx hb dL_act_101 (by decide) ?_
      refine lv_iload_n hx hb dL_act_102 rfl (lv_at hl 5 rfl) ?_
      refine lv_iconst (v := 4) hx hb dL_act_103 (by decide) ?_
      refine lv_ishr hx hb dL_act_104 ?_
      refine lv_topi (fun vz104_84 evz104_84 => ?_)
      refine lv_bipush (v := 30) hx hb dL_act_105 (by decide) ?_
      have g := g.eqw (List.nil_append _).symm
      refine y_ci (rest := [.int 1]) (wc := []) g (y_S (nA := 2) (As := [.int vz104_84, .int 30]) (wc := []) S g (d_below l G vz104_84 30 (by omega) (by omega)) (lw_S q526 q527 q0 q528) ⟨by decide +kernel, by decide +kernel, by decide +kernel⟩ rfl ⟨Nat.le_of_ble_eq_true rfl, Nat.le_of_ble_eq_true rfl⟩ hl.1 (Nat.le_of_ble_eq_true rfl) rfl ⟨Nat.le_of_ble_eq_true rfl, Nat.le_of_ble_eq_true rfl⟩ dL_act_107) (fun r9 u107_85 H locs hp9 g => ?_)
      have g := g.eqw (List.nil_append _)
      obtain ⟨z107, hz107, ez107⟩ := hp9
      subst ez107
      refine lv_iadd hx hb dL_act_110 ?_
      rw [show (1 + (nI z107) : Int32) = nI (1 + z107) from (nI_add 1 z107)]
      refine lv_istore (lv' := [(6, .int (nI (1 + z107))), (5, .int 1), (4, .int 0), (3, .int (nI n)), (0, .ref (gA G 0)), (1, .ref (A 0)), (2, .int x)]) hx hb dL_act_111 hl (by decide) rfl (fun ls hl => ?_)
      refine lv_iload_n hx hb dL_act_113 rfl (lv_at hl 6 rfl) ?_
      refine lv_bipush (v := 7) hx hb dL_act_114 (by decide) ?_
      refine lv_ishr hx hb dL_act_116 ?_
      refine lv_topi (fun vz116_86 evz116_86 => ?_)
      refine lv_bipush (v := 6) hx hb dL_act_117 (by decide) ?_
      have g := g.eqw (List.nil_append _).symm
      refine y_ci (rest := []) (wc := []) g (y_S (nA := 2) (As := [.int vz116_86, .int 6]) (wc := []) S g (d_below l G vz116_86 6 (by omega) (by omega)) (lw_S q526 q527 q0 q528) ⟨by decide +kernel, by decide +kernel, by decide +kernel⟩ rfl ⟨Nat.le_of_ble_eq_true rfl, Nat.le_of_ble_eq_true rfl⟩ hl.1 (Nat.le_of_ble_eq_true rfl) rfl ⟨Nat.le_of_ble_eq_true rfl, Nat.le_of_ble_eq_true rfl⟩ dL_act_119) (fun r9 u119_87 H locs hp9 g => ?_)
      have g := g.eqw (List.nil_append _)
      obtain ⟨z119, hz119, ez119⟩ := hp9
      subst ez119
      refine lv_istore (lv' := [(7, .int (nI z119)), (6, .int (nI (1 + z107))), (5, .int 1), (4, .int 0), (3, .int (nI n)), (0, .ref (gA G 0)), (1, .ref (A 0)), (2, .int x)]) hx hb dL_act_122 hl (by decide) rfl (fun ls hl => ?_)
      refine lv_iload_n hx hb dL_act_124 rfl (lv_at hl 7 rfl) ?_
      refine lv_bipush (v := 6) hx hb dL_act_125 (by decide) ?_
      refine lv_ishr hx hb dL_act_127 ?_
      refine lv_topi (fun vz127_88 evz127_88 => ?_)
      refine lv_bipush (v := 10) hx hb dL_act_128 (by decide) ?_
      have g := g.eqw (List.nil_append _).symm
      refine y_ci (rest := []) (wc := []) g (y_S (nA := 2) (As := [.int vz127_88, .int 10]) (wc := []) S g (d_below l G vz127_88 10 (by omega) (by omega)) (lw_S q526 q527 q0 q528) ⟨by decide +kernel, by decide +kernel, by decide +kernel⟩ rfl ⟨Nat.le_of_ble_eq_true rfl, Nat.le_of_ble_eq_true rfl⟩ hl.1 (Nat.le_of_ble_eq_true rfl) rfl ⟨Nat.le_of_ble_eq_true rfl, Nat.le_of_ble_eq_true rfl⟩ dL_act_130) (fun r9 u130_89 H locs hp9 g => ?_)
      have g := g.eqw (List.nil_append _)
      obtain ⟨z130, hz130, ez130⟩ := hp9
      subst ez130
      refine lv_istore (lv' := [(8, .int (nI z130)), (7, .int (nI z119)), (6, .int (nI (1 + z107))), (5, .int 1), (4, .int 0), (3, .int (nI n)), (0, .ref (gA G 0)), (1, .ref (A 0)), (2, .int x)]) hx hb dL_act_133 hl (by decide) rfl (fun ls hl => ?_)
      refine lv_iload hx hb dL_act_135 (lv_at hl 3 rfl) ?_
      refine lv_if_eq (tgt := 150) hx hb dL_act_137 (by decide) (fun c9 => absurd c9 (by decide)) (fun c_137 => ?_)
      refine lv_aload_n hx hb dL_act_140 rfl (lv_at hl 7 rfl) ?_
      refine lv_iload hx hb dL_act_141 (lv_at hl 2 rfl) ?_
      refine lv_iload hx hb dL_act_143 (lv_at hl 1 rfl) ?_
      refine lv_iload hx hb dL_act_145 (lv_at hl 0 rfl) ?_
      have hc9 : ¬ 8 ≤ n := fun z => c_91 ((nI_leI (a := 8) (by omega) (by omega)).mpr z)
      have g := g.perm (pm2 _ _ _ )
      refine y_cv (rest := []) g (y_V (nA := 3) (As := [.int (nI (1 + z107)), .int (nI z119), .int (nI z130)]) S g (d_add l G A n F 1 (nI (1 + z107)) (nI z119) (nI z130) (Or.inl rfl) (by omega)) (swl_m0 G _ _ _ _) (lw_V q538 q539 q540 q4 q541) ⟨rfl, by decide +kernel, by decide +kernel, by decide +kernel⟩ rfl ⟨Nat.le_of_ble_eq_true rfl, Nat.le_of_ble_eq_true rfl⟩ hl.1 (Nat.le_of_ble_eq_true rfl) rfl ⟨Nat.le_of_ble_eq_true rfl, Nat.le_of_ble_eq_true rfl⟩ dL_act_147) (fun u147_90 H locs hp9 g => ?_)
      have hA147 := hp9
      refine lv_aload_n hx hb dL_act_150 rfl (lv_at hl 6 rfl) ?_
      refine lv_iload hx hb dL_act_151 (lv_at hl 2 rfl) ?_
      refine lv_iload hx hb dL_act_153 (lv_at hl 1 rfl) ?_
      refine lv_iload hx hb dL_act_155 (lv_at hl 0 rfl) ?_
      have g := g.perm (pm2 _ _ _ )
      refine x_ci (rest := []) g (x_V (nA := 3) (As := [.int (nI (1 + z107)), .int (nI z119), .int (nI z130)]) S g (c_addWalker_ok l G F 0 (nI (1 + z107)) (nI z119) (nI z130) n hIn.c6 (by omega) (inR_N (lo := 1) (hi := 30) (by omega) (by omega) (by decide)) (inR_N (lo := 0) (hi := 5) (Nat.zero_le _) (by omega) (by decide)) (inR_N (lo := 0) (hi := 9) (Nat.zero_le _) (by omega) (by decide))) (lw_V q542 q543 q544 q1 q545) ⟨rfl, by decide +kernel, by decide +kernel, by decide +kernel⟩ rfl ⟨Nat.le_of_ble_eq_true rfl, Nat.le_of_ble_eq_true rfl⟩ hl.1 (Nat.le_of_ble_eq_true rfl) rfl ⟨Nat.le_of_ble_eq_true rfl, Nat.le_of_ble_eq_true rfl⟩ dL_act_157) (fun H locs g => ?_)
      refine lv_iload_n hx hb dL_act_160 rfl (lv_at hl 5 rfl) ?_
      refine lv_icmp_ne (tgt := 173) hx hb dL_act_161 (by decide) (fun c9 => absurd rfl c9) (fun c_161 => ?_)
      refine lv_iload hx hb dL_act_164 (lv_at hl 3 rfl) ?_
      refine lv_if_eq (tgt := 173) hx hb dL_act_166 (by decide) (fun c9 => absurd c9 (by decide)) (fun c_166 => ?_)
      refine lv_iconst (v := 1) hx hb dL_act_169 (by decide) ?_
      refine lv_goto (tgt := 174) hx hb dL_act_170 (by decide) ?_
      refine W.widen (k := 480) (n := 1920) (by omega) (by omega) ?_
      have g := g.eqw (show _ = wld G (entF F 1 n (nI (1 + z107)) (nI z119) (nI z130)) 0 ++ swl G u147_90 ((n + 1)) (entF F 1 n (nI (1 + z107)) (nI z119) (nI z130)) 1 from by simp only [List.append_nil, List.append_assoc])
      exact f_z ((u147_90, entF F 1 n (nI (1 + z107)) (nI z119) (nI z130), (n + 1), h)) S hr hk0 g (by first | exact Or.inl rfl | exact Or.inr rfl) ⟨rfl, hA147, (in_add hIn (by omega) hz107 hz119 hz130), (show h ≤ h + 60 from by omega)⟩ dL_act_174
set_option maxHeartbeats 4000000 in
set_option maxRecDepth 100000 in
theorem d_build (l : Launch) (G : gT) (b9 L9 : Nat) (xs9 : Nat → Int32) (hfl : l.stackTraces = false) (F : Fs) (hFi : ∀ j, j < 6 → Fz 1 j = F 1 j) (hIn : In F 0 0) : ∀ sz : Nat, Met l yL_build (wsG yL_build cL_build 6 (some (.object "ShadowPoolLaw$Sim"))) (rmC 8 166 8162 32647) (va_Pc [.ref (gA G 0), .ref b9] (preS G (wld G F 0) b9 L9 xs9 sz)) (QXq G (fun (r : Option Nat) (u : (Nat → Nat) × Fs × Nat × Nat) => r = some (u.1 0) ∧ In u.2.1 u.2.2.1 u.2.2.2 ∧ u.2.2.2 ≤ 1020) (fun (u : (Nat → Nat) × Fs × Nat × Nat) => wld G u.2.1 0 ++ swl G u.1 u.2.2.1 u.2.1 1) (wld G F 0) sz) 8162 32647 (va_A (wld G F 0) sz) := by
  refine mk_S (own := "ShadowPoolLaw") (Qs := fun sz => QXq G (fun (r : Option Nat) (u : (Nat → Nat) × Fs × Nat × Nat) => r = some (u.1 0) ∧ In u.2.1 u.2.2.1 u.2.2.2 ∧ u.2.2.2 ≤ 1020) (fun (u : (Nat → Nat) × Fs × Nat × Nat) => wld G u.2.1 0 ++ swl G u.1 u.2.2.1 u.2.1 1) (wld G F 0) sz) (by decide +kernel) rfl (Nat.le_of_ble_eq_true rfl) ?_
  intro p e s m args below meth c ls hr hk0 hnm S g hX9 hX9l hX9n hl
  have hl : lv_has ls 6 [(0, .ref (gA G 0)), (1, .ref b9)] := hl
  have hx := S.1
  have hb := S.2.1
  have g := g.eqw (List.append_nil _).symm
  refine x_news S g q599 (Nat.le_of_ble_eq_true rfl) (Nat.le_of_ble_eq_true rfl) dL_build_0 (fun q0_0 H g => ?_)
  refine lv_dup hx hb dL_build_3 rfl ?_
  refine y_cv (rest := [.ref q0_0]) g (y_IN (nA := 0) (As := []) S g (d_init l G q0_0) q430 q4 qn600 q429 rfl ⟨by decide +kernel, by decide +kernel, by decide +kernel⟩ rfl ⟨Nat.le_of_ble_eq_true rfl, Nat.le_of_ble_eq_true rfl⟩ hl.1 (Nat.le_of_ble_eq_true rfl) rfl ⟨Nat.le_of_ble_eq_true rfl, Nat.le_of_ble_eq_true rfl⟩ dL_build_4) (fun u4_1 H locs hp9 g => ?_)
  rw [← hp9]
  have g := g.eqw (show _ = swl G u4_1 0 F 1 ++ (wld G F 0 ++ []) from by rw [swl_congr G _ (F := Fz) (F' := F) (b := 1) (b' := 1) hFi (fun i hi => absurd hi (Nat.not_lt_zero i))])
  refine lv_astore_n (lv' := [(2, .ref (u4_1 0)), (0, .ref (gA G 0)), (1, .ref b9)]) hx hb dL_build_7 rfl hl (by decide) rfl (fun ls hl => ?_)
  refine lv_iconst (v := 4) hx hb dL_build_8 (by decide) ?_
  refine lv_aload_n hx hb dL_build_9 rfl (lv_at hl 2 rfl) ?_
  refine lv_iconst (v := 0) hx hb dL_build_10 (by decide) ?_
  have g := g.eqw (List.nil_append _).symm
  refine y_ci (rest := [.int 4]) (wc := []) g (y_SS (nA := 2) (As := [.ref b9, .int 0]) (wc := []) S g hX9 hX9l hX9n (d_cell l G b9 L9 xs9 0 (by omega)) (lw_S q530 q531 q0 q532) ⟨by decide +kernel, by decide +kernel, by decide +kernel⟩ rfl ⟨Nat.le_of_ble_eq_true rfl, Nat.le_of_ble_eq_true rfl⟩ hl.1 (Nat.le_of_ble_eq_true rfl) rfl ⟨Nat.le_of_ble_eq_true rfl, Nat.le_of_ble_eq_true rfl⟩ dL_build_11) (fun r9 u11_2 H locs hp9 g => ?_)
  have g := g.eqw (List.nil_append _)
  generalize r9 = x11
  refine lv_bipush (v := 14) hx hb dL_build_14 (by decide) ?_
  have g := g.eqw (List.nil_append _).symm
  refine y_ci (rest := [.int 4]) (wc := []) g (y_S (nA := 2) (As := [.int x11, .int 14]) (wc := []) S g (d_below l G x11 14 (by omega) (by omega)) (lw_S q526 q527 q0 q528) ⟨by decide +kernel, by decide +kernel, by decide +kernel⟩ rfl ⟨Nat.le_of_ble_eq_true rfl, Nat.le_of_ble_eq_true rfl⟩ hl.1 (Nat.le_of_ble_eq_true rfl) rfl ⟨Nat.le_of_ble_eq_true rfl, Nat.le_of_ble_eq_true rfl⟩ dL_build_16) (fun r9 u16_3 H locs hp9 g => ?_)
  have g := g.eqw (List.nil_append _)
  obtain ⟨z16, hz16, ez16⟩ := hp9
  subst ez16
  refine lv_iadd hx hb dL_build_19 ?_
  rw [show (4 + (nI z16) : Int32) = nI (4 + z16) from (nI_add 4 z16)]
  refine lv_istore_n (lv' := [(3, .int (nI (4 + z16))), (2, .ref (u4_1 0)), (0, .ref (gA G 0)), (1, .ref b9)]) hx hb dL_build_20 rfl hl (by decide) rfl (fun ls hl => ?_)
  refine lv_iconst (v := 0) hx hb dL_build_21 (by decide) ?_
  refine lv_istore (lv' := [(4, .int 0), (3, .int (nI (4 + z16))), (2, .ref (u4_1 0)), (0, .ref (gA G 0)), (1, .ref b9)]) hx hb dL_build_22 hl (by decide) rfl (fun ls hl => ?_)
  have loop24 : ∀ (n_ : Nat) (i : Nat) (A1 : Nat → Nat) (F1 : Fs) (n1 : Nat) (h1 : Nat) (H : Heap) (locs : List Loc) (ls : Array Slot) (hi : i + n_ = 4 + z16) (hI1 : In F1 n1 h1) (hh1 : h1 ≤ 60 * i), GX G (va_A (wld G F 0) s.heap.size) (wld G F1 0 ++ (swl G A1 n1 F1 1 ++ [])) s H locs → lv_has ls 6 [(0, .ref (gA G 0)), (1, .ref b9), (2, .ref (A1 0)), (3, .int (nI (4 + z16))), (4, .int (nI i))] → W p l e (rmC 8 166 8162 32647) s m args below meth c H locs (2 + 480 * i) (7 + 1920 * i) (MQ below (QXq G (fun (r : Option Nat) (u : (Nat → Nat) × Fs × Nat × Nat) => r = some (u.1 0) ∧ In u.2.1 u.2.2.1 u.2.2.2 ∧ u.2.2.2 ≤ 1020) (fun (u : (Nat → Nat) × Fs × Nat × Nat) => wld G u.2.1 0 ++ swl G u.1 u.2.2.1 u.2.1 1) (wld G F 0) s.heap.size) args s 8162 32647 (va_A (wld G F 0) s.heap.size)) (F0 m 24 ls []) := by
    intro n_
    induction n_ with
    | zero =>
      intro i A1 F1 n1 h1 H locs ls hi hI1 hh1 g hl
      refine lv_iload hx hb dL_build_24 (lv_at hl 4 rfl) ?_
      refine lv_iload_n hx hb dL_build_26 rfl (lv_at hl 3 rfl) ?_
      refine lv_icmp_ge (tgt := 89) hx hb dL_build_27 (by decide) (fun c_27 => ?_) (fun c9 => absurd (nI_le (by omega) (by omega)) c9)
      refine lv_aload_n hx hb dL_build_89 rfl (lv_at hl 2 rfl) ?_
      refine W.widen (k := 8162) (n := 32647) (by omega) (by omega) ?_
      have g := g.eqw (show _ = wld G F1 0 ++ swl G A1 n1 F1 1 from by simp only [List.append_nil, List.append_assoc])
      exact f_q ((A1, F1, n1, h1)) S hr (Or.inl ⟨_, rfl⟩) hk0 g ⟨rfl, hI1, (show h1 ≤ 1020 from by omega)⟩ dL_build_90
    | succ n_ ih_24 =>
      intro i A1 F1 n1 h1 H locs ls hi hI1 hh1 g hl
      refine lv_iload hx hb dL_build_24 (lv_at hl 4 rfl) ?_
      refine lv_iload_n hx hb dL_build_26 rfl (lv_at hl 3 rfl) ?_
      refine lv_icmp_ge (tgt := 89) hx hb dL_build_27 (by decide) (fun c9 => absurd c9 (nI_ge (by omega) (by omega))) (fun c_27 => ?_)
      refine lv_aload_n hx hb dL_build_30 rfl (lv_at hl 1 rfl) ?_
      refine lv_iconst (v := 1) hx hb dL_build_31 (by decide) ?_
      refine lv_iload hx hb dL_build_32 (lv_at hl 4 rfl) ?_
      refine lv_bipush (v := 15) hx hb dL_build_34 (by decide) ?_
      refine lv_irem hx hb dL_build_36 (by decide) ?_
      rw [show ((nI i) - (nI i) / 15 * 15 : Int32) = nI (i % 15) from pk_rem (d := 15) (by omega) (by omega) (by omega)]
      refine lv_iadd hx hb dL_build_37 ?_
      rw [show (1 + (nI (i % 15)) : Int32) = nI (1 + i % 15) from (nI_add 1 (i % 15))]
      have g := g.eqw (List.nil_append _).symm
      refine y_ci (rest := []) (wc := []) g (y_SS (nA := 2) (As := [.ref b9, .int (nI (1 + i % 15))]) (wc := []) S g hX9 hX9l hX9n (d_cell l G b9 L9 xs9 (1 + i % 15) (by omega)) (lw_S q530 q531 q0 q532) ⟨by decide +kernel, by decide +kernel, by decide +kernel⟩ rfl ⟨Nat.le_of_ble_eq_true rfl, Nat.le_of_ble_eq_true rfl⟩ hl.1 (Nat.le_of_ble_eq_true rfl) rfl ⟨by show 2 + 480 * i + 0 ≤ 8162; omega, by show 7 + 1920 * i + 0 ≤ 32647; omega⟩ dL_build_38) (fun r9 u38_4 H locs hp9 g => ?_)
      have g := g.eqw (List.nil_append _)
      generalize r9 = x38
      refine lv_iload hx hb dL_build_41 (lv_at hl 4 rfl) ?_
      refine lv_bipush (v := 15) hx hb dL_build_43 (by decide) ?_
      refine lv_idiv hx hb dL_build_45 (by decide) ?_
      refine lv_iconst (v := 3) hx hb dL_build_46 (by decide) ?_
      refine lv_imul hx hb dL_build_47 ?_
      refine lv_ishr hx hb dL_build_48 ?_
      refine lv_topi (fun vz48_5 evz48_5 => ?_)
      refine lv_istore (lv' := [(5, .int vz48_5), (0, .ref (gA G 0)), (1, .ref b9), (2, .ref (A1 0)), (3, .int (nI (4 + z16))), (4, .int (nI i))]) hx hb dL_build_49 hl (by decide) rfl (fun ls hl => ?_)
      refine lv_aload_n hx hb dL_build_51 rfl (lv_at hl 1 rfl) ?_
      refine lv_aload_n hx hb dL_build_52 rfl (lv_at hl 3 rfl) ?_
      refine lv_iload hx hb dL_build_53 (lv_at hl 5 rfl) ?_
      refine lv_iconst (v := 2) hx hb dL_build_55 (by decide) ?_
      refine lv_irem hx hb dL_build_56 (by decide) ?_
      refine lv_if_ne (tgt := 73) hx hb dL_build_57 (by decide) (fun c_57 => ?_) (fun c_57 => ?_)
      · refine lv_iload hx hb dL_build_73 (lv_at hl 0 rfl) ?_
        have g := g.perm (pm2 _ _ _ )
        have g := g.perm (pm2 _ _ _ )
        have g := g.eqw (List.append_assoc _ _ _).symm
        refine y_ci (rest := []) g (y_SA (nA := 3) (As := [.ref (gA G 0), .ref (A1 0), .int vz48_5]) S g (d_act l G hfl A1 n1 F1 h1 vz48_5 hI1 (by omega)) q534 q535 q0 q536 ⟨by decide +kernel, by decide +kernel, by decide +kernel⟩ rfl ⟨Nat.le_of_ble_eq_true rfl, Nat.le_of_ble_eq_true rfl⟩ hl.1 (Nat.le_of_ble_eq_true rfl) rfl ⟨by show 2 + 480 * i + 480 ≤ 8162; omega, by show 7 + 1920 * i + 1920 ≤ 32647; omega⟩ dL_build_75) (fun r9 u75_6 H locs hp9 g => ?_)
        have g := g.eqw (List.append_assoc _ _ _)
        obtain ⟨A75, F75, n75, h75⟩ := u75_6
        obtain ⟨e9, hA9, hIn75, hh75⟩ := hp9
        subst e9
        have hh75 : h75 ≤ h1 + 60 := hh75
        have hIn75 : In F75 n75 h75 := hIn75
        have g := g.eqw (show _ = wld G F75 0 ++ (swl G (aset (A1 0) A75) n75 F75 1 ++ []) from by rw [aset_eq hA9])
        refine lv_if_ne (tgt := 83) hx hb dL_build_78 (by decide) (fun c_78 => ?_) (fun c9 => absurd c9 (by decide))
        refine lv_iinc (v := nI (i + 1)) (lv' := [(4, .int (nI (i + 1))), (5, .int vz48_5), (0, .ref (gA G 0)), (1, .ref b9), (2, .ref (A1 0)), (3, .int (nI (4 + z16)))]) hx hb dL_build_83 hl (k := 5) rfl (nI_1 i) (by decide) rfl (fun ls hl => ?_)
        refine lv_goto (tgt := 24) hx hb dL_build_86 (by decide) ?_
        refine W.widen (k := 2 + 480 * (i + 1)) (n := 7 + 1920 * (i + 1)) (by omega) (by omega) ?_
        exact ih_24 (i + 1) (aset (A1 0) A75) F75 n75 h75 _ _ _ (by omega) hIn75 (by omega) g (lv_sub hl [2, 3, 4, 5, 0] rfl)
      · refine lv_iload hx hb dL_build_60 (lv_at hl 0 rfl) ?_
        refine lv_iload hx hb dL_build_62 (lv_at hl 0 rfl) ?_
        refine lv_bipush (v := 14) hx hb dL_build_64 (by decide) ?_
        have g := g.eqw (List.nil_append _).symm
        refine y_ci (rest := [.int vz48_5, .ref (A1 0), .ref (gA G 0)]) (wc := []) g (y_S (nA := 2) (As := [.int vz48_5, .int 14]) (wc := []) S g (d_below l G vz48_5 14 (by omega) (by omega)) (lw_S q526 q527 q0 q528) ⟨by decide +kernel, by decide +kernel, by decide +kernel⟩ rfl ⟨Nat.le_of_ble_eq_true rfl, Nat.le_of_ble_eq_true rfl⟩ hl.1 (Nat.le_of_ble_eq_true rfl) rfl ⟨by show 2 + 480 * i + 0 ≤ 8162; omega, by show 7 + 1920 * i + 0 ≤ 32647; omega⟩ dL_build_66) (fun r9 u66_7 H locs hp9 g => ?_)
        have g := g.eqw (List.nil_append _)
        obtain ⟨z66, hz66, ez66⟩ := hp9
        subst ez66
        refine lv_isub hx hb dL_build_69 ?_
        refine lv_goto (tgt := 75) hx hb dL_build_70 (by decide) ?_
        have g := g.perm (pm2 _ _ _ )
        have g := g.perm (pm2 _ _ _ )
        have g := g.eqw (List.append_assoc _ _ _).symm
        refine y_ci (rest := []) g (y_SA (nA := 3) (As := [.ref (gA G 0), .ref (A1 0), .int (vz48_5 - (nI z66))]) S g (d_act l G hfl A1 n1 F1 h1 (vz48_5 - (nI z66)) hI1 (by omega)) q534 q535 q0 q536 ⟨by decide +kernel, by decide +kernel, by decide +kernel⟩ rfl ⟨Nat.le_of_ble_eq_true rfl, Nat.le_of_ble_eq_true rfl⟩ hl.1 (Nat.le_of_ble_eq_true rfl) rfl ⟨by show 2 + 480 * i + 480 ≤ 8162; omega, by show 7 + 1920 * i + 1920 ≤ 32647; omega⟩ dL_build_75) (fun r9 u75_8 H locs hp9 g => ?_)
        have g := g.eqw (List.append_assoc _ _ _)
        obtain ⟨A75, F75, n75, h75⟩ := u75_8
        obtain ⟨e9, hA9, hIn75, hh75⟩ := hp9
        subst e9
        have hh75 : h75 ≤ h1 + 60 := hh75
        have hIn75 : In F75 n75 h75 := hIn75
        have g := g.eqw (show _ = wld G F75 0 ++ (swl G (aset (A1 0) A75) n75 F75 1 ++ []) from by rw [aset_eq hA9])
        refine lv_if_ne (tgt := 83) hx hb dL_build_78 (by decide) (fun c_78 => ?_) (fun c9 => absurd c9 (by decide))
        refine lv_iinc (v := nI (i + 1)) (lv' := [(4, .int (nI (i + 1))), (5, .int vz48_5), (0, .ref (gA G 0)), (1, .ref b9), (2, .ref (A1 0)), (3, .int (nI (4 + z16)))]) hx hb dL_build_83 hl (k := 5) rfl (nI_1 i) (by decide) rfl (fun ls hl => ?_)
        refine lv_goto (tgt := 24) hx hb dL_build_86 (by decide) ?_
        refine W.widen (k := 2 + 480 * (i + 1)) (n := 7 + 1920 * (i + 1)) (by omega) (by omega) ?_
        exact ih_24 (i + 1) (aset (A1 0) A75) F75 n75 h75 _ _ _ (by omega) hIn75 (by omega) g (lv_sub hl [2, 3, 4, 5, 0] rfl)
  have g := g.perm (pm2 _ _ _ )
  refine W.widen (k := 2 + 480 * 0) (n := 7 + 1920 * 0) (by omega) (by omega) ?_
  exact loop24 (4 + z16) 0 u4_1 F 0 0 _ _ _ (by omega) hIn (by omega) g (lv_sub hl [3, 4, 2, 1, 0] rfl)
