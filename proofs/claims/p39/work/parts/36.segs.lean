set_option maxHeartbeats 4000000 in
set_option maxRecDepth 100000 in
theorem seg_A {p : Program} {l : Launch} {e : Env} {s : State} {m : MethodId} {args : Array Value} {below : List Frame} {meth : Method} {c : Code} {cells slots : Nat} {Q : State → Prop} {G : gT} {Z : Nat → Prop} {b9 L9 : Nat} {xs9 : Nat → Int32} (hfl : l.stackTraces = false) (S : CallFix p m c cL_law 36 s args lw_all "ShadowPoolLaw") (hX9 : va_X b9 L9 xs9 s s.heap) (hX9l : b9 < s.heap.size) (hX9n : ¬ Z b9) (A : Nat → Nat) (F : Fs) (n : Nat) (h : Nat) (hIn : In F n h) (hh : h ≤ 8000) (t : Nat) (ht : t < 8) {H : Heap} {locs : List Loc} {ls : Array Slot} (g : GX G Z (wld G F 0 ++ (swl G A n F 1 ++ [])) s H locs) (hl : lv_has ls 36 [(0, .ref b9), (1, .ref (gA G 0)), (2, .ref (A 0)), (3, .int (nI t))]) (hc1 : cells + 1440 ≤ 1112399) (hc2 : slots + 5760 ≤ 5764272) (K : ∀ (A1 : Nat → Nat) (F1 : Fs) (n1 : Nat) (h1 : Nat) (x9 : Int32) (H : Heap) (locs : List Loc) (ls : Array Slot), In F1 n1 h1 → h1 ≤ h + 180 → GX G Z (wld G F1 0 ++ (swl G A1 n1 F1 1 ++ [])) s H locs → lv_has ls 36 [(0, .ref b9), (1, .ref (gA G 0)), (2, .ref (A1 0)), (3, .int (nI t)), (4, .int x9)] → W p l e room_1 s m args below meth c H locs (cells + 1440) (slots + 5760) Q (F0 m 80 ls [])) : W p l e room_1 s m args below meth c H locs cells slots Q (F0 m 28 ls []) := by
  have hx := S.1
  have hb := S.2.1
  have hn8 := hIn.n8
  refine lv_aload_n hx hb dL_law_28 rfl (lv_at hl 0 rfl) ?_
  refine lv_iload_n hx hb dL_law_29 rfl (lv_at hl 3 rfl) ?_
  have g := g.eqw (List.nil_append _).symm
  refine y_ci (rest := []) (wc := []) g (y_SS (nA := 2) (As := [.ref b9, .int (nI t)]) (wc := []) S g hX9 hX9l hX9n (d_cell l G b9 L9 xs9 t (by omega)) (lw_S q530 q531 q0 q532) ⟨by decide +kernel, by decide +kernel, by decide +kernel⟩ rfl ⟨Nat.le_of_ble_eq_true rfl, Nat.le_of_ble_eq_true rfl⟩ hl.1 (Nat.le_of_ble_eq_true rfl) rfl ⟨by show cells + 0 ≤ 1112399; omega, by show slots + 0 ≤ 5764272; omega⟩ dL_law_30) (fun r9 u30_0 H locs hp9 g => ?_)
  have g := g.eqw (List.nil_append _)
  generalize r9 = x30
  refine lv_iconst (v := 2) hx hb dL_law_33 (by decide) ?_
  refine lv_ishr hx hb dL_law_34 ?_
  refine lv_topi (fun vz34_1 evz34_1 => ?_)
  refine lv_bipush (v := 53) hx hb dL_law_35 (by decide) ?_
  refine lv_iload_n hx hb dL_law_37 rfl (lv_at hl 3 rfl) ?_
  refine lv_imul hx hb dL_law_38 ?_
  refine lv_iadd hx hb dL_law_39 ?_
  refine lv_topi (fun x9 ex9 => ?_)
  clear ex9
  refine lv_istore (lv' := [(4, .int x9), (0, .ref b9), (1, .ref (gA G 0)), (2, .ref (A 0)), (3, .int (nI t))]) hx hb dL_law_40 hl (by decide) rfl (fun ls hl => ?_)
  refine lv_iconst (v := 0) hx hb dL_law_42 (by decide) ?_
  refine lv_istore (lv' := [(5, .int 0), (4, .int x9), (0, .ref b9), (1, .ref (gA G 0)), (2, .ref (A 0)), (3, .int (nI t))]) hx hb dL_law_43 hl (by decide) rfl (fun ls hl => ?_)
  have loop45 : ∀ (n_ : Nat) (i : Nat) (A1 : Nat → Nat) (F1 : Fs) (n1 : Nat) (h1 : Nat) (H : Heap) (locs : List Loc) (ls : Array Slot) (hi : i + n_ = 3) (hI1 : In F1 n1 h1) (hh1 : h1 ≤ h + 60 * i), GX G Z (wld G F1 0 ++ (swl G A1 n1 F1 1 ++ [])) s H locs → lv_has ls 36 [(0, .ref b9), (1, .ref (gA G 0)), (2, .ref (A1 0)), (3, .int (nI t)), (4, .int x9), (5, .int (nI i))] → W p l e room_1 s m args below meth c H locs (cells + 480 * i) (slots + 1920 * i) Q (F0 m 45 ls []) := by
    intro n_
    induction n_ with
    | zero =>
      intro i A1 F1 n1 h1 H locs ls hi hI1 hh1 g hl
      refine lv_iload hx hb dL_law_45 (lv_at hl 5 rfl) ?_
      refine lv_iconst (v := 3) hx hb dL_law_47 (by decide) ?_
      refine lv_icmp_ge (tgt := 80) hx hb dL_law_48 (by decide) (fun c_48 => ?_) (fun c9 => absurd (nI_le (a := 3) (by omega) (by omega)) c9)
      refine W.widen (k := cells + 1440) (n := slots + 5760) (by omega) (by omega) ?_
      exact K A1 F1 n1 h1 x9 _ _ _ hI1 (by omega) g (lv_sub hl [0, 1, 2, 3, 4] rfl)
    | succ n_ ih_45 =>
      intro i A1 F1 n1 h1 H locs ls hi hI1 hh1 g hl
      refine lv_iload hx hb dL_law_45 (lv_at hl 5 rfl) ?_
      refine lv_iconst (v := 3) hx hb dL_law_47 (by decide) ?_
      refine lv_icmp_ge (tgt := 80) hx hb dL_law_48 (by decide) (fun c9 => absurd c9 (nI_ge (b := 3) (by omega) (by omega))) (fun c_48 => ?_)
      refine lv_aload_n hx hb dL_law_51 rfl (lv_at hl 1 rfl) ?_
      refine lv_aload_n hx hb dL_law_52 rfl (lv_at hl 2 rfl) ?_
      refine lv_iload hx hb dL_law_53 (lv_at hl 4 rfl) ?_
      refine lv_iconst (v := 3) hx hb dL_law_55 (by decide) ?_
      refine lv_iload hx hb dL_law_56 (lv_at hl 5 rfl) ?_
      refine lv_imul hx hb dL_law_58 ?_
      refine lv_ishr hx hb dL_law_59 ?_
      refine lv_topi (fun vz59_2 evz59_2 => ?_)
      refine lv_bipush (v := 29) hx hb dL_law_60 (by decide) ?_
      refine lv_iload hx hb dL_law_62 (lv_at hl 5 rfl) ?_
      refine lv_imul hx hb dL_law_64 ?_
      refine lv_iadd hx hb dL_law_65 ?_
      have g := g.perm (pm2 _ _ _ )
      have g := g.perm (pm2 _ _ _ )
      have g := g.eqw (List.append_assoc _ _ _).symm
      refine y_ci (rest := []) g (y_SA (nA := 3) (As := [.ref (gA G 0), .ref (A1 0), .int (vz59_2 + (29 * (nI i)))]) S g (d_act l G hfl A1 n1 F1 h1 (vz59_2 + (29 * (nI i))) hI1 (by omega)) q534 q535 q0 q536 ⟨by decide +kernel, by decide +kernel, by decide +kernel⟩ rfl ⟨Nat.le_of_ble_eq_true rfl, Nat.le_of_ble_eq_true rfl⟩ hl.1 (Nat.le_of_ble_eq_true rfl) rfl ⟨by show cells + 480 * i + 480 ≤ 1112399; omega, by show slots + 1920 * i + 1920 ≤ 5764272; omega⟩ dL_law_66) (fun r9 u66_3 H locs hp9 g => ?_)
      have g := g.eqw (List.append_assoc _ _ _)
      obtain ⟨A66, F66, n66, h66⟩ := u66_3
      obtain ⟨e9, hA9, hIn66, hh66⟩ := hp9
      subst e9
      have hh66 : h66 ≤ h1 + 60 := hh66
      have hIn66 : In F66 n66 h66 := hIn66
      have g := g.eqw (show _ = wld G F66 0 ++ (swl G (aset (A1 0) A66) n66 F66 1 ++ []) from by rw [aset_eq hA9])
      refine lv_if_ne (tgt := 74) hx hb dL_law_69 (by decide) (fun c_69 => ?_) (fun c9 => absurd c9 (by decide))
      refine lv_iinc (v := nI (i + 1)) (lv' := [(5, .int (nI (i + 1))), (0, .ref b9), (1, .ref (gA G 0)), (2, .ref (A1 0)), (3, .int (nI t)), (4, .int x9)]) hx hb dL_law_74 hl (k := 5) rfl (nI_1 i) (by decide) rfl (fun ls hl => ?_)
      refine lv_goto (tgt := 45) hx hb dL_law_77 (by decide) ?_
      refine W.widen (k := cells + 480 * (i + 1)) (n := slots + 1920 * (i + 1)) (by omega) (by omega) ?_
      exact ih_45 (i + 1) (aset (A1 0) A66) F66 n66 h66 _ _ _ (by omega) hIn66 (by omega) g (lv_sub hl [1, 2, 3, 4, 5, 0] rfl)
  refine W.widen (k := cells + 480 * 0) (n := slots + 1920 * 0) (by omega) (by omega) ?_
  exact loop45 3 0 A F n h _ _ _ (by omega) hIn (by omega) g (lv_sub hl [2, 3, 4, 5, 1, 0] rfl)
set_option maxHeartbeats 4000000 in
set_option maxRecDepth 100000 in
theorem seg_B {p : Program} {l : Launch} {e : Env} {s : State} {m : MethodId} {args : Array Value} {below : List Frame} {meth : Method} {c : Code} {cells slots : Nat} {Q : State → Prop} {G : gT} {Z : Nat → Prop} {b9 L9 : Nat} {xs9 : Nat → Int32} (hfl : l.stackTraces = false) (S : CallFix p m c cL_law 36 s args lw_all "ShadowPoolLaw") (hX9 : va_X b9 L9 xs9 s s.heap) (hX9l : b9 < s.heap.size) (hX9n : ¬ Z b9) (A : Nat → Nat) (F : Fs) (n : Nat) (h : Nat) (hIn : In F n h) (hh : h ≤ 8000) (t : Nat) (x : Int32) {H : Heap} {locs : List Loc} {ls : Array Slot} (g : GX G Z (wld G F 0 ++ (swl G A n F 1 ++ [])) s H locs) (hl : lv_has ls 36 [(0, .ref b9), (1, .ref (gA G 0)), (2, .ref (A 0)), (3, .int (nI t)), (4, .int x)]) (hc1 : cells + 0 ≤ 1112399) (hc2 : slots + 0 ≤ 5764272) (K : ∀ (F1 : Fs) (H : Heap) (locs : List Loc) (ls : Array Slot), SameC F F1 → In F1 n h → GX G Z (wld G F1 0 ++ (swl G A n F1 1 ++ [])) s H locs → lv_has ls 36 [(0, .ref b9), (1, .ref (gA G 0)), (2, .ref (A 0)), (3, .int (nI t)), (4, .int x), (5, .long (dgI F n h)), (7, .int (nI n)), (8, .int (nI (h % 12)))] → W p l e room_1 s m args below meth c H locs (cells + 0) (slots + 0) Q (F0 m 171 ls [])) : W p l e room_1 s m args below meth c H locs cells slots Q (F0 m 80 ls []) := by
  have hx := S.1
  have hb := S.2.1
  have hn8 := hIn.n8
  refine lv_aload_n hx hb dL_law_80 rfl (lv_at hl 1 rfl) ?_
  refine x_cl (rest := []) g (x_V (nA := 0) (As := []) S g (c_digest l G F 0 n h hIn.ok hn8 (by omega)) (lw_V q398 q399 q400 q1 q401) ⟨rfl, by decide +kernel, by decide +kernel, by decide +kernel⟩ rfl ⟨Nat.le_of_ble_eq_true rfl, Nat.le_of_ble_eq_true rfl⟩ hl.1 (Nat.le_of_ble_eq_true rfl) rfl ⟨by show cells + 0 ≤ 1112399; omega, by show slots + 0 ≤ 5764272; omega⟩ dL_law_81) (fun H locs g => ?_)
  refine lv_lstore (lv' := [(5, .long (dgI F n h)), (0, .ref b9), (1, .ref (gA G 0)), (2, .ref (A 0)), (3, .int (nI t)), (4, .int x)]) hx hb dL_law_84 hl (by decide) rfl (fun ls hl => ?_)
  obtain ⟨F1, hS1, hI1, g⟩ : ∃ F9 : Fs, SameC F F9 ∧ In F9 n h ∧ GX G Z (wld G F9 0 ++ (swl G A n F9 1 ++ [])) s H locs := ⟨_, sc_dg F n h, hIn.sc (sc_dg F n h), g.eqw (by rw [swl_sc G A hn8 (sc_dg F n h)])⟩
  refine lv_aload_n hx hb dL_law_86 rfl (lv_at hl 2 rfl) ?_
  refine x_ci (rest := []) g (x_V (nA := 0) (As := []) S g (c_walkers l G F1 0 ) (lw_V q259 q260 q261 q1 q262) ⟨rfl, by decide +kernel, by decide +kernel, by decide +kernel⟩ rfl ⟨Nat.le_of_ble_eq_true rfl, Nat.le_of_ble_eq_true rfl⟩ hl.1 (Nat.le_of_ble_eq_true rfl) rfl ⟨by show cells + 0 ≤ 1112399; omega, by show slots + 0 ≤ 5764272; omega⟩ dL_law_87) (fun H locs g => ?_)
  rw [show (F1 1 6 : Int32) = nI n from hI1.c6]
  refine lv_istore (lv' := [(7, .int (nI n)), (5, .long (dgI F n h)), (0, .ref b9), (1, .ref (gA G 0)), (2, .ref (A 0)), (3, .int (nI t)), (4, .int x)]) hx hb dL_law_90 hl (by decide) rfl (fun ls hl => ?_)
  refine lv_aload_n hx hb dL_law_92 rfl (lv_at hl 3 rfl) ?_
  refine x_ci (rest := []) g (x_V (nA := 0) (As := []) S g (c_hour l G F1 0 ) (lw_V q240 q241 q242 q1 q243) ⟨rfl, by decide +kernel, by decide +kernel, by decide +kernel⟩ rfl ⟨Nat.le_of_ble_eq_true rfl, Nat.le_of_ble_eq_true rfl⟩ hl.1 (Nat.le_of_ble_eq_true rfl) rfl ⟨by show cells + 0 ≤ 1112399; omega, by show slots + 0 ≤ 5764272; omega⟩ dL_law_93) (fun H locs g => ?_)
  rw [show (F1 1 0 : Int32) = nI h from hI1.c0]
  refine lv_bipush (v := 12) hx hb dL_law_96 (by decide) ?_
  refine lv_irem hx hb dL_law_98 (by decide) ?_
  rw [show ((nI h) - (nI h) / 12 * 12 : Int32) = nI (h % 12) from pk_rem (d := 12) (by omega) (by omega) (by omega)]
  refine lv_istore (lv' := [(8, .int (nI (h % 12))), (7, .int (nI n)), (5, .long (dgI F n h)), (0, .ref b9), (1, .ref (gA G 0)), (2, .ref (A 0)), (3, .int (nI t)), (4, .int x)]) hx hb dL_law_99 hl (by decide) rfl (fun ls hl => ?_)
  refine lv_aload_n hx hb dL_law_101 rfl (lv_at hl 4 rfl) ?_
  refine x_ci (rest := []) g (x_V (nA := 0) (As := []) S g (c_sun l G F1 0 h hI1.c0 (by omega)) (lw_V q244 q245 q246 q1 q247) ⟨rfl, by decide +kernel, by decide +kernel, by decide +kernel⟩ rfl ⟨Nat.le_of_ble_eq_true rfl, Nat.le_of_ble_eq_true rfl⟩ hl.1 (Nat.le_of_ble_eq_true rfl) rfl ⟨by show cells + 0 ≤ 1112399; omega, by show slots + 0 ≤ 5764272; omega⟩ dL_law_102) (fun H locs g => ?_)
  refine lv_iload hx hb dL_law_105 (lv_at hl 0 rfl) ?_
  refine lv_iconst (v := 1) hx hb dL_law_107 (by decide) ?_
  refine lv_iadd hx hb dL_law_108 ?_
  refine lv_bipush (v := 12) hx hb dL_law_109 (by decide) ?_
  refine lv_iload hx hb dL_law_111 (lv_at hl 0 rfl) ?_
  refine lv_isub hx hb dL_law_113 ?_
  refine g_min S hl.1 q605 qMinS q11 qMin (Nat.le_of_ble_eq_true rfl) (Nat.le_of_ble_eq_true rfl) (by show cells + 0 ≤ 1112399; omega) (by show slots + 0 ≤ 5764272; omega) dL_law_114 ?_
  refine lv_icmp_ne (tgt := 169) hx hb dL_law_117 (by decide) (fun c9 => absurd (su_min h) c9) (fun c_117 => ?_)
  refine lv_aload_n hx hb dL_law_120 rfl (lv_at hl 4 rfl) ?_
  refine x_ci (rest := []) g (x_V (nA := 0) (As := []) S g (c_isNoon l G F1 0 h hI1.c0 (by omega)) (lw_V q250 q251 q252 q1 q253) ⟨rfl, by decide +kernel, by decide +kernel, by decide +kernel⟩ rfl ⟨Nat.le_of_ble_eq_true rfl, Nat.le_of_ble_eq_true rfl⟩ hl.1 (Nat.le_of_ble_eq_true rfl) rfl ⟨by show cells + 0 ≤ 1112399; omega, by show slots + 0 ≤ 5764272; omega⟩ dL_law_121) (fun H locs g => ?_)
  refine lv_aload_n hx hb dL_law_124 rfl (lv_at hl 4 rfl) ?_
  refine x_ci (rest := [.int (noH h)]) g (x_V (nA := 0) (As := []) S g (c_sun l G F1 0 h hI1.c0 (by omega)) (lw_V q244 q245 q246 q1 q247) ⟨rfl, by decide +kernel, by decide +kernel, by decide +kernel⟩ rfl ⟨Nat.le_of_ble_eq_true rfl, Nat.le_of_ble_eq_true rfl⟩ hl.1 (Nat.le_of_ble_eq_true rfl) rfl ⟨by show cells + 0 ≤ 1112399; omega, by show slots + 0 ≤ 5764272; omega⟩ dL_law_125) (fun H locs g => ?_)
  refine lv_bipush (v := 6) hx hb dL_law_128 (by decide) ?_
  refine lv_icmp_ne (tgt := 137) hx hb dL_law_130 (by decide) (fun c_130 => ?_) (fun c_130 => ?_)
  · refine lv_iconst (v := 0) hx hb dL_law_137 (by decide) ?_
    refine lv_icmp_ne (tgt := 169) hx hb dL_law_138 (by decide) (fun c9 => absurd (si_nn h c_130).symm c9) (fun c_138 => ?_)
    refine lv_aload_n hx hb dL_law_141 rfl (lv_at hl 4 rfl) ?_
    refine x_ci (rest := []) g (x_V (nA := 0) (As := []) S g (c_hoursUntilNoon l G F1 0 h hI1.c0 (by omega)) (lw_V q255 q256 q257 q1 q258) ⟨rfl, by decide +kernel, by decide +kernel, by decide +kernel⟩ rfl ⟨Nat.le_of_ble_eq_true rfl, Nat.le_of_ble_eq_true rfl⟩ hl.1 (Nat.le_of_ble_eq_true rfl) rfl ⟨by show cells + 0 ≤ 1112399; omega, by show slots + 0 ≤ 5764272; omega⟩ dL_law_142) (fun H locs g => ?_)
    refine lv_if_ne (tgt := 152) hx hb dL_law_145 (by decide) (fun c_145 => ?_) (fun c_145 => ?_)
    · refine lv_iconst (v := 0) hx hb dL_law_152 (by decide) ?_
      refine lv_aload_n hx hb dL_law_153 rfl (lv_at hl 4 rfl) ?_
      refine x_ci (rest := [.int 0]) g (x_V (nA := 0) (As := []) S g (c_isNoon l G F1 0 h hI1.c0 (by omega)) (lw_V q250 q251 q252 q1 q253) ⟨rfl, by decide +kernel, by decide +kernel, by decide +kernel⟩ rfl ⟨Nat.le_of_ble_eq_true rfl, Nat.le_of_ble_eq_true rfl⟩ hl.1 (Nat.le_of_ble_eq_true rfl) rfl ⟨by show cells + 0 ≤ 1112399; omega, by show slots + 0 ≤ 5764272; omega⟩ dL_law_154) (fun H locs g => ?_)
      refine lv_icmp_ne (tgt := 169) hx hb dL_law_157 (by decide) (fun c9 => absurd (hn_0 h c_145) c9) (fun c_157 => ?_)
      refine lv_aload_n hx hb dL_law_160 rfl (lv_at hl 4 rfl) ?_
      refine x_ci (rest := []) g (x_V (nA := 0) (As := []) S g (c_hoursUntilNoon l G F1 0 h hI1.c0 (by omega)) (lw_V q255 q256 q257 q1 q258) ⟨rfl, by decide +kernel, by decide +kernel, by decide +kernel⟩ rfl ⟨Nat.le_of_ble_eq_true rfl, Nat.le_of_ble_eq_true rfl⟩ hl.1 (Nat.le_of_ble_eq_true rfl) rfl ⟨by show cells + 0 ≤ 1112399; omega, by show slots + 0 ≤ 5764272; omega⟩ dL_law_161) (fun H locs g => ?_)
      refine lv_bipush (v := 10) hx hb dL_law_164 (by decide) ?_
      refine lv_icmp_le (tgt := 171) hx hb dL_law_166 (by decide) (fun c_166 => ?_) (fun c9 => absurd (hu_le h) c9)
      refine W.widen (k := cells + 0) (n := slots + 0) (by omega) (by omega) ?_
      exact K F1 _ _ _ hS1 hI1 g (lv_sub hl [3, 4, 5, 6, 7, 2, 1, 0] rfl)
    · refine lv_iconst (v := 1) hx hb dL_law_148 (by decide) ?_
      refine lv_goto (tgt := 153) hx hb dL_law_149 (by decide) ?_
      refine lv_aload_n hx hb dL_law_153 rfl (lv_at hl 4 rfl) ?_
      refine x_ci (rest := [.int 1]) g (x_V (nA := 0) (As := []) S g (c_isNoon l G F1 0 h hI1.c0 (by omega)) (lw_V q250 q251 q252 q1 q253) ⟨rfl, by decide +kernel, by decide +kernel, by decide +kernel⟩ rfl ⟨Nat.le_of_ble_eq_true rfl, Nat.le_of_ble_eq_true rfl⟩ hl.1 (Nat.le_of_ble_eq_true rfl) rfl ⟨by show cells + 0 ≤ 1112399; omega, by show slots + 0 ≤ 5764272; omega⟩ dL_law_154) (fun H locs g => ?_)
      refine lv_icmp_ne (tgt := 169) hx hb dL_law_157 (by decide) (fun c9 => absurd (hn_1 h c_145) c9) (fun c_157 => ?_)
      refine lv_aload_n hx hb dL_law_160 rfl (lv_at hl 4 rfl) ?_
      refine x_ci (rest := []) g (x_V (nA := 0) (As := []) S g (c_hoursUntilNoon l G F1 0 h hI1.c0 (by omega)) (lw_V q255 q256 q257 q1 q258) ⟨rfl, by decide +kernel, by decide +kernel, by decide +kernel⟩ rfl ⟨Nat.le_of_ble_eq_true rfl, Nat.le_of_ble_eq_true rfl⟩ hl.1 (Nat.le_of_ble_eq_true rfl) rfl ⟨by show cells + 0 ≤ 1112399; omega, by show slots + 0 ≤ 5764272; omega⟩ dL_law_161) (fun H locs g => ?_)
      refine lv_bipush (v := 10) hx hb dL_law_164 (by decide) ?_
      refine lv_icmp_le (tgt := 171) hx hb dL_law_166 (by decide) (fun c_166 => ?_) (fun c9 => absurd (hu_le h) c9)
      refine W.widen (k := cells + 0) (n := slots + 0) (by omega) (by omega) ?_
      exact K F1 _ _ _ hS1 hI1 g (lv_sub hl [3, 4, 5, 6, 7, 2, 1, 0] rfl)
  · refine lv_iconst (v := 1) hx hb dL_law_133 (by decide) ?_
    refine lv_goto (tgt := 138) hx hb dL_law_134 (by decide) ?_
    refine lv_icmp_ne (tgt := 169) hx hb dL_law_138 (by decide) (fun c9 => absurd (si_no h c_130).symm c9) (fun c_138 => ?_)
    refine lv_aload_n hx hb dL_law_141 rfl (lv_at hl 4 rfl) ?_
    refine x_ci (rest := []) g (x_V (nA := 0) (As := []) S g (c_hoursUntilNoon l G F1 0 h hI1.c0 (by omega)) (lw_V q255 q256 q257 q1 q258) ⟨rfl, by decide +kernel, by decide +kernel, by decide +kernel⟩ rfl ⟨Nat.le_of_ble_eq_true rfl, Nat.le_of_ble_eq_true rfl⟩ hl.1 (Nat.le_of_ble_eq_true rfl) rfl ⟨by show cells + 0 ≤ 1112399; omega, by show slots + 0 ≤ 5764272; omega⟩ dL_law_142) (fun H locs g => ?_)
    refine lv_if_ne (tgt := 152) hx hb dL_law_145 (by decide) (fun c_145 => ?_) (fun c_145 => ?_)
    · refine lv_iconst (v := 0) hx hb dL_law_152 (by decide) ?_
      refine lv_aload_n hx hb dL_law_153 rfl (lv_at hl 4 rfl) ?_
      refine x_ci (rest := [.int 0]) g (x_V (nA := 0) (As := []) S g (c_isNoon l G F1 0 h hI1.c0 (by omega)) (lw_V q250 q251 q252 q1 q253) ⟨rfl, by decide +kernel, by decide +kernel, by decide +kernel⟩ rfl ⟨Nat.le_of_ble_eq_true rfl, Nat.le_of_ble_eq_true rfl⟩ hl.1 (Nat.le_of_ble_eq_true rfl) rfl ⟨by show cells + 0 ≤ 1112399; omega, by show slots + 0 ≤ 5764272; omega⟩ dL_law_154) (fun H locs g => ?_)
      refine lv_icmp_ne (tgt := 169) hx hb dL_law_157 (by decide) (fun c9 => absurd (hn_0 h c_145) c9) (fun c_157 => ?_)
      refine lv_aload_n hx hb dL_law_160 rfl (lv_at hl 4 rfl) ?_
      refine x_ci (rest := []) g (x_V (nA := 0) (As := []) S g (c_hoursUntilNoon l G F1 0 h hI1.c0 (by omega)) (lw_V q255 q256 q257 q1 q258) ⟨rfl, by decide +kernel, by decide +kernel, by decide +kernel⟩ rfl ⟨Nat.le_of_ble_eq_true rfl, Nat.le_of_ble_eq_true rfl⟩ hl.1 (Nat.le_of_ble_eq_true rfl) rfl ⟨by show cells + 0 ≤ 1112399; omega, by show slots + 0 ≤ 5764272; omega⟩ dL_law_161) (fun H locs g => ?_)
      refine lv_bipush (v := 10) hx hb dL_law_164 (by decide) ?_
      refine lv_icmp_le (tgt := 171) hx hb dL_law_166 (by decide) (fun c_166 => ?_) (fun c9 => absurd (hu_le h) c9)
      refine W.widen (k := cells + 0) (n := slots + 0) (by omega) (by omega) ?_
      exact K F1 _ _ _ hS1 hI1 g (lv_sub hl [3, 4, 5, 6, 7, 2, 1, 0] rfl)
    · refine lv_iconst (v := 1) hx hb dL_law_148 (by decide) ?_
      refine lv_goto (tgt := 153) hx hb dL_law_149 (by decide) ?_
      refine lv_aload_n hx hb dL_law_153 rfl (lv_at hl 4 rfl) ?_
      refine x_ci (rest := [.int 1]) g (x_V (nA := 0) (As := []) S g (c_isNoon l G F1 0 h hI1.c0 (by omega)) (lw_V q250 q251 q252 q1 q253) ⟨rfl, by decide +kernel, by decide +kernel, by decide +kernel⟩ rfl ⟨Nat.le_of_ble_eq_true rfl, Nat.le_of_ble_eq_true rfl⟩ hl.1 (Nat.le_of_ble_eq_true rfl) rfl ⟨by show cells + 0 ≤ 1112399; omega, by show slots + 0 ≤ 5764272; omega⟩ dL_law_154) (fun H locs g => ?_)
      refine lv_icmp_ne (tgt := 169) hx hb dL_law_157 (by decide) (fun c9 => absurd (hn_1 h c_145) c9) (fun c_157 => ?_)
      refine lv_aload_n hx hb dL_law_160 rfl (lv_at hl 4 rfl) ?_
      refine x_ci (rest := []) g (x_V (nA := 0) (As := []) S g (c_hoursUntilNoon l G F1 0 h hI1.c0 (by omega)) (lw_V q255 q256 q257 q1 q258) ⟨rfl, by decide +kernel, by decide +kernel, by decide +kernel⟩ rfl ⟨Nat.le_of_ble_eq_true rfl, Nat.le_of_ble_eq_true rfl⟩ hl.1 (Nat.le_of_ble_eq_true rfl) rfl ⟨by show cells + 0 ≤ 1112399; omega, by show slots + 0 ≤ 5764272; omega⟩ dL_law_161) (fun H locs g => ?_)
      refine lv_bipush (v := 10) hx hb dL_law_164 (by decide) ?_
      refine lv_icmp_le (tgt := 171) hx hb dL_law_166 (by decide) (fun c_166 => ?_) (fun c9 => absurd (hu_le h) c9)
      refine W.widen (k := cells + 0) (n := slots + 0) (by omega) (by omega) ?_
      exact K F1 _ _ _ hS1 hI1 g (lv_sub hl [3, 4, 5, 6, 7, 2, 1, 0] rfl)
set_option maxHeartbeats 4000000 in
set_option maxRecDepth 100000 in
theorem seg_C {p : Program} {l : Launch} {e : Env} {s : State} {m : MethodId} {args : Array Value} {below : List Frame} {meth : Method} {c : Code} {cells slots : Nat} {Q : State → Prop} {G : gT} {Z : Nat → Prop} {b9 L9 : Nat} {xs9 : Nat → Int32} (hfl : l.stackTraces = false) (S : CallFix p m c cL_law 36 s args lw_all "ShadowPoolLaw") (hX9 : va_X b9 L9 xs9 s s.heap) (hX9l : b9 < s.heap.size) (hX9n : ¬ Z b9) (A : Nat → Nat) (F : Fs) (n : Nat) (h : Nat) (hIn : In F n h) (hh : h ≤ 8000) (t : Nat) (x : Int32) (D : Int64) {H : Heap} {locs : List Loc} {ls : Array Slot} (g : GX G Z (wld G F 0 ++ (swl G A n F 1 ++ [])) s H locs) (hl : lv_has ls 36 [(0, .ref b9), (1, .ref (gA G 0)), (2, .ref (A 0)), (3, .int (nI t)), (4, .int x), (5, .long D), (7, .int (nI n)), (8, .int (nI (h % 12)))]) (hc1 : cells + 0 ≤ 1112399) (hc2 : slots + 0 ≤ 5764272) (K : ∀ (H : Heap) (locs : List Loc) (ls : Array Slot), GX G Z (wld G F 0 ++ (swl G A n F 1 ++ [])) s H locs → lv_has ls 36 [(0, .ref b9), (1, .ref (gA G 0)), (2, .ref (A 0)), (3, .int (nI t)), (4, .int x), (5, .long D), (7, .int (nI n)), (8, .int (nI (h % 12)))] → W p l e room_1 s m args below meth c H locs (cells + 0) (slots + 0) Q (F0 m 514 ls [])) : W p l e room_1 s m args below meth c H locs cells slots Q (F0 m 171 ls []) := by
  have hx := S.1
  have hb := S.2.1
  have hn8 := hIn.n8
  refine lv_iconst (v := 0) hx hb dL_law_171 (by decide) ?_
  refine lv_istore (lv' := [(9, .int 0), (0, .ref b9), (1, .ref (gA G 0)), (2, .ref (A 0)), (3, .int (nI t)), (4, .int x), (5, .long D), (7, .int (nI n)), (8, .int (nI (h % 12)))]) hx hb dL_law_172 hl (by decide) rfl (fun ls hl => ?_)
  refine lv_iconst (v := 0) hx hb dL_law_174 (by decide) ?_
  refine lv_istore (lv' := [(10, .int 0), (9, .int 0), (0, .ref b9), (1, .ref (gA G 0)), (2, .ref (A 0)), (3, .int (nI t)), (4, .int x), (5, .long D), (7, .int (nI n)), (8, .int (nI (h % 12)))]) hx hb dL_law_175 hl (by decide) rfl (fun ls hl => ?_)
  have loop177 : ∀ (n_ : Nat) (i : Nat) (H : Heap) (locs : List Loc) (ls : Array Slot) (hi : i + n_ = n), GX G Z (wld G F 0 ++ (swl G A n F 1 ++ [])) s H locs → lv_has ls 36 [(0, .ref b9), (1, .ref (gA G 0)), (2, .ref (A 0)), (3, .int (nI t)), (4, .int x), (5, .long D), (7, .int (nI n)), (8, .int (nI (h % 12))), (9, .int (cmL F 1 i 0 0)), (10, .int (nI i))] → W p l e room_1 s m args below meth c H locs (cells) (slots) Q (F0 m 177 ls []) := by
    intro n_
    induction n_ with
    | zero =>
      intro i H locs ls hi g hl
      refine lv_iload hx hb dL_law_177 (lv_at hl 9 rfl) ?_
      refine lv_iload hx hb dL_law_179 (lv_at hl 6 rfl) ?_
      refine lv_icmp_ge (tgt := 503) hx hb dL_law_181 (by decide) (fun c_181 => ?_) (fun c9 => absurd (nI_le (by omega) (by omega)) c9)
      refine lv_iload hx hb dL_law_503 (lv_at hl 8 rfl) ?_
      refine lv_aload_n hx hb dL_law_505 rfl (lv_at hl 1 rfl) ?_
      refine x_ci (rest := [.int (cmL F 1 i 0 0)]) g (x_V (nA := 0) (As := []) S g (c_members l G F 0 n hIn.c6 hn8) (lw_V q263 q264 q265 q1 q266) ⟨rfl, by decide +kernel, by decide +kernel, by decide +kernel⟩ rfl ⟨Nat.le_of_ble_eq_true rfl, Nat.le_of_ble_eq_true rfl⟩ hl.1 (Nat.le_of_ble_eq_true rfl) rfl ⟨by show cells + 0 ≤ 1112399; omega, by show slots + 0 ≤ 5764272; omega⟩ dL_law_506) (fun H locs g => ?_)
      refine lv_icmp_eq (tgt := 514) hx hb dL_law_509 (by decide) (fun c_509 => ?_) (fun c9 => absurd (by rw [show i = n by omega]) c9)
      refine W.widen (k := cells + 0) (n := slots + 0) (by omega) (by omega) ?_
      exact K  _ _ _  g (lv_sub hl [0, 1, 2, 3, 4, 5, 6, 7] rfl)
    | succ n_ ih_177 =>
      intro i H locs ls hi g hl
      have hin : i < n := by omega
      have hmm := (hIn.wk hin).mem
      obtain ⟨a, nt, wo, f, m9, r, l9, S9, co9, o9, q9, t9, ⟨b1, b2, b3, b4, b5, b6, b7, b8, b9_⟩, e0, e2, e3, e4, e5, er, el, eS, ec, eo, eq, et, k1, k2, k3, k4, k5, k6, k7, k8, k9, k10⟩ := wk_all hIn hin
      have join347 : ∀ (H : Heap) (locs : List Loc) (ls : Array Slot), GX G Z (wld G F 0 ++ (swl G A n F 1 ++ [])) s H locs → lv_has ls 36 [(0, .ref b9), (1, .ref (gA G 0)), (2, .ref (A 0)), (3, .int (nI t)), (4, .int x), (5, .long D), (7, .int (nI n)), (8, .int (nI (h % 12))), (9, .int (cmL F 1 (i + 1) 0 0)), (10, .int (nI i)), (11, .int (nI a))] → W p l e room_1 s m args below meth c H locs (cells) (slots) Q (F0 m 347 ls []) := by
        intro  H locs ls  g hl
        refine lv_aload_n hx hb dL_law_347 rfl (lv_at hl 1 rfl) ?_
        refine lv_iload hx hb dL_law_348 (lv_at hl 9 rfl) ?_
        refine x_ci (rest := []) g (x_V (nA := 1) (As := [.int (nI i)]) S g (c_ownPartOf_ok l G F 0 i n h hIn.c6 hin hn8 hIn.c0 (by omega)) (lw_V q316 q317 q318 q1 q319) ⟨rfl, by decide +kernel, by decide +kernel, by decide +kernel⟩ rfl ⟨Nat.le_of_ble_eq_true rfl, Nat.le_of_ble_eq_true rfl⟩ hl.1 (Nat.le_of_ble_eq_true rfl) rfl ⟨by show cells + 0 ≤ 1112399; omega, by show slots + 0 ≤ 5764272; omega⟩ dL_law_350) (fun H locs g => ?_)
        rw [show (owI (F (wb 1 i) 5) (coI (F (wb 1 i) 0) (F (wb 1 i) 2) (suH h)) (noH h) : Int32) = nI o9 from eo]
        refine lv_istore (lv' := [(12, .int (nI o9)), (0, .ref b9), (1, .ref (gA G 0)), (2, .ref (A 0)), (3, .int (nI t)), (4, .int x), (5, .long D), (7, .int (nI n)), (8, .int (nI (h % 12))), (9, .int (cmL F 1 (i + 1) 0 0)), (10, .int (nI i)), (11, .int (nI a))]) hx hb dL_law_353 hl (by decide) rfl (fun ls hl => ?_)
        refine lv_aload_n hx hb dL_law_355 rfl (lv_at hl 2 rfl) ?_
        refine lv_iload hx hb dL_law_356 (lv_at hl 10 rfl) ?_
        refine x_ci (rest := []) g (x_V (nA := 1) (As := [.int (nI i)]) S g (c_poolPartOf_ok l G F 0 i n h hIn.c6 hin hn8 hIn.c0 (by omega)) (lw_V q322 q323 q324 q1 q325) ⟨rfl, by decide +kernel, by decide +kernel, by decide +kernel⟩ rfl ⟨Nat.le_of_ble_eq_true rfl, Nat.le_of_ble_eq_true rfl⟩ hl.1 (Nat.le_of_ble_eq_true rfl) rfl ⟨by show cells + 0 ≤ 1112399; omega, by show slots + 0 ≤ 5764272; omega⟩ dL_law_358) (fun H locs g => ?_)
        rw [show (clI F (wb 1 i) (suH h) (noH h) - reI (clI F (wb 1 i) (suH h) (noH h)) (F 1 3) (F 1 4) : Int32) = nI q9 from eq]
        refine lv_istore (lv' := [(13, .int (nI q9)), (12, .int (nI o9)), (0, .ref b9), (1, .ref (gA G 0)), (2, .ref (A 0)), (3, .int (nI t)), (4, .int x), (5, .long D), (7, .int (nI n)), (8, .int (nI (h % 12))), (9, .int (cmL F 1 (i + 1) 0 0)), (10, .int (nI i)), (11, .int (nI a))]) hx hb dL_law_361 hl (by decide) rfl (fun ls hl => ?_)
        refine lv_aload_n hx hb dL_law_363 rfl (lv_at hl 3 rfl) ?_
        refine lv_iload hx hb dL_law_364 (lv_at hl 11 rfl) ?_
        refine x_ci (rest := []) g (x_V (nA := 1) (As := [.int (nI i)]) S g (c_reinsuredPartOf_ok l G F 0 i n h hIn.c6 hin hn8 hIn.c0 (by omega)) (lw_V q331 q332 q333 q1 q334) ⟨rfl, by decide +kernel, by decide +kernel, by decide +kernel⟩ rfl ⟨Nat.le_of_ble_eq_true rfl, Nat.le_of_ble_eq_true rfl⟩ hl.1 (Nat.le_of_ble_eq_true rfl) rfl ⟨by show cells + 0 ≤ 1112399; omega, by show slots + 0 ≤ 5764272; omega⟩ dL_law_366) (fun H locs g => ?_)
        rw [show (reI (clI F (wb 1 i) (suH h) (noH h)) (F 1 3) (F 1 4) : Int32) = nI t9 from et]
        refine lv_istore (lv' := [(14, .int (nI t9)), (13, .int (nI q9)), (12, .int (nI o9)), (0, .ref b9), (1, .ref (gA G 0)), (2, .ref (A 0)), (3, .int (nI t)), (4, .int x), (5, .long D), (7, .int (nI n)), (8, .int (nI (h % 12))), (9, .int (cmL F 1 (i + 1) 0 0)), (10, .int (nI i)), (11, .int (nI a))]) hx hb dL_law_369 hl (by decide) rfl (fun ls hl => ?_)
        refine lv_aload_n hx hb dL_law_371 rfl (lv_at hl 4 rfl) ?_
        refine lv_iload hx hb dL_law_372 (lv_at hl 12 rfl) ?_
        refine x_ci (rest := []) g (x_V (nA := 1) (As := [.int (nI i)]) S g (c_costOf_ok l G F 0 i n h hIn.c6 hin hn8 hIn.c0 (by omega)) (lw_V q311 q312 q313 q1 q314) ⟨rfl, by decide +kernel, by decide +kernel, by decide +kernel⟩ rfl ⟨Nat.le_of_ble_eq_true rfl, Nat.le_of_ble_eq_true rfl⟩ hl.1 (Nat.le_of_ble_eq_true rfl) rfl ⟨by show cells + 0 ≤ 1112399; omega, by show slots + 0 ≤ 5764272; omega⟩ dL_law_374) (fun H locs g => ?_)
        rw [show (coI (F (wb 1 i) 0) (F (wb 1 i) 2) (suH h) : Int32) = nI co9 from ec]
        refine lv_aload_n hx hb dL_law_377 rfl (lv_at hl 4 rfl) ?_
        refine lv_iload hx hb dL_law_378 (lv_at hl 12 rfl) ?_
        refine x_ci (rest := [.int (nI co9)]) g (x_V (nA := 1) (As := [.int (nI i)]) S g (c_shadowOf_ok l G F 0 i n h hIn.c6 hin hn8 hIn.c0 (by omega)) (lw_V q301 q302 q303 q1 q304) ⟨rfl, by decide +kernel, by decide +kernel, by decide +kernel⟩ rfl ⟨Nat.le_of_ble_eq_true rfl, Nat.le_of_ble_eq_true rfl⟩ hl.1 (Nat.le_of_ble_eq_true rfl) rfl ⟨by show cells + 0 ≤ 1112399; omega, by show slots + 0 ≤ 5764272; omega⟩ dL_law_380) (fun H locs g => ?_)
        rw [show (shI (F (wb 1 i) 0) (suH h) : Int32) = nI S9 from eS]
        refine lv_icmp_gt (tgt := 495) hx hb dL_law_383 (by decide) (fun c9 => absurd c9 (fun z9 => absurd ((nI_ltI (a := S9) (b := co9) (by omega) (by omega)).mp z9) (by omega))) (fun c_383 => ?_)
        refine lv_aload_n hx hb dL_law_386 rfl (lv_at hl 4 rfl) ?_
        refine lv_iload hx hb dL_law_387 (lv_at hl 12 rfl) ?_
        refine x_ci (rest := []) g (x_V (nA := 1) (As := [.int (nI i)]) S g (c_costOf_ok l G F 0 i n h hIn.c6 hin hn8 hIn.c0 (by omega)) (lw_V q311 q312 q313 q1 q314) ⟨rfl, by decide +kernel, by decide +kernel, by decide +kernel⟩ rfl ⟨Nat.le_of_ble_eq_true rfl, Nat.le_of_ble_eq_true rfl⟩ hl.1 (Nat.le_of_ble_eq_true rfl) rfl ⟨by show cells + 0 ≤ 1112399; omega, by show slots + 0 ≤ 5764272; omega⟩ dL_law_389) (fun H locs g => ?_)
        rw [show (coI (F (wb 1 i) 0) (F (wb 1 i) 2) (suH h) : Int32) = nI co9 from ec]
        refine lv_if_lt (tgt := 495) hx hb dL_law_392 (by decide) (fun c9 => absurd c9 (fun z9 => absurd ((nI_ltI (a := co9) (b := 0) (by omega) (by omega)).mp z9) (by omega))) (fun c_392 => ?_)
        refine lv_iload hx hb dL_law_395 (lv_at hl 2 rfl) ?_
        refine lv_iload hx hb dL_law_397 (lv_at hl 1 rfl) ?_
        refine lv_iadd hx hb dL_law_399 ?_
        rw [show ((nI o9) + (nI q9) : Int32) = nI (o9 + q9) from (nI_add o9 q9)]
        refine lv_iload hx hb dL_law_400 (lv_at hl 0 rfl) ?_
        refine lv_iadd hx hb dL_law_402 ?_
        rw [show ((nI (o9 + q9)) + (nI t9) : Int32) = nI (o9 + q9 + t9) from (nI_add (o9 + q9) t9)]
        refine lv_aload_n hx hb dL_law_403 rfl (lv_at hl 4 rfl) ?_
        refine lv_iload hx hb dL_law_404 (lv_at hl 12 rfl) ?_
        refine x_ci (rest := [.int (nI (o9 + q9 + t9))]) g (x_V (nA := 1) (As := [.int (nI i)]) S g (c_costOf_ok l G F 0 i n h hIn.c6 hin hn8 hIn.c0 (by omega)) (lw_V q311 q312 q313 q1 q314) ⟨rfl, by decide +kernel, by decide +kernel, by decide +kernel⟩ rfl ⟨Nat.le_of_ble_eq_true rfl, Nat.le_of_ble_eq_true rfl⟩ hl.1 (Nat.le_of_ble_eq_true rfl) rfl ⟨by show cells + 0 ≤ 1112399; omega, by show slots + 0 ≤ 5764272; omega⟩ dL_law_406) (fun H locs g => ?_)
        rw [show (coI (F (wb 1 i) 0) (F (wb 1 i) 2) (suH h) : Int32) = nI co9 from ec]
        refine lv_icmp_ne (tgt := 495) hx hb dL_law_409 (by decide) (fun c9 => absurd (congrArg nI (show (o9 + q9 + t9) = co9 by omega)) c9) (fun c_409 => ?_)
        refine lv_iload hx hb dL_law_412 (lv_at hl 2 rfl) ?_
        refine lv_if_lt (tgt := 495) hx hb dL_law_414 (by decide) (fun c9 => absurd c9 (fun z9 => absurd ((nI_ltI (a := o9) (b := 0) (by omega) (by omega)).mp z9) (by omega))) (fun c_414 => ?_)
        refine lv_iload hx hb dL_law_417 (lv_at hl 1 rfl) ?_
        refine lv_if_lt (tgt := 495) hx hb dL_law_419 (by decide) (fun c9 => absurd c9 (fun z9 => absurd ((nI_ltI (a := q9) (b := 0) (by omega) (by omega)).mp z9) (by omega))) (fun c_419 => ?_)
        refine lv_iload hx hb dL_law_422 (lv_at hl 0 rfl) ?_
        refine lv_if_lt (tgt := 495) hx hb dL_law_424 (by decide) (fun c9 => absurd c9 (fun z9 => absurd ((nI_ltI (a := t9) (b := 0) (by omega) (by omega)).mp z9) (by omega))) (fun c_424 => ?_)
        refine lv_iload hx hb dL_law_427 (lv_at hl 0 rfl) ?_
        refine lv_aload_n hx hb dL_law_429 rfl (lv_at hl 4 rfl) ?_
        refine x_ci (rest := [.int (nI t9)]) g (x_V (nA := 0) (As := []) S g (c_limit l G F 0 ) (lw_V q347 q348 q349 q1 q350) ⟨rfl, by decide +kernel, by decide +kernel, by decide +kernel⟩ rfl ⟨Nat.le_of_ble_eq_true rfl, Nat.le_of_ble_eq_true rfl⟩ hl.1 (Nat.le_of_ble_eq_true rfl) rfl ⟨by show cells + 0 ≤ 1112399; omega, by show slots + 0 ≤ 5764272; omega⟩ dL_law_430) (fun H locs g => ?_)
        rw [show (F 1 4 : Int32) = nI l9 from el]
        refine lv_icmp_gt (tgt := 495) hx hb dL_law_433 (by decide) (fun c9 => absurd c9 (fun z9 => absurd ((nI_ltI (a := l9) (b := t9) (by omega) (by omega)).mp z9) (by omega))) (fun c_433 => ?_)
        refine lv_aload_n hx hb dL_law_436 rfl (lv_at hl 4 rfl) ?_
        refine lv_iload hx hb dL_law_437 (lv_at hl 12 rfl) ?_
        refine x_ci (rest := []) g (x_V (nA := 1) (As := [.int (nI i)]) S g (c_isMember_ok l G F 0 i n hIn.c6 hin hn8 hmm) (lw_V q268 q269 q270 q1 q271) ⟨rfl, by decide +kernel, by decide +kernel, by decide +kernel⟩ rfl ⟨Nat.le_of_ble_eq_true rfl, Nat.le_of_ble_eq_true rfl⟩ hl.1 (Nat.le_of_ble_eq_true rfl) rfl ⟨by show cells + 0 ≤ 1112399; omega, by show slots + 0 ≤ 5764272; omega⟩ dL_law_439) (fun H locs g => ?_)
        rw [show (F (wb 1 i) 5 : Int32) = nI m9 from e5]
        refine lv_if_ne (tgt := 456) hx hb dL_law_442 (by decide) (fun c_442 => ?_) (fun c_442 => ?_)
        · refine lv_aload_n hx hb dL_law_456 rfl (lv_at hl 4 rfl) ?_
          refine lv_iload hx hb dL_law_457 (lv_at hl 12 rfl) ?_
          refine x_ci (rest := []) g (x_V (nA := 1) (As := [.int (nI i)]) S g (c_isMember_ok l G F 0 i n hIn.c6 hin hn8 hmm) (lw_V q268 q269 q270 q1 q271) ⟨rfl, by decide +kernel, by decide +kernel, by decide +kernel⟩ rfl ⟨Nat.le_of_ble_eq_true rfl, Nat.le_of_ble_eq_true rfl⟩ hl.1 (Nat.le_of_ble_eq_true rfl) rfl ⟨by show cells + 0 ≤ 1112399; omega, by show slots + 0 ≤ 5764272; omega⟩ dL_law_459) (fun H locs g => ?_)
          rw [show (F (wb 1 i) 5 : Int32) = nI m9 from e5]
          refine lv_if_eq (tgt := 472) hx hb dL_law_462 (by decide) (fun c_462 => ?_) (fun c_462 => ?_)
          · refine lv_iload hx hb dL_law_472 (lv_at hl 0 rfl) ?_
            refine lv_if_le (tgt := 497) hx hb dL_law_474 (by decide) (fun c_474 => ?_) (fun c_474 => ?_)
            · refine lv_iinc (v := nI (i + 1)) (lv' := [(10, .int (nI (i + 1))), (14, .int (nI t9)), (13, .int (nI q9)), (12, .int (nI o9)), (0, .ref b9), (1, .ref (gA G 0)), (2, .ref (A 0)), (3, .int (nI t)), (4, .int x), (5, .long D), (7, .int (nI n)), (8, .int (nI (h % 12))), (9, .int (cmL F 1 (i + 1) 0 0)), (11, .int (nI a))]) hx hb dL_law_497 hl (k := 12) rfl (nI_1 i) (by decide) rfl (fun ls hl => ?_)
              refine lv_goto (tgt := 177) hx hb dL_law_500 (by decide) ?_
              exact ih_177 (i + 1) _ _ _ (by omega) g (lv_sub hl [4, 5, 6, 7, 8, 9, 10, 11, 12, 0] rfl)
            · refine lv_iload hx hb dL_law_477 (lv_at hl 1 rfl) ?_
              refine lv_aload_n hx hb dL_law_479 rfl (lv_at hl 4 rfl) ?_
              refine x_ci (rest := [.int (nI q9)]) g (x_V (nA := 0) (As := []) S g (c_retention l G F 0 ) (lw_V q343 q344 q345 q1 q346) ⟨rfl, by decide +kernel, by decide +kernel, by decide +kernel⟩ rfl ⟨Nat.le_of_ble_eq_true rfl, Nat.le_of_ble_eq_true rfl⟩ hl.1 (Nat.le_of_ble_eq_true rfl) rfl ⟨by show cells + 0 ≤ 1112399; omega, by show slots + 0 ≤ 5764272; omega⟩ dL_law_480) (fun H locs g => ?_)
              rw [show (F 1 3 : Int32) = nI r from er]
              refine lv_icmp_eq (tgt := 497) hx hb dL_law_483 (by decide) (fun c_483 => ?_) (fun c_483 => ?_)
              · refine lv_iinc (v := nI (i + 1)) (lv' := [(10, .int (nI (i + 1))), (14, .int (nI t9)), (13, .int (nI q9)), (12, .int (nI o9)), (0, .ref b9), (1, .ref (gA G 0)), (2, .ref (A 0)), (3, .int (nI t)), (4, .int x), (5, .long D), (7, .int (nI n)), (8, .int (nI (h % 12))), (9, .int (cmL F 1 (i + 1) 0 0)), (11, .int (nI a))]) hx hb dL_law_497 hl (k := 12) rfl (nI_1 i) (by decide) rfl (fun ls hl => ?_)
                refine lv_goto (tgt := 177) hx hb dL_law_500 (by decide) ?_
                exact ih_177 (i + 1) _ _ _ (by omega) g (lv_sub hl [4, 5, 6, 7, 8, 9, 10, 11, 12, 0] rfl)
              · refine lv_iload hx hb dL_law_486 (lv_at hl 0 rfl) ?_
                refine lv_aload_n hx hb dL_law_488 rfl (lv_at hl 4 rfl) ?_
                refine x_ci (rest := [.int (nI t9)]) g (x_V (nA := 0) (As := []) S g (c_limit l G F 0 ) (lw_V q347 q348 q349 q1 q350) ⟨rfl, by decide +kernel, by decide +kernel, by decide +kernel⟩ rfl ⟨Nat.le_of_ble_eq_true rfl, Nat.le_of_ble_eq_true rfl⟩ hl.1 (Nat.le_of_ble_eq_true rfl) rfl ⟨by show cells + 0 ≤ 1112399; omega, by show slots + 0 ≤ 5764272; omega⟩ dL_law_489) (fun H locs g => ?_)
                rw [show (F 1 4 : Int32) = nI l9 from el]
                refine lv_icmp_eq (tgt := 497) hx hb dL_law_492 (by decide) (fun c_492 => ?_) (fun c9 => absurd (congrArg nI (by have a9 := k10 (by rcases Nat.eq_zero_or_pos t9 with z | z; (· exact absurd (by rw [z]; decide) c_474); (· exact z)); rcases a9 with a9 | a9; (· exact absurd (congrArg nI a9) c_483); (· exact a9))) c9)
                refine lv_iinc (v := nI (i + 1)) (lv' := [(10, .int (nI (i + 1))), (14, .int (nI t9)), (13, .int (nI q9)), (12, .int (nI o9)), (0, .ref b9), (1, .ref (gA G 0)), (2, .ref (A 0)), (3, .int (nI t)), (4, .int x), (5, .long D), (7, .int (nI n)), (8, .int (nI (h % 12))), (9, .int (cmL F 1 (i + 1) 0 0)), (11, .int (nI a))]) hx hb dL_law_497 hl (k := 12) rfl (nI_1 i) (by decide) rfl (fun ls hl => ?_)
                refine lv_goto (tgt := 177) hx hb dL_law_500 (by decide) ?_
                exact ih_177 (i + 1) _ _ _ (by omega) g (lv_sub hl [4, 5, 6, 7, 8, 9, 10, 11, 12, 0] rfl)
          · refine lv_iload hx hb dL_law_465 (lv_at hl 2 rfl) ?_
            refine lv_bipush (v := 6) hx hb dL_law_467 (by decide) ?_
            refine lv_icmp_gt (tgt := 495) hx hb dL_law_469 (by decide) (fun c9 => absurd c9 (fun z9 => absurd ((nI_ltI (a := 6) (b := o9) (by omega) (by omega)).mp z9) (by have := k9 (by have : ¬ m9 = 0 := fun z => c_462 (by rw [z]; rfl); omega); omega))) (fun c_469 => ?_)
            refine lv_iload hx hb dL_law_472 (lv_at hl 0 rfl) ?_
            refine lv_if_le (tgt := 497) hx hb dL_law_474 (by decide) (fun c_474 => ?_) (fun c_474 => ?_)
            · refine lv_iinc (v := nI (i + 1)) (lv' := [(10, .int (nI (i + 1))), (14, .int (nI t9)), (13, .int (nI q9)), (12, .int (nI o9)), (0, .ref b9), (1, .ref (gA G 0)), (2, .ref (A 0)), (3, .int (nI t)), (4, .int x), (5, .long D), (7, .int (nI n)), (8, .int (nI (h % 12))), (9, .int (cmL F 1 (i + 1) 0 0)), (11, .int (nI a))]) hx hb dL_law_497 hl (k := 12) rfl (nI_1 i) (by decide) rfl (fun ls hl => ?_)
              refine lv_goto (tgt := 177) hx hb dL_law_500 (by decide) ?_
              exact ih_177 (i + 1) _ _ _ (by omega) g (lv_sub hl [4, 5, 6, 7, 8, 9, 10, 11, 12, 0] rfl)
            · refine lv_iload hx hb dL_law_477 (lv_at hl 1 rfl) ?_
              refine lv_aload_n hx hb dL_law_479 rfl (lv_at hl 4 rfl) ?_
              refine x_ci (rest := [.int (nI q9)]) g (x_V (nA := 0) (As := []) S g (c_retention l G F 0 ) (lw_V q343 q344 q345 q1 q346) ⟨rfl, by decide +kernel, by decide +kernel, by decide +kernel⟩ rfl ⟨Nat.le_of_ble_eq_true rfl, Nat.le_of_ble_eq_true rfl⟩ hl.1 (Nat.le_of_ble_eq_true rfl) rfl ⟨by show cells + 0 ≤ 1112399; omega, by show slots + 0 ≤ 5764272; omega⟩ dL_law_480) (fun H locs g => ?_)
              rw [show (F 1 3 : Int32) = nI r from er]
              refine lv_icmp_eq (tgt := 497) hx hb dL_law_483 (by decide) (fun c_483 => ?_) (fun c_483 => ?_)
              · refine lv_iinc (v := nI (i + 1)) (lv' := [(10, .int (nI (i + 1))), (14, .int (nI t9)), (13, .int (nI q9)), (12, .int (nI o9)), (0, .ref b9), (1, .ref (gA G 0)), (2, .ref (A 0)), (3, .int (nI t)), (4, .int x), (5, .long D), (7, .int (nI n)), (8, .int (nI (h % 12))), (9, .int (cmL F 1 (i + 1) 0 0)), (11, .int (nI a))]) hx hb dL_law_497 hl (k := 12) rfl (nI_1 i) (by decide) rfl (fun ls hl => ?_)
                refine lv_goto (tgt := 177) hx hb dL_law_500 (by decide) ?_
                exact ih_177 (i + 1) _ _ _ (by omega) g (lv_sub hl [4, 5, 6, 7, 8, 9, 10, 11, 12, 0] rfl)
              · refine lv_iload hx hb dL_law_486 (lv_at hl 0 rfl) ?_
                refine lv_aload_n hx hb dL_law_488 rfl (lv_at hl 4 rfl) ?_
                refine x_ci (rest := [.int (nI t9)]) g (x_V (nA := 0) (As := []) S g (c_limit l G F 0 ) (lw_V q347 q348 q349 q1 q350) ⟨rfl, by decide +kernel, by decide +kernel, by decide +kernel⟩ rfl ⟨Nat.le_of_ble_eq_true rfl, Nat.le_of_ble_eq_true rfl⟩ hl.1 (Nat.le_of_ble_eq_true rfl) rfl ⟨by show cells + 0 ≤ 1112399; omega, by show slots + 0 ≤ 5764272; omega⟩ dL_law_489) (fun H locs g => ?_)
                rw [show (F 1 4 : Int32) = nI l9 from el]
                refine lv_icmp_eq (tgt := 497) hx hb dL_law_492 (by decide) (fun c_492 => ?_) (fun c9 => absurd (congrArg nI (by have a9 := k10 (by rcases Nat.eq_zero_or_pos t9 with z | z; (· exact absurd (by rw [z]; decide) c_474); (· exact z)); rcases a9 with a9 | a9; (· exact absurd (congrArg nI a9) c_483); (· exact a9))) c9)
                refine lv_iinc (v := nI (i + 1)) (lv' := [(10, .int (nI (i + 1))), (14, .int (nI t9)), (13, .int (nI q9)), (12, .int (nI o9)), (0, .ref b9), (1, .ref (gA G 0)), (2, .ref (A 0)), (3, .int (nI t)), (4, .int x), (5, .long D), (7, .int (nI n)), (8, .int (nI (h % 12))), (9, .int (cmL F 1 (i + 1) 0 0)), (11, .int (nI a))]) hx hb dL_law_497 hl (k := 12) rfl (nI_1 i) (by decide) rfl (fun ls hl => ?_)
                refine lv_goto (tgt := 177) hx hb dL_law_500 (by decide) ?_
                exact ih_177 (i + 1) _ _ _ (by omega) g (lv_sub hl [4, 5, 6, 7, 8, 9, 10, 11, 12, 0] rfl)
        · refine lv_iload hx hb dL_law_445 (lv_at hl 2 rfl) ?_
          refine lv_aload_n hx hb dL_law_447 rfl (lv_at hl 4 rfl) ?_
          refine lv_iload hx hb dL_law_448 (lv_at hl 12 rfl) ?_
          refine x_ci (rest := [.int (nI o9)]) g (x_V (nA := 1) (As := [.int (nI i)]) S g (c_costOf_ok l G F 0 i n h hIn.c6 hin hn8 hIn.c0 (by omega)) (lw_V q311 q312 q313 q1 q314) ⟨rfl, by decide +kernel, by decide +kernel, by decide +kernel⟩ rfl ⟨Nat.le_of_ble_eq_true rfl, Nat.le_of_ble_eq_true rfl⟩ hl.1 (Nat.le_of_ble_eq_true rfl) rfl ⟨by show cells + 0 ≤ 1112399; omega, by show slots + 0 ≤ 5764272; omega⟩ dL_law_450) (fun H locs g => ?_)
          rw [show (coI (F (wb 1 i) 0) (F (wb 1 i) 2) (suH h) : Int32) = nI co9 from ec]
          refine lv_icmp_ne (tgt := 495) hx hb dL_law_453 (by decide) (fun c9 => absurd (congrArg nI (k8 ((nI_eq (b := 0) (by omega) (by omega)).mp c_442))) c9) (fun c_453 => ?_)
          refine lv_aload_n hx hb dL_law_456 rfl (lv_at hl 4 rfl) ?_
          refine lv_iload hx hb dL_law_457 (lv_at hl 12 rfl) ?_
          refine x_ci (rest := []) g (x_V (nA := 1) (As := [.int (nI i)]) S g (c_isMember_ok l G F 0 i n hIn.c6 hin hn8 hmm) (lw_V q268 q269 q270 q1 q271) ⟨rfl, by decide +kernel, by decide +kernel, by decide +kernel⟩ rfl ⟨Nat.le_of_ble_eq_true rfl, Nat.le_of_ble_eq_true rfl⟩ hl.1 (Nat.le_of_ble_eq_true rfl) rfl ⟨by show cells + 0 ≤ 1112399; omega, by show slots + 0 ≤ 5764272; omega⟩ dL_law_459) (fun H locs g => ?_)
          rw [show (F (wb 1 i) 5 : Int32) = nI m9 from e5]
          refine lv_if_eq (tgt := 472) hx hb dL_law_462 (by decide) (fun c_462 => ?_) (fun c_462 => ?_)
          · refine lv_iload hx hb dL_law_472 (lv_at hl 0 rfl) ?_
            refine lv_if_le (tgt := 497) hx hb dL_law_474 (by decide) (fun c_474 => ?_) (fun c_474 => ?_)
            · refine lv_iinc (v := nI (i + 1)) (lv' := [(10, .int (nI (i + 1))), (14, .int (nI t9)), (13, .int (nI q9)), (12, .int (nI o9)), (0, .ref b9), (1, .ref (gA G 0)), (2, .ref (A 0)), (3, .int (nI t)), (4, .int x), (5, .long D), (7, .int (nI n)), (8, .int (nI (h % 12))), (9, .int (cmL F 1 (i + 1) 0 0)), (11, .int (nI a))]) hx hb dL_law_497 hl (k := 12) rfl (nI_1 i) (by decide) rfl (fun ls hl => ?_)
              refine lv_goto (tgt := 177) hx hb dL_law_500 (by decide) ?_
              exact ih_177 (i + 1) _ _ _ (by omega) g (lv_sub hl [4, 5, 6, 7, 8, 9, 10, 11, 12, 0] rfl)
            · refine lv_iload hx hb dL_law_477 (lv_at hl 1 rfl) ?_
              refine lv_aload_n hx hb dL_law_479 rfl (lv_at hl 4 rfl) ?_
              refine x_ci (rest := [.int (nI q9)]) g (x_V (nA := 0) (As := []) S g (c_retention l G F 0 ) (lw_V q343 q344 q345 q1 q346) ⟨rfl, by decide +kernel, by decide +kernel, by decide +kernel⟩ rfl ⟨Nat.le_of_ble_eq_true rfl, Nat.le_of_ble_eq_true rfl⟩ hl.1 (Nat.le_of_ble_eq_true rfl) rfl ⟨by show cells + 0 ≤ 1112399; omega, by show slots + 0 ≤ 5764272; omega⟩ dL_law_480) (fun H locs g => ?_)
              rw [show (F 1 3 : Int32) = nI r from er]
              refine lv_icmp_eq (tgt := 497) hx hb dL_law_483 (by decide) (fun c_483 => ?_) (fun c_483 => ?_)
              · refine lv_iinc (v := nI (i + 1)) (lv' := [(10, .int (nI (i + 1))), (14, .int (nI t9)), (13, .int (nI q9)), (12, .int (nI o9)), (0, .ref b9), (1, .ref (gA G 0)), (2, .ref (A 0)), (3, .int (nI t)), (4, .int x), (5, .long D), (7, .int (nI n)), (8, .int (nI (h % 12))), (9, .int (cmL F 1 (i + 1) 0 0)), (11, .int (nI a))]) hx hb dL_law_497 hl (k := 12) rfl (nI_1 i) (by decide) rfl (fun ls hl => ?_)
                refine lv_goto (tgt := 177) hx hb dL_law_500 (by decide) ?_
                exact ih_177 (i + 1) _ _ _ (by omega) g (lv_sub hl [4, 5, 6, 7, 8, 9, 10, 11, 12, 0] rfl)
              · refine lv_iload hx hb dL_law_486 (lv_at hl 0 rfl) ?_
                refine lv_aload_n hx hb dL_law_488 rfl (lv_at hl 4 rfl) ?_
                refine x_ci (rest := [.int (nI t9)]) g (x_V (nA := 0) (As := []) S g (c_limit l G F 0 ) (lw_V q347 q348 q349 q1 q350) ⟨rfl, by decide +kernel, by decide +kernel, by decide +kernel⟩ rfl ⟨Nat.le_of_ble_eq_true rfl, Nat.le_of_ble_eq_true rfl⟩ hl.1 (Nat.le_of_ble_eq_true rfl) rfl ⟨by show cells + 0 ≤ 1112399; omega, by show slots + 0 ≤ 5764272; omega⟩ dL_law_489) (fun H locs g => ?_)
                rw [show (F 1 4 : Int32) = nI l9 from el]
                refine lv_icmp_eq (tgt := 497) hx hb dL_law_492 (by decide) (fun c_492 => ?_) (fun c9 => absurd (congrArg nI (by have a9 := k10 (by rcases Nat.eq_zero_or_pos t9 with z | z; (· exact absurd (by rw [z]; decide) c_474); (· exact z)); rcases a9 with a9 | a9; (· exact absurd (congrArg nI a9) c_483); (· exact a9))) c9)
                refine lv_iinc (v := nI (i + 1)) (lv' := [(10, .int (nI (i + 1))), (14, .int (nI t9)), (13, .int (nI q9)), (12, .int (nI o9)), (0, .ref b9), (1, .ref (gA G 0)), (2, .ref (A 0)), (3, .int (nI t)), (4, .int x), (5, .long D), (7, .int (nI n)), (8, .int (nI (h % 12))), (9, .int (cmL F 1 (i + 1) 0 0)), (11, .int (nI a))]) hx hb dL_law_497 hl (k := 12) rfl (nI_1 i) (by decide) rfl (fun ls hl => ?_)
                refine lv_goto (tgt := 177) hx hb dL_law_500 (by decide) ?_
                exact ih_177 (i + 1) _ _ _ (by omega) g (lv_sub hl [4, 5, 6, 7, 8, 9, 10, 11, 12, 0] rfl)
          · refine lv_iload hx hb dL_law_465 (lv_at hl 2 rfl) ?_
            refine lv_bipush (v := 6) hx hb dL_law_467 (by decide) ?_
            refine lv_icmp_gt (tgt := 495) hx hb dL_law_469 (by decide) (fun c9 => absurd c9 (fun z9 => absurd ((nI_ltI (a := 6) (b := o9) (by omega) (by omega)).mp z9) (by have := k9 (by have : ¬ m9 = 0 := fun z => c_462 (by rw [z]; rfl); omega); omega))) (fun c_469 => ?_)
            refine lv_iload hx hb dL_law_472 (lv_at hl 0 rfl) ?_
            refine lv_if_le (tgt := 497) hx hb dL_law_474 (by decide) (fun c_474 => ?_) (fun c_474 => ?_)
            · refine lv_iinc (v := nI (i + 1)) (lv' := [(10, .int (nI (i + 1))), (14, .int (nI t9)), (13, .int (nI q9)), (12, .int (nI o9)), (0, .ref b9), (1, .ref (gA G 0)), (2, .ref (A 0)), (3, .int (nI t)), (4, .int x), (5, .long D), (7, .int (nI n)), (8, .int (nI (h % 12))), (9, .int (cmL F 1 (i + 1) 0 0)), (11, .int (nI a))]) hx hb dL_law_497 hl (k := 12) rfl (nI_1 i) (by decide) rfl (fun ls hl => ?_)
              refine lv_goto (tgt := 177) hx hb dL_law_500 (by decide) ?_
              exact ih_177 (i + 1) _ _ _ (by omega) g (lv_sub hl [4, 5, 6, 7, 8, 9, 10, 11, 12, 0] rfl)
            · refine lv_iload hx hb dL_law_477 (lv_at hl 1 rfl) ?_
              refine lv_aload_n hx hb dL_law_479 rfl (lv_at hl 4 rfl) ?_
              refine x_ci (rest := [.int (nI q9)]) g (x_V (nA := 0) (As := []) S g (c_retention l G F 0 ) (lw_V q343 q344 q345 q1 q346) ⟨rfl, by decide +kernel, by decide +kernel, by decide +kernel⟩ rfl ⟨Nat.le_of_ble_eq_true rfl, Nat.le_of_ble_eq_true rfl⟩ hl.1 (Nat.le_of_ble_eq_true rfl) rfl ⟨by show cells + 0 ≤ 1112399; omega, by show slots + 0 ≤ 5764272; omega⟩ dL_law_480) (fun H locs g => ?_)
              rw [show (F 1 3 : Int32) = nI r from er]
              refine lv_icmp_eq (tgt := 497) hx hb dL_law_483 (by decide) (fun c_483 => ?_) (fun c_483 => ?_)
              · refine lv_iinc (v := nI (i + 1)) (lv' := [(10, .int (nI (i + 1))), (14, .int (nI t9)), (13, .int (nI q9)), (12, .int (nI o9)), (0, .ref b9), (1, .ref (gA G 0)), (2, .ref (A 0)), (3, .int (nI t)), (4, .int x), (5, .long D), (7, .int (nI n)), (8, .int (nI (h % 12))), (9, .int (cmL F 1 (i + 1) 0 0)), (11, .int (nI a))]) hx hb dL_law_497 hl (k := 12) rfl (nI_1 i) (by decide) rfl (fun ls hl => ?_)
                refine lv_goto (tgt := 177) hx hb dL_law_500 (by decide) ?_
                exact ih_177 (i + 1) _ _ _ (by omega) g (lv_sub hl [4, 5, 6, 7, 8, 9, 10, 11, 12, 0] rfl)
              · refine lv_iload hx hb dL_law_486 (lv_at hl 0 rfl) ?_
                refine lv_aload_n hx hb dL_law_488 rfl (lv_at hl 4 rfl) ?_
                refine x_ci (rest := [.int (nI t9)]) g (x_V (nA := 0) (As := []) S g (c_limit l G F 0 ) (lw_V q347 q348 q349 q1 q350) ⟨rfl, by decide +kernel, by decide +kernel, by decide +kernel⟩ rfl ⟨Nat.le_of_ble_eq_true rfl, Nat.le_of_ble_eq_true rfl⟩ hl.1 (Nat.le_of_ble_eq_true rfl) rfl ⟨by show cells + 0 ≤ 1112399; omega, by show slots + 0 ≤ 5764272; omega⟩ dL_law_489) (fun H locs g => ?_)
                rw [show (F 1 4 : Int32) = nI l9 from el]
                refine lv_icmp_eq (tgt := 497) hx hb dL_law_492 (by decide) (fun c_492 => ?_) (fun c9 => absurd (congrArg nI (by have a9 := k10 (by rcases Nat.eq_zero_or_pos t9 with z | z; (· exact absurd (by rw [z]; decide) c_474); (· exact z)); rcases a9 with a9 | a9; (· exact absurd (congrArg nI a9) c_483); (· exact a9))) c9)
                refine lv_iinc (v := nI (i + 1)) (lv' := [(10, .int (nI (i + 1))), (14, .int (nI t9)), (13, .int (nI q9)), (12, .int (nI o9)), (0, .ref b9), (1, .ref (gA G 0)), (2, .ref (A 0)), (3, .int (nI t)), (4, .int x), (5, .long D), (7, .int (nI n)), (8, .int (nI (h % 12))), (9, .int (cmL F 1 (i + 1) 0 0)), (11, .int (nI a))]) hx hb dL_law_497 hl (k := 12) rfl (nI_1 i) (by decide) rfl (fun ls hl => ?_)
                refine lv_goto (tgt := 177) hx hb dL_law_500 (by decide) ?_
                exact ih_177 (i + 1) _ _ _ (by omega) g (lv_sub hl [4, 5, 6, 7, 8, 9, 10, 11, 12, 0] rfl)
      have join203 : ∀ (H : Heap) (locs : List Loc) (ls : Array Slot), GX G Z (wld G F 0 ++ (swl G A n F 1 ++ [])) s H locs → lv_has ls 36 [(0, .ref b9), (1, .ref (gA G 0)), (2, .ref (A 0)), (3, .int (nI t)), (4, .int x), (5, .long D), (7, .int (nI n)), (8, .int (nI (h % 12))), (9, .int (cmL F 1 (i + 1) 0 0)), (10, .int (nI i))] → W p l e room_1 s m args below meth c H locs (cells) (slots) Q (F0 m 203 ls []) := by
        intro  H locs ls  g hl
        obtain ⟨jL, hLo, eLo⟩ := lo_spec (h := h) (n := n) (F := F) (by omega) (fun j hj => hIn.ht hj)
        refine lv_aload_n hx hb dL_law_203 rfl (lv_at hl 2 rfl) ?_
        refine x_geta S g (List.mem_append_right _ (List.mem_append_left _ (swl_m0 G A _ _ _))) q445 dL_law_204 ?_
        refine lv_iload hx hb dL_law_207 (lv_at hl 9 rfl) ?_
        refine x_aald (v := A (2 + i)) S g (List.mem_append_right _ (List.mem_append_left _ (swl_m1 G A _ _ _))) (by omega) i rfl (by omega) rfl dL_law_209 ?_
        refine lv_iconst (v := 0) hx hb dL_law_210 (by decide) ?_
        refine x_rald S g (List.mem_append_right _ (List.mem_append_left _ (swl_mr G A _ _ (i := i) (by omega)))) 0 0 rfl (by decide) rfl dL_law_211 ?_
        rw [show (F (wb 1 i) 0 : Int32) = nI a from e0]
        refine lv_istore (lv' := [(11, .int (nI a)), (0, .ref b9), (1, .ref (gA G 0)), (2, .ref (A 0)), (3, .int (nI t)), (4, .int x), (5, .long D), (7, .int (nI n)), (8, .int (nI (h % 12))), (9, .int (cmL F 1 (i + 1) 0 0)), (10, .int (nI i))]) hx hb dL_law_212 hl (by decide) rfl (fun ls hl => ?_)
        refine lv_aload_n hx hb dL_law_214 rfl (lv_at hl 2 rfl) ?_
        refine lv_iload hx hb dL_law_215 (lv_at hl 10 rfl) ?_
        refine x_ci (rest := []) g (x_V (nA := 1) (As := [.int (nI i)]) S g (c_wobbleOf_ok l G F 0 i n hIn.c6 hin hn8) (lw_V q293 q294 q295 q1 q296) ⟨rfl, by decide +kernel, by decide +kernel, by decide +kernel⟩ rfl ⟨Nat.le_of_ble_eq_true rfl, Nat.le_of_ble_eq_true rfl⟩ hl.1 (Nat.le_of_ble_eq_true rfl) rfl ⟨by show cells + 0 ≤ 1112399; omega, by show slots + 0 ≤ 5764272; omega⟩ dL_law_217) (fun H locs g => ?_)
        rw [show (F (wb 1 i) 3 : Int32) = nI wo from e3]
        refine lv_if_lt (tgt := 345) hx hb dL_law_220 (by decide) (fun c9 => absurd c9 (fun z9 => absurd ((nI_ltI (a := wo) (b := 0) (by omega) (by omega)).mp z9) (by omega))) (fun c_220 => ?_)
        refine lv_aload_n hx hb dL_law_223 rfl (lv_at hl 2 rfl) ?_
        refine lv_iload hx hb dL_law_224 (lv_at hl 10 rfl) ?_
        refine x_ci (rest := []) g (x_V (nA := 1) (As := [.int (nI i)]) S g (c_wobbleOf_ok l G F 0 i n hIn.c6 hin hn8) (lw_V q293 q294 q295 q1 q296) ⟨rfl, by decide +kernel, by decide +kernel, by decide +kernel⟩ rfl ⟨Nat.le_of_ble_eq_true rfl, Nat.le_of_ble_eq_true rfl⟩ hl.1 (Nat.le_of_ble_eq_true rfl) rfl ⟨by show cells + 0 ≤ 1112399; omega, by show slots + 0 ≤ 5764272; omega⟩ dL_law_226) (fun H locs g => ?_)
        rw [show (F (wb 1 i) 3 : Int32) = nI wo from e3]
        refine lv_bipush (v := 9) hx hb dL_law_229 (by decide) ?_
        refine lv_icmp_gt (tgt := 345) hx hb dL_law_231 (by decide) (fun c9 => absurd c9 (fun z9 => absurd ((nI_ltI (a := 9) (b := wo) (by omega) (by omega)).mp z9) (by omega))) (fun c_231 => ?_)
        refine lv_aload_n hx hb dL_law_234 rfl (lv_at hl 2 rfl) ?_
        refine lv_iload hx hb dL_law_235 (lv_at hl 10 rfl) ?_
        refine x_ci (rest := []) g (x_V (nA := 1) (As := [.int (nI i)]) S g (c_netOf_ok l G F 0 i n hIn.c6 hin hn8) (lw_V q289 q290 q291 q1 q292) ⟨rfl, by decide +kernel, by decide +kernel, by decide +kernel⟩ rfl ⟨Nat.le_of_ble_eq_true rfl, Nat.le_of_ble_eq_true rfl⟩ hl.1 (Nat.le_of_ble_eq_true rfl) rfl ⟨by show cells + 0 ≤ 1112399; omega, by show slots + 0 ≤ 5764272; omega⟩ dL_law_237) (fun H locs g => ?_)
        rw [show (F (wb 1 i) 2 : Int32) = nI nt from e2]
        refine lv_if_lt (tgt := 345) hx hb dL_law_240 (by decide) (fun c9 => absurd c9 (fun z9 => absurd ((nI_ltI (a := nt) (b := 0) (by omega) (by omega)).mp z9) (by omega))) (fun c_240 => ?_)
        refine lv_aload_n hx hb dL_law_243 rfl (lv_at hl 2 rfl) ?_
        refine lv_iload hx hb dL_law_244 (lv_at hl 10 rfl) ?_
        refine x_ci (rest := []) g (x_V (nA := 1) (As := [.int (nI i)]) S g (c_netOf_ok l G F 0 i n hIn.c6 hin hn8) (lw_V q289 q290 q291 q1 q292) ⟨rfl, by decide +kernel, by decide +kernel, by decide +kernel⟩ rfl ⟨Nat.le_of_ble_eq_true rfl, Nat.le_of_ble_eq_true rfl⟩ hl.1 (Nat.le_of_ble_eq_true rfl) rfl ⟨by show cells + 0 ≤ 1112399; omega, by show slots + 0 ≤ 5764272; omega⟩ dL_law_246) (fun H locs g => ?_)
        rw [show (F (wb 1 i) 2 : Int32) = nI nt from e2]
        refine lv_bipush (v := 9) hx hb dL_law_249 (by decide) ?_
        refine lv_icmp_gt (tgt := 345) hx hb dL_law_251 (by decide) (fun c9 => absurd c9 (fun z9 => absurd ((nI_ltI (a := 9) (b := nt) (by omega) (by omega)).mp z9) (by omega))) (fun c_251 => ?_)
        refine lv_aload_n hx hb dL_law_254 rfl (lv_at hl 2 rfl) ?_
        refine lv_iload hx hb dL_law_255 (lv_at hl 10 rfl) ?_
        refine x_ci (rest := []) g (x_V (nA := 1) (As := [.int (nI i)]) S g (c_fallsOf_ok l G F 0 i n hIn.c6 hin hn8) (lw_V q297 q298 q299 q1 q300) ⟨rfl, by decide +kernel, by decide +kernel, by decide +kernel⟩ rfl ⟨Nat.le_of_ble_eq_true rfl, Nat.le_of_ble_eq_true rfl⟩ hl.1 (Nat.le_of_ble_eq_true rfl) rfl ⟨by show cells + 0 ≤ 1112399; omega, by show slots + 0 ≤ 5764272; omega⟩ dL_law_257) (fun H locs g => ?_)
        rw [show (F (wb 1 i) 4 : Int32) = nI f from e4]
        refine lv_if_lt (tgt := 345) hx hb dL_law_260 (by decide) (fun c9 => absurd c9 (fun z9 => absurd ((nI_ltI (a := f) (b := 0) (by omega) (by omega)).mp z9) (by omega))) (fun c_260 => ?_)
        refine lv_aload_n hx hb dL_law_263 rfl (lv_at hl 2 rfl) ?_
        refine lv_iload hx hb dL_law_264 (lv_at hl 10 rfl) ?_
        refine x_ci (rest := []) g (x_V (nA := 1) (As := [.int (nI i)]) S g (c_shadowOf_ok l G F 0 i n h hIn.c6 hin hn8 hIn.c0 (by omega)) (lw_V q301 q302 q303 q1 q304) ⟨rfl, by decide +kernel, by decide +kernel, by decide +kernel⟩ rfl ⟨Nat.le_of_ble_eq_true rfl, Nat.le_of_ble_eq_true rfl⟩ hl.1 (Nat.le_of_ble_eq_true rfl) rfl ⟨by show cells + 0 ≤ 1112399; omega, by show slots + 0 ≤ 5764272; omega⟩ dL_law_266) (fun H locs g => ?_)
        rw [show (shI (F (wb 1 i) 0) (suH h) : Int32) = nI S9 from eS]
        refine lv_iload hx hb dL_law_269 (lv_at hl 0 rfl) ?_
        refine lv_icmp_lt (tgt := 345) hx hb dL_law_271 (by decide) (fun c9 => absurd c9 (fun z9 => absurd ((nI_ltI (a := S9) (b := a) (by omega) (by omega)).mp z9) (by omega))) (fun c_271 => ?_)
        refine lv_aload_n hx hb dL_law_274 rfl (lv_at hl 2 rfl) ?_
        refine lv_iload hx hb dL_law_275 (lv_at hl 10 rfl) ?_
        refine x_ci (rest := []) g (x_V (nA := 1) (As := [.int (nI i)]) S g (c_shadowOf_ok l G F 0 i n h hIn.c6 hin hn8 hIn.c0 (by omega)) (lw_V q301 q302 q303 q1 q304) ⟨rfl, by decide +kernel, by decide +kernel, by decide +kernel⟩ rfl ⟨Nat.le_of_ble_eq_true rfl, Nat.le_of_ble_eq_true rfl⟩ hl.1 (Nat.le_of_ble_eq_true rfl) rfl ⟨by show cells + 0 ≤ 1112399; omega, by show slots + 0 ≤ 5764272; omega⟩ dL_law_277) (fun H locs g => ?_)
        rw [show (shI (F (wb 1 i) 0) (suH h) : Int32) = nI S9 from eS]
        refine lv_bipush (v := 6) hx hb dL_law_280 (by decide) ?_
        refine lv_iload hx hb dL_law_282 (lv_at hl 0 rfl) ?_
        refine lv_imul hx hb dL_law_284 ?_
        rw [show (6 * (nI a) : Int32) = nI (6 * a) from (pk_mul 6 a)]
        refine lv_icmp_gt (tgt := 345) hx hb dL_law_285 (by decide) (fun c9 => absurd c9 (fun z9 => absurd ((nI_ltI (a := (6 * a)) (b := S9) (by omega) (by omega)).mp z9) (by omega))) (fun c_285 => ?_)
        refine lv_aload_n hx hb dL_law_288 rfl (lv_at hl 2 rfl) ?_
        refine x_ci (rest := []) g (x_V (nA := 0) (As := []) S g (c_isNoon l G F 0 h hIn.c0 (by omega)) (lw_V q250 q251 q252 q1 q253) ⟨rfl, by decide +kernel, by decide +kernel, by decide +kernel⟩ rfl ⟨Nat.le_of_ble_eq_true rfl, Nat.le_of_ble_eq_true rfl⟩ hl.1 (Nat.le_of_ble_eq_true rfl) rfl ⟨by show cells + 0 ≤ 1112399; omega, by show slots + 0 ≤ 5764272; omega⟩ dL_law_289) (fun H locs g => ?_)
        refine lv_if_eq (tgt := 306) hx hb dL_law_292 (by decide) (fun c_292 => ?_) (fun c_292 => ?_)
        · refine lv_aload_n hx hb dL_law_306 rfl (lv_at hl 2 rfl) ?_
          refine x_ci (rest := []) g (x_V (nA := 0) (As := []) S g (c_sun l G F 0 h hIn.c0 (by omega)) (lw_V q244 q245 q246 q1 q247) ⟨rfl, by decide +kernel, by decide +kernel, by decide +kernel⟩ rfl ⟨Nat.le_of_ble_eq_true rfl, Nat.le_of_ble_eq_true rfl⟩ hl.1 (Nat.le_of_ble_eq_true rfl) rfl ⟨by show cells + 0 ≤ 1112399; omega, by show slots + 0 ≤ 5764272; omega⟩ dL_law_307) (fun H locs g => ?_)
          refine lv_iconst (v := 1) hx hb dL_law_310 (by decide) ?_
          refine lv_icmp_ne (tgt := 328) hx hb dL_law_311 (by decide) (fun c_311 => ?_) (fun c_311 => ?_)
          · refine lv_aload_n hx hb dL_law_328 rfl (lv_at hl 2 rfl) ?_
            refine lv_iload hx hb dL_law_329 (lv_at hl 10 rfl) ?_
            refine x_ci (rest := []) g (x_V (nA := 1) (As := [.int (nI i)]) S g (c_shadowOf_ok l G F 0 i n h hIn.c6 hin hn8 hIn.c0 (by omega)) (lw_V q301 q302 q303 q1 q304) ⟨rfl, by decide +kernel, by decide +kernel, by decide +kernel⟩ rfl ⟨Nat.le_of_ble_eq_true rfl, Nat.le_of_ble_eq_true rfl⟩ hl.1 (Nat.le_of_ble_eq_true rfl) rfl ⟨by show cells + 0 ≤ 1112399; omega, by show slots + 0 ≤ 5764272; omega⟩ dL_law_331) (fun H locs g => ?_)
            rw [show (shI (F (wb 1 i) 0) (suH h) : Int32) = nI S9 from eS]
            refine lv_aload_n hx hb dL_law_334 rfl (lv_at hl 2 rfl) ?_
            refine lv_aload_n hx hb dL_law_335 rfl (lv_at hl 2 rfl) ?_
            refine x_ci (rest := [.ref (gA G 0), .int (nI S9)]) g (x_V (nA := 0) (As := []) S g (c_longestShadow l G F 0 n h hIn.ok hn8 (by omega)) (lw_V q307 q308 q309 q1 q310) ⟨rfl, by decide +kernel, by decide +kernel, by decide +kernel⟩ rfl ⟨Nat.le_of_ble_eq_true rfl, Nat.le_of_ble_eq_true rfl⟩ hl.1 (Nat.le_of_ble_eq_true rfl) rfl ⟨by show cells + 0 ≤ 1112399; omega, by show slots + 0 ≤ 5764272; omega⟩ dL_law_336) (fun H locs g => ?_)
            rw [show (loL F (suH h) n 0 (-1) (-1) : Int32) = nI jL from eLo]
            refine x_ci (rest := [.int (nI S9)]) g (x_V (nA := 1) (As := [.int (nI jL)]) S g (c_shadowOf_ok l G F 0 jL n h hIn.c6 hLo.2.1 hn8 hIn.c0 (by omega)) (lw_V q301 q302 q303 q1 q304) ⟨rfl, by decide +kernel, by decide +kernel, by decide +kernel⟩ rfl ⟨Nat.le_of_ble_eq_true rfl, Nat.le_of_ble_eq_true rfl⟩ hl.1 (Nat.le_of_ble_eq_true rfl) rfl ⟨by show cells + 0 ≤ 1112399; omega, by show slots + 0 ≤ 5764272; omega⟩ dL_law_339) (fun H locs g => ?_)
            refine lv_icmp_le (tgt := 347) hx hb dL_law_342 (by decide) (fun c_342 => ?_) (fun c9 => absurd (by rw [← eS]; exact hLo.2.2.1 i (Nat.zero_le _) hin) c9)
            exact join347  _ _ _  g (lv_sub hl [1, 2, 3, 4, 5, 6, 7, 8, 9, 10, 0] rfl)
          · refine lv_aload_n hx hb dL_law_314 rfl (lv_at hl 2 rfl) ?_
            refine lv_iload hx hb dL_law_315 (lv_at hl 10 rfl) ?_
            refine x_ci (rest := []) g (x_V (nA := 1) (As := [.int (nI i)]) S g (c_shadowOf_ok l G F 0 i n h hIn.c6 hin hn8 hIn.c0 (by omega)) (lw_V q301 q302 q303 q1 q304) ⟨rfl, by decide +kernel, by decide +kernel, by decide +kernel⟩ rfl ⟨Nat.le_of_ble_eq_true rfl, Nat.le_of_ble_eq_true rfl⟩ hl.1 (Nat.le_of_ble_eq_true rfl) rfl ⟨by show cells + 0 ≤ 1112399; omega, by show slots + 0 ≤ 5764272; omega⟩ dL_law_317) (fun H locs g => ?_)
            rw [show (shI (F (wb 1 i) 0) (suH h) : Int32) = nI S9 from eS]
            refine lv_bipush (v := 6) hx hb dL_law_320 (by decide) ?_
            refine lv_iload hx hb dL_law_322 (lv_at hl 0 rfl) ?_
            refine lv_imul hx hb dL_law_324 ?_
            rw [show (6 * (nI a) : Int32) = nI (6 * a) from (pk_mul 6 a)]
            refine lv_icmp_ne (tgt := 345) hx hb dL_law_325 (by decide) (fun c9 => absurd (congrArg nI (k4 c_311)) c9) (fun c_325 => ?_)
            refine lv_aload_n hx hb dL_law_328 rfl (lv_at hl 2 rfl) ?_
            refine lv_iload hx hb dL_law_329 (lv_at hl 10 rfl) ?_
            refine x_ci (rest := []) g (x_V (nA := 1) (As := [.int (nI i)]) S g (c_shadowOf_ok l G F 0 i n h hIn.c6 hin hn8 hIn.c0 (by omega)) (lw_V q301 q302 q303 q1 q304) ⟨rfl, by decide +kernel, by decide +kernel, by decide +kernel⟩ rfl ⟨Nat.le_of_ble_eq_true rfl, Nat.le_of_ble_eq_true rfl⟩ hl.1 (Nat.le_of_ble_eq_true rfl) rfl ⟨by show cells + 0 ≤ 1112399; omega, by show slots + 0 ≤ 5764272; omega⟩ dL_law_331) (fun H locs g => ?_)
            rw [show (shI (F (wb 1 i) 0) (suH h) : Int32) = nI S9 from eS]
            refine lv_aload_n hx hb dL_law_334 rfl (lv_at hl 2 rfl) ?_
            refine lv_aload_n hx hb dL_law_335 rfl (lv_at hl 2 rfl) ?_
            refine x_ci (rest := [.ref (gA G 0), .int (nI S9)]) g (x_V (nA := 0) (As := []) S g (c_longestShadow l G F 0 n h hIn.ok hn8 (by omega)) (lw_V q307 q308 q309 q1 q310) ⟨rfl, by decide +kernel, by decide +kernel, by decide +kernel⟩ rfl ⟨Nat.le_of_ble_eq_true rfl, Nat.le_of_ble_eq_true rfl⟩ hl.1 (Nat.le_of_ble_eq_true rfl) rfl ⟨by show cells + 0 ≤ 1112399; omega, by show slots + 0 ≤ 5764272; omega⟩ dL_law_336) (fun H locs g => ?_)
            rw [show (loL F (suH h) n 0 (-1) (-1) : Int32) = nI jL from eLo]
            refine x_ci (rest := [.int (nI S9)]) g (x_V (nA := 1) (As := [.int (nI jL)]) S g (c_shadowOf_ok l G F 0 jL n h hIn.c6 hLo.2.1 hn8 hIn.c0 (by omega)) (lw_V q301 q302 q303 q1 q304) ⟨rfl, by decide +kernel, by decide +kernel, by decide +kernel⟩ rfl ⟨Nat.le_of_ble_eq_true rfl, Nat.le_of_ble_eq_true rfl⟩ hl.1 (Nat.le_of_ble_eq_true rfl) rfl ⟨by show cells + 0 ≤ 1112399; omega, by show slots + 0 ≤ 5764272; omega⟩ dL_law_339) (fun H locs g => ?_)
            refine lv_icmp_le (tgt := 347) hx hb dL_law_342 (by decide) (fun c_342 => ?_) (fun c9 => absurd (by rw [← eS]; exact hLo.2.2.1 i (Nat.zero_le _) hin) c9)
            exact join347  _ _ _  g (lv_sub hl [1, 2, 3, 4, 5, 6, 7, 8, 9, 10, 0] rfl)
        · refine lv_aload_n hx hb dL_law_295 rfl (lv_at hl 2 rfl) ?_
          refine lv_iload hx hb dL_law_296 (lv_at hl 10 rfl) ?_
          refine x_ci (rest := []) g (x_V (nA := 1) (As := [.int (nI i)]) S g (c_shadowOf_ok l G F 0 i n h hIn.c6 hin hn8 hIn.c0 (by omega)) (lw_V q301 q302 q303 q1 q304) ⟨rfl, by decide +kernel, by decide +kernel, by decide +kernel⟩ rfl ⟨Nat.le_of_ble_eq_true rfl, Nat.le_of_ble_eq_true rfl⟩ hl.1 (Nat.le_of_ble_eq_true rfl) rfl ⟨by show cells + 0 ≤ 1112399; omega, by show slots + 0 ≤ 5764272; omega⟩ dL_law_298) (fun H locs g => ?_)
          rw [show (shI (F (wb 1 i) 0) (suH h) : Int32) = nI S9 from eS]
          refine lv_iload hx hb dL_law_301 (lv_at hl 0 rfl) ?_
          refine lv_icmp_ne (tgt := 345) hx hb dL_law_303 (by decide) (fun c9 => absurd (congrArg nI (k3 c_292)) c9) (fun c_303 => ?_)
          refine lv_aload_n hx hb dL_law_306 rfl (lv_at hl 2 rfl) ?_
          refine x_ci (rest := []) g (x_V (nA := 0) (As := []) S g (c_sun l G F 0 h hIn.c0 (by omega)) (lw_V q244 q245 q246 q1 q247) ⟨rfl, by decide +kernel, by decide +kernel, by decide +kernel⟩ rfl ⟨Nat.le_of_ble_eq_true rfl, Nat.le_of_ble_eq_true rfl⟩ hl.1 (Nat.le_of_ble_eq_true rfl) rfl ⟨by show cells + 0 ≤ 1112399; omega, by show slots + 0 ≤ 5764272; omega⟩ dL_law_307) (fun H locs g => ?_)
          refine lv_iconst (v := 1) hx hb dL_law_310 (by decide) ?_
          refine lv_icmp_ne (tgt := 328) hx hb dL_law_311 (by decide) (fun c_311 => ?_) (fun c_311 => ?_)
          · refine lv_aload_n hx hb dL_law_328 rfl (lv_at hl 2 rfl) ?_
            refine lv_iload hx hb dL_law_329 (lv_at hl 10 rfl) ?_
            refine x_ci (rest := []) g (x_V (nA := 1) (As := [.int (nI i)]) S g (c_shadowOf_ok l G F 0 i n h hIn.c6 hin hn8 hIn.c0 (by omega)) (lw_V q301 q302 q303 q1 q304) ⟨rfl, by decide +kernel, by decide +kernel, by decide +kernel⟩ rfl ⟨Nat.le_of_ble_eq_true rfl, Nat.le_of_ble_eq_true rfl⟩ hl.1 (Nat.le_of_ble_eq_true rfl) rfl ⟨by show cells + 0 ≤ 1112399; omega, by show slots + 0 ≤ 5764272; omega⟩ dL_law_331) (fun H locs g => ?_)
            rw [show (shI (F (wb 1 i) 0) (suH h) : Int32) = nI S9 from eS]
            refine lv_aload_n hx hb dL_law_334 rfl (lv_at hl 2 rfl) ?_
            refine lv_aload_n hx hb dL_law_335 rfl (lv_at hl 2 rfl) ?_
            refine x_ci (rest := [.ref (gA G 0), .int (nI S9)]) g (x_V (nA := 0) (As := []) S g (c_longestShadow l G F 0 n h hIn.ok hn8 (by omega)) (lw_V q307 q308 q309 q1 q310) ⟨rfl, by decide +kernel, by decide +kernel, by decide +kernel⟩ rfl ⟨Nat.le_of_ble_eq_true rfl, Nat.le_of_ble_eq_true rfl⟩ hl.1 (Nat.le_of_ble_eq_true rfl) rfl ⟨by show cells + 0 ≤ 1112399; omega, by show slots + 0 ≤ 5764272; omega⟩ dL_law_336) (fun H locs g => ?_)
            rw [show (loL F (suH h) n 0 (-1) (-1) : Int32) = nI jL from eLo]
            refine x_ci (rest := [.int (nI S9)]) g (x_V (nA := 1) (As := [.int (nI jL)]) S g (c_shadowOf_ok l G F 0 jL n h hIn.c6 hLo.2.1 hn8 hIn.c0 (by omega)) (lw_V q301 q302 q303 q1 q304) ⟨rfl, by decide +kernel, by decide +kernel, by decide +kernel⟩ rfl ⟨Nat.le_of_ble_eq_true rfl, Nat.le_of_ble_eq_true rfl⟩ hl.1 (Nat.le_of_ble_eq_true rfl) rfl ⟨by show cells + 0 ≤ 1112399; omega, by show slots + 0 ≤ 5764272; omega⟩ dL_law_339) (fun H locs g => ?_)
            refine lv_icmp_le (tgt := 347) hx hb dL_law_342 (by decide) (fun c_342 => ?_) (fun c9 => absurd (by rw [← eS]; exact hLo.2.2.1 i (Nat.zero_le _) hin) c9)
            exact join347  _ _ _  g (lv_sub hl [1, 2, 3, 4, 5, 6, 7, 8, 9, 10, 0] rfl)
          · refine lv_aload_n hx hb dL_law_314 rfl (lv_at hl 2 rfl) ?_
            refine lv_iload hx hb dL_law_315 (lv_at hl 10 rfl) ?_
            refine x_ci (rest := []) g (x_V (nA := 1) (As := [.int (nI i)]) S g (c_shadowOf_ok l G F 0 i n h hIn.c6 hin hn8 hIn.c0 (by omega)) (lw_V q301 q302 q303 q1 q304) ⟨rfl, by decide +kernel, by decide +kernel, by decide +kernel⟩ rfl ⟨Nat.le_of_ble_eq_true rfl, Nat.le_of_ble_eq_true rfl⟩ hl.1 (Nat.le_of_ble_eq_true rfl) rfl ⟨by show cells + 0 ≤ 1112399; omega, by show slots + 0 ≤ 5764272; omega⟩ dL_law_317) (fun H locs g => ?_)
            rw [show (shI (F (wb 1 i) 0) (suH h) : Int32) = nI S9 from eS]
            refine lv_bipush (v := 6) hx hb dL_law_320 (by decide) ?_
            refine lv_iload hx hb dL_law_322 (lv_at hl 0 rfl) ?_
            refine lv_imul hx hb dL_law_324 ?_
            rw [show (6 * (nI a) : Int32) = nI (6 * a) from (pk_mul 6 a)]
            refine lv_icmp_ne (tgt := 345) hx hb dL_law_325 (by decide) (fun c9 => absurd (congrArg nI (k4 c_311)) c9) (fun c_325 => ?_)
            refine lv_aload_n hx hb dL_law_328 rfl (lv_at hl 2 rfl) ?_
            refine lv_iload hx hb dL_law_329 (lv_at hl 10 rfl) ?_
            refine x_ci (rest := []) g (x_V (nA := 1) (As := [.int (nI i)]) S g (c_shadowOf_ok l G F 0 i n h hIn.c6 hin hn8 hIn.c0 (by omega)) (lw_V q301 q302 q303 q1 q304) ⟨rfl, by decide +kernel, by decide +kernel, by decide +kernel⟩ rfl ⟨Nat.le_of_ble_eq_true rfl, Nat.le_of_ble_eq_true rfl⟩ hl.1 (Nat.le_of_ble_eq_true rfl) rfl ⟨by show cells + 0 ≤ 1112399; omega, by show slots + 0 ≤ 5764272; omega⟩ dL_law_331) (fun H locs g => ?_)
            rw [show (shI (F (wb 1 i) 0) (suH h) : Int32) = nI S9 from eS]
            refine lv_aload_n hx hb dL_law_334 rfl (lv_at hl 2 rfl) ?_
            refine lv_aload_n hx hb dL_law_335 rfl (lv_at hl 2 rfl) ?_
            refine x_ci (rest := [.ref (gA G 0), .int (nI S9)]) g (x_V (nA := 0) (As := []) S g (c_longestShadow l G F 0 n h hIn.ok hn8 (by omega)) (lw_V q307 q308 q309 q1 q310) ⟨rfl, by decide +kernel, by decide +kernel, by decide +kernel⟩ rfl ⟨Nat.le_of_ble_eq_true rfl, Nat.le_of_ble_eq_true rfl⟩ hl.1 (Nat.le_of_ble_eq_true rfl) rfl ⟨by show cells + 0 ≤ 1112399; omega, by show slots + 0 ≤ 5764272; omega⟩ dL_law_336) (fun H locs g => ?_)
            rw [show (loL F (suH h) n 0 (-1) (-1) : Int32) = nI jL from eLo]
            refine x_ci (rest := [.int (nI S9)]) g (x_V (nA := 1) (As := [.int (nI jL)]) S g (c_shadowOf_ok l G F 0 jL n h hIn.c6 hLo.2.1 hn8 hIn.c0 (by omega)) (lw_V q301 q302 q303 q1 q304) ⟨rfl, by decide +kernel, by decide +kernel, by decide +kernel⟩ rfl ⟨Nat.le_of_ble_eq_true rfl, Nat.le_of_ble_eq_true rfl⟩ hl.1 (Nat.le_of_ble_eq_true rfl) rfl ⟨by show cells + 0 ≤ 1112399; omega, by show slots + 0 ≤ 5764272; omega⟩ dL_law_339) (fun H locs g => ?_)
            refine lv_icmp_le (tgt := 347) hx hb dL_law_342 (by decide) (fun c_342 => ?_) (fun c9 => absurd (by rw [← eS]; exact hLo.2.2.1 i (Nat.zero_le _) hin) c9)
            exact join347  _ _ _  g (lv_sub hl [1, 2, 3, 4, 5, 6, 7, 8, 9, 10, 0] rfl)
      refine lv_iload hx hb dL_law_177 (lv_at hl 9 rfl) ?_
      refine lv_iload hx hb dL_law_179 (lv_at hl 6 rfl) ?_
      refine lv_icmp_ge (tgt := 503) hx hb dL_law_181 (by decide) (fun c9 => absurd c9 (nI_ge (by omega) (by omega))) (fun c_181 => ?_)
      refine lv_iload hx hb dL_law_184 (lv_at hl 8 rfl) ?_
      refine lv_aload_n hx hb dL_law_186 rfl (lv_at hl 1 rfl) ?_
      refine lv_iload hx hb dL_law_187 (lv_at hl 9 rfl) ?_
      refine x_ci (rest := [.int (cmL F 1 i 0 0)]) g (x_V (nA := 1) (As := [.int (nI i)]) S g (c_isMember_ok l G F 0 i n hIn.c6 hin hn8 hmm) (lw_V q268 q269 q270 q1 q271) ⟨rfl, by decide +kernel, by decide +kernel, by decide +kernel⟩ rfl ⟨Nat.le_of_ble_eq_true rfl, Nat.le_of_ble_eq_true rfl⟩ hl.1 (Nat.le_of_ble_eq_true rfl) rfl ⟨by show cells + 0 ≤ 1112399; omega, by show slots + 0 ≤ 5764272; omega⟩ dL_law_189) (fun H locs g => ?_)
      refine lv_if_eq (tgt := 199) hx hb dL_law_192 (by decide) (fun c_192 => ?_) (fun c_192 => ?_)
      · refine lv_iconst (v := 0) hx hb dL_law_199 (by decide) ?_
        refine lv_iadd hx hb dL_law_200 ?_
        rw [show ((cmL F 1 i 0 0) + 0 : Int32) = cmL F 1 (i + 1) 0 0 from (cm_up0 c_192)]
        refine lv_istore (lv' := [(9, .int (cmL F 1 (i + 1) 0 0)), (0, .ref b9), (1, .ref (gA G 0)), (2, .ref (A 0)), (3, .int (nI t)), (4, .int x), (5, .long D), (7, .int (nI n)), (8, .int (nI (h % 12))), (10, .int (nI i))]) hx hb dL_law_201 hl (by decide) rfl (fun ls hl => ?_)
        exact join203  _ _ _  g (lv_sub hl [1, 2, 3, 4, 5, 6, 7, 8, 0, 9] rfl)
      · refine lv_iconst (v := 1) hx hb dL_law_195 (by decide) ?_
        refine lv_goto (tgt := 200) hx hb dL_law_196 (by decide) ?_
        refine lv_iadd hx hb dL_law_200 ?_
        rw [show ((cmL F 1 i 0 0) + 1 : Int32) = cmL F 1 (i + 1) 0 0 from (cm_up1 c_192)]
        refine lv_istore (lv' := [(9, .int (cmL F 1 (i + 1) 0 0)), (0, .ref b9), (1, .ref (gA G 0)), (2, .ref (A 0)), (3, .int (nI t)), (4, .int x), (5, .long D), (7, .int (nI n)), (8, .int (nI (h % 12))), (10, .int (nI i))]) hx hb dL_law_201 hl (by decide) rfl (fun ls hl => ?_)
        exact join203  _ _ _  g (lv_sub hl [1, 2, 3, 4, 5, 6, 7, 8, 0, 9] rfl)
  exact loop177 n 0 _ _ _ (by omega) g (lv_sub hl [2, 3, 4, 5, 6, 7, 8, 9, 1, 0] rfl)
set_option maxHeartbeats 4000000 in
set_option maxRecDepth 100000 in
theorem seg_D {p : Program} {l : Launch} {e : Env} {s : State} {m : MethodId} {args : Array Value} {below : List Frame} {meth : Method} {c : Code} {cells slots : Nat} {Q : State → Prop} {G : gT} {Z : Nat → Prop} {b9 L9 : Nat} {xs9 : Nat → Int32} (hfl : l.stackTraces = false) (S : CallFix p m c cL_law 36 s args lw_all "ShadowPoolLaw") (hX9 : va_X b9 L9 xs9 s s.heap) (hX9l : b9 < s.heap.size) (hX9n : ¬ Z b9) (A : Nat → Nat) (F : Fs) (n : Nat) (h : Nat) (hIn : In F n h) (hh : h ≤ 8000) (t : Nat) (x : Int32) (D : Int64) {H : Heap} {locs : List Loc} {ls : Array Slot} (g : GX G Z (wld G F 0 ++ (swl G A n F 1 ++ [])) s H locs) (hl : lv_has ls 36 [(0, .ref b9), (1, .ref (gA G 0)), (2, .ref (A 0)), (3, .int (nI t)), (4, .int x), (5, .long D), (7, .int (nI n)), (8, .int (nI (h % 12)))]) (hc1 : cells + 1473 ≤ 1112399) (hc2 : slots + 5949 ≤ 5764272) (K : ∀ (F3 : Fs) (H : Heap) (locs : List Loc) (ls : Array Slot), SameC F F3 → In F3 n h → GX G Z (wld G F3 0 ++ (swl G A n F3 1 ++ [])) s H locs → lv_has ls 36 [(0, .ref b9), (1, .ref (gA G 0)), (2, .ref (A 0)), (3, .int (nI t)), (4, .int x), (5, .long D), (7, .int (nI n)), (8, .int (nI (h % 12)))] → W p l e room_1 s m args below meth c H locs (cells + 1473) (slots + 5949) Q (F0 m 708 ls [])) : W p l e room_1 s m args below meth c H locs cells slots Q (F0 m 514 ls []) := by
  have hx := S.1
  have hb := S.2.1
  have hn8 := hIn.n8
  refine lv_aload_n hx hb dL_law_514 rfl (lv_at hl 1 rfl) ?_
  refine x_ci (rest := []) g (x_V (nA := 0) (As := []) S g (c_bestLimit l G F 0 n h hIn.ok hn8 (by omega)) (lw_V q390 q391 q392 q1 q393) ⟨rfl, by decide +kernel, by decide +kernel, by decide +kernel⟩ rfl ⟨Nat.le_of_ble_eq_true rfl, Nat.le_of_ble_eq_true rfl⟩ hl.1 (Nat.le_of_ble_eq_true rfl) rfl ⟨by show cells + 0 ≤ 1112399; omega, by show slots + 0 ≤ 5764272; omega⟩ dL_law_515) (fun H locs g => ?_)
  refine lv_istore (lv' := [(10, .int ((beF F n h).1)), (0, .ref b9), (1, .ref (gA G 0)), (2, .ref (A 0)), (3, .int (nI t)), (4, .int x), (5, .long D), (7, .int (nI n)), (8, .int (nI (h % 12)))]) hx hb dL_law_518 hl (by decide) rfl (fun ls hl => ?_)
  refine lv_aload_n hx hb dL_law_520 rfl (lv_at hl 2 rfl) ?_
  refine x_ci (rest := []) g (x_V (nA := 0) (As := []) S g (c_fairRate l G ((beF F n h).2) 0 n h (beF_ok hIn.ok) hn8 (by omega)) (lw_V q394 q395 q396 q1 q397) ⟨rfl, by decide +kernel, by decide +kernel, by decide +kernel⟩ rfl ⟨Nat.le_of_ble_eq_true rfl, Nat.le_of_ble_eq_true rfl⟩ hl.1 (Nat.le_of_ble_eq_true rfl) rfl ⟨by show cells + 0 ≤ 1112399; omega, by show slots + 0 ≤ 5764272; omega⟩ dL_law_521) (fun H locs g => ?_)
  obtain ⟨F3, xf, q9, eF3, exf, hS3, hI3, hq9, eq9, hV1, hV2, hU⟩ := looks4 hIn (by omega)
  rw [eF3] at g
  rw [exf]
  rw [eq9] at hl
  have g := g.eqw (show _ = wld G F3 0 ++ (swl G A n F3 1 ++ []) from by rw [swl_sc G A hn8 hS3])
  refine lv_istore (lv' := [(11, .int xf), (10, .int (nI (20 * q9))), (0, .ref b9), (1, .ref (gA G 0)), (2, .ref (A 0)), (3, .int (nI t)), (4, .int x), (5, .long D), (7, .int (nI n)), (8, .int (nI (h % 12)))]) hx hb dL_law_524 hl (by decide) rfl (fun ls hl => ?_)
  refine lv_bipush (v := 20) hx hb dL_law_526 (by decide) ?_
  refine lv_iload hx hb dL_law_528 (lv_at hl 6 rfl) ?_
  refine lv_iconst (v := 4) hx hb dL_law_530 (by decide) ?_
  refine lv_ishr hx hb dL_law_531 ?_
  refine lv_topi (fun vz531_0 evz531_0 => ?_)
  refine lv_bipush (v := 6) hx hb dL_law_532 (by decide) ?_
  have g := g.eqw (List.nil_append _).symm
  refine y_ci (rest := [.int 20]) (wc := []) g (y_S (nA := 2) (As := [.int vz531_0, .int 6]) (wc := []) S g (d_below l G vz531_0 6 (by omega) (by omega)) (lw_S q526 q527 q0 q528) ⟨by decide +kernel, by decide +kernel, by decide +kernel⟩ rfl ⟨Nat.le_of_ble_eq_true rfl, Nat.le_of_ble_eq_true rfl⟩ hl.1 (Nat.le_of_ble_eq_true rfl) rfl ⟨by show cells + 0 ≤ 1112399; omega, by show slots + 0 ≤ 5764272; omega⟩ dL_law_534) (fun r9 u534_1 H locs hp9 g => ?_)
  have g := g.eqw (List.nil_append _)
  obtain ⟨z534, hz534, ez534⟩ := hp9
  subst ez534
  refine lv_imul hx hb dL_law_537 ?_
  rw [show (20 * (nI z534) : Int32) = nI (20 * z534) from (pk_mul 20 z534)]
  refine lv_istore (lv' := [(12, .int (nI (20 * z534))), (11, .int xf), (10, .int (nI (20 * q9))), (0, .ref b9), (1, .ref (gA G 0)), (2, .ref (A 0)), (3, .int (nI t)), (4, .int x), (5, .long D), (7, .int (nI n)), (8, .int (nI (h % 12)))]) hx hb dL_law_538 hl (by decide) rfl (fun ls hl => ?_)
  refine lv_iload hx hb dL_law_540 (lv_at hl 7 rfl) ?_
  refine lv_iconst (v := 5) hx hb dL_law_542 (by decide) ?_
  refine lv_ishr hx hb dL_law_543 ?_
  refine lv_topi (fun vz543_2 evz543_2 => ?_)
  refine lv_bipush (v := 10) hx hb dL_law_544 (by decide) ?_
  have g := g.eqw (List.nil_append _).symm
  refine y_ci (rest := []) (wc := []) g (y_S (nA := 2) (As := [.int vz543_2, .int 10]) (wc := []) S g (d_below l G vz543_2 10 (by omega) (by omega)) (lw_S q526 q527 q0 q528) ⟨by decide +kernel, by decide +kernel, by decide +kernel⟩ rfl ⟨Nat.le_of_ble_eq_true rfl, Nat.le_of_ble_eq_true rfl⟩ hl.1 (Nat.le_of_ble_eq_true rfl) rfl ⟨by show cells + 0 ≤ 1112399; omega, by show slots + 0 ≤ 5764272; omega⟩ dL_law_546) (fun r9 u546_3 H locs hp9 g => ?_)
  have g := g.eqw (List.nil_append _)
  obtain ⟨z546, hz546, ez546⟩ := hp9
  subst ez546
  refine lv_istore (lv' := [(13, .int (nI z546)), (12, .int (nI (20 * z534))), (11, .int xf), (10, .int (nI (20 * q9))), (0, .ref b9), (1, .ref (gA G 0)), (2, .ref (A 0)), (3, .int (nI t)), (4, .int x), (5, .long D), (7, .int (nI n)), (8, .int (nI (h % 12)))]) hx hb dL_law_549 hl (by decide) rfl (fun ls hl => ?_)
  refine lv_aload_n hx hb dL_law_551 rfl (lv_at hl 6 rfl) ?_
  have g := g.perm (pm2 _ _ _ )
  refine y_cq (rest := []) g (y_V (nA := 0) (As := []) S g (d_copy l G A n F3 1 (Or.inl rfl) hn8) (swl_m0 G _ _ _ _) (lw_V q422 q423 q424 q4 q425) ⟨rfl, by decide +kernel, by decide +kernel, by decide +kernel⟩ rfl ⟨Nat.le_of_ble_eq_true rfl, Nat.le_of_ble_eq_true rfl⟩ hl.1 (Nat.le_of_ble_eq_true rfl) rfl ⟨by show cells + 11 ≤ 1112399; omega, by show slots + 63 ≤ 5764272; omega⟩ dL_law_552) (fun r9 u552_4 H locs hp9 g => ?_)
  have g := g.eqw (List.append_assoc _ _ _)
  subst hp9
  refine lv_astore (lv' := [(14, .ref (u552_4 0)), (13, .int (nI z546)), (12, .int (nI (20 * z534))), (11, .int xf), (10, .int (nI (20 * q9))), (0, .ref b9), (1, .ref (gA G 0)), (2, .ref (A 0)), (3, .int (nI t)), (4, .int x), (5, .long D), (7, .int (nI n)), (8, .int (nI (h % 12)))]) hx hb dL_law_555 hl (by decide) rfl (fun ls hl => ?_)
  refine lv_aload hx hb dL_law_557 (lv_at hl 0 rfl) ?_
  refine lv_iload hx hb dL_law_559 (lv_at hl 4 rfl) ?_
  refine x_puti S g (Or.inl rfl) 4 (by decide) q442 dL_law_561 (fun H locs g => ?_)
  refine lv_aload hx hb dL_law_564 (lv_at hl 0 rfl) ?_
  refine lv_bipush (v := 48) hx hb dL_law_566 (by decide) ?_
  refine y_ci (rest := []) g (y_V (nA := 1) (As := [.int 48]) S g (d_passN l G u552_4 n (up2 F3 1 4 (nI (20 * q9))) 1 h 48 (Or.inl rfl) (by omega) (by omega) (hI3.lim (by omega))) (swl_m0 G _ _ _ _) (lw_V q492 q493 q494 q4 q495) ⟨rfl, by decide +kernel, by decide +kernel, by decide +kernel⟩ rfl ⟨Nat.le_of_ble_eq_true rfl, Nat.le_of_ble_eq_true rfl⟩ hl.1 (Nat.le_of_ble_eq_true rfl) rfl ⟨by show cells + 11 + 480 ≤ 1112399; omega, by show slots + 63 + 1920 ≤ 5764272; omega⟩ dL_law_568) (fun r9 u568_5 H locs hp9 g => ?_)
  subst hp9
  refine lv_pop hx hb dL_law_571 rfl ?_
  refine lv_aload_n hx hb dL_law_572 rfl (lv_at hl 7 rfl) ?_
  have g := g.perm (pm2 _ _ _ )
  refine y_cq (rest := []) g (y_V (nA := 0) (As := []) S g (d_copy l G A n F3 1 (Or.inl rfl) hn8) (swl_m0 G _ _ _ _) (lw_V q422 q423 q424 q4 q425) ⟨rfl, by decide +kernel, by decide +kernel, by decide +kernel⟩ rfl ⟨Nat.le_of_ble_eq_true rfl, Nat.le_of_ble_eq_true rfl⟩ hl.1 (Nat.le_of_ble_eq_true rfl) rfl ⟨by show cells + 11 + 480 + 11 ≤ 1112399; omega, by show slots + 63 + 1920 + 63 ≤ 5764272; omega⟩ dL_law_573) (fun r9 u573_6 H locs hp9 g => ?_)
  have g := g.eqw (List.append_assoc _ _ _)
  subst hp9
  refine lv_astore (lv' := [(15, .ref (u573_6 0)), (14, .ref (u552_4 0)), (13, .int (nI z546)), (12, .int (nI (20 * z534))), (11, .int xf), (10, .int (nI (20 * q9))), (0, .ref b9), (1, .ref (gA G 0)), (2, .ref (A 0)), (3, .int (nI t)), (4, .int x), (5, .long D), (7, .int (nI n)), (8, .int (nI (h % 12)))]) hx hb dL_law_576 hl (by decide) rfl (fun ls hl => ?_)
  refine lv_aload hx hb dL_law_578 (lv_at hl 0 rfl) ?_
  refine lv_iload hx hb dL_law_580 (lv_at hl 3 rfl) ?_
  refine x_puti S g (Or.inl rfl) 4 (by decide) q442 dL_law_582 (fun H locs g => ?_)
  refine lv_aload hx hb dL_law_585 (lv_at hl 0 rfl) ?_
  refine lv_bipush (v := 48) hx hb dL_law_587 (by decide) ?_
  refine y_ci (rest := []) g (y_V (nA := 1) (As := [.int 48]) S g (d_passN l G u573_6 n (up2 F3 1 4 (nI (20 * z534))) 1 h 48 (Or.inl rfl) (by omega) (by omega) (hI3.lim (by omega))) (swl_m0 G _ _ _ _) (lw_V q492 q493 q494 q4 q495) ⟨rfl, by decide +kernel, by decide +kernel, by decide +kernel⟩ rfl ⟨Nat.le_of_ble_eq_true rfl, Nat.le_of_ble_eq_true rfl⟩ hl.1 (Nat.le_of_ble_eq_true rfl) rfl ⟨by show cells + 11 + 480 + 11 + 480 ≤ 1112399; omega, by show slots + 63 + 1920 + 63 + 1920 ≤ 5764272; omega⟩ dL_law_589) (fun r9 u589_7 H locs hp9 g => ?_)
  subst hp9
  refine lv_pop hx hb dL_law_592 rfl ?_
  have join648 : ∀ (H : Heap) (locs : List Loc) (ls : Array Slot), GX G Z (wld G F3 0 ++ (swl G A n F3 1 ++ [])) s H locs → lv_has ls 36 [(0, .ref b9), (1, .ref (gA G 0)), (2, .ref (A 0)), (3, .int (nI t)), (4, .int x), (5, .long D), (7, .int (nI n)), (8, .int (nI (h % 12))), (10, .int (nI (20 * q9))), (11, .int xf), (12, .int (nI (20 * z534))), (13, .int (nI z546))] → W p l e room_1 s m args below meth c H locs (cells + 11 + 480 + 11 + 480) (slots + 63 + 1920 + 63 + 1920) Q (F0 m 648 ls []) := by
    intro  H locs ls  g hl
    refine lv_aload_n hx hb dL_law_648 rfl (lv_at hl 2 rfl) ?_
    have g := g.perm (pm2 _ _ _ )
    refine y_cq (rest := []) g (y_V (nA := 0) (As := []) S g (d_copy l G A n F3 1 (Or.inl rfl) hn8) (swl_m0 G _ _ _ _) (lw_V q422 q423 q424 q4 q425) ⟨rfl, by decide +kernel, by decide +kernel, by decide +kernel⟩ rfl ⟨Nat.le_of_ble_eq_true rfl, Nat.le_of_ble_eq_true rfl⟩ hl.1 (Nat.le_of_ble_eq_true rfl) rfl ⟨by show cells + 11 + 480 + 11 + 480 + 11 ≤ 1112399; omega, by show slots + 63 + 1920 + 63 + 1920 + 63 ≤ 5764272; omega⟩ dL_law_649) (fun r9 u649_8 H locs hp9 g => ?_)
    have g := g.eqw (List.append_assoc _ _ _)
    subst hp9
    refine lv_astore (lv' := [(14, .ref (u649_8 0)), (0, .ref b9), (1, .ref (gA G 0)), (2, .ref (A 0)), (3, .int (nI t)), (4, .int x), (5, .long D), (7, .int (nI n)), (8, .int (nI (h % 12))), (10, .int (nI (20 * q9))), (11, .int xf), (12, .int (nI (20 * z534))), (13, .int (nI z546))]) hx hb dL_law_652 hl (by decide) rfl (fun ls hl => ?_)
    refine lv_aload hx hb dL_law_654 (lv_at hl 0 rfl) ?_
    refine lv_iload hx hb dL_law_656 (lv_at hl 12 rfl) ?_
    refine x_puti S g (Or.inl rfl) 2 (by decide) q438 dL_law_658 (fun H locs g => ?_)
    refine lv_aload hx hb dL_law_661 (lv_at hl 0 rfl) ?_
    refine lv_bipush (v := 48) hx hb dL_law_663 (by decide) ?_
    refine y_ci (rest := []) g (y_V (nA := 1) (As := [.int 48]) S g (d_passN l G u649_8 n (up2 F3 1 2 (nI z546)) 1 h 48 (Or.inl rfl) (by omega) (by omega) (hI3.rt (by omega))) (swl_m0 G _ _ _ _) (lw_V q492 q493 q494 q4 q495) ⟨rfl, by decide +kernel, by decide +kernel, by decide +kernel⟩ rfl ⟨Nat.le_of_ble_eq_true rfl, Nat.le_of_ble_eq_true rfl⟩ hl.1 (Nat.le_of_ble_eq_true rfl) rfl ⟨by show cells + 11 + 480 + 11 + 480 + 11 + 480 ≤ 1112399; omega, by show slots + 63 + 1920 + 63 + 1920 + 63 + 1920 ≤ 5764272; omega⟩ dL_law_665) (fun r9 u665_9 H locs hp9 g => ?_)
    subst hp9
    refine lv_pop hx hb dL_law_668 rfl ?_
    refine lv_aload hx hb dL_law_669 (lv_at hl 0 rfl) ?_
    refine x_geti S g (List.mem_append_left _ (swl_m0 G u649_8 _ _ _)) 1 (by decide) q436 dL_law_671 ?_
    refine lv_aload_n hx hb dL_law_674 rfl (lv_at hl 2 rfl) ?_
    have g := g.perm (pm3 _ _ _ _ )
    refine x_ci (rest := [.int (((gbL 1 n 48 h 0 (up2 F3 1 2 (nI z546))).2) 1 1)]) g (x_V (nA := 0) (As := []) S g (c_fund l G F3 0 ) (lw_V q335 q336 q337 q1 q338) ⟨rfl, by decide +kernel, by decide +kernel, by decide +kernel⟩ rfl ⟨Nat.le_of_ble_eq_true rfl, Nat.le_of_ble_eq_true rfl⟩ hl.1 (Nat.le_of_ble_eq_true rfl) rfl ⟨by show cells + 11 + 480 + 11 + 480 + 11 + 480 + 0 ≤ 1112399; omega, by show slots + 63 + 1920 + 63 + 1920 + 63 + 1920 + 0 ≤ 5764272; omega⟩ dL_law_675) (fun H locs g => ?_)
    refine lv_icmp_lt (tgt := 685) hx hb dL_law_678 (by decide) (fun c_678 => ?_) (fun c_678 => ?_)
    · refine lv_iconst (v := 0) hx hb dL_law_685 (by decide) ?_
      refine lv_iload hx hb dL_law_686 (lv_at hl 10 rfl) ?_
      refine lv_if_lt (tgt := 702) hx hb dL_law_688 (by decide) (fun c_688 => ?_) (fun c_688 => ?_)
      · refine lv_iconst (v := 0) hx hb dL_law_702 (by decide) ?_
        refine lv_icmp_eq (tgt := 708) hx hb dL_law_703 (by decide) (fun c_703 => ?_) (fun c9 => absurd rfl c9)
        have g := g.perm (pm3 _ _ _ _ )
        have g := g.perm (pm2 _ _ _ )
        have g := g.sl (List.Sublist.append (List.Sublist.refl _) (List.Sublist.append (List.Sublist.refl _) (List.nil_sublist _)))
        refine W.widen (k := cells + 1473) (n := slots + 5949) (by omega) (by omega) ?_
        exact K F3 _ _ _ hS3 hI3 g (lv_sub hl [1, 2, 3, 4, 5, 6, 7, 8] rfl)
      · refine lv_iload hx hb dL_law_691 (lv_at hl 12 rfl) ?_
        refine lv_iload hx hb dL_law_693 (lv_at hl 10 rfl) ?_
        refine lv_icmp_lt (tgt := 702) hx hb dL_law_695 (by decide) (fun c_695 => ?_) (fun c_695 => ?_)
        · refine lv_iconst (v := 0) hx hb dL_law_702 (by decide) ?_
          refine lv_icmp_eq (tgt := 708) hx hb dL_law_703 (by decide) (fun c_703 => ?_) (fun c9 => absurd rfl c9)
          have g := g.perm (pm3 _ _ _ _ )
          have g := g.perm (pm2 _ _ _ )
          have g := g.sl (List.Sublist.append (List.Sublist.refl _) (List.Sublist.append (List.Sublist.refl _) (List.nil_sublist _)))
          refine W.widen (k := cells + 1473) (n := slots + 5949) (by omega) (by omega) ?_
          exact K F3 _ _ _ hS3 hI3 g (lv_sub hl [1, 2, 3, 4, 5, 6, 7, 8] rfl)
        · refine lv_iconst (v := 1) hx hb dL_law_698 (by decide) ?_
          refine lv_goto (tgt := 703) hx hb dL_law_699 (by decide) ?_
          refine lv_icmp_eq (tgt := 708) hx hb dL_law_703 (by decide) (fun c_703 => ?_) (fun c9 => absurd (absurd ((hU z546 hz546).mpr ⟨Int32.not_lt.mp c_688, Int32.not_lt.mp c_695⟩) (Int32.not_le.mpr c_678)) c9)
          have g := g.perm (pm3 _ _ _ _ )
          have g := g.perm (pm2 _ _ _ )
          have g := g.sl (List.Sublist.append (List.Sublist.refl _) (List.Sublist.append (List.Sublist.refl _) (List.nil_sublist _)))
          refine W.widen (k := cells + 1473) (n := slots + 5949) (by omega) (by omega) ?_
          exact K F3 _ _ _ hS3 hI3 g (lv_sub hl [1, 2, 3, 4, 5, 6, 7, 8] rfl)
    · refine lv_iconst (v := 1) hx hb dL_law_681 (by decide) ?_
      refine lv_goto (tgt := 686) hx hb dL_law_682 (by decide) ?_
      refine lv_iload hx hb dL_law_686 (lv_at hl 10 rfl) ?_
      refine lv_if_lt (tgt := 702) hx hb dL_law_688 (by decide) (fun c_688 => ?_) (fun c_688 => ?_)
      · refine lv_iconst (v := 0) hx hb dL_law_702 (by decide) ?_
        refine lv_icmp_eq (tgt := 708) hx hb dL_law_703 (by decide) (fun c_703 => ?_) (fun c9 => absurd (absurd ((hU z546 hz546).mp (Int32.not_lt.mp c_678)).1 (Int32.not_le.mpr c_688)) c9)
        have g := g.perm (pm3 _ _ _ _ )
        have g := g.perm (pm2 _ _ _ )
        have g := g.sl (List.Sublist.append (List.Sublist.refl _) (List.Sublist.append (List.Sublist.refl _) (List.nil_sublist _)))
        refine W.widen (k := cells + 1473) (n := slots + 5949) (by omega) (by omega) ?_
        exact K F3 _ _ _ hS3 hI3 g (lv_sub hl [1, 2, 3, 4, 5, 6, 7, 8] rfl)
      · refine lv_iload hx hb dL_law_691 (lv_at hl 12 rfl) ?_
        refine lv_iload hx hb dL_law_693 (lv_at hl 10 rfl) ?_
        refine lv_icmp_lt (tgt := 702) hx hb dL_law_695 (by decide) (fun c_695 => ?_) (fun c_695 => ?_)
        · refine lv_iconst (v := 0) hx hb dL_law_702 (by decide) ?_
          refine lv_icmp_eq (tgt := 708) hx hb dL_law_703 (by decide) (fun c_703 => ?_) (fun c9 => absurd (absurd ((hU z546 hz546).mp (Int32.not_lt.mp c_678)).2 (Int32.not_le.mpr c_695)) c9)
          have g := g.perm (pm3 _ _ _ _ )
          have g := g.perm (pm2 _ _ _ )
          have g := g.sl (List.Sublist.append (List.Sublist.refl _) (List.Sublist.append (List.Sublist.refl _) (List.nil_sublist _)))
          refine W.widen (k := cells + 1473) (n := slots + 5949) (by omega) (by omega) ?_
          exact K F3 _ _ _ hS3 hI3 g (lv_sub hl [1, 2, 3, 4, 5, 6, 7, 8] rfl)
        · refine lv_iconst (v := 1) hx hb dL_law_698 (by decide) ?_
          refine lv_goto (tgt := 703) hx hb dL_law_699 (by decide) ?_
          refine lv_icmp_eq (tgt := 708) hx hb dL_law_703 (by decide) (fun c_703 => ?_) (fun c9 => absurd rfl c9)
          have g := g.perm (pm3 _ _ _ _ )
          have g := g.perm (pm2 _ _ _ )
          have g := g.sl (List.Sublist.append (List.Sublist.refl _) (List.Sublist.append (List.Sublist.refl _) (List.nil_sublist _)))
          refine W.widen (k := cells + 1473) (n := slots + 5949) (by omega) (by omega) ?_
          exact K F3 _ _ _ hS3 hI3 g (lv_sub hl [1, 2, 3, 4, 5, 6, 7, 8] rfl)
  refine lv_iload hx hb dL_law_593 (lv_at hl 5 rfl) ?_
  refine lv_if_lt (tgt := 646) hx hb dL_law_595 (by decide) (fun c9 => absurd c9 (fun z9 => absurd ((nI_ltI (a := (20 * q9)) (b := 0) (by omega) (by omega)).mp z9) (by omega))) (fun c_595 => ?_)
  refine lv_iload hx hb dL_law_598 (lv_at hl 5 rfl) ?_
  refine lv_bipush (v := 100) hx hb dL_law_600 (by decide) ?_
  refine lv_icmp_gt (tgt := 646) hx hb dL_law_602 (by decide) (fun c9 => absurd c9 (fun z9 => absurd ((nI_ltI (a := 100) (b := (20 * q9)) (by omega) (by omega)).mp z9) (by omega))) (fun c_602 => ?_)
  refine lv_iload hx hb dL_law_605 (lv_at hl 5 rfl) ?_
  refine lv_bipush (v := 20) hx hb dL_law_607 (by decide) ?_
  refine lv_irem hx hb dL_law_609 (by decide) ?_
  rw [show ((nI (20 * q9)) - (nI (20 * q9)) / 20 * 20 : Int32) = 0 from ((pk_rem (a := 20 * q9) (d := 20) (by omega) (by omega) (by omega)).trans (by rw [Nat.mul_mod_right]; rfl))]
  refine lv_if_ne (tgt := 646) hx hb dL_law_610 (by decide) (fun c9 => absurd rfl c9) (fun c_610 => ?_)
  refine lv_aload hx hb dL_law_613 (lv_at hl 0 rfl) ?_
  refine x_geti S g (List.mem_append_left _ (swl_m0 G u573_6 _ _ _)) 1 (by decide) q436 dL_law_615 ?_
  refine lv_aload hx hb dL_law_618 (lv_at hl 1 rfl) ?_
  refine x_geti S g (List.mem_append_right _ (List.mem_append_right _ (List.mem_append_left _ (swl_m0 G u552_4 _ _ _)))) 1 (by decide) q436 dL_law_620 ?_
  refine lv_icmp_gt (tgt := 646) hx hb dL_law_623 (by decide) (fun c9 => absurd c9 (Int32.not_lt.mpr (hV1 z534 (by omega)))) (fun c_623 => ?_)
  refine lv_aload hx hb dL_law_626 (lv_at hl 0 rfl) ?_
  refine x_geti S g (List.mem_append_left _ (swl_m0 G u573_6 _ _ _)) 1 (by decide) q436 dL_law_628 ?_
  refine lv_aload hx hb dL_law_631 (lv_at hl 1 rfl) ?_
  refine x_geti S g (List.mem_append_right _ (List.mem_append_right _ (List.mem_append_left _ (swl_m0 G u552_4 _ _ _)))) 1 (by decide) q436 dL_law_633 ?_
  refine lv_icmp_ne (tgt := 648) hx hb dL_law_636 (by decide) (fun c_636 => ?_) (fun c_636 => ?_)
  · have g := g.perm (pm2 _ _ _ )
    have g := g.perm (pm4 _ _ _ _ _ )
    have g := g.sl (List.Sublist.append (List.Sublist.refl _) (List.Sublist.append (List.Sublist.refl _) (List.nil_sublist _)))
    exact join648  _ _ _  g (lv_sub hl [6, 7, 8, 9, 10, 11, 12, 13, 5, 4, 3, 2] rfl)
  · refine lv_iload hx hb dL_law_639 (lv_at hl 3 rfl) ?_
    refine lv_iload hx hb dL_law_641 (lv_at hl 5 rfl) ?_
    refine lv_icmp_ge (tgt := 648) hx hb dL_law_643 (by decide) (fun c_643 => ?_) (fun c9 => absurd (nI_le (Nat.mul_le_mul_left 20 (be_ge (V := fun z => (gbL 1 n 48 h 0 (up2 F3 1 4 (nI (20 * z)))).2 1 1) hV2 c_636)) (by omega)) c9)
    have g := g.perm (pm2 _ _ _ )
    have g := g.perm (pm4 _ _ _ _ _ )
    have g := g.sl (List.Sublist.append (List.Sublist.refl _) (List.Sublist.append (List.Sublist.refl _) (List.nil_sublist _)))
    exact join648  _ _ _  g (lv_sub hl [6, 7, 8, 9, 10, 11, 12, 13, 5, 4, 3, 2] rfl)
set_option maxHeartbeats 4000000 in
set_option maxRecDepth 100000 in
theorem seg_E {p : Program} {l : Launch} {e : Env} {s : State} {m : MethodId} {args : Array Value} {below : List Frame} {meth : Method} {c : Code} {cells slots : Nat} {Q : State → Prop} {G : gT} {Z : Nat → Prop} {b9 L9 : Nat} {xs9 : Nat → Int32} (hfl : l.stackTraces = false) (S : CallFix p m c cL_law 36 s args lw_all "ShadowPoolLaw") (hX9 : va_X b9 L9 xs9 s s.heap) (hX9l : b9 < s.heap.size) (hX9n : ¬ Z b9) (A : Nat → Nat) (F : Fs) (n : Nat) (h : Nat) (hIn : In F n h) (hh : h ≤ 8000) (t : Nat) (x : Int32) (D : Int64) (hD : dgI F n h = D) {H : Heap} {locs : List Loc} {ls : Array Slot} (g : GX G Z (wld G F 0 ++ (swl G A n F 1 ++ [])) s H locs) (hl : lv_has ls 36 [(0, .ref b9), (1, .ref (gA G 0)), (2, .ref (A 0)), (3, .int (nI t)), (4, .int x), (5, .long D), (7, .int (nI n)), (8, .int (nI (h % 12)))]) (hc1 : cells + 0 ≤ 1112399) (hc2 : slots + 0 ≤ 5764272) (K : ∀ (F5 : Fs) (T : Nat) (xr : Int32) (xn : Int32) (xo : Int32) (xf : Int32) (xs : Int32) (H : Heap) (locs : List Loc) (ls : Array Slot), SameC F F5 → In F5 n h → 1 ≤ T → T ≤ 20 → Ru F5 n h xr → Nx F5 n h xn xs → On F5 n h xo xf → GX G Z (wld G F5 0 ++ (swl G A n F5 1 ++ [])) s H locs → lv_has ls 36 [(0, .ref b9), (1, .ref (gA G 0)), (2, .ref (A 0)), (3, .int (nI t)), (4, .int x), (5, .long D), (7, .int (nI n)), (8, .int (nI (h % 12))), (16, .int (nI T)), (17, .int (Hh F5 n h T 1 1)), (18, .int xr), (19, .int xn), (20, .int xo), (21, .int xf), (22, .int xs)] → W p l e room_1 s m args below meth c H locs (cells + 0) (slots + 0) Q (F0 m 877 ls [])) : W p l e room_1 s m args below meth c H locs cells slots Q (F0 m 708 ls []) := by
  have hx := S.1
  have hb := S.2.1
  have hn8 := hIn.n8
  refine lv_iconst (v := 1) hx hb dL_law_708 (by decide) ?_
  refine lv_iload hx hb dL_law_709 (lv_at hl 4 rfl) ?_
  refine lv_bipush (v := 6) hx hb dL_law_711 (by decide) ?_
  refine lv_ishr hx hb dL_law_713 ?_
  refine lv_topi (fun vz713_0 evz713_0 => ?_)
  refine lv_bipush (v := 20) hx hb dL_law_714 (by decide) ?_
  have g := g.eqw (List.nil_append _).symm
  refine y_ci (rest := [.int 1]) (wc := []) g (y_S (nA := 2) (As := [.int vz713_0, .int 20]) (wc := []) S g (d_below l G vz713_0 20 (by omega) (by omega)) (lw_S q526 q527 q0 q528) ⟨by decide +kernel, by decide +kernel, by decide +kernel⟩ rfl ⟨Nat.le_of_ble_eq_true rfl, Nat.le_of_ble_eq_true rfl⟩ hl.1 (Nat.le_of_ble_eq_true rfl) rfl ⟨by show cells + 0 ≤ 1112399; omega, by show slots + 0 ≤ 5764272; omega⟩ dL_law_716) (fun r9 u716_1 H locs hp9 g => ?_)
  have g := g.eqw (List.nil_append _)
  obtain ⟨z716, hz716, ez716⟩ := hp9
  subst ez716
  refine lv_iadd hx hb dL_law_719 ?_
  rw [show (1 + (nI z716) : Int32) = nI (1 + z716) from (nI_add 1 z716)]
  refine lv_istore (lv' := [(16, .int (nI (1 + z716))), (0, .ref b9), (1, .ref (gA G 0)), (2, .ref (A 0)), (3, .int (nI t)), (4, .int x), (5, .long D), (7, .int (nI n)), (8, .int (nI (h % 12)))]) hx hb dL_law_720 hl (by decide) rfl (fun ls hl => ?_)
  refine lv_aload_n hx hb dL_law_722 rfl (lv_at hl 2 rfl) ?_
  refine lv_iload hx hb dL_law_723 (lv_at hl 0 rfl) ?_
  refine x_ci (rest := []) g (x_V (nA := 1) (As := [.int (nI (1 + z716))]) S g (c_fundIn_ok l G F 0 (1 + z716) n h hIn.ok hn8 (by omega) (by omega) (by omega)) (lw_V q370 q371 q372 q1 q373) ⟨rfl, by decide +kernel, by decide +kernel, by decide +kernel⟩ rfl ⟨Nat.le_of_ble_eq_true rfl, Nat.le_of_ble_eq_true rfl⟩ hl.1 (Nat.le_of_ble_eq_true rfl) rfl ⟨by show cells + 0 ≤ 1112399; omega, by show slots + 0 ≤ 5764272; omega⟩ dL_law_725) (fun H locs g => ?_)
  refine lv_istore (lv' := [(17, .int (fbF F n h (1 + z716) (F 1 2) (F 1 4) 2 1)), (16, .int (nI (1 + z716))), (0, .ref b9), (1, .ref (gA G 0)), (2, .ref (A 0)), (3, .int (nI t)), (4, .int x), (5, .long D), (7, .int (nI n)), (8, .int (nI (h % 12)))]) hx hb dL_law_728 hl (by decide) rfl (fun ls hl => ?_)
  refine lv_aload_n hx hb dL_law_730 rfl (lv_at hl 3 rfl) ?_
  refine x_ci (rest := []) g (x_V (nA := 0) (As := []) S g (c_hoursUntilRuin l G (fbF F n h (1 + z716) (F 1 2) (F 1 4)) 0 n h (okP_fb hIn.ok _ _ _) hn8 (by omega)) (lw_V q386 q387 q388 q1 q389) ⟨rfl, by decide +kernel, by decide +kernel, by decide +kernel⟩ rfl ⟨Nat.le_of_ble_eq_true rfl, Nat.le_of_ble_eq_true rfl⟩ hl.1 (Nat.le_of_ble_eq_true rfl) rfl ⟨by show cells + 0 ≤ 1112399; omega, by show slots + 0 ≤ 5764272; omega⟩ dL_law_731) (fun H locs g => ?_)
  obtain ⟨F4, xr, eF4, exr, hS4, hI4, edue, hru⟩ := looks5 (t := 1 + z716) hIn
  rw [eF4] at g
  rw [exr]
  rw [edue] at hl
  have g := g.eqw (show _ = wld G F4 0 ++ (swl G A n F4 1 ++ []) from by rw [swl_sc G A hn8 hS4])
  refine lv_istore (lv' := [(18, .int xr), (17, .int (Hh F4 n h (1 + z716) 1 1)), (16, .int (nI (1 + z716))), (0, .ref b9), (1, .ref (gA G 0)), (2, .ref (A 0)), (3, .int (nI t)), (4, .int x), (5, .long D), (7, .int (nI n)), (8, .int (nI (h % 12)))]) hx hb dL_law_734 hl (by decide) rfl (fun ls hl => ?_)
  refine lv_aload_n hx hb dL_law_736 rfl (lv_at hl 4 rfl) ?_
  refine x_ci (rest := []) g (x_V (nA := 0) (As := []) S g (c_nextToFall l G F4 0 n h hI4.ok hn8 (by omega)) (lw_V q366 q367 q368 q1 q369) ⟨rfl, by decide +kernel, by decide +kernel, by decide +kernel⟩ rfl ⟨Nat.le_of_ble_eq_true rfl, Nat.le_of_ble_eq_true rfl⟩ hl.1 (Nat.le_of_ble_eq_true rfl) rfl ⟨by show cells + 0 ≤ 1112399; omega, by show slots + 0 ≤ 5764272; omega⟩ dL_law_737) (fun H locs g => ?_)
  rcases nf_spec (F := F4) (n := n) (h := h) with ⟨en, hno⟩ | ⟨j0, m0, hj0, hm0, en, ef0, hq1, hq2, hq3⟩
  · rw [en]
    refine lv_istore (lv' := [(19, .int ((-1))), (18, .int xr), (17, .int (Hh F4 n h (1 + z716) 1 1)), (16, .int (nI (1 + z716))), (0, .ref b9), (1, .ref (gA G 0)), (2, .ref (A 0)), (3, .int (nI t)), (4, .int x), (5, .long D), (7, .int (nI n)), (8, .int (nI (h % 12)))]) hx hb dL_law_740 hl (by decide) rfl (fun ls hl => ?_)
    refine lv_iload hx hb dL_law_742 (lv_at hl 10 rfl) ?_
    refine lv_if_ne (tgt := 751) hx hb dL_law_744 (by decide) (fun c_744 => ?_) (fun c_744 => ?_)
    · have hnp : 1 ≤ n := by rcases Nat.eq_zero_or_pos n with e9 | e9; (· exact absurd (by rw [e9]; rfl) c_744); (· exact e9)
      refine lv_iload hx hb dL_law_751 (lv_at hl 8 rfl) ?_
      refine lv_bipush (v := 7) hx hb dL_law_753 (by decide) ?_
      refine lv_ishr hx hb dL_law_755 ?_
      refine lv_topi (fun vz755_2 evz755_2 => ?_)
      refine lv_iload hx hb dL_law_756 (lv_at hl 10 rfl) ?_
      have g := g.eqw (List.nil_append _).symm
      refine y_ci (rest := []) (wc := []) g (y_S (nA := 2) (As := [.int vz755_2, .int (nI n)]) (wc := []) S g (d_below l G vz755_2 n (by omega) (by omega)) (lw_S q526 q527 q0 q528) ⟨by decide +kernel, by decide +kernel, by decide +kernel⟩ rfl ⟨Nat.le_of_ble_eq_true rfl, Nat.le_of_ble_eq_true rfl⟩ hl.1 (Nat.le_of_ble_eq_true rfl) rfl ⟨by show cells + 0 ≤ 1112399; omega, by show slots + 0 ≤ 5764272; omega⟩ dL_law_758) (fun r9 u758_3 H locs hp9 g => ?_)
      have g := g.eqw (List.nil_append _)
      obtain ⟨z758, hz758, ez758⟩ := hp9
      subst ez758
      refine lv_istore (lv' := [(20, .int (nI z758)), (19, .int ((-1))), (18, .int xr), (17, .int (Hh F4 n h (1 + z716) 1 1)), (16, .int (nI (1 + z716))), (0, .ref b9), (1, .ref (gA G 0)), (2, .ref (A 0)), (3, .int (nI t)), (4, .int x), (5, .long D), (7, .int (nI n)), (8, .int (nI (h % 12)))]) hx hb dL_law_761 hl (by decide) rfl (fun ls hl => ?_)
      refine lv_iload hx hb dL_law_763 (lv_at hl 0 rfl) ?_
      refine lv_if_ge (tgt := 772) hx hb dL_law_765 (by decide) (fun c_765 => ?_) (fun c9 => absurd (nI_pos' (by omega)) c9)
      refine lv_aload_n hx hb dL_law_772 rfl (lv_at hl 6 rfl) ?_
      refine lv_iload hx hb dL_law_773 (lv_at hl 0 rfl) ?_
      refine x_ci (rest := []) g (x_V (nA := 1) (As := [.int (nI z758)]) S g (c_hoursUntilFall_ok l G F4 0 z758 n h hI4.c6 hz758 hn8 hI4.c0 (by omega)) (lw_V q355 q356 q357 q1 q358) ⟨rfl, by decide +kernel, by decide +kernel, by decide +kernel⟩ rfl ⟨Nat.le_of_ble_eq_true rfl, Nat.le_of_ble_eq_true rfl⟩ hl.1 (Nat.le_of_ble_eq_true rfl) rfl ⟨by show cells + 0 ≤ 1112399; omega, by show slots + 0 ≤ 5764272; omega⟩ dL_law_775) (fun H locs g => ?_)
      rcases fa_spec (F := F4) (n := n) (h := h) (j := z758) hz758 with ⟨ef1, hf1⟩ | ⟨m1, hm1, ef1, hf1, hf2⟩
      · rw [ef1]
        refine lv_istore (lv' := [(21, .int ((-1))), (20, .int (nI z758)), (19, .int ((-1))), (18, .int xr), (17, .int (Hh F4 n h (1 + z716) 1 1)), (16, .int (nI (1 + z716))), (0, .ref b9), (1, .ref (gA G 0)), (2, .ref (A 0)), (3, .int (nI t)), (4, .int x), (5, .long D), (7, .int (nI n)), (8, .int (nI (h % 12)))]) hx hb dL_law_778 hl (by decide) rfl (fun ls hl => ?_)
        refine lv_iload hx hb dL_law_780 (lv_at hl 2 rfl) ?_
        refine lv_if_ge (tgt := 789) hx hb dL_law_782 (by decide) (fun c9 => absurd c9 (by decide)) (fun c_782 => ?_)
        refine lv_iconst (v := (-1)) hx hb dL_law_785 (by decide) ?_
        refine lv_goto (tgt := 795) hx hb dL_law_786 (by decide) ?_
        refine lv_istore (lv' := [(22, .int ((-1))), (21, .int ((-1))), (20, .int (nI z758)), (19, .int ((-1))), (18, .int xr), (17, .int (Hh F4 n h (1 + z716) 1 1)), (16, .int (nI (1 + z716))), (0, .ref b9), (1, .ref (gA G 0)), (2, .ref (A 0)), (3, .int (nI t)), (4, .int x), (5, .long D), (7, .int (nI n)), (8, .int (nI (h % 12)))]) hx hb dL_law_795 hl (by decide) rfl (fun ls hl => ?_)
        refine lv_aload_n hx hb dL_law_797 rfl (lv_at hl 8 rfl) ?_
        refine x_cl (rest := []) g (x_V (nA := 0) (As := []) S g (c_digest l G F4 0 n h hI4.ok hn8 (by omega)) (lw_V q398 q399 q400 q1 q401) ⟨rfl, by decide +kernel, by decide +kernel, by decide +kernel⟩ rfl ⟨Nat.le_of_ble_eq_true rfl, Nat.le_of_ble_eq_true rfl⟩ hl.1 (Nat.le_of_ble_eq_true rfl) rfl ⟨by show cells + 0 ≤ 1112399; omega, by show slots + 0 ≤ 5764272; omega⟩ dL_law_798) (fun H locs g => ?_)
        have hS5 := sc_dg F4 n h
        have hI5 := hI4.sc hS5
        have g := g.eqw (show _ = wld G (dgF F4 n h) 0 ++ (swl G A n (dgF F4 n h) 1 ++ []) from by rw [swl_sc G A hn8 hS5])
        have hru5 := hru.sc hn8 hS5
        have hdue : Hh F4 n h (1 + z716) 1 1 = Hh (dgF F4 n h) n h (1 + z716) 1 1 := (ag_1 (Hh_sc hn8 hS5 (1 + z716))).symm
        have hdg : dgI F4 n h = D := (dg_sc hn8 hS4).trans hD
        have hS45 := hS4.tr hS5
        generalize hF5 : dgF F4 n h = F5 at g hI5 hru5 hdue hS5 hS45
        refine lv_lload hx hb dL_law_801 (lv_at hl 12 rfl) ?_
        refine W.lcmp hx hb dL_law_803 ?_
        rw [show (lg_cmp (dgI F4 n h) D : Int32) = 0 from (by rw [hdg]; exact lg_self D)]
        refine lv_if_ne (tgt := 875) hx hb dL_law_804 (by decide) (fun c9 => absurd rfl c9) (fun c_804 => ?_)
        refine lv_iload hx hb dL_law_807 (lv_at hl 1 rfl) ?_
        refine lv_if_eq (tgt := 875) hx hb dL_law_809 (by decide) (fun c9 => absurd c9 (by decide)) (fun c_809 => ?_)
        refine lv_iload hx hb dL_law_812 (lv_at hl 1 rfl) ?_
        refine lv_bipush (v := 100) hx hb dL_law_814 (by decide) ?_
        refine lv_icmp_gt (tgt := 875) hx hb dL_law_816 (by decide) (fun c9 => absurd c9 (by decide)) (fun c_816 => ?_)
        refine lv_iload hx hb dL_law_819 (lv_at hl 4 rfl) ?_
        refine lv_if_ne (tgt := 828) hx hb dL_law_821 (by decide) (fun c_821 => ?_) (fun c_821 => ?_)
        · refine lv_iconst (v := 0) hx hb dL_law_828 (by decide) ?_
          refine lv_aload_n hx hb dL_law_829 rfl (lv_at hl 8 rfl) ?_
          refine x_ci (rest := [.int 0]) g (x_V (nA := 0) (As := []) S g (c_fund l G F5 0 ) (lw_V q335 q336 q337 q1 q338) ⟨rfl, by decide +kernel, by decide +kernel, by decide +kernel⟩ rfl ⟨Nat.le_of_ble_eq_true rfl, Nat.le_of_ble_eq_true rfl⟩ hl.1 (Nat.le_of_ble_eq_true rfl) rfl ⟨by show cells + 0 ≤ 1112399; omega, by show slots + 0 ≤ 5764272; omega⟩ dL_law_830) (fun H locs g => ?_)
          refine lv_if_ge (tgt := 840) hx hb dL_law_833 (by decide) (fun c_833 => ?_) (fun c_833 => ?_)
          · refine lv_iconst (v := 0) hx hb dL_law_840 (by decide) ?_
            refine lv_icmp_ne (tgt := 875) hx hb dL_law_841 (by decide) (fun c9 => absurd rfl c9) (fun c_841 => ?_)
            refine lv_iload hx hb dL_law_844 (lv_at hl 1 rfl) ?_
            refine lv_if_le (tgt := 877) hx hb dL_law_846 (by decide) (fun c_846 => ?_) (fun c9 => absurd (by decide) c9)
            refine W.widen (k := cells + 0) (n := slots + 0) (by omega) (by omega) ?_
            exact K F5 (1 + z716) xr ((-1)) (nI z758) ((-1)) ((-1)) _ _ _ hS45 hI5 (by omega) (by omega) hru5 (Nx.sc hn8 hS5 (Or.inl ⟨rfl, rfl, nf_all hno⟩)) (On.sc hn8 hS5 (Or.inr ⟨z758, hz758, rfl, Or.inl ⟨rfl, hf1⟩⟩)) g (lv_sub hl [7, 8, 9, 10, 11, 12, 13, 14, 6, 5, 4, 3, 2, 1, 0] (by rw [hdue]; rfl))
          · refine lv_iconst (v := 1) hx hb dL_law_836 (by decide) ?_
            refine lv_goto (tgt := 841) hx hb dL_law_837 (by decide) ?_
            refine lv_icmp_ne (tgt := 875) hx hb dL_law_841 (by decide) (fun c9 => absurd (absurd ((ru_0 hru5).mpr (Int32.not_le.mp c_833)) c_821) c9) (fun c_841 => ?_)
            refine lv_iload hx hb dL_law_844 (lv_at hl 1 rfl) ?_
            refine lv_if_le (tgt := 877) hx hb dL_law_846 (by decide) (fun c_846 => ?_) (fun c9 => absurd (by decide) c9)
            refine W.widen (k := cells + 0) (n := slots + 0) (by omega) (by omega) ?_
            exact K F5 (1 + z716) xr ((-1)) (nI z758) ((-1)) ((-1)) _ _ _ hS45 hI5 (by omega) (by omega) hru5 (Nx.sc hn8 hS5 (Or.inl ⟨rfl, rfl, nf_all hno⟩)) (On.sc hn8 hS5 (Or.inr ⟨z758, hz758, rfl, Or.inl ⟨rfl, hf1⟩⟩)) g (lv_sub hl [7, 8, 9, 10, 11, 12, 13, 14, 6, 5, 4, 3, 2, 1, 0] (by rw [hdue]; rfl))
        · refine lv_iconst (v := 1) hx hb dL_law_824 (by decide) ?_
          refine lv_goto (tgt := 829) hx hb dL_law_825 (by decide) ?_
          refine lv_aload_n hx hb dL_law_829 rfl (lv_at hl 8 rfl) ?_
          refine x_ci (rest := [.int 1]) g (x_V (nA := 0) (As := []) S g (c_fund l G F5 0 ) (lw_V q335 q336 q337 q1 q338) ⟨rfl, by decide +kernel, by decide +kernel, by decide +kernel⟩ rfl ⟨Nat.le_of_ble_eq_true rfl, Nat.le_of_ble_eq_true rfl⟩ hl.1 (Nat.le_of_ble_eq_true rfl) rfl ⟨by show cells + 0 ≤ 1112399; omega, by show slots + 0 ≤ 5764272; omega⟩ dL_law_830) (fun H locs g => ?_)
          refine lv_if_ge (tgt := 840) hx hb dL_law_833 (by decide) (fun c_833 => ?_) (fun c_833 => ?_)
          · refine lv_iconst (v := 0) hx hb dL_law_840 (by decide) ?_
            refine lv_icmp_ne (tgt := 875) hx hb dL_law_841 (by decide) (fun c9 => absurd (absurd ((ru_0 hru5).mp c_821) (Int32.not_lt.mpr c_833)) c9) (fun c_841 => ?_)
            refine lv_iload hx hb dL_law_844 (lv_at hl 1 rfl) ?_
            refine lv_if_le (tgt := 877) hx hb dL_law_846 (by decide) (fun c_846 => ?_) (fun c9 => absurd (by decide) c9)
            refine W.widen (k := cells + 0) (n := slots + 0) (by omega) (by omega) ?_
            exact K F5 (1 + z716) xr ((-1)) (nI z758) ((-1)) ((-1)) _ _ _ hS45 hI5 (by omega) (by omega) hru5 (Nx.sc hn8 hS5 (Or.inl ⟨rfl, rfl, nf_all hno⟩)) (On.sc hn8 hS5 (Or.inr ⟨z758, hz758, rfl, Or.inl ⟨rfl, hf1⟩⟩)) g (lv_sub hl [7, 8, 9, 10, 11, 12, 13, 14, 6, 5, 4, 3, 2, 1, 0] (by rw [hdue]; rfl))
          · refine lv_iconst (v := 1) hx hb dL_law_836 (by decide) ?_
            refine lv_goto (tgt := 841) hx hb dL_law_837 (by decide) ?_
            refine lv_icmp_ne (tgt := 875) hx hb dL_law_841 (by decide) (fun c9 => absurd rfl c9) (fun c_841 => ?_)
            refine lv_iload hx hb dL_law_844 (lv_at hl 1 rfl) ?_
            refine lv_if_le (tgt := 877) hx hb dL_law_846 (by decide) (fun c_846 => ?_) (fun c9 => absurd (by decide) c9)
            refine W.widen (k := cells + 0) (n := slots + 0) (by omega) (by omega) ?_
            exact K F5 (1 + z716) xr ((-1)) (nI z758) ((-1)) ((-1)) _ _ _ hS45 hI5 (by omega) (by omega) hru5 (Nx.sc hn8 hS5 (Or.inl ⟨rfl, rfl, nf_all hno⟩)) (On.sc hn8 hS5 (Or.inr ⟨z758, hz758, rfl, Or.inl ⟨rfl, hf1⟩⟩)) g (lv_sub hl [7, 8, 9, 10, 11, 12, 13, 14, 6, 5, 4, 3, 2, 1, 0] (by rw [hdue]; rfl))
      · rw [ef1]
        refine lv_istore (lv' := [(21, .int (nI (m1 + 1))), (20, .int (nI z758)), (19, .int ((-1))), (18, .int xr), (17, .int (Hh F4 n h (1 + z716) 1 1)), (16, .int (nI (1 + z716))), (0, .ref b9), (1, .ref (gA G 0)), (2, .ref (A 0)), (3, .int (nI t)), (4, .int x), (5, .long D), (7, .int (nI n)), (8, .int (nI (h % 12)))]) hx hb dL_law_778 hl (by decide) rfl (fun ls hl => ?_)
        refine lv_iload hx hb dL_law_780 (lv_at hl 2 rfl) ?_
        refine lv_if_ge (tgt := 789) hx hb dL_law_782 (by decide) (fun c9 => absurd c9 (by decide)) (fun c_782 => ?_)
        refine lv_iconst (v := (-1)) hx hb dL_law_785 (by decide) ?_
        refine lv_goto (tgt := 795) hx hb dL_law_786 (by decide) ?_
        refine lv_istore (lv' := [(22, .int ((-1))), (21, .int (nI (m1 + 1))), (20, .int (nI z758)), (19, .int ((-1))), (18, .int xr), (17, .int (Hh F4 n h (1 + z716) 1 1)), (16, .int (nI (1 + z716))), (0, .ref b9), (1, .ref (gA G 0)), (2, .ref (A 0)), (3, .int (nI t)), (4, .int x), (5, .long D), (7, .int (nI n)), (8, .int (nI (h % 12)))]) hx hb dL_law_795 hl (by decide) rfl (fun ls hl => ?_)
        refine lv_aload_n hx hb dL_law_797 rfl (lv_at hl 8 rfl) ?_
        refine x_cl (rest := []) g (x_V (nA := 0) (As := []) S g (c_digest l G F4 0 n h hI4.ok hn8 (by omega)) (lw_V q398 q399 q400 q1 q401) ⟨rfl, by decide +kernel, by decide +kernel, by decide +kernel⟩ rfl ⟨Nat.le_of_ble_eq_true rfl, Nat.le_of_ble_eq_true rfl⟩ hl.1 (Nat.le_of_ble_eq_true rfl) rfl ⟨by show cells + 0 ≤ 1112399; omega, by show slots + 0 ≤ 5764272; omega⟩ dL_law_798) (fun H locs g => ?_)
        have hS5 := sc_dg F4 n h
        have hI5 := hI4.sc hS5
        have g := g.eqw (show _ = wld G (dgF F4 n h) 0 ++ (swl G A n (dgF F4 n h) 1 ++ []) from by rw [swl_sc G A hn8 hS5])
        have hru5 := hru.sc hn8 hS5
        have hdue : Hh F4 n h (1 + z716) 1 1 = Hh (dgF F4 n h) n h (1 + z716) 1 1 := (ag_1 (Hh_sc hn8 hS5 (1 + z716))).symm
        have hdg : dgI F4 n h = D := (dg_sc hn8 hS4).trans hD
        have hS45 := hS4.tr hS5
        generalize hF5 : dgF F4 n h = F5 at g hI5 hru5 hdue hS5 hS45
        refine lv_lload hx hb dL_law_801 (lv_at hl 12 rfl) ?_
        refine W.lcmp hx hb dL_law_803 ?_
        rw [show (lg_cmp (dgI F4 n h) D : Int32) = 0 from (by rw [hdg]; exact lg_self D)]
        refine lv_if_ne (tgt := 875) hx hb dL_law_804 (by decide) (fun c9 => absurd rfl c9) (fun c_804 => ?_)
        refine lv_iload hx hb dL_law_807 (lv_at hl 1 rfl) ?_
        refine lv_if_eq (tgt := 875) hx hb dL_law_809 (by decide) (fun c9 => absurd c9 (fun z9 => absurd ((nI_eq (a := (m1 + 1)) (b := 0) (by omega) (by omega)).mp z9) (by omega))) (fun c_809 => ?_)
        refine lv_iload hx hb dL_law_812 (lv_at hl 1 rfl) ?_
        refine lv_bipush (v := 100) hx hb dL_law_814 (by decide) ?_
        refine lv_icmp_gt (tgt := 875) hx hb dL_law_816 (by decide) (fun c9 => absurd c9 (fun z9 => absurd ((nI_ltI (a := 100) (b := (m1 + 1)) (by omega) (by omega)).mp z9) (by omega))) (fun c_816 => ?_)
        refine lv_iload hx hb dL_law_819 (lv_at hl 4 rfl) ?_
        refine lv_if_ne (tgt := 828) hx hb dL_law_821 (by decide) (fun c_821 => ?_) (fun c_821 => ?_)
        · refine lv_iconst (v := 0) hx hb dL_law_828 (by decide) ?_
          refine lv_aload_n hx hb dL_law_829 rfl (lv_at hl 8 rfl) ?_
          refine x_ci (rest := [.int 0]) g (x_V (nA := 0) (As := []) S g (c_fund l G F5 0 ) (lw_V q335 q336 q337 q1 q338) ⟨rfl, by decide +kernel, by decide +kernel, by decide +kernel⟩ rfl ⟨Nat.le_of_ble_eq_true rfl, Nat.le_of_ble_eq_true rfl⟩ hl.1 (Nat.le_of_ble_eq_true rfl) rfl ⟨by show cells + 0 ≤ 1112399; omega, by show slots + 0 ≤ 5764272; omega⟩ dL_law_830) (fun H locs g => ?_)
          refine lv_if_ge (tgt := 840) hx hb dL_law_833 (by decide) (fun c_833 => ?_) (fun c_833 => ?_)
          · refine lv_iconst (v := 0) hx hb dL_law_840 (by decide) ?_
            refine lv_icmp_ne (tgt := 875) hx hb dL_law_841 (by decide) (fun c9 => absurd rfl c9) (fun c_841 => ?_)
            refine lv_iload hx hb dL_law_844 (lv_at hl 1 rfl) ?_
            refine lv_if_le (tgt := 877) hx hb dL_law_846 (by decide) (fun c9 => absurd c9 (fun z9 => absurd ((nI_leI (a := (m1 + 1)) (b := 0) (by omega) (by omega)).mp z9) (by omega))) (fun c_846 => ?_)
            refine lv_iload hx hb dL_law_849 (lv_at hl 3 rfl) ?_
            refine lv_if_lt (tgt := 875) hx hb dL_law_851 (by decide) (fun c9 => absurd c9 (absurd hf1 (nf_all hno z758 hz758 m1 hm1))) (fun c_851 => ?_)
            refine lv_iload hx hb dL_law_854 (lv_at hl 0 rfl) ?_
            refine lv_iload hx hb dL_law_856 (lv_at hl 1 rfl) ?_
            refine lv_icmp_gt (tgt := 875) hx hb dL_law_858 (by decide) (fun c9 => absurd c9 (absurd hf1 (nf_all hno z758 hz758 m1 hm1))) (fun c_858 => ?_)
            refine lv_iload hx hb dL_law_861 (lv_at hl 0 rfl) ?_
            refine lv_iload hx hb dL_law_863 (lv_at hl 1 rfl) ?_
            refine lv_icmp_ne (tgt := 877) hx hb dL_law_865 (by decide) (fun c_865 => ?_) (fun c_865 => ?_)
            · refine W.widen (k := cells + 0) (n := slots + 0) (by omega) (by omega) ?_
              exact K F5 (1 + z716) xr ((-1)) (nI z758) (nI (m1 + 1)) ((-1)) _ _ _ hS45 hI5 (by omega) (by omega) hru5 (Nx.sc hn8 hS5 (Or.inl ⟨rfl, rfl, nf_all hno⟩)) (On.sc hn8 hS5 (Or.inr ⟨z758, hz758, rfl, Or.inr ⟨m1, hm1, rfl, hf1, hf2⟩⟩)) g (lv_sub hl [7, 8, 9, 10, 11, 12, 13, 14, 6, 5, 4, 3, 2, 1, 0] (by rw [hdue]; rfl))
            · refine lv_iload hx hb dL_law_868 (lv_at hl 2 rfl) ?_
              refine lv_iload hx hb dL_law_870 (lv_at hl 3 rfl) ?_
              refine lv_icmp_ge (tgt := 877) hx hb dL_law_872 (by decide) (fun c_872 => ?_) (fun c9 => absurd (absurd hf1 (nf_all hno z758 hz758 m1 hm1)) c9)
              refine W.widen (k := cells + 0) (n := slots + 0) (by omega) (by omega) ?_
              exact K F5 (1 + z716) xr ((-1)) (nI z758) (nI (m1 + 1)) ((-1)) _ _ _ hS45 hI5 (by omega) (by omega) hru5 (Nx.sc hn8 hS5 (Or.inl ⟨rfl, rfl, nf_all hno⟩)) (On.sc hn8 hS5 (Or.inr ⟨z758, hz758, rfl, Or.inr ⟨m1, hm1, rfl, hf1, hf2⟩⟩)) g (lv_sub hl [7, 8, 9, 10, 11, 12, 13, 14, 6, 5, 4, 3, 2, 1, 0] (by rw [hdue]; rfl))
          · refine lv_iconst (v := 1) hx hb dL_law_836 (by decide) ?_
            refine lv_goto (tgt := 841) hx hb dL_law_837 (by decide) ?_
            refine lv_icmp_ne (tgt := 875) hx hb dL_law_841 (by decide) (fun c9 => absurd (absurd ((ru_0 hru5).mpr (Int32.not_le.mp c_833)) c_821) c9) (fun c_841 => ?_)
            refine lv_iload hx hb dL_law_844 (lv_at hl 1 rfl) ?_
            refine lv_if_le (tgt := 877) hx hb dL_law_846 (by decide) (fun c9 => absurd c9 (fun z9 => absurd ((nI_leI (a := (m1 + 1)) (b := 0) (by omega) (by omega)).mp z9) (by omega))) (fun c_846 => ?_)
            refine lv_iload hx hb dL_law_849 (lv_at hl 3 rfl) ?_
            refine lv_if_lt (tgt := 875) hx hb dL_law_851 (by decide) (fun c9 => absurd c9 (absurd hf1 (nf_all hno z758 hz758 m1 hm1))) (fun c_851 => ?_)
            refine lv_iload hx hb dL_law_854 (lv_at hl 0 rfl) ?_
            refine lv_iload hx hb dL_law_856 (lv_at hl 1 rfl) ?_
            refine lv_icmp_gt (tgt := 875) hx hb dL_law_858 (by decide) (fun c9 => absurd c9 (absurd hf1 (nf_all hno z758 hz758 m1 hm1))) (fun c_858 => ?_)
            refine lv_iload hx hb dL_law_861 (lv_at hl 0 rfl) ?_
            refine lv_iload hx hb dL_law_863 (lv_at hl 1 rfl) ?_
            refine lv_icmp_ne (tgt := 877) hx hb dL_law_865 (by decide) (fun c_865 => ?_) (fun c_865 => ?_)
            · refine W.widen (k := cells + 0) (n := slots + 0) (by omega) (by omega) ?_
              exact K F5 (1 + z716) xr ((-1)) (nI z758) (nI (m1 + 1)) ((-1)) _ _ _ hS45 hI5 (by omega) (by omega) hru5 (Nx.sc hn8 hS5 (Or.inl ⟨rfl, rfl, nf_all hno⟩)) (On.sc hn8 hS5 (Or.inr ⟨z758, hz758, rfl, Or.inr ⟨m1, hm1, rfl, hf1, hf2⟩⟩)) g (lv_sub hl [7, 8, 9, 10, 11, 12, 13, 14, 6, 5, 4, 3, 2, 1, 0] (by rw [hdue]; rfl))
            · refine lv_iload hx hb dL_law_868 (lv_at hl 2 rfl) ?_
              refine lv_iload hx hb dL_law_870 (lv_at hl 3 rfl) ?_
              refine lv_icmp_ge (tgt := 877) hx hb dL_law_872 (by decide) (fun c_872 => ?_) (fun c9 => absurd (absurd hf1 (nf_all hno z758 hz758 m1 hm1)) c9)
              refine W.widen (k := cells + 0) (n := slots + 0) (by omega) (by omega) ?_
              exact K F5 (1 + z716) xr ((-1)) (nI z758) (nI (m1 + 1)) ((-1)) _ _ _ hS45 hI5 (by omega) (by omega) hru5 (Nx.sc hn8 hS5 (Or.inl ⟨rfl, rfl, nf_all hno⟩)) (On.sc hn8 hS5 (Or.inr ⟨z758, hz758, rfl, Or.inr ⟨m1, hm1, rfl, hf1, hf2⟩⟩)) g (lv_sub hl [7, 8, 9, 10, 11, 12, 13, 14, 6, 5, 4, 3, 2, 1, 0] (by rw [hdue]; rfl))
        · refine lv_iconst (v := 1) hx hb dL_law_824 (by decide) ?_
          refine lv_goto (tgt := 829) hx hb dL_law_825 (by decide) ?_
          refine lv_aload_n hx hb dL_law_829 rfl (lv_at hl 8 rfl) ?_
          refine x_ci (rest := [.int 1]) g (x_V (nA := 0) (As := []) S g (c_fund l G F5 0 ) (lw_V q335 q336 q337 q1 q338) ⟨rfl, by decide +kernel, by decide +kernel, by decide +kernel⟩ rfl ⟨Nat.le_of_ble_eq_true rfl, Nat.le_of_ble_eq_true rfl⟩ hl.1 (Nat.le_of_ble_eq_true rfl) rfl ⟨by show cells + 0 ≤ 1112399; omega, by show slots + 0 ≤ 5764272; omega⟩ dL_law_830) (fun H locs g => ?_)
          refine lv_if_ge (tgt := 840) hx hb dL_law_833 (by decide) (fun c_833 => ?_) (fun c_833 => ?_)
          · refine lv_iconst (v := 0) hx hb dL_law_840 (by decide) ?_
            refine lv_icmp_ne (tgt := 875) hx hb dL_law_841 (by decide) (fun c9 => absurd (absurd ((ru_0 hru5).mp c_821) (Int32.not_lt.mpr c_833)) c9) (fun c_841 => ?_)
            refine lv_iload hx hb dL_law_844 (lv_at hl 1 rfl) ?_
            refine lv_if_le (tgt := 877) hx hb dL_law_846 (by decide) (fun c9 => absurd c9 (fun z9 => absurd ((nI_leI (a := (m1 + 1)) (b := 0) (by omega) (by omega)).mp z9) (by omega))) (fun c_846 => ?_)
            refine lv_iload hx hb dL_law_849 (lv_at hl 3 rfl) ?_
            refine lv_if_lt (tgt := 875) hx hb dL_law_851 (by decide) (fun c9 => absurd c9 (absurd hf1 (nf_all hno z758 hz758 m1 hm1))) (fun c_851 => ?_)
            refine lv_iload hx hb dL_law_854 (lv_at hl 0 rfl) ?_
            refine lv_iload hx hb dL_law_856 (lv_at hl 1 rfl) ?_
            refine lv_icmp_gt (tgt := 875) hx hb dL_law_858 (by decide) (fun c9 => absurd c9 (absurd hf1 (nf_all hno z758 hz758 m1 hm1))) (fun c_858 => ?_)
            refine lv_iload hx hb dL_law_861 (lv_at hl 0 rfl) ?_
            refine lv_iload hx hb dL_law_863 (lv_at hl 1 rfl) ?_
            refine lv_icmp_ne (tgt := 877) hx hb dL_law_865 (by decide) (fun c_865 => ?_) (fun c_865 => ?_)
            · refine W.widen (k := cells + 0) (n := slots + 0) (by omega) (by omega) ?_
              exact K F5 (1 + z716) xr ((-1)) (nI z758) (nI (m1 + 1)) ((-1)) _ _ _ hS45 hI5 (by omega) (by omega) hru5 (Nx.sc hn8 hS5 (Or.inl ⟨rfl, rfl, nf_all hno⟩)) (On.sc hn8 hS5 (Or.inr ⟨z758, hz758, rfl, Or.inr ⟨m1, hm1, rfl, hf1, hf2⟩⟩)) g (lv_sub hl [7, 8, 9, 10, 11, 12, 13, 14, 6, 5, 4, 3, 2, 1, 0] (by rw [hdue]; rfl))
            · refine lv_iload hx hb dL_law_868 (lv_at hl 2 rfl) ?_
              refine lv_iload hx hb dL_law_870 (lv_at hl 3 rfl) ?_
              refine lv_icmp_ge (tgt := 877) hx hb dL_law_872 (by decide) (fun c_872 => ?_) (fun c9 => absurd (absurd hf1 (nf_all hno z758 hz758 m1 hm1)) c9)
              refine W.widen (k := cells + 0) (n := slots + 0) (by omega) (by omega) ?_
              exact K F5 (1 + z716) xr ((-1)) (nI z758) (nI (m1 + 1)) ((-1)) _ _ _ hS45 hI5 (by omega) (by omega) hru5 (Nx.sc hn8 hS5 (Or.inl ⟨rfl, rfl, nf_all hno⟩)) (On.sc hn8 hS5 (Or.inr ⟨z758, hz758, rfl, Or.inr ⟨m1, hm1, rfl, hf1, hf2⟩⟩)) g (lv_sub hl [7, 8, 9, 10, 11, 12, 13, 14, 6, 5, 4, 3, 2, 1, 0] (by rw [hdue]; rfl))
          · refine lv_iconst (v := 1) hx hb dL_law_836 (by decide) ?_
            refine lv_goto (tgt := 841) hx hb dL_law_837 (by decide) ?_
            refine lv_icmp_ne (tgt := 875) hx hb dL_law_841 (by decide) (fun c9 => absurd rfl c9) (fun c_841 => ?_)
            refine lv_iload hx hb dL_law_844 (lv_at hl 1 rfl) ?_
            refine lv_if_le (tgt := 877) hx hb dL_law_846 (by decide) (fun c9 => absurd c9 (fun z9 => absurd ((nI_leI (a := (m1 + 1)) (b := 0) (by omega) (by omega)).mp z9) (by omega))) (fun c_846 => ?_)
            refine lv_iload hx hb dL_law_849 (lv_at hl 3 rfl) ?_
            refine lv_if_lt (tgt := 875) hx hb dL_law_851 (by decide) (fun c9 => absurd c9 (absurd hf1 (nf_all hno z758 hz758 m1 hm1))) (fun c_851 => ?_)
            refine lv_iload hx hb dL_law_854 (lv_at hl 0 rfl) ?_
            refine lv_iload hx hb dL_law_856 (lv_at hl 1 rfl) ?_
            refine lv_icmp_gt (tgt := 875) hx hb dL_law_858 (by decide) (fun c9 => absurd c9 (absurd hf1 (nf_all hno z758 hz758 m1 hm1))) (fun c_858 => ?_)
            refine lv_iload hx hb dL_law_861 (lv_at hl 0 rfl) ?_
            refine lv_iload hx hb dL_law_863 (lv_at hl 1 rfl) ?_
            refine lv_icmp_ne (tgt := 877) hx hb dL_law_865 (by decide) (fun c_865 => ?_) (fun c_865 => ?_)
            · refine W.widen (k := cells + 0) (n := slots + 0) (by omega) (by omega) ?_
              exact K F5 (1 + z716) xr ((-1)) (nI z758) (nI (m1 + 1)) ((-1)) _ _ _ hS45 hI5 (by omega) (by omega) hru5 (Nx.sc hn8 hS5 (Or.inl ⟨rfl, rfl, nf_all hno⟩)) (On.sc hn8 hS5 (Or.inr ⟨z758, hz758, rfl, Or.inr ⟨m1, hm1, rfl, hf1, hf2⟩⟩)) g (lv_sub hl [7, 8, 9, 10, 11, 12, 13, 14, 6, 5, 4, 3, 2, 1, 0] (by rw [hdue]; rfl))
            · refine lv_iload hx hb dL_law_868 (lv_at hl 2 rfl) ?_
              refine lv_iload hx hb dL_law_870 (lv_at hl 3 rfl) ?_
              refine lv_icmp_ge (tgt := 877) hx hb dL_law_872 (by decide) (fun c_872 => ?_) (fun c9 => absurd (absurd hf1 (nf_all hno z758 hz758 m1 hm1)) c9)
              refine W.widen (k := cells + 0) (n := slots + 0) (by omega) (by omega) ?_
              exact K F5 (1 + z716) xr ((-1)) (nI z758) (nI (m1 + 1)) ((-1)) _ _ _ hS45 hI5 (by omega) (by omega) hru5 (Nx.sc hn8 hS5 (Or.inl ⟨rfl, rfl, nf_all hno⟩)) (On.sc hn8 hS5 (Or.inr ⟨z758, hz758, rfl, Or.inr ⟨m1, hm1, rfl, hf1, hf2⟩⟩)) g (lv_sub hl [7, 8, 9, 10, 11, 12, 13, 14, 6, 5, 4, 3, 2, 1, 0] (by rw [hdue]; rfl))
    · refine lv_iconst (v := (-1)) hx hb dL_law_747 (by decide) ?_
      refine lv_goto (tgt := 761) hx hb dL_law_748 (by decide) ?_
      refine lv_istore (lv' := [(20, .int ((-1))), (19, .int ((-1))), (18, .int xr), (17, .int (Hh F4 n h (1 + z716) 1 1)), (16, .int (nI (1 + z716))), (0, .ref b9), (1, .ref (gA G 0)), (2, .ref (A 0)), (3, .int (nI t)), (4, .int x), (5, .long D), (7, .int (nI n)), (8, .int (nI (h % 12)))]) hx hb dL_law_761 hl (by decide) rfl (fun ls hl => ?_)
      refine lv_iload hx hb dL_law_763 (lv_at hl 0 rfl) ?_
      refine lv_if_ge (tgt := 772) hx hb dL_law_765 (by decide) (fun c9 => absurd c9 (by decide)) (fun c_765 => ?_)
      refine lv_iconst (v := (-1)) hx hb dL_law_768 (by decide) ?_
      refine lv_goto (tgt := 778) hx hb dL_law_769 (by decide) ?_
      refine lv_istore (lv' := [(21, .int ((-1))), (20, .int ((-1))), (19, .int ((-1))), (18, .int xr), (17, .int (Hh F4 n h (1 + z716) 1 1)), (16, .int (nI (1 + z716))), (0, .ref b9), (1, .ref (gA G 0)), (2, .ref (A 0)), (3, .int (nI t)), (4, .int x), (5, .long D), (7, .int (nI n)), (8, .int (nI (h % 12)))]) hx hb dL_law_778 hl (by decide) rfl (fun ls hl => ?_)
      refine lv_iload hx hb dL_law_780 (lv_at hl 2 rfl) ?_
      refine lv_if_ge (tgt := 789) hx hb dL_law_782 (by decide) (fun c9 => absurd c9 (by decide)) (fun c_782 => ?_)
      refine lv_iconst (v := (-1)) hx hb dL_law_785 (by decide) ?_
      refine lv_goto (tgt := 795) hx hb dL_law_786 (by decide) ?_
      refine lv_istore (lv' := [(22, .int ((-1))), (21, .int ((-1))), (20, .int ((-1))), (19, .int ((-1))), (18, .int xr), (17, .int (Hh F4 n h (1 + z716) 1 1)), (16, .int (nI (1 + z716))), (0, .ref b9), (1, .ref (gA G 0)), (2, .ref (A 0)), (3, .int (nI t)), (4, .int x), (5, .long D), (7, .int (nI n)), (8, .int (nI (h % 12)))]) hx hb dL_law_795 hl (by decide) rfl (fun ls hl => ?_)
      refine lv_aload_n hx hb dL_law_797 rfl (lv_at hl 8 rfl) ?_
      refine x_cl (rest := []) g (x_V (nA := 0) (As := []) S g (c_digest l G F4 0 n h hI4.ok hn8 (by omega)) (lw_V q398 q399 q400 q1 q401) ⟨rfl, by decide +kernel, by decide +kernel, by decide +kernel⟩ rfl ⟨Nat.le_of_ble_eq_true rfl, Nat.le_of_ble_eq_true rfl⟩ hl.1 (Nat.le_of_ble_eq_true rfl) rfl ⟨by show cells + 0 ≤ 1112399; omega, by show slots + 0 ≤ 5764272; omega⟩ dL_law_798) (fun H locs g => ?_)
      have hS5 := sc_dg F4 n h
      have hI5 := hI4.sc hS5
      have g := g.eqw (show _ = wld G (dgF F4 n h) 0 ++ (swl G A n (dgF F4 n h) 1 ++ []) from by rw [swl_sc G A hn8 hS5])
      have hru5 := hru.sc hn8 hS5
      have hdue : Hh F4 n h (1 + z716) 1 1 = Hh (dgF F4 n h) n h (1 + z716) 1 1 := (ag_1 (Hh_sc hn8 hS5 (1 + z716))).symm
      have hdg : dgI F4 n h = D := (dg_sc hn8 hS4).trans hD
      have hS45 := hS4.tr hS5
      generalize hF5 : dgF F4 n h = F5 at g hI5 hru5 hdue hS5 hS45
      refine lv_lload hx hb dL_law_801 (lv_at hl 12 rfl) ?_
      refine W.lcmp hx hb dL_law_803 ?_
      rw [show (lg_cmp (dgI F4 n h) D : Int32) = 0 from (by rw [hdg]; exact lg_self D)]
      refine lv_if_ne (tgt := 875) hx hb dL_law_804 (by decide) (fun c9 => absurd rfl c9) (fun c_804 => ?_)
      refine lv_iload hx hb dL_law_807 (lv_at hl 1 rfl) ?_
      refine lv_if_eq (tgt := 875) hx hb dL_law_809 (by decide) (fun c9 => absurd c9 (by decide)) (fun c_809 => ?_)
      refine lv_iload hx hb dL_law_812 (lv_at hl 1 rfl) ?_
      refine lv_bipush (v := 100) hx hb dL_law_814 (by decide) ?_
      refine lv_icmp_gt (tgt := 875) hx hb dL_law_816 (by decide) (fun c9 => absurd c9 (by decide)) (fun c_816 => ?_)
      refine lv_iload hx hb dL_law_819 (lv_at hl 4 rfl) ?_
      refine lv_if_ne (tgt := 828) hx hb dL_law_821 (by decide) (fun c_821 => ?_) (fun c_821 => ?_)
      · refine lv_iconst (v := 0) hx hb dL_law_828 (by decide) ?_
        refine lv_aload_n hx hb dL_law_829 rfl (lv_at hl 8 rfl) ?_
        refine x_ci (rest := [.int 0]) g (x_V (nA := 0) (As := []) S g (c_fund l G F5 0 ) (lw_V q335 q336 q337 q1 q338) ⟨rfl, by decide +kernel, by decide +kernel, by decide +kernel⟩ rfl ⟨Nat.le_of_ble_eq_true rfl, Nat.le_of_ble_eq_true rfl⟩ hl.1 (Nat.le_of_ble_eq_true rfl) rfl ⟨by show cells + 0 ≤ 1112399; omega, by show slots + 0 ≤ 5764272; omega⟩ dL_law_830) (fun H locs g => ?_)
        refine lv_if_ge (tgt := 840) hx hb dL_law_833 (by decide) (fun c_833 => ?_) (fun c_833 => ?_)
        · refine lv_iconst (v := 0) hx hb dL_law_840 (by decide) ?_
          refine lv_icmp_ne (tgt := 875) hx hb dL_law_841 (by decide) (fun c9 => absurd rfl c9) (fun c_841 => ?_)
          refine lv_iload hx hb dL_law_844 (lv_at hl 1 rfl) ?_
          refine lv_if_le (tgt := 877) hx hb dL_law_846 (by decide) (fun c_846 => ?_) (fun c9 => absurd (by decide) c9)
          refine W.widen (k := cells + 0) (n := slots + 0) (by omega) (by omega) ?_
          exact K F5 (1 + z716) xr ((-1)) ((-1)) ((-1)) ((-1)) _ _ _ hS45 hI5 (by omega) (by omega) hru5 (Nx.sc hn8 hS5 (Or.inl ⟨rfl, rfl, nf_all hno⟩)) (Or.inl rfl) g (lv_sub hl [7, 8, 9, 10, 11, 12, 13, 14, 6, 5, 4, 3, 2, 1, 0] (by rw [hdue]; rfl))
        · refine lv_iconst (v := 1) hx hb dL_law_836 (by decide) ?_
          refine lv_goto (tgt := 841) hx hb dL_law_837 (by decide) ?_
          refine lv_icmp_ne (tgt := 875) hx hb dL_law_841 (by decide) (fun c9 => absurd (absurd ((ru_0 hru5).mpr (Int32.not_le.mp c_833)) c_821) c9) (fun c_841 => ?_)
          refine lv_iload hx hb dL_law_844 (lv_at hl 1 rfl) ?_
          refine lv_if_le (tgt := 877) hx hb dL_law_846 (by decide) (fun c_846 => ?_) (fun c9 => absurd (by decide) c9)
          refine W.widen (k := cells + 0) (n := slots + 0) (by omega) (by omega) ?_
          exact K F5 (1 + z716) xr ((-1)) ((-1)) ((-1)) ((-1)) _ _ _ hS45 hI5 (by omega) (by omega) hru5 (Nx.sc hn8 hS5 (Or.inl ⟨rfl, rfl, nf_all hno⟩)) (Or.inl rfl) g (lv_sub hl [7, 8, 9, 10, 11, 12, 13, 14, 6, 5, 4, 3, 2, 1, 0] (by rw [hdue]; rfl))
      · refine lv_iconst (v := 1) hx hb dL_law_824 (by decide) ?_
        refine lv_goto (tgt := 829) hx hb dL_law_825 (by decide) ?_
        refine lv_aload_n hx hb dL_law_829 rfl (lv_at hl 8 rfl) ?_
        refine x_ci (rest := [.int 1]) g (x_V (nA := 0) (As := []) S g (c_fund l G F5 0 ) (lw_V q335 q336 q337 q1 q338) ⟨rfl, by decide +kernel, by decide +kernel, by decide +kernel⟩ rfl ⟨Nat.le_of_ble_eq_true rfl, Nat.le_of_ble_eq_true rfl⟩ hl.1 (Nat.le_of_ble_eq_true rfl) rfl ⟨by show cells + 0 ≤ 1112399; omega, by show slots + 0 ≤ 5764272; omega⟩ dL_law_830) (fun H locs g => ?_)
        refine lv_if_ge (tgt := 840) hx hb dL_law_833 (by decide) (fun c_833 => ?_) (fun c_833 => ?_)
        · refine lv_iconst (v := 0) hx hb dL_law_840 (by decide) ?_
          refine lv_icmp_ne (tgt := 875) hx hb dL_law_841 (by decide) (fun c9 => absurd (absurd ((ru_0 hru5).mp c_821) (Int32.not_lt.mpr c_833)) c9) (fun c_841 => ?_)
          refine lv_iload hx hb dL_law_844 (lv_at hl 1 rfl) ?_
          refine lv_if_le (tgt := 877) hx hb dL_law_846 (by decide) (fun c_846 => ?_) (fun c9 => absurd (by decide) c9)
          refine W.widen (k := cells + 0) (n := slots + 0) (by omega) (by omega) ?_
          exact K F5 (1 + z716) xr ((-1)) ((-1)) ((-1)) ((-1)) _ _ _ hS45 hI5 (by omega) (by omega) hru5 (Nx.sc hn8 hS5 (Or.inl ⟨rfl, rfl, nf_all hno⟩)) (Or.inl rfl) g (lv_sub hl [7, 8, 9, 10, 11, 12, 13, 14, 6, 5, 4, 3, 2, 1, 0] (by rw [hdue]; rfl))
        · refine lv_iconst (v := 1) hx hb dL_law_836 (by decide) ?_
          refine lv_goto (tgt := 841) hx hb dL_law_837 (by decide) ?_
          refine lv_icmp_ne (tgt := 875) hx hb dL_law_841 (by decide) (fun c9 => absurd rfl c9) (fun c_841 => ?_)
          refine lv_iload hx hb dL_law_844 (lv_at hl 1 rfl) ?_
          refine lv_if_le (tgt := 877) hx hb dL_law_846 (by decide) (fun c_846 => ?_) (fun c9 => absurd (by decide) c9)
          refine W.widen (k := cells + 0) (n := slots + 0) (by omega) (by omega) ?_
          exact K F5 (1 + z716) xr ((-1)) ((-1)) ((-1)) ((-1)) _ _ _ hS45 hI5 (by omega) (by omega) hru5 (Nx.sc hn8 hS5 (Or.inl ⟨rfl, rfl, nf_all hno⟩)) (Or.inl rfl) g (lv_sub hl [7, 8, 9, 10, 11, 12, 13, 14, 6, 5, 4, 3, 2, 1, 0] (by rw [hdue]; rfl))
  · rw [en]
    refine lv_istore (lv' := [(19, .int (nI j0)), (18, .int xr), (17, .int (Hh F4 n h (1 + z716) 1 1)), (16, .int (nI (1 + z716))), (0, .ref b9), (1, .ref (gA G 0)), (2, .ref (A 0)), (3, .int (nI t)), (4, .int x), (5, .long D), (7, .int (nI n)), (8, .int (nI (h % 12)))]) hx hb dL_law_740 hl (by decide) rfl (fun ls hl => ?_)
    refine lv_iload hx hb dL_law_742 (lv_at hl 10 rfl) ?_
    refine lv_if_ne (tgt := 751) hx hb dL_law_744 (by decide) (fun c_744 => ?_) (fun c_744 => ?_)
    · have hnp : 1 ≤ n := by rcases Nat.eq_zero_or_pos n with e9 | e9; (· exact absurd (by rw [e9]; rfl) c_744); (· exact e9)
      refine lv_iload hx hb dL_law_751 (lv_at hl 8 rfl) ?_
      refine lv_bipush (v := 7) hx hb dL_law_753 (by decide) ?_
      refine lv_ishr hx hb dL_law_755 ?_
      refine lv_topi (fun vz755_4 evz755_4 => ?_)
      refine lv_iload hx hb dL_law_756 (lv_at hl 10 rfl) ?_
      have g := g.eqw (List.nil_append _).symm
      refine y_ci (rest := []) (wc := []) g (y_S (nA := 2) (As := [.int vz755_4, .int (nI n)]) (wc := []) S g (d_below l G vz755_4 n (by omega) (by omega)) (lw_S q526 q527 q0 q528) ⟨by decide +kernel, by decide +kernel, by decide +kernel⟩ rfl ⟨Nat.le_of_ble_eq_true rfl, Nat.le_of_ble_eq_true rfl⟩ hl.1 (Nat.le_of_ble_eq_true rfl) rfl ⟨by show cells + 0 ≤ 1112399; omega, by show slots + 0 ≤ 5764272; omega⟩ dL_law_758) (fun r9 u758_5 H locs hp9 g => ?_)
      have g := g.eqw (List.nil_append _)
      obtain ⟨z758, hz758, ez758⟩ := hp9
      subst ez758
      refine lv_istore (lv' := [(20, .int (nI z758)), (19, .int (nI j0)), (18, .int xr), (17, .int (Hh F4 n h (1 + z716) 1 1)), (16, .int (nI (1 + z716))), (0, .ref b9), (1, .ref (gA G 0)), (2, .ref (A 0)), (3, .int (nI t)), (4, .int x), (5, .long D), (7, .int (nI n)), (8, .int (nI (h % 12)))]) hx hb dL_law_761 hl (by decide) rfl (fun ls hl => ?_)
      refine lv_iload hx hb dL_law_763 (lv_at hl 0 rfl) ?_
      refine lv_if_ge (tgt := 772) hx hb dL_law_765 (by decide) (fun c_765 => ?_) (fun c9 => absurd (nI_pos' (by omega)) c9)
      refine lv_aload_n hx hb dL_law_772 rfl (lv_at hl 6 rfl) ?_
      refine lv_iload hx hb dL_law_773 (lv_at hl 0 rfl) ?_
      refine x_ci (rest := []) g (x_V (nA := 1) (As := [.int (nI z758)]) S g (c_hoursUntilFall_ok l G F4 0 z758 n h hI4.c6 hz758 hn8 hI4.c0 (by omega)) (lw_V q355 q356 q357 q1 q358) ⟨rfl, by decide +kernel, by decide +kernel, by decide +kernel⟩ rfl ⟨Nat.le_of_ble_eq_true rfl, Nat.le_of_ble_eq_true rfl⟩ hl.1 (Nat.le_of_ble_eq_true rfl) rfl ⟨by show cells + 0 ≤ 1112399; omega, by show slots + 0 ≤ 5764272; omega⟩ dL_law_775) (fun H locs g => ?_)
      rcases fa_spec (F := F4) (n := n) (h := h) (j := z758) hz758 with ⟨ef1, hf1⟩ | ⟨m1, hm1, ef1, hf1, hf2⟩
      · rw [ef1]
        refine lv_istore (lv' := [(21, .int ((-1))), (20, .int (nI z758)), (19, .int (nI j0)), (18, .int xr), (17, .int (Hh F4 n h (1 + z716) 1 1)), (16, .int (nI (1 + z716))), (0, .ref b9), (1, .ref (gA G 0)), (2, .ref (A 0)), (3, .int (nI t)), (4, .int x), (5, .long D), (7, .int (nI n)), (8, .int (nI (h % 12)))]) hx hb dL_law_778 hl (by decide) rfl (fun ls hl => ?_)
        refine lv_iload hx hb dL_law_780 (lv_at hl 2 rfl) ?_
        refine lv_if_ge (tgt := 789) hx hb dL_law_782 (by decide) (fun c_782 => ?_) (fun c9 => absurd (nI_pos' (by omega)) c9)
        refine lv_aload_n hx hb dL_law_789 rfl (lv_at hl 7 rfl) ?_
        refine lv_iload hx hb dL_law_790 (lv_at hl 2 rfl) ?_
        refine x_ci (rest := []) g (x_V (nA := 1) (As := [.int (nI j0)]) S g (c_hoursUntilFall_ok l G F4 0 j0 n h hI4.c6 hj0 hn8 hI4.c0 (by omega)) (lw_V q355 q356 q357 q1 q358) ⟨rfl, by decide +kernel, by decide +kernel, by decide +kernel⟩ rfl ⟨Nat.le_of_ble_eq_true rfl, Nat.le_of_ble_eq_true rfl⟩ hl.1 (Nat.le_of_ble_eq_true rfl) rfl ⟨by show cells + 0 ≤ 1112399; omega, by show slots + 0 ≤ 5764272; omega⟩ dL_law_792) (fun H locs g => ?_)
        rw [show (fbI F4 (wb 1 j0) h : Int32) = nI (m0 + 1) from ef0]
        refine lv_istore (lv' := [(22, .int (nI (m0 + 1))), (21, .int ((-1))), (20, .int (nI z758)), (19, .int (nI j0)), (18, .int xr), (17, .int (Hh F4 n h (1 + z716) 1 1)), (16, .int (nI (1 + z716))), (0, .ref b9), (1, .ref (gA G 0)), (2, .ref (A 0)), (3, .int (nI t)), (4, .int x), (5, .long D), (7, .int (nI n)), (8, .int (nI (h % 12)))]) hx hb dL_law_795 hl (by decide) rfl (fun ls hl => ?_)
        refine lv_aload_n hx hb dL_law_797 rfl (lv_at hl 8 rfl) ?_
        refine x_cl (rest := []) g (x_V (nA := 0) (As := []) S g (c_digest l G F4 0 n h hI4.ok hn8 (by omega)) (lw_V q398 q399 q400 q1 q401) ⟨rfl, by decide +kernel, by decide +kernel, by decide +kernel⟩ rfl ⟨Nat.le_of_ble_eq_true rfl, Nat.le_of_ble_eq_true rfl⟩ hl.1 (Nat.le_of_ble_eq_true rfl) rfl ⟨by show cells + 0 ≤ 1112399; omega, by show slots + 0 ≤ 5764272; omega⟩ dL_law_798) (fun H locs g => ?_)
        have hS5 := sc_dg F4 n h
        have hI5 := hI4.sc hS5
        have g := g.eqw (show _ = wld G (dgF F4 n h) 0 ++ (swl G A n (dgF F4 n h) 1 ++ []) from by rw [swl_sc G A hn8 hS5])
        have hru5 := hru.sc hn8 hS5
        have hdue : Hh F4 n h (1 + z716) 1 1 = Hh (dgF F4 n h) n h (1 + z716) 1 1 := (ag_1 (Hh_sc hn8 hS5 (1 + z716))).symm
        have hdg : dgI F4 n h = D := (dg_sc hn8 hS4).trans hD
        have hS45 := hS4.tr hS5
        generalize hF5 : dgF F4 n h = F5 at g hI5 hru5 hdue hS5 hS45
        refine lv_lload hx hb dL_law_801 (lv_at hl 12 rfl) ?_
        refine W.lcmp hx hb dL_law_803 ?_
        rw [show (lg_cmp (dgI F4 n h) D : Int32) = 0 from (by rw [hdg]; exact lg_self D)]
        refine lv_if_ne (tgt := 875) hx hb dL_law_804 (by decide) (fun c9 => absurd rfl c9) (fun c_804 => ?_)
        refine lv_iload hx hb dL_law_807 (lv_at hl 1 rfl) ?_
        refine lv_if_eq (tgt := 875) hx hb dL_law_809 (by decide) (fun c9 => absurd c9 (by decide)) (fun c_809 => ?_)
        refine lv_iload hx hb dL_law_812 (lv_at hl 1 rfl) ?_
        refine lv_bipush (v := 100) hx hb dL_law_814 (by decide) ?_
        refine lv_icmp_gt (tgt := 875) hx hb dL_law_816 (by decide) (fun c9 => absurd c9 (by decide)) (fun c_816 => ?_)
        refine lv_iload hx hb dL_law_819 (lv_at hl 4 rfl) ?_
        refine lv_if_ne (tgt := 828) hx hb dL_law_821 (by decide) (fun c_821 => ?_) (fun c_821 => ?_)
        · refine lv_iconst (v := 0) hx hb dL_law_828 (by decide) ?_
          refine lv_aload_n hx hb dL_law_829 rfl (lv_at hl 8 rfl) ?_
          refine x_ci (rest := [.int 0]) g (x_V (nA := 0) (As := []) S g (c_fund l G F5 0 ) (lw_V q335 q336 q337 q1 q338) ⟨rfl, by decide +kernel, by decide +kernel, by decide +kernel⟩ rfl ⟨Nat.le_of_ble_eq_true rfl, Nat.le_of_ble_eq_true rfl⟩ hl.1 (Nat.le_of_ble_eq_true rfl) rfl ⟨by show cells + 0 ≤ 1112399; omega, by show slots + 0 ≤ 5764272; omega⟩ dL_law_830) (fun H locs g => ?_)
          refine lv_if_ge (tgt := 840) hx hb dL_law_833 (by decide) (fun c_833 => ?_) (fun c_833 => ?_)
          · refine lv_iconst (v := 0) hx hb dL_law_840 (by decide) ?_
            refine lv_icmp_ne (tgt := 875) hx hb dL_law_841 (by decide) (fun c9 => absurd rfl c9) (fun c_841 => ?_)
            refine lv_iload hx hb dL_law_844 (lv_at hl 1 rfl) ?_
            refine lv_if_le (tgt := 877) hx hb dL_law_846 (by decide) (fun c_846 => ?_) (fun c9 => absurd (by decide) c9)
            refine W.widen (k := cells + 0) (n := slots + 0) (by omega) (by omega) ?_
            exact K F5 (1 + z716) xr (nI j0) (nI z758) ((-1)) (nI (m0 + 1)) _ _ _ hS45 hI5 (by omega) (by omega) hru5 (Nx.sc hn8 hS5 (Or.inr ⟨j0, m0, hj0, hm0, rfl, rfl, hq1, hq2, hq3⟩)) (On.sc hn8 hS5 (Or.inr ⟨z758, hz758, rfl, Or.inl ⟨rfl, hf1⟩⟩)) g (lv_sub hl [7, 8, 9, 10, 11, 12, 13, 14, 6, 5, 4, 3, 2, 1, 0] (by rw [hdue]; rfl))
          · refine lv_iconst (v := 1) hx hb dL_law_836 (by decide) ?_
            refine lv_goto (tgt := 841) hx hb dL_law_837 (by decide) ?_
            refine lv_icmp_ne (tgt := 875) hx hb dL_law_841 (by decide) (fun c9 => absurd (absurd ((ru_0 hru5).mpr (Int32.not_le.mp c_833)) c_821) c9) (fun c_841 => ?_)
            refine lv_iload hx hb dL_law_844 (lv_at hl 1 rfl) ?_
            refine lv_if_le (tgt := 877) hx hb dL_law_846 (by decide) (fun c_846 => ?_) (fun c9 => absurd (by decide) c9)
            refine W.widen (k := cells + 0) (n := slots + 0) (by omega) (by omega) ?_
            exact K F5 (1 + z716) xr (nI j0) (nI z758) ((-1)) (nI (m0 + 1)) _ _ _ hS45 hI5 (by omega) (by omega) hru5 (Nx.sc hn8 hS5 (Or.inr ⟨j0, m0, hj0, hm0, rfl, rfl, hq1, hq2, hq3⟩)) (On.sc hn8 hS5 (Or.inr ⟨z758, hz758, rfl, Or.inl ⟨rfl, hf1⟩⟩)) g (lv_sub hl [7, 8, 9, 10, 11, 12, 13, 14, 6, 5, 4, 3, 2, 1, 0] (by rw [hdue]; rfl))
        · refine lv_iconst (v := 1) hx hb dL_law_824 (by decide) ?_
          refine lv_goto (tgt := 829) hx hb dL_law_825 (by decide) ?_
          refine lv_aload_n hx hb dL_law_829 rfl (lv_at hl 8 rfl) ?_
          refine x_ci (rest := [.int 1]) g (x_V (nA := 0) (As := []) S g (c_fund l G F5 0 ) (lw_V q335 q336 q337 q1 q338) ⟨rfl, by decide +kernel, by decide +kernel, by decide +kernel⟩ rfl ⟨Nat.le_of_ble_eq_true rfl, Nat.le_of_ble_eq_true rfl⟩ hl.1 (Nat.le_of_ble_eq_true rfl) rfl ⟨by show cells + 0 ≤ 1112399; omega, by show slots + 0 ≤ 5764272; omega⟩ dL_law_830) (fun H locs g => ?_)
          refine lv_if_ge (tgt := 840) hx hb dL_law_833 (by decide) (fun c_833 => ?_) (fun c_833 => ?_)
          · refine lv_iconst (v := 0) hx hb dL_law_840 (by decide) ?_
            refine lv_icmp_ne (tgt := 875) hx hb dL_law_841 (by decide) (fun c9 => absurd (absurd ((ru_0 hru5).mp c_821) (Int32.not_lt.mpr c_833)) c9) (fun c_841 => ?_)
            refine lv_iload hx hb dL_law_844 (lv_at hl 1 rfl) ?_
            refine lv_if_le (tgt := 877) hx hb dL_law_846 (by decide) (fun c_846 => ?_) (fun c9 => absurd (by decide) c9)
            refine W.widen (k := cells + 0) (n := slots + 0) (by omega) (by omega) ?_
            exact K F5 (1 + z716) xr (nI j0) (nI z758) ((-1)) (nI (m0 + 1)) _ _ _ hS45 hI5 (by omega) (by omega) hru5 (Nx.sc hn8 hS5 (Or.inr ⟨j0, m0, hj0, hm0, rfl, rfl, hq1, hq2, hq3⟩)) (On.sc hn8 hS5 (Or.inr ⟨z758, hz758, rfl, Or.inl ⟨rfl, hf1⟩⟩)) g (lv_sub hl [7, 8, 9, 10, 11, 12, 13, 14, 6, 5, 4, 3, 2, 1, 0] (by rw [hdue]; rfl))
          · refine lv_iconst (v := 1) hx hb dL_law_836 (by decide) ?_
            refine lv_goto (tgt := 841) hx hb dL_law_837 (by decide) ?_
            refine lv_icmp_ne (tgt := 875) hx hb dL_law_841 (by decide) (fun c9 => absurd rfl c9) (fun c_841 => ?_)
            refine lv_iload hx hb dL_law_844 (lv_at hl 1 rfl) ?_
            refine lv_if_le (tgt := 877) hx hb dL_law_846 (by decide) (fun c_846 => ?_) (fun c9 => absurd (by decide) c9)
            refine W.widen (k := cells + 0) (n := slots + 0) (by omega) (by omega) ?_
            exact K F5 (1 + z716) xr (nI j0) (nI z758) ((-1)) (nI (m0 + 1)) _ _ _ hS45 hI5 (by omega) (by omega) hru5 (Nx.sc hn8 hS5 (Or.inr ⟨j0, m0, hj0, hm0, rfl, rfl, hq1, hq2, hq3⟩)) (On.sc hn8 hS5 (Or.inr ⟨z758, hz758, rfl, Or.inl ⟨rfl, hf1⟩⟩)) g (lv_sub hl [7, 8, 9, 10, 11, 12, 13, 14, 6, 5, 4, 3, 2, 1, 0] (by rw [hdue]; rfl))
      · rw [ef1]
        refine lv_istore (lv' := [(21, .int (nI (m1 + 1))), (20, .int (nI z758)), (19, .int (nI j0)), (18, .int xr), (17, .int (Hh F4 n h (1 + z716) 1 1)), (16, .int (nI (1 + z716))), (0, .ref b9), (1, .ref (gA G 0)), (2, .ref (A 0)), (3, .int (nI t)), (4, .int x), (5, .long D), (7, .int (nI n)), (8, .int (nI (h % 12)))]) hx hb dL_law_778 hl (by decide) rfl (fun ls hl => ?_)
        refine lv_iload hx hb dL_law_780 (lv_at hl 2 rfl) ?_
        refine lv_if_ge (tgt := 789) hx hb dL_law_782 (by decide) (fun c_782 => ?_) (fun c9 => absurd (nI_pos' (by omega)) c9)
        refine lv_aload_n hx hb dL_law_789 rfl (lv_at hl 7 rfl) ?_
        refine lv_iload hx hb dL_law_790 (lv_at hl 2 rfl) ?_
        refine x_ci (rest := []) g (x_V (nA := 1) (As := [.int (nI j0)]) S g (c_hoursUntilFall_ok l G F4 0 j0 n h hI4.c6 hj0 hn8 hI4.c0 (by omega)) (lw_V q355 q356 q357 q1 q358) ⟨rfl, by decide +kernel, by decide +kernel, by decide +kernel⟩ rfl ⟨Nat.le_of_ble_eq_true rfl, Nat.le_of_ble_eq_true rfl⟩ hl.1 (Nat.le_of_ble_eq_true rfl) rfl ⟨by show cells + 0 ≤ 1112399; omega, by show slots + 0 ≤ 5764272; omega⟩ dL_law_792) (fun H locs g => ?_)
        rw [show (fbI F4 (wb 1 j0) h : Int32) = nI (m0 + 1) from ef0]
        refine lv_istore (lv' := [(22, .int (nI (m0 + 1))), (21, .int (nI (m1 + 1))), (20, .int (nI z758)), (19, .int (nI j0)), (18, .int xr), (17, .int (Hh F4 n h (1 + z716) 1 1)), (16, .int (nI (1 + z716))), (0, .ref b9), (1, .ref (gA G 0)), (2, .ref (A 0)), (3, .int (nI t)), (4, .int x), (5, .long D), (7, .int (nI n)), (8, .int (nI (h % 12)))]) hx hb dL_law_795 hl (by decide) rfl (fun ls hl => ?_)
        refine lv_aload_n hx hb dL_law_797 rfl (lv_at hl 8 rfl) ?_
        refine x_cl (rest := []) g (x_V (nA := 0) (As := []) S g (c_digest l G F4 0 n h hI4.ok hn8 (by omega)) (lw_V q398 q399 q400 q1 q401) ⟨rfl, by decide +kernel, by decide +kernel, by decide +kernel⟩ rfl ⟨Nat.le_of_ble_eq_true rfl, Nat.le_of_ble_eq_true rfl⟩ hl.1 (Nat.le_of_ble_eq_true rfl) rfl ⟨by show cells + 0 ≤ 1112399; omega, by show slots + 0 ≤ 5764272; omega⟩ dL_law_798) (fun H locs g => ?_)
        have hS5 := sc_dg F4 n h
        have hI5 := hI4.sc hS5
        have g := g.eqw (show _ = wld G (dgF F4 n h) 0 ++ (swl G A n (dgF F4 n h) 1 ++ []) from by rw [swl_sc G A hn8 hS5])
        have hru5 := hru.sc hn8 hS5
        have hdue : Hh F4 n h (1 + z716) 1 1 = Hh (dgF F4 n h) n h (1 + z716) 1 1 := (ag_1 (Hh_sc hn8 hS5 (1 + z716))).symm
        have hdg : dgI F4 n h = D := (dg_sc hn8 hS4).trans hD
        have hS45 := hS4.tr hS5
        generalize hF5 : dgF F4 n h = F5 at g hI5 hru5 hdue hS5 hS45
        refine lv_lload hx hb dL_law_801 (lv_at hl 12 rfl) ?_
        refine W.lcmp hx hb dL_law_803 ?_
        rw [show (lg_cmp (dgI F4 n h) D : Int32) = 0 from (by rw [hdg]; exact lg_self D)]
        refine lv_if_ne (tgt := 875) hx hb dL_law_804 (by decide) (fun c9 => absurd rfl c9) (fun c_804 => ?_)
        refine lv_iload hx hb dL_law_807 (lv_at hl 1 rfl) ?_
        refine lv_if_eq (tgt := 875) hx hb dL_law_809 (by decide) (fun c9 => absurd c9 (fun z9 => absurd ((nI_eq (a := (m1 + 1)) (b := 0) (by omega) (by omega)).mp z9) (by omega))) (fun c_809 => ?_)
        refine lv_iload hx hb dL_law_812 (lv_at hl 1 rfl) ?_
        refine lv_bipush (v := 100) hx hb dL_law_814 (by decide) ?_
        refine lv_icmp_gt (tgt := 875) hx hb dL_law_816 (by decide) (fun c9 => absurd c9 (fun z9 => absurd ((nI_ltI (a := 100) (b := (m1 + 1)) (by omega) (by omega)).mp z9) (by omega))) (fun c_816 => ?_)
        refine lv_iload hx hb dL_law_819 (lv_at hl 4 rfl) ?_
        refine lv_if_ne (tgt := 828) hx hb dL_law_821 (by decide) (fun c_821 => ?_) (fun c_821 => ?_)
        · refine lv_iconst (v := 0) hx hb dL_law_828 (by decide) ?_
          refine lv_aload_n hx hb dL_law_829 rfl (lv_at hl 8 rfl) ?_
          refine x_ci (rest := [.int 0]) g (x_V (nA := 0) (As := []) S g (c_fund l G F5 0 ) (lw_V q335 q336 q337 q1 q338) ⟨rfl, by decide +kernel, by decide +kernel, by decide +kernel⟩ rfl ⟨Nat.le_of_ble_eq_true rfl, Nat.le_of_ble_eq_true rfl⟩ hl.1 (Nat.le_of_ble_eq_true rfl) rfl ⟨by show cells + 0 ≤ 1112399; omega, by show slots + 0 ≤ 5764272; omega⟩ dL_law_830) (fun H locs g => ?_)
          refine lv_if_ge (tgt := 840) hx hb dL_law_833 (by decide) (fun c_833 => ?_) (fun c_833 => ?_)
          · refine lv_iconst (v := 0) hx hb dL_law_840 (by decide) ?_
            refine lv_icmp_ne (tgt := 875) hx hb dL_law_841 (by decide) (fun c9 => absurd rfl c9) (fun c_841 => ?_)
            refine lv_iload hx hb dL_law_844 (lv_at hl 1 rfl) ?_
            refine lv_if_le (tgt := 877) hx hb dL_law_846 (by decide) (fun c9 => absurd c9 (fun z9 => absurd ((nI_leI (a := (m1 + 1)) (b := 0) (by omega) (by omega)).mp z9) (by omega))) (fun c_846 => ?_)
            refine lv_iload hx hb dL_law_849 (lv_at hl 3 rfl) ?_
            refine lv_if_lt (tgt := 875) hx hb dL_law_851 (by decide) (fun c9 => absurd c9 (nI_pos (by omega))) (fun c_851 => ?_)
            refine lv_iload hx hb dL_law_854 (lv_at hl 0 rfl) ?_
            refine lv_iload hx hb dL_law_856 (lv_at hl 1 rfl) ?_
            refine lv_icmp_gt (tgt := 875) hx hb dL_law_858 (by decide) (fun c9 => absurd c9 (fun z9 => absurd ((nI_ltI (a := (m1 + 1)) (b := (m0 + 1)) (by omega) (by omega)).mp z9) (by have := nx_le (j0 := j0) hq1 hz758 hf1; omega))) (fun c_858 => ?_)
            refine lv_iload hx hb dL_law_861 (lv_at hl 0 rfl) ?_
            refine lv_iload hx hb dL_law_863 (lv_at hl 1 rfl) ?_
            refine lv_icmp_ne (tgt := 877) hx hb dL_law_865 (by decide) (fun c_865 => ?_) (fun c_865 => ?_)
            · refine W.widen (k := cells + 0) (n := slots + 0) (by omega) (by omega) ?_
              exact K F5 (1 + z716) xr (nI j0) (nI z758) (nI (m1 + 1)) (nI (m0 + 1)) _ _ _ hS45 hI5 (by omega) (by omega) hru5 (Nx.sc hn8 hS5 (Or.inr ⟨j0, m0, hj0, hm0, rfl, rfl, hq1, hq2, hq3⟩)) (On.sc hn8 hS5 (Or.inr ⟨z758, hz758, rfl, Or.inr ⟨m1, hm1, rfl, hf1, hf2⟩⟩)) g (lv_sub hl [7, 8, 9, 10, 11, 12, 13, 14, 6, 5, 4, 3, 2, 1, 0] (by rw [hdue]; rfl))
            · refine lv_iload hx hb dL_law_868 (lv_at hl 2 rfl) ?_
              refine lv_iload hx hb dL_law_870 (lv_at hl 3 rfl) ?_
              refine lv_icmp_ge (tgt := 877) hx hb dL_law_872 (by decide) (fun c_872 => ?_) (fun c9 => absurd (nI_le (nx_le2 hq2 hf1 (by have := (nI_eq (by omega) (by omega)).mp c_865; omega)) (by omega)) c9)
              refine W.widen (k := cells + 0) (n := slots + 0) (by omega) (by omega) ?_
              exact K F5 (1 + z716) xr (nI j0) (nI z758) (nI (m1 + 1)) (nI (m0 + 1)) _ _ _ hS45 hI5 (by omega) (by omega) hru5 (Nx.sc hn8 hS5 (Or.inr ⟨j0, m0, hj0, hm0, rfl, rfl, hq1, hq2, hq3⟩)) (On.sc hn8 hS5 (Or.inr ⟨z758, hz758, rfl, Or.inr ⟨m1, hm1, rfl, hf1, hf2⟩⟩)) g (lv_sub hl [7, 8, 9, 10, 11, 12, 13, 14, 6, 5, 4, 3, 2, 1, 0] (by rw [hdue]; rfl))
          · refine lv_iconst (v := 1) hx hb dL_law_836 (by decide) ?_
            refine lv_goto (tgt := 841) hx hb dL_law_837 (by decide) ?_
            refine lv_icmp_ne (tgt := 875) hx hb dL_law_841 (by decide) (fun c9 => absurd (absurd ((ru_0 hru5).mpr (Int32.not_le.mp c_833)) c_821) c9) (fun c_841 => ?_)
            refine lv_iload hx hb dL_law_844 (lv_at hl 1 rfl) ?_
            refine lv_if_le (tgt := 877) hx hb dL_law_846 (by decide) (fun c9 => absurd c9 (fun z9 => absurd ((nI_leI (a := (m1 + 1)) (b := 0) (by omega) (by omega)).mp z9) (by omega))) (fun c_846 => ?_)
            refine lv_iload hx hb dL_law_849 (lv_at hl 3 rfl) ?_
            refine lv_if_lt (tgt := 875) hx hb dL_law_851 (by decide) (fun c9 => absurd c9 (nI_pos (by omega))) (fun c_851 => ?_)
            refine lv_iload hx hb dL_law_854 (lv_at hl 0 rfl) ?_
            refine lv_iload hx hb dL_law_856 (lv_at hl 1 rfl) ?_
            refine lv_icmp_gt (tgt := 875) hx hb dL_law_858 (by decide) (fun c9 => absurd c9 (fun z9 => absurd ((nI_ltI (a := (m1 + 1)) (b := (m0 + 1)) (by omega) (by omega)).mp z9) (by have := nx_le (j0 := j0) hq1 hz758 hf1; omega))) (fun c_858 => ?_)
            refine lv_iload hx hb dL_law_861 (lv_at hl 0 rfl) ?_
            refine lv_iload hx hb dL_law_863 (lv_at hl 1 rfl) ?_
            refine lv_icmp_ne (tgt := 877) hx hb dL_law_865 (by decide) (fun c_865 => ?_) (fun c_865 => ?_)
            · refine W.widen (k := cells + 0) (n := slots + 0) (by omega) (by omega) ?_
              exact K F5 (1 + z716) xr (nI j0) (nI z758) (nI (m1 + 1)) (nI (m0 + 1)) _ _ _ hS45 hI5 (by omega) (by omega) hru5 (Nx.sc hn8 hS5 (Or.inr ⟨j0, m0, hj0, hm0, rfl, rfl, hq1, hq2, hq3⟩)) (On.sc hn8 hS5 (Or.inr ⟨z758, hz758, rfl, Or.inr ⟨m1, hm1, rfl, hf1, hf2⟩⟩)) g (lv_sub hl [7, 8, 9, 10, 11, 12, 13, 14, 6, 5, 4, 3, 2, 1, 0] (by rw [hdue]; rfl))
            · refine lv_iload hx hb dL_law_868 (lv_at hl 2 rfl) ?_
              refine lv_iload hx hb dL_law_870 (lv_at hl 3 rfl) ?_
              refine lv_icmp_ge (tgt := 877) hx hb dL_law_872 (by decide) (fun c_872 => ?_) (fun c9 => absurd (nI_le (nx_le2 hq2 hf1 (by have := (nI_eq (by omega) (by omega)).mp c_865; omega)) (by omega)) c9)
              refine W.widen (k := cells + 0) (n := slots + 0) (by omega) (by omega) ?_
              exact K F5 (1 + z716) xr (nI j0) (nI z758) (nI (m1 + 1)) (nI (m0 + 1)) _ _ _ hS45 hI5 (by omega) (by omega) hru5 (Nx.sc hn8 hS5 (Or.inr ⟨j0, m0, hj0, hm0, rfl, rfl, hq1, hq2, hq3⟩)) (On.sc hn8 hS5 (Or.inr ⟨z758, hz758, rfl, Or.inr ⟨m1, hm1, rfl, hf1, hf2⟩⟩)) g (lv_sub hl [7, 8, 9, 10, 11, 12, 13, 14, 6, 5, 4, 3, 2, 1, 0] (by rw [hdue]; rfl))
        · refine lv_iconst (v := 1) hx hb dL_law_824 (by decide) ?_
          refine lv_goto (tgt := 829) hx hb dL_law_825 (by decide) ?_
          refine lv_aload_n hx hb dL_law_829 rfl (lv_at hl 8 rfl) ?_
          refine x_ci (rest := [.int 1]) g (x_V (nA := 0) (As := []) S g (c_fund l G F5 0 ) (lw_V q335 q336 q337 q1 q338) ⟨rfl, by decide +kernel, by decide +kernel, by decide +kernel⟩ rfl ⟨Nat.le_of_ble_eq_true rfl, Nat.le_of_ble_eq_true rfl⟩ hl.1 (Nat.le_of_ble_eq_true rfl) rfl ⟨by show cells + 0 ≤ 1112399; omega, by show slots + 0 ≤ 5764272; omega⟩ dL_law_830) (fun H locs g => ?_)
          refine lv_if_ge (tgt := 840) hx hb dL_law_833 (by decide) (fun c_833 => ?_) (fun c_833 => ?_)
          · refine lv_iconst (v := 0) hx hb dL_law_840 (by decide) ?_
            refine lv_icmp_ne (tgt := 875) hx hb dL_law_841 (by decide) (fun c9 => absurd (absurd ((ru_0 hru5).mp c_821) (Int32.not_lt.mpr c_833)) c9) (fun c_841 => ?_)
            refine lv_iload hx hb dL_law_844 (lv_at hl 1 rfl) ?_
            refine lv_if_le (tgt := 877) hx hb dL_law_846 (by decide) (fun c9 => absurd c9 (fun z9 => absurd ((nI_leI (a := (m1 + 1)) (b := 0) (by omega) (by omega)).mp z9) (by omega))) (fun c_846 => ?_)
            refine lv_iload hx hb dL_law_849 (lv_at hl 3 rfl) ?_
            refine lv_if_lt (tgt := 875) hx hb dL_law_851 (by decide) (fun c9 => absurd c9 (nI_pos (by omega))) (fun c_851 => ?_)
            refine lv_iload hx hb dL_law_854 (lv_at hl 0 rfl) ?_
            refine lv_iload hx hb dL_law_856 (lv_at hl 1 rfl) ?_
            refine lv_icmp_gt (tgt := 875) hx hb dL_law_858 (by decide) (fun c9 => absurd c9 (fun z9 => absurd ((nI_ltI (a := (m1 + 1)) (b := (m0 + 1)) (by omega) (by omega)).mp z9) (by have := nx_le (j0 := j0) hq1 hz758 hf1; omega))) (fun c_858 => ?_)
            refine lv_iload hx hb dL_law_861 (lv_at hl 0 rfl) ?_
            refine lv_iload hx hb dL_law_863 (lv_at hl 1 rfl) ?_
            refine lv_icmp_ne (tgt := 877) hx hb dL_law_865 (by decide) (fun c_865 => ?_) (fun c_865 => ?_)
            · refine W.widen (k := cells + 0) (n := slots + 0) (by omega) (by omega) ?_
              exact K F5 (1 + z716) xr (nI j0) (nI z758) (nI (m1 + 1)) (nI (m0 + 1)) _ _ _ hS45 hI5 (by omega) (by omega) hru5 (Nx.sc hn8 hS5 (Or.inr ⟨j0, m0, hj0, hm0, rfl, rfl, hq1, hq2, hq3⟩)) (On.sc hn8 hS5 (Or.inr ⟨z758, hz758, rfl, Or.inr ⟨m1, hm1, rfl, hf1, hf2⟩⟩)) g (lv_sub hl [7, 8, 9, 10, 11, 12, 13, 14, 6, 5, 4, 3, 2, 1, 0] (by rw [hdue]; rfl))
            · refine lv_iload hx hb dL_law_868 (lv_at hl 2 rfl) ?_
              refine lv_iload hx hb dL_law_870 (lv_at hl 3 rfl) ?_
              refine lv_icmp_ge (tgt := 877) hx hb dL_law_872 (by decide) (fun c_872 => ?_) (fun c9 => absurd (nI_le (nx_le2 hq2 hf1 (by have := (nI_eq (by omega) (by omega)).mp c_865; omega)) (by omega)) c9)
              refine W.widen (k := cells + 0) (n := slots + 0) (by omega) (by omega) ?_
              exact K F5 (1 + z716) xr (nI j0) (nI z758) (nI (m1 + 1)) (nI (m0 + 1)) _ _ _ hS45 hI5 (by omega) (by omega) hru5 (Nx.sc hn8 hS5 (Or.inr ⟨j0, m0, hj0, hm0, rfl, rfl, hq1, hq2, hq3⟩)) (On.sc hn8 hS5 (Or.inr ⟨z758, hz758, rfl, Or.inr ⟨m1, hm1, rfl, hf1, hf2⟩⟩)) g (lv_sub hl [7, 8, 9, 10, 11, 12, 13, 14, 6, 5, 4, 3, 2, 1, 0] (by rw [hdue]; rfl))
          · refine lv_iconst (v := 1) hx hb dL_law_836 (by decide) ?_
            refine lv_goto (tgt := 841) hx hb dL_law_837 (by decide) ?_
            refine lv_icmp_ne (tgt := 875) hx hb dL_law_841 (by decide) (fun c9 => absurd rfl c9) (fun c_841 => ?_)
            refine lv_iload hx hb dL_law_844 (lv_at hl 1 rfl) ?_
            refine lv_if_le (tgt := 877) hx hb dL_law_846 (by decide) (fun c9 => absurd c9 (fun z9 => absurd ((nI_leI (a := (m1 + 1)) (b := 0) (by omega) (by omega)).mp z9) (by omega))) (fun c_846 => ?_)
            refine lv_iload hx hb dL_law_849 (lv_at hl 3 rfl) ?_
            refine lv_if_lt (tgt := 875) hx hb dL_law_851 (by decide) (fun c9 => absurd c9 (nI_pos (by omega))) (fun c_851 => ?_)
            refine lv_iload hx hb dL_law_854 (lv_at hl 0 rfl) ?_
            refine lv_iload hx hb dL_law_856 (lv_at hl 1 rfl) ?_
            refine lv_icmp_gt (tgt := 875) hx hb dL_law_858 (by decide) (fun c9 => absurd c9 (fun z9 => absurd ((nI_ltI (a := (m1 + 1)) (b := (m0 + 1)) (by omega) (by omega)).mp z9) (by have := nx_le (j0 := j0) hq1 hz758 hf1; omega))) (fun c_858 => ?_)
            refine lv_iload hx hb dL_law_861 (lv_at hl 0 rfl) ?_
            refine lv_iload hx hb dL_law_863 (lv_at hl 1 rfl) ?_
            refine lv_icmp_ne (tgt := 877) hx hb dL_law_865 (by decide) (fun c_865 => ?_) (fun c_865 => ?_)
            · refine W.widen (k := cells + 0) (n := slots + 0) (by omega) (by omega) ?_
              exact K F5 (1 + z716) xr (nI j0) (nI z758) (nI (m1 + 1)) (nI (m0 + 1)) _ _ _ hS45 hI5 (by omega) (by omega) hru5 (Nx.sc hn8 hS5 (Or.inr ⟨j0, m0, hj0, hm0, rfl, rfl, hq1, hq2, hq3⟩)) (On.sc hn8 hS5 (Or.inr ⟨z758, hz758, rfl, Or.inr ⟨m1, hm1, rfl, hf1, hf2⟩⟩)) g (lv_sub hl [7, 8, 9, 10, 11, 12, 13, 14, 6, 5, 4, 3, 2, 1, 0] (by rw [hdue]; rfl))
            · refine lv_iload hx hb dL_law_868 (lv_at hl 2 rfl) ?_
              refine lv_iload hx hb dL_law_870 (lv_at hl 3 rfl) ?_
              refine lv_icmp_ge (tgt := 877) hx hb dL_law_872 (by decide) (fun c_872 => ?_) (fun c9 => absurd (nI_le (nx_le2 hq2 hf1 (by have := (nI_eq (by omega) (by omega)).mp c_865; omega)) (by omega)) c9)
              refine W.widen (k := cells + 0) (n := slots + 0) (by omega) (by omega) ?_
              exact K F5 (1 + z716) xr (nI j0) (nI z758) (nI (m1 + 1)) (nI (m0 + 1)) _ _ _ hS45 hI5 (by omega) (by omega) hru5 (Nx.sc hn8 hS5 (Or.inr ⟨j0, m0, hj0, hm0, rfl, rfl, hq1, hq2, hq3⟩)) (On.sc hn8 hS5 (Or.inr ⟨z758, hz758, rfl, Or.inr ⟨m1, hm1, rfl, hf1, hf2⟩⟩)) g (lv_sub hl [7, 8, 9, 10, 11, 12, 13, 14, 6, 5, 4, 3, 2, 1, 0] (by rw [hdue]; rfl))
    · refine lv_iconst (v := (-1)) hx hb dL_law_747 (by decide) ?_
      refine lv_goto (tgt := 761) hx hb dL_law_748 (by decide) ?_
      refine lv_istore (lv' := [(20, .int ((-1))), (19, .int (nI j0)), (18, .int xr), (17, .int (Hh F4 n h (1 + z716) 1 1)), (16, .int (nI (1 + z716))), (0, .ref b9), (1, .ref (gA G 0)), (2, .ref (A 0)), (3, .int (nI t)), (4, .int x), (5, .long D), (7, .int (nI n)), (8, .int (nI (h % 12)))]) hx hb dL_law_761 hl (by decide) rfl (fun ls hl => ?_)
      refine lv_iload hx hb dL_law_763 (lv_at hl 0 rfl) ?_
      refine lv_if_ge (tgt := 772) hx hb dL_law_765 (by decide) (fun c9 => absurd c9 (by decide)) (fun c_765 => ?_)
      refine lv_iconst (v := (-1)) hx hb dL_law_768 (by decide) ?_
      refine lv_goto (tgt := 778) hx hb dL_law_769 (by decide) ?_
      refine lv_istore (lv' := [(21, .int ((-1))), (20, .int ((-1))), (19, .int (nI j0)), (18, .int xr), (17, .int (Hh F4 n h (1 + z716) 1 1)), (16, .int (nI (1 + z716))), (0, .ref b9), (1, .ref (gA G 0)), (2, .ref (A 0)), (3, .int (nI t)), (4, .int x), (5, .long D), (7, .int (nI n)), (8, .int (nI (h % 12)))]) hx hb dL_law_778 hl (by decide) rfl (fun ls hl => ?_)
      refine lv_iload hx hb dL_law_780 (lv_at hl 2 rfl) ?_
      refine lv_if_ge (tgt := 789) hx hb dL_law_782 (by decide) (fun c_782 => ?_) (fun c9 => absurd (nI_pos' (by omega)) c9)
      refine lv_aload_n hx hb dL_law_789 rfl (lv_at hl 7 rfl) ?_
      refine lv_iload hx hb dL_law_790 (lv_at hl 2 rfl) ?_
      refine x_ci (rest := []) g (x_V (nA := 1) (As := [.int (nI j0)]) S g (c_hoursUntilFall_ok l G F4 0 j0 n h hI4.c6 hj0 hn8 hI4.c0 (by omega)) (lw_V q355 q356 q357 q1 q358) ⟨rfl, by decide +kernel, by decide +kernel, by decide +kernel⟩ rfl ⟨Nat.le_of_ble_eq_true rfl, Nat.le_of_ble_eq_true rfl⟩ hl.1 (Nat.le_of_ble_eq_true rfl) rfl ⟨by show cells + 0 ≤ 1112399; omega, by show slots + 0 ≤ 5764272; omega⟩ dL_law_792) (fun H locs g => ?_)
      rw [show (fbI F4 (wb 1 j0) h : Int32) = nI (m0 + 1) from ef0]
      refine lv_istore (lv' := [(22, .int (nI (m0 + 1))), (21, .int ((-1))), (20, .int ((-1))), (19, .int (nI j0)), (18, .int xr), (17, .int (Hh F4 n h (1 + z716) 1 1)), (16, .int (nI (1 + z716))), (0, .ref b9), (1, .ref (gA G 0)), (2, .ref (A 0)), (3, .int (nI t)), (4, .int x), (5, .long D), (7, .int (nI n)), (8, .int (nI (h % 12)))]) hx hb dL_law_795 hl (by decide) rfl (fun ls hl => ?_)
      refine lv_aload_n hx hb dL_law_797 rfl (lv_at hl 8 rfl) ?_
      refine x_cl (rest := []) g (x_V (nA := 0) (As := []) S g (c_digest l G F4 0 n h hI4.ok hn8 (by omega)) (lw_V q398 q399 q400 q1 q401) ⟨rfl, by decide +kernel, by decide +kernel, by decide +kernel⟩ rfl ⟨Nat.le_of_ble_eq_true rfl, Nat.le_of_ble_eq_true rfl⟩ hl.1 (Nat.le_of_ble_eq_true rfl) rfl ⟨by show cells + 0 ≤ 1112399; omega, by show slots + 0 ≤ 5764272; omega⟩ dL_law_798) (fun H locs g => ?_)
      have hS5 := sc_dg F4 n h
      have hI5 := hI4.sc hS5
      have g := g.eqw (show _ = wld G (dgF F4 n h) 0 ++ (swl G A n (dgF F4 n h) 1 ++ []) from by rw [swl_sc G A hn8 hS5])
      have hru5 := hru.sc hn8 hS5
      have hdue : Hh F4 n h (1 + z716) 1 1 = Hh (dgF F4 n h) n h (1 + z716) 1 1 := (ag_1 (Hh_sc hn8 hS5 (1 + z716))).symm
      have hdg : dgI F4 n h = D := (dg_sc hn8 hS4).trans hD
      have hS45 := hS4.tr hS5
      generalize hF5 : dgF F4 n h = F5 at g hI5 hru5 hdue hS5 hS45
      refine lv_lload hx hb dL_law_801 (lv_at hl 12 rfl) ?_
      refine W.lcmp hx hb dL_law_803 ?_
      rw [show (lg_cmp (dgI F4 n h) D : Int32) = 0 from (by rw [hdg]; exact lg_self D)]
      refine lv_if_ne (tgt := 875) hx hb dL_law_804 (by decide) (fun c9 => absurd rfl c9) (fun c_804 => ?_)
      refine lv_iload hx hb dL_law_807 (lv_at hl 1 rfl) ?_
      refine lv_if_eq (tgt := 875) hx hb dL_law_809 (by decide) (fun c9 => absurd c9 (by decide)) (fun c_809 => ?_)
      refine lv_iload hx hb dL_law_812 (lv_at hl 1 rfl) ?_
      refine lv_bipush (v := 100) hx hb dL_law_814 (by decide) ?_
      refine lv_icmp_gt (tgt := 875) hx hb dL_law_816 (by decide) (fun c9 => absurd c9 (by decide)) (fun c_816 => ?_)
      refine lv_iload hx hb dL_law_819 (lv_at hl 4 rfl) ?_
      refine lv_if_ne (tgt := 828) hx hb dL_law_821 (by decide) (fun c_821 => ?_) (fun c_821 => ?_)
      · refine lv_iconst (v := 0) hx hb dL_law_828 (by decide) ?_
        refine lv_aload_n hx hb dL_law_829 rfl (lv_at hl 8 rfl) ?_
        refine x_ci (rest := [.int 0]) g (x_V (nA := 0) (As := []) S g (c_fund l G F5 0 ) (lw_V q335 q336 q337 q1 q338) ⟨rfl, by decide +kernel, by decide +kernel, by decide +kernel⟩ rfl ⟨Nat.le_of_ble_eq_true rfl, Nat.le_of_ble_eq_true rfl⟩ hl.1 (Nat.le_of_ble_eq_true rfl) rfl ⟨by show cells + 0 ≤ 1112399; omega, by show slots + 0 ≤ 5764272; omega⟩ dL_law_830) (fun H locs g => ?_)
        refine lv_if_ge (tgt := 840) hx hb dL_law_833 (by decide) (fun c_833 => ?_) (fun c_833 => ?_)
        · refine lv_iconst (v := 0) hx hb dL_law_840 (by decide) ?_
          refine lv_icmp_ne (tgt := 875) hx hb dL_law_841 (by decide) (fun c9 => absurd rfl c9) (fun c_841 => ?_)
          refine lv_iload hx hb dL_law_844 (lv_at hl 1 rfl) ?_
          refine lv_if_le (tgt := 877) hx hb dL_law_846 (by decide) (fun c_846 => ?_) (fun c9 => absurd (by decide) c9)
          refine W.widen (k := cells + 0) (n := slots + 0) (by omega) (by omega) ?_
          exact K F5 (1 + z716) xr (nI j0) ((-1)) ((-1)) (nI (m0 + 1)) _ _ _ hS45 hI5 (by omega) (by omega) hru5 (Nx.sc hn8 hS5 (Or.inr ⟨j0, m0, hj0, hm0, rfl, rfl, hq1, hq2, hq3⟩)) (Or.inl rfl) g (lv_sub hl [7, 8, 9, 10, 11, 12, 13, 14, 6, 5, 4, 3, 2, 1, 0] (by rw [hdue]; rfl))
        · refine lv_iconst (v := 1) hx hb dL_law_836 (by decide) ?_
          refine lv_goto (tgt := 841) hx hb dL_law_837 (by decide) ?_
          refine lv_icmp_ne (tgt := 875) hx hb dL_law_841 (by decide) (fun c9 => absurd (absurd ((ru_0 hru5).mpr (Int32.not_le.mp c_833)) c_821) c9) (fun c_841 => ?_)
          refine lv_iload hx hb dL_law_844 (lv_at hl 1 rfl) ?_
          refine lv_if_le (tgt := 877) hx hb dL_law_846 (by decide) (fun c_846 => ?_) (fun c9 => absurd (by decide) c9)
          refine W.widen (k := cells + 0) (n := slots + 0) (by omega) (by omega) ?_
          exact K F5 (1 + z716) xr (nI j0) ((-1)) ((-1)) (nI (m0 + 1)) _ _ _ hS45 hI5 (by omega) (by omega) hru5 (Nx.sc hn8 hS5 (Or.inr ⟨j0, m0, hj0, hm0, rfl, rfl, hq1, hq2, hq3⟩)) (Or.inl rfl) g (lv_sub hl [7, 8, 9, 10, 11, 12, 13, 14, 6, 5, 4, 3, 2, 1, 0] (by rw [hdue]; rfl))
      · refine lv_iconst (v := 1) hx hb dL_law_824 (by decide) ?_
        refine lv_goto (tgt := 829) hx hb dL_law_825 (by decide) ?_
        refine lv_aload_n hx hb dL_law_829 rfl (lv_at hl 8 rfl) ?_
        refine x_ci (rest := [.int 1]) g (x_V (nA := 0) (As := []) S g (c_fund l G F5 0 ) (lw_V q335 q336 q337 q1 q338) ⟨rfl, by decide +kernel, by decide +kernel, by decide +kernel⟩ rfl ⟨Nat.le_of_ble_eq_true rfl, Nat.le_of_ble_eq_true rfl⟩ hl.1 (Nat.le_of_ble_eq_true rfl) rfl ⟨by show cells + 0 ≤ 1112399; omega, by show slots + 0 ≤ 5764272; omega⟩ dL_law_830) (fun H locs g => ?_)
        refine lv_if_ge (tgt := 840) hx hb dL_law_833 (by decide) (fun c_833 => ?_) (fun c_833 => ?_)
        · refine lv_iconst (v := 0) hx hb dL_law_840 (by decide) ?_
          refine lv_icmp_ne (tgt := 875) hx hb dL_law_841 (by decide) (fun c9 => absurd (absurd ((ru_0 hru5).mp c_821) (Int32.not_lt.mpr c_833)) c9) (fun c_841 => ?_)
          refine lv_iload hx hb dL_law_844 (lv_at hl 1 rfl) ?_
          refine lv_if_le (tgt := 877) hx hb dL_law_846 (by decide) (fun c_846 => ?_) (fun c9 => absurd (by decide) c9)
          refine W.widen (k := cells + 0) (n := slots + 0) (by omega) (by omega) ?_
          exact K F5 (1 + z716) xr (nI j0) ((-1)) ((-1)) (nI (m0 + 1)) _ _ _ hS45 hI5 (by omega) (by omega) hru5 (Nx.sc hn8 hS5 (Or.inr ⟨j0, m0, hj0, hm0, rfl, rfl, hq1, hq2, hq3⟩)) (Or.inl rfl) g (lv_sub hl [7, 8, 9, 10, 11, 12, 13, 14, 6, 5, 4, 3, 2, 1, 0] (by rw [hdue]; rfl))
        · refine lv_iconst (v := 1) hx hb dL_law_836 (by decide) ?_
          refine lv_goto (tgt := 841) hx hb dL_law_837 (by decide) ?_
          refine lv_icmp_ne (tgt := 875) hx hb dL_law_841 (by decide) (fun c9 => absurd rfl c9) (fun c_841 => ?_)
          refine lv_iload hx hb dL_law_844 (lv_at hl 1 rfl) ?_
          refine lv_if_le (tgt := 877) hx hb dL_law_846 (by decide) (fun c_846 => ?_) (fun c9 => absurd (by decide) c9)
          refine W.widen (k := cells + 0) (n := slots + 0) (by omega) (by omega) ?_
          exact K F5 (1 + z716) xr (nI j0) ((-1)) ((-1)) (nI (m0 + 1)) _ _ _ hS45 hI5 (by omega) (by omega) hru5 (Nx.sc hn8 hS5 (Or.inr ⟨j0, m0, hj0, hm0, rfl, rfl, hq1, hq2, hq3⟩)) (Or.inl rfl) g (lv_sub hl [7, 8, 9, 10, 11, 12, 13, 14, 6, 5, 4, 3, 2, 1, 0] (by rw [hdue]; rfl))
