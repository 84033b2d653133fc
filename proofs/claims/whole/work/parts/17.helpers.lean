set_option maxHeartbeats 4000000 in
set_option maxRecDepth 100000 in
theorem h_addWalker_ok (l : Launch) (G : gT) (F : Fs) (o : Int64) (hi : Int32) (sk : Int32) (nt : Int32) (n : Nat) (hn : F 1 6 = nI n) (hn8 : n < 8) (g1 : ¬ inR hi 1 30 = 0) (g2 : ¬ inR sk 0 5 = 0) (g3 : ¬ inR nt 0 9 = 0) : MH l yL_addWalker cL_addWalker 6 [((0 : Nat), (12 : Nat), (15 : Nat), (13 : Nat)), ((0 : Nat), (12 : Nat), (19 : Nat), (15 : Nat))] 3 71 0 0 [.ref (gA G 0), .int hi, .int sk, .int nt, .ref (gA G 27)] G (F) o (entF F 1 n hi sk nt) ((nI n).toInt64) (0) := by
  refine mk_H (own := "ShadowPoolLaw") (by decide +kernel) rfl (Nat.le_of_ble_eq_true rfl) ?_
  intro p e s m args below meth c ls hr hk0 htab S g hl
  have hl : lv_has ls 6 [(0, .ref (gA G 0)), (1, .int hi), (2, .int sk), (3, .int nt), (4, .ref (gA G 27))] := hl
  have hx := S.1
  have hb := S.2.1
  refine lv_aload hx hb dL_addWalker_0 (lv_at hl 4 rfl) ?_
  refine lv_iconst (v := 0) hx hb dL_addWalker_2 (by decide) ?_
  refine lv_aload_n hx hb dL_addWalker_3 rfl (lv_at hl 0 rfl) ?_
  refine lv_iload_n hx hb dL_addWalker_4 rfl (lv_at hl 1 rfl) ?_
  refine lv_iload_n hx hb dL_addWalker_5 rfl (lv_at hl 2 rfl) ?_
  refine lv_iload_n hx hb dL_addWalker_6 rfl (lv_at hl 3 rfl) ?_
  refine g_ci (rest := [.int 0, .ref (gA G 27)]) g (g_V (n := 3) (As := [.int hi, .int sk, .int nt]) S g (c_addWalker_ok l G (F) o hi sk nt n hn hn8 g1 g2 g3) (by decide) (cE0 G _ o) rfl (lw_V q297 q298 q299 q1 q300) ⟨rfl, by decide +kernel, by decide +kernel, by decide +kernel⟩ rfl ⟨Nat.le_of_ble_eq_true rfl, Nat.le_of_ble_eq_true rfl⟩ hl.1 (Nat.le_of_ble_eq_true rfl) rfl ⟨Nat.zero_le _, Nat.zero_le _⟩ dL_addWalker_7) (fun H locs g => ?_)
  refine lv_i2l (v := (nI n).toInt64) hx hb dL_addWalker_10 rfl ?_
  refine g_last S g dL_addWalker_11 (fun H locs g => ?_)
  refine lv_goto (tgt := 23) hx hb dL_addWalker_12 (by decide) ?_
  refine lv_iconst (v := 0) hx hb dL_addWalker_23 (by decide) ?_
  exact e_h S hr hk0 g rfl rfl rfl dL_addWalker_24
set_option maxHeartbeats 4000000 in
set_option maxRecDepth 100000 in
theorem h_setNet_ok (l : Launch) (G : gT) (F : Fs) (o : Int64) (j : Nat) (n : Nat) (y : Int32) (hn : F 1 6 = nI n) (hj : j < n) (hn8 : n ≤ 8) (hy9 : ¬ inR y 0 9 = 0) : MH l yL_setNet cL_setNet 5 [((0 : Nat), (10 : Nat), (13 : Nat), (21 : Nat)), ((0 : Nat), (10 : Nat), (17 : Nat), (13 : Nat))] 2 46 0 0 [.ref (gA G 0), .int (nI j), .int y, .ref (gA G 27)] G (F) o (up2 F (wb 1 j) 2 y) ((F (wb 1 j) 2).toInt64) (0) := by
  refine mk_H (own := "ShadowPoolLaw") (by decide +kernel) rfl (Nat.le_of_ble_eq_true rfl) ?_
  intro p e s m args below meth c ls hr hk0 htab S g hl
  have hl : lv_has ls 5 [(0, .ref (gA G 0)), (1, .int (nI j)), (2, .int y), (3, .ref (gA G 27))] := hl
  have hx := S.1
  have hb := S.2.1
  refine lv_aload_n hx hb dL_setNet_0 rfl (lv_at hl 3 rfl) ?_
  refine lv_iconst (v := 0) hx hb dL_setNet_1 (by decide) ?_
  refine lv_aload_n hx hb dL_setNet_2 rfl (lv_at hl 0 rfl) ?_
  refine lv_iload_n hx hb dL_setNet_3 rfl (lv_at hl 1 rfl) ?_
  refine lv_iload_n hx hb dL_setNet_4 rfl (lv_at hl 2 rfl) ?_
  refine g_ci (rest := [.int 0, .ref (gA G 27)]) g (g_V (n := 2) (As := [.int (nI j), .int y]) S g (c_setNet_ok l G (F) o j n y hn hj hn8 hy9) (by decide) (cE0 G _ o) rfl (lw_V q425 q426 q427 q1 q428) ⟨rfl, by decide +kernel, by decide +kernel, by decide +kernel⟩ rfl ⟨Nat.le_of_ble_eq_true rfl, Nat.le_of_ble_eq_true rfl⟩ hl.1 (Nat.le_of_ble_eq_true rfl) rfl ⟨Nat.zero_le _, Nat.zero_le _⟩ dL_setNet_5) (fun H locs g => ?_)
  refine lv_i2l (v := (F (wb 1 j) 2).toInt64) hx hb dL_setNet_8 rfl ?_
  refine g_last S g dL_setNet_9 (fun H locs g => ?_)
  refine lv_goto (tgt := 21) hx hb dL_setNet_10 (by decide) ?_
  refine lv_iconst (v := 0) hx hb dL_setNet_21 (by decide) ?_
  exact e_h S hr hk0 g rfl rfl rfl dL_setNet_22
set_option maxHeartbeats 4000000 in
set_option maxRecDepth 100000 in
theorem h_rest_ok (l : Launch) (G : gT) (F : Fs) (o : Int64) (j : Nat) (n : Nat) (hn : F 1 6 = nI n) (hj : j < n) (hn8 : n ≤ 8) : MH l yL_rest cL_rest 4 [((0 : Nat), (9 : Nat), (12 : Nat), (21 : Nat))] 2 44 0 0 [.ref (gA G 0), .int (nI j), .ref (gA G 27)] G (F) o (up2 F (wb 1 j) 3 0) ((F (wb 1 j) 3).toInt64) (0) := by
  refine mk_H (own := "ShadowPoolLaw") (by decide +kernel) rfl (Nat.le_of_ble_eq_true rfl) ?_
  intro p e s m args below meth c ls hr hk0 htab S g hl
  have hl : lv_has ls 4 [(0, .ref (gA G 0)), (1, .int (nI j)), (2, .ref (gA G 27))] := hl
  have hx := S.1
  have hb := S.2.1
  refine lv_aload_n hx hb dL_rest_0 rfl (lv_at hl 2 rfl) ?_
  refine lv_iconst (v := 0) hx hb dL_rest_1 (by decide) ?_
  refine lv_aload_n hx hb dL_rest_2 rfl (lv_at hl 0 rfl) ?_
  refine lv_iload_n hx hb dL_rest_3 rfl (lv_at hl 1 rfl) ?_
  refine g_ci (rest := [.int 0, .ref (gA G 27)]) g (g_V (n := 1) (As := [.int (nI j)]) S g (c_rest_ok l G (F) o j n hn hj hn8) (by decide) (cE0 G _ o) rfl (lw_V q432 q433 q434 q1 q435) ⟨rfl, by decide +kernel, by decide +kernel, by decide +kernel⟩ rfl ⟨Nat.le_of_ble_eq_true rfl, Nat.le_of_ble_eq_true rfl⟩ hl.1 (Nat.le_of_ble_eq_true rfl) rfl ⟨Nat.zero_le _, Nat.zero_le _⟩ dL_rest_4) (fun H locs g => ?_)
  refine lv_i2l (v := (F (wb 1 j) 3).toInt64) hx hb dL_rest_7 rfl ?_
  refine g_last S g dL_rest_8 (fun H locs g => ?_)
  refine lv_goto (tgt := 15) hx hb dL_rest_9 (by decide) ?_
  refine lv_iconst (v := 0) hx hb dL_rest_15 (by decide) ?_
  exact e_h S hr hk0 g rfl rfl rfl dL_rest_16
set_option maxHeartbeats 4000000 in
set_option maxRecDepth 100000 in
theorem h_setRate_ok (l : Launch) (G : gT) (F : Fs) (o : Int64) (x : Int32) (hx9 : ¬ inR x 0 9 = 0) : MH l yL_setRate cL_setRate 4 [((0 : Nat), (9 : Nat), (12 : Nat), (13 : Nat))] 2 44 0 0 [.ref (gA G 0), .int x, .ref (gA G 27)] G (F) o (up2 F 1 2 x) ((F 1 2).toInt64) (0) := by
  refine mk_H (own := "ShadowPoolLaw") (by decide +kernel) rfl (Nat.le_of_ble_eq_true rfl) ?_
  intro p e s m args below meth c ls hr hk0 htab S g hl
  have hl : lv_has ls 4 [(0, .ref (gA G 0)), (1, .int x), (2, .ref (gA G 27))] := hl
  have hx := S.1
  have hb := S.2.1
  refine lv_aload_n hx hb dL_setRate_0 rfl (lv_at hl 2 rfl) ?_
  refine lv_iconst (v := 0) hx hb dL_setRate_1 (by decide) ?_
  refine lv_aload_n hx hb dL_setRate_2 rfl (lv_at hl 0 rfl) ?_
  refine lv_iload_n hx hb dL_setRate_3 rfl (lv_at hl 1 rfl) ?_
  refine g_ci (rest := [.int 0, .ref (gA G 27)]) g (g_V (n := 1) (As := [.int x]) S g (c_setRate_ok l G (F) o x hx9) (by decide) (cE0 G _ o) rfl (lw_V q439 q440 q441 q1 q442) ⟨rfl, by decide +kernel, by decide +kernel, by decide +kernel⟩ rfl ⟨Nat.le_of_ble_eq_true rfl, Nat.le_of_ble_eq_true rfl⟩ hl.1 (Nat.le_of_ble_eq_true rfl) rfl ⟨Nat.zero_le _, Nat.zero_le _⟩ dL_setRate_4) (fun H locs g => ?_)
  refine lv_i2l (v := (F 1 2).toInt64) hx hb dL_setRate_7 rfl ?_
  refine g_last S g dL_setRate_8 (fun H locs g => ?_)
  refine lv_goto (tgt := 15) hx hb dL_setRate_9 (by decide) ?_
  refine lv_iconst (v := 0) hx hb dL_setRate_15 (by decide) ?_
  exact e_h S hr hk0 g rfl rfl rfl dL_setRate_16
set_option maxHeartbeats 4000000 in
set_option maxRecDepth 100000 in
theorem h_reinsure_ok (l : Launch) (G : gT) (F : Fs) (o : Int64) (x : Int32) (y : Int32) (hx9 : ¬ inR x 0 200 = 0) (hy9 : ¬ inR y 0 400 = 0) : MH l yL_reinsure cL_reinsure 5 [((0 : Nat), (10 : Nat), (13 : Nat), (13 : Nat))] 2 45 0 0 [.ref (gA G 0), .int x, .int y, .ref (gA G 27)] G (F) o (up2 (up2 F 1 3 x) 1 4 y) ((F 1 4).toInt64) (0) := by
  refine mk_H (own := "ShadowPoolLaw") (by decide +kernel) rfl (Nat.le_of_ble_eq_true rfl) ?_
  intro p e s m args below meth c ls hr hk0 htab S g hl
  have hl : lv_has ls 5 [(0, .ref (gA G 0)), (1, .int x), (2, .int y), (3, .ref (gA G 27))] := hl
  have hx := S.1
  have hb := S.2.1
  refine lv_aload_n hx hb dL_reinsure_0 rfl (lv_at hl 3 rfl) ?_
  refine lv_iconst (v := 0) hx hb dL_reinsure_1 (by decide) ?_
  refine lv_aload_n hx hb dL_reinsure_2 rfl (lv_at hl 0 rfl) ?_
  refine lv_iload_n hx hb dL_reinsure_3 rfl (lv_at hl 1 rfl) ?_
  refine lv_iload_n hx hb dL_reinsure_4 rfl (lv_at hl 2 rfl) ?_
  refine g_ci (rest := [.int 0, .ref (gA G 27)]) g (g_V (n := 2) (As := [.int x, .int y]) S g (c_reinsure_ok l G (F) o x y hx9 hy9) (by decide) (cE0 G _ o) rfl (lw_V q447 q448 q449 q1 q450) ⟨rfl, by decide +kernel, by decide +kernel, by decide +kernel⟩ rfl ⟨Nat.le_of_ble_eq_true rfl, Nat.le_of_ble_eq_true rfl⟩ hl.1 (Nat.le_of_ble_eq_true rfl) rfl ⟨Nat.zero_le _, Nat.zero_le _⟩ dL_reinsure_5) (fun H locs g => ?_)
  refine lv_i2l (v := (F 1 4).toInt64) hx hb dL_reinsure_8 rfl ?_
  refine g_last S g dL_reinsure_9 (fun H locs g => ?_)
  refine lv_goto (tgt := 17) hx hb dL_reinsure_10 (by decide) ?_
  refine lv_iconst (v := 0) hx hb dL_reinsure_17 (by decide) ?_
  exact e_h S hr hk0 g rfl rfl rfl dL_reinsure_18
set_option maxHeartbeats 4000000 in
set_option maxRecDepth 100000 in
theorem h_pass_ok (l : Launch) (G : gT) (F : Fs) (o : Int64) (t : Nat) (n : Nat) (h : Nat) (hok : okP F n h) (hn8 : n ≤ 8) (hh2 : h < 2 ^ 28) (ht1 : 1 ≤ t) (ht : t ≤ 60) : MH l yL_pass cL_pass 4 [((0 : Nat), (9 : Nat), (12 : Nat), (13 : Nat))] 6 138 0 0 [.ref (gA G 0), .int (nI t), .ref (gA G 27)] G (F) o ((gbL 1 n t h 0 F).2) (((gbL 1 n t h 0 F).1).toInt64) (0) := by
  refine mk_H (own := "ShadowPoolLaw") (by decide +kernel) rfl (Nat.le_of_ble_eq_true rfl) ?_
  intro p e s m args below meth c ls hr hk0 htab S g hl
  have hl : lv_has ls 4 [(0, .ref (gA G 0)), (1, .int (nI t)), (2, .ref (gA G 27))] := hl
  have hx := S.1
  have hb := S.2.1
  refine lv_aload_n hx hb dL_pass_0 rfl (lv_at hl 2 rfl) ?_
  refine lv_iconst (v := 0) hx hb dL_pass_1 (by decide) ?_
  refine lv_aload_n hx hb dL_pass_2 rfl (lv_at hl 0 rfl) ?_
  refine lv_iload_n hx hb dL_pass_3 rfl (lv_at hl 1 rfl) ?_
  refine g_ci (rest := [.int 0, .ref (gA G 27)]) g (g_V (n := 1) (As := [.int (nI t)]) S g (c_pass_ok l G (F) o t n h hok hn8 hh2 ht1 ht) (by decide) (cE0 G _ o) rfl (lw_V q456 q457 q458 q1 q459) ⟨rfl, by decide +kernel, by decide +kernel, by decide +kernel⟩ rfl ⟨Nat.le_of_ble_eq_true rfl, Nat.le_of_ble_eq_true rfl⟩ hl.1 (Nat.le_of_ble_eq_true rfl) rfl ⟨Nat.zero_le _, Nat.zero_le _⟩ dL_pass_4) (fun H locs g => ?_)
  refine lv_i2l (v := ((gbL 1 n t h 0 F).1).toInt64) hx hb dL_pass_7 rfl ?_
  refine g_last S g dL_pass_8 (fun H locs g => ?_)
  refine lv_goto (tgt := 15) hx hb dL_pass_9 (by decide) ?_
  refine lv_iconst (v := 0) hx hb dL_pass_15 (by decide) ?_
  exact e_h S hr hk0 g rfl rfl rfl dL_pass_16
set_option maxHeartbeats 4000000 in
set_option maxRecDepth 100000 in
theorem h_netOf_ok (l : Launch) (G : gT) (F : Fs) (o : Int64) (j : Nat) (n : Nat) (hn : F 1 6 = nI n) (hj : j < n) (hn8 : n ≤ 8) : MH l yL_netOf cL_netOf 4 [((0 : Nat), (9 : Nat), (12 : Nat), (21 : Nat))] 2 43 0 0 [.ref (gA G 0), .int (nI j), .ref (gA G 27)] G (F) o (F) ((F (wb 1 j) 2).toInt64) (0) := by
  refine mk_H (own := "ShadowPoolLaw") (by decide +kernel) rfl (Nat.le_of_ble_eq_true rfl) ?_
  intro p e s m args below meth c ls hr hk0 htab S g hl
  have hl : lv_has ls 4 [(0, .ref (gA G 0)), (1, .int (nI j)), (2, .ref (gA G 27))] := hl
  have hx := S.1
  have hb := S.2.1
  refine lv_aload_n hx hb dL_netOf_0 rfl (lv_at hl 2 rfl) ?_
  refine lv_iconst (v := 0) hx hb dL_netOf_1 (by decide) ?_
  refine lv_aload_n hx hb dL_netOf_2 rfl (lv_at hl 0 rfl) ?_
  refine lv_iload_n hx hb dL_netOf_3 rfl (lv_at hl 1 rfl) ?_
  refine g_ci (rest := [.int 0, .ref (gA G 27)]) g (g_V (n := 1) (As := [.int (nI j)]) S g (c_netOf_ok l G (F) o j n hn hj hn8) (by decide) (cE0 G _ o) rfl (lw_V q471 q472 q473 q1 q474) ⟨rfl, by decide +kernel, by decide +kernel, by decide +kernel⟩ rfl ⟨Nat.le_of_ble_eq_true rfl, Nat.le_of_ble_eq_true rfl⟩ hl.1 (Nat.le_of_ble_eq_true rfl) rfl ⟨Nat.zero_le _, Nat.zero_le _⟩ dL_netOf_4) (fun H locs g => ?_)
  refine lv_i2l (v := (F (wb 1 j) 2).toInt64) hx hb dL_netOf_7 rfl ?_
  refine g_last S g dL_netOf_8 (fun H locs g => ?_)
  refine lv_goto (tgt := 15) hx hb dL_netOf_9 (by decide) ?_
  refine lv_iconst (v := 0) hx hb dL_netOf_15 (by decide) ?_
  exact e_h S hr hk0 g rfl rfl rfl dL_netOf_16
set_option maxHeartbeats 4000000 in
set_option maxRecDepth 100000 in
theorem h_wobbleOf_ok (l : Launch) (G : gT) (F : Fs) (o : Int64) (j : Nat) (n : Nat) (hn : F 1 6 = nI n) (hj : j < n) (hn8 : n ≤ 8) : MH l yL_wobbleOf cL_wobbleOf 4 [((0 : Nat), (9 : Nat), (12 : Nat), (21 : Nat))] 2 43 0 0 [.ref (gA G 0), .int (nI j), .ref (gA G 27)] G (F) o (F) ((F (wb 1 j) 3).toInt64) (0) := by
  refine mk_H (own := "ShadowPoolLaw") (by decide +kernel) rfl (Nat.le_of_ble_eq_true rfl) ?_
  intro p e s m args below meth c ls hr hk0 htab S g hl
  have hl : lv_has ls 4 [(0, .ref (gA G 0)), (1, .int (nI j)), (2, .ref (gA G 27))] := hl
  have hx := S.1
  have hb := S.2.1
  refine lv_aload_n hx hb dL_wobbleOf_0 rfl (lv_at hl 2 rfl) ?_
  refine lv_iconst (v := 0) hx hb dL_wobbleOf_1 (by decide) ?_
  refine lv_aload_n hx hb dL_wobbleOf_2 rfl (lv_at hl 0 rfl) ?_
  refine lv_iload_n hx hb dL_wobbleOf_3 rfl (lv_at hl 1 rfl) ?_
  refine g_ci (rest := [.int 0, .ref (gA G 27)]) g (g_V (n := 1) (As := [.int (nI j)]) S g (c_wobbleOf_ok l G (F) o j n hn hj hn8) (by decide) (cE0 G _ o) rfl (lw_V q478 q479 q480 q1 q481) ⟨rfl, by decide +kernel, by decide +kernel, by decide +kernel⟩ rfl ⟨Nat.le_of_ble_eq_true rfl, Nat.le_of_ble_eq_true rfl⟩ hl.1 (Nat.le_of_ble_eq_true rfl) rfl ⟨Nat.zero_le _, Nat.zero_le _⟩ dL_wobbleOf_4) (fun H locs g => ?_)
  refine lv_i2l (v := (F (wb 1 j) 3).toInt64) hx hb dL_wobbleOf_7 rfl ?_
  refine g_last S g dL_wobbleOf_8 (fun H locs g => ?_)
  refine lv_goto (tgt := 15) hx hb dL_wobbleOf_9 (by decide) ?_
  refine lv_iconst (v := 0) hx hb dL_wobbleOf_15 (by decide) ?_
  exact e_h S hr hk0 g rfl rfl rfl dL_wobbleOf_16
set_option maxHeartbeats 4000000 in
set_option maxRecDepth 100000 in
theorem h_fallsOf_ok (l : Launch) (G : gT) (F : Fs) (o : Int64) (j : Nat) (n : Nat) (hn : F 1 6 = nI n) (hj : j < n) (hn8 : n ≤ 8) : MH l yL_fallsOf cL_fallsOf 4 [((0 : Nat), (9 : Nat), (12 : Nat), (21 : Nat))] 2 43 0 0 [.ref (gA G 0), .int (nI j), .ref (gA G 27)] G (F) o (F) ((F (wb 1 j) 4).toInt64) (0) := by
  refine mk_H (own := "ShadowPoolLaw") (by decide +kernel) rfl (Nat.le_of_ble_eq_true rfl) ?_
  intro p e s m args below meth c ls hr hk0 htab S g hl
  have hl : lv_has ls 4 [(0, .ref (gA G 0)), (1, .int (nI j)), (2, .ref (gA G 27))] := hl
  have hx := S.1
  have hb := S.2.1
  refine lv_aload_n hx hb dL_fallsOf_0 rfl (lv_at hl 2 rfl) ?_
  refine lv_iconst (v := 0) hx hb dL_fallsOf_1 (by decide) ?_
  refine lv_aload_n hx hb dL_fallsOf_2 rfl (lv_at hl 0 rfl) ?_
  refine lv_iload_n hx hb dL_fallsOf_3 rfl (lv_at hl 1 rfl) ?_
  refine g_ci (rest := [.int 0, .ref (gA G 27)]) g (g_V (n := 1) (As := [.int (nI j)]) S g (c_fallsOf_ok l G (F) o j n hn hj hn8) (by decide) (cE0 G _ o) rfl (lw_V q485 q486 q487 q1 q488) ⟨rfl, by decide +kernel, by decide +kernel, by decide +kernel⟩ rfl ⟨Nat.le_of_ble_eq_true rfl, Nat.le_of_ble_eq_true rfl⟩ hl.1 (Nat.le_of_ble_eq_true rfl) rfl ⟨Nat.zero_le _, Nat.zero_le _⟩ dL_fallsOf_4) (fun H locs g => ?_)
  refine lv_i2l (v := (F (wb 1 j) 4).toInt64) hx hb dL_fallsOf_7 rfl ?_
  refine g_last S g dL_fallsOf_8 (fun H locs g => ?_)
  refine lv_goto (tgt := 15) hx hb dL_fallsOf_9 (by decide) ?_
  refine lv_iconst (v := 0) hx hb dL_fallsOf_15 (by decide) ?_
  exact e_h S hr hk0 g rfl rfl rfl dL_fallsOf_16
set_option maxHeartbeats 4000000 in
set_option maxRecDepth 100000 in
theorem h_shadowOf_ok (l : Launch) (G : gT) (F : Fs) (o : Int64) (j : Nat) (n : Nat) (h : Nat) (hn : F 1 6 = nI n) (hj : j < n) (hn8 : n ≤ 8) (hh : F 1 0 = nI h) (hh2 : h < 2 ^ 29) : MH l yL_shadowOf cL_shadowOf 4 [((0 : Nat), (9 : Nat), (12 : Nat), (21 : Nat))] 4 84 0 0 [.ref (gA G 0), .int (nI j), .ref (gA G 27)] G (F) o (F) ((shI (F (wb 1 j) 0) (suH h)).toInt64) (0) := by
  refine mk_H (own := "ShadowPoolLaw") (by decide +kernel) rfl (Nat.le_of_ble_eq_true rfl) ?_
  intro p e s m args below meth c ls hr hk0 htab S g hl
  have hl : lv_has ls 4 [(0, .ref (gA G 0)), (1, .int (nI j)), (2, .ref (gA G 27))] := hl
  have hx := S.1
  have hb := S.2.1
  refine lv_aload_n hx hb dL_shadowOf_0 rfl (lv_at hl 2 rfl) ?_
  refine lv_iconst (v := 0) hx hb dL_shadowOf_1 (by decide) ?_
  refine lv_aload_n hx hb dL_shadowOf_2 rfl (lv_at hl 0 rfl) ?_
  refine lv_iload_n hx hb dL_shadowOf_3 rfl (lv_at hl 1 rfl) ?_
  refine g_ci (rest := [.int 0, .ref (gA G 27)]) g (g_V (n := 1) (As := [.int (nI j)]) S g (c_shadowOf_ok l G (F) o j n h hn hj hn8 hh hh2) (by decide) (cE0 G _ o) rfl (lw_V q492 q493 q494 q1 q495) ⟨rfl, by decide +kernel, by decide +kernel, by decide +kernel⟩ rfl ⟨Nat.le_of_ble_eq_true rfl, Nat.le_of_ble_eq_true rfl⟩ hl.1 (Nat.le_of_ble_eq_true rfl) rfl ⟨Nat.zero_le _, Nat.zero_le _⟩ dL_shadowOf_4) (fun H locs g => ?_)
  refine lv_i2l (v := (shI (F (wb 1 j) 0) (suH h)).toInt64) hx hb dL_shadowOf_7 rfl ?_
  refine g_last S g dL_shadowOf_8 (fun H locs g => ?_)
  refine lv_goto (tgt := 15) hx hb dL_shadowOf_9 (by decide) ?_
  refine lv_iconst (v := 0) hx hb dL_shadowOf_15 (by decide) ?_
  exact e_h S hr hk0 g rfl rfl rfl dL_shadowOf_16
set_option maxHeartbeats 4000000 in
set_option maxRecDepth 100000 in
theorem h_costOf_ok (l : Launch) (G : gT) (F : Fs) (o : Int64) (j : Nat) (n : Nat) (h : Nat) (hn : F 1 6 = nI n) (hj : j < n) (hn8 : n ≤ 8) (hh : F 1 0 = nI h) (hh2 : h < 2 ^ 29) : MH l yL_costOf cL_costOf 4 [((0 : Nat), (9 : Nat), (12 : Nat), (21 : Nat))] 4 84 0 0 [.ref (gA G 0), .int (nI j), .ref (gA G 27)] G (F) o (F) ((coI (F (wb 1 j) 0) (F (wb 1 j) 2) (suH h)).toInt64) (0) := by
  refine mk_H (own := "ShadowPoolLaw") (by decide +kernel) rfl (Nat.le_of_ble_eq_true rfl) ?_
  intro p e s m args below meth c ls hr hk0 htab S g hl
  have hl : lv_has ls 4 [(0, .ref (gA G 0)), (1, .int (nI j)), (2, .ref (gA G 27))] := hl
  have hx := S.1
  have hb := S.2.1
  refine lv_aload_n hx hb dL_costOf_0 rfl (lv_at hl 2 rfl) ?_
  refine lv_iconst (v := 0) hx hb dL_costOf_1 (by decide) ?_
  refine lv_aload_n hx hb dL_costOf_2 rfl (lv_at hl 0 rfl) ?_
  refine lv_iload_n hx hb dL_costOf_3 rfl (lv_at hl 1 rfl) ?_
  refine g_ci (rest := [.int 0, .ref (gA G 27)]) g (g_V (n := 1) (As := [.int (nI j)]) S g (c_costOf_ok l G (F) o j n h hn hj hn8 hh hh2) (by decide) (cE0 G _ o) rfl (lw_V q499 q500 q501 q1 q502) ⟨rfl, by decide +kernel, by decide +kernel, by decide +kernel⟩ rfl ⟨Nat.le_of_ble_eq_true rfl, Nat.le_of_ble_eq_true rfl⟩ hl.1 (Nat.le_of_ble_eq_true rfl) rfl ⟨Nat.zero_le _, Nat.zero_le _⟩ dL_costOf_4) (fun H locs g => ?_)
  refine lv_i2l (v := (coI (F (wb 1 j) 0) (F (wb 1 j) 2) (suH h)).toInt64) hx hb dL_costOf_7 rfl ?_
  refine g_last S g dL_costOf_8 (fun H locs g => ?_)
  refine lv_goto (tgt := 15) hx hb dL_costOf_9 (by decide) ?_
  refine lv_iconst (v := 0) hx hb dL_costOf_15 (by decide) ?_
  exact e_h S hr hk0 g rfl rfl rfl dL_costOf_16
set_option maxHeartbeats 4000000 in
set_option maxRecDepth 100000 in
theorem h_ownPartOf_ok (l : Launch) (G : gT) (F : Fs) (o : Int64) (j : Nat) (n : Nat) (h : Nat) (hn : F 1 6 = nI n) (hj : j < n) (hn8 : n ≤ 8) (hh : F 1 0 = nI h) (hh2 : h < 2 ^ 29) : MH l yL_ownPartOf cL_ownPartOf 4 [((0 : Nat), (9 : Nat), (12 : Nat), (21 : Nat))] 4 84 0 0 [.ref (gA G 0), .int (nI j), .ref (gA G 27)] G (F) o (F) ((owI (F (wb 1 j) 5) (coI (F (wb 1 j) 0) (F (wb 1 j) 2) (suH h)) (noH h)).toInt64) (0) := by
  refine mk_H (own := "ShadowPoolLaw") (by decide +kernel) rfl (Nat.le_of_ble_eq_true rfl) ?_
  intro p e s m args below meth c ls hr hk0 htab S g hl
  have hl : lv_has ls 4 [(0, .ref (gA G 0)), (1, .int (nI j)), (2, .ref (gA G 27))] := hl
  have hx := S.1
  have hb := S.2.1
  refine lv_aload_n hx hb dL_ownPartOf_0 rfl (lv_at hl 2 rfl) ?_
  refine lv_iconst (v := 0) hx hb dL_ownPartOf_1 (by decide) ?_
  refine lv_aload_n hx hb dL_ownPartOf_2 rfl (lv_at hl 0 rfl) ?_
  refine lv_iload_n hx hb dL_ownPartOf_3 rfl (lv_at hl 1 rfl) ?_
  refine g_ci (rest := [.int 0, .ref (gA G 27)]) g (g_V (n := 1) (As := [.int (nI j)]) S g (c_ownPartOf_ok l G (F) o j n h hn hj hn8 hh hh2) (by decide) (cE0 G _ o) rfl (lw_V q506 q507 q508 q1 q509) ⟨rfl, by decide +kernel, by decide +kernel, by decide +kernel⟩ rfl ⟨Nat.le_of_ble_eq_true rfl, Nat.le_of_ble_eq_true rfl⟩ hl.1 (Nat.le_of_ble_eq_true rfl) rfl ⟨Nat.zero_le _, Nat.zero_le _⟩ dL_ownPartOf_4) (fun H locs g => ?_)
  refine lv_i2l (v := (owI (F (wb 1 j) 5) (coI (F (wb 1 j) 0) (F (wb 1 j) 2) (suH h)) (noH h)).toInt64) hx hb dL_ownPartOf_7 rfl ?_
  refine g_last S g dL_ownPartOf_8 (fun H locs g => ?_)
  refine lv_goto (tgt := 15) hx hb dL_ownPartOf_9 (by decide) ?_
  refine lv_iconst (v := 0) hx hb dL_ownPartOf_15 (by decide) ?_
  exact e_h S hr hk0 g rfl rfl rfl dL_ownPartOf_16
set_option maxHeartbeats 4000000 in
set_option maxRecDepth 100000 in
theorem h_poolPartOf_ok (l : Launch) (G : gT) (F : Fs) (o : Int64) (j : Nat) (n : Nat) (h : Nat) (hn : F 1 6 = nI n) (hj : j < n) (hn8 : n ≤ 8) (hh : F 1 0 = nI h) (hh2 : h < 2 ^ 29) : MH l yL_poolPartOf cL_poolPartOf 4 [((0 : Nat), (9 : Nat), (12 : Nat), (21 : Nat))] 5 107 0 0 [.ref (gA G 0), .int (nI j), .ref (gA G 27)] G (F) o (F) ((clI F (wb 1 j) (suH h) (noH h) - reI (clI F (wb 1 j) (suH h) (noH h)) (F 1 3) (F 1 4)).toInt64) (0) := by
  refine mk_H (own := "ShadowPoolLaw") (by decide +kernel) rfl (Nat.le_of_ble_eq_true rfl) ?_
  intro p e s m args below meth c ls hr hk0 htab S g hl
  have hl : lv_has ls 4 [(0, .ref (gA G 0)), (1, .int (nI j)), (2, .ref (gA G 27))] := hl
  have hx := S.1
  have hb := S.2.1
  refine lv_aload_n hx hb dL_poolPartOf_0 rfl (lv_at hl 2 rfl) ?_
  refine lv_iconst (v := 0) hx hb dL_poolPartOf_1 (by decide) ?_
  refine lv_aload_n hx hb dL_poolPartOf_2 rfl (lv_at hl 0 rfl) ?_
  refine lv_iload_n hx hb dL_poolPartOf_3 rfl (lv_at hl 1 rfl) ?_
  refine g_ci (rest := [.int 0, .ref (gA G 27)]) g (g_V (n := 1) (As := [.int (nI j)]) S g (c_poolPartOf_ok l G (F) o j n h hn hj hn8 hh hh2) (by decide) (cE0 G _ o) rfl (lw_V q513 q514 q515 q1 q516) ⟨rfl, by decide +kernel, by decide +kernel, by decide +kernel⟩ rfl ⟨Nat.le_of_ble_eq_true rfl, Nat.le_of_ble_eq_true rfl⟩ hl.1 (Nat.le_of_ble_eq_true rfl) rfl ⟨Nat.zero_le _, Nat.zero_le _⟩ dL_poolPartOf_4) (fun H locs g => ?_)
  refine lv_i2l (v := (clI F (wb 1 j) (suH h) (noH h) - reI (clI F (wb 1 j) (suH h) (noH h)) (F 1 3) (F 1 4)).toInt64) hx hb dL_poolPartOf_7 rfl ?_
  refine g_last S g dL_poolPartOf_8 (fun H locs g => ?_)
  refine lv_goto (tgt := 15) hx hb dL_poolPartOf_9 (by decide) ?_
  refine lv_iconst (v := 0) hx hb dL_poolPartOf_15 (by decide) ?_
  exact e_h S hr hk0 g rfl rfl rfl dL_poolPartOf_16
set_option maxHeartbeats 4000000 in
set_option maxRecDepth 100000 in
theorem h_reinsuredPartOf_ok (l : Launch) (G : gT) (F : Fs) (o : Int64) (j : Nat) (n : Nat) (h : Nat) (hn : F 1 6 = nI n) (hj : j < n) (hn8 : n ≤ 8) (hh : F 1 0 = nI h) (hh2 : h < 2 ^ 29) : MH l yL_reinsuredPartOf cL_reinsuredPartOf 4 [((0 : Nat), (9 : Nat), (12 : Nat), (21 : Nat))] 5 106 0 0 [.ref (gA G 0), .int (nI j), .ref (gA G 27)] G (F) o (F) ((reI (clI F (wb 1 j) (suH h) (noH h)) (F 1 3) (F 1 4)).toInt64) (0) := by
  refine mk_H (own := "ShadowPoolLaw") (by decide +kernel) rfl (Nat.le_of_ble_eq_true rfl) ?_
  intro p e s m args below meth c ls hr hk0 htab S g hl
  have hl : lv_has ls 4 [(0, .ref (gA G 0)), (1, .int (nI j)), (2, .ref (gA G 27))] := hl
  have hx := S.1
  have hb := S.2.1
  refine lv_aload_n hx hb dL_reinsuredPartOf_0 rfl (lv_at hl 2 rfl) ?_
  refine lv_iconst (v := 0) hx hb dL_reinsuredPartOf_1 (by decide) ?_
  refine lv_aload_n hx hb dL_reinsuredPartOf_2 rfl (lv_at hl 0 rfl) ?_
  refine lv_iload_n hx hb dL_reinsuredPartOf_3 rfl (lv_at hl 1 rfl) ?_
  refine g_ci (rest := [.int 0, .ref (gA G 27)]) g (g_V (n := 1) (As := [.int (nI j)]) S g (c_reinsuredPartOf_ok l G (F) o j n h hn hj hn8 hh hh2) (by decide) (cE0 G _ o) rfl (lw_V q520 q521 q522 q1 q523) ⟨rfl, by decide +kernel, by decide +kernel, by decide +kernel⟩ rfl ⟨Nat.le_of_ble_eq_true rfl, Nat.le_of_ble_eq_true rfl⟩ hl.1 (Nat.le_of_ble_eq_true rfl) rfl ⟨Nat.zero_le _, Nat.zero_le _⟩ dL_reinsuredPartOf_4) (fun H locs g => ?_)
  refine lv_i2l (v := (reI (clI F (wb 1 j) (suH h) (noH h)) (F 1 3) (F 1 4)).toInt64) hx hb dL_reinsuredPartOf_7 rfl ?_
  refine g_last S g dL_reinsuredPartOf_8 (fun H locs g => ?_)
  refine lv_goto (tgt := 15) hx hb dL_reinsuredPartOf_9 (by decide) ?_
  refine lv_iconst (v := 0) hx hb dL_reinsuredPartOf_15 (by decide) ?_
  exact e_h S hr hk0 g rfl rfl rfl dL_reinsuredPartOf_16
set_option maxHeartbeats 4000000 in
set_option maxRecDepth 100000 in
theorem h_hoursUntilFall_ok (l : Launch) (G : gT) (F : Fs) (o : Int64) (j : Nat) (n : Nat) (h : Nat) (hn : F 1 6 = nI n) (hj : j < n) (hn8 : n ≤ 8) (hh : F 1 0 = nI h) (hh2 : h < 2 ^ 29) : MH l yL_hoursUntilFall cL_hoursUntilFall 4 [((0 : Nat), (9 : Nat), (12 : Nat), (21 : Nat))] 4 89 0 0 [.ref (gA G 0), .int (nI j), .ref (gA G 27)] G (F) o (F) ((fbI F (wb 1 j) h).toInt64) (0) := by
  refine mk_H (own := "ShadowPoolLaw") (by decide +kernel) rfl (Nat.le_of_ble_eq_true rfl) ?_
  intro p e s m args below meth c ls hr hk0 htab S g hl
  have hl : lv_has ls 4 [(0, .ref (gA G 0)), (1, .int (nI j)), (2, .ref (gA G 27))] := hl
  have hx := S.1
  have hb := S.2.1
  refine lv_aload_n hx hb dL_hoursUntilFall_0 rfl (lv_at hl 2 rfl) ?_
  refine lv_iconst (v := 0) hx hb dL_hoursUntilFall_1 (by decide) ?_
  refine lv_aload_n hx hb dL_hoursUntilFall_2 rfl (lv_at hl 0 rfl) ?_
  refine lv_iload_n hx hb dL_hoursUntilFall_3 rfl (lv_at hl 1 rfl) ?_
  refine g_ci (rest := [.int 0, .ref (gA G 27)]) g (g_V (n := 1) (As := [.int (nI j)]) S g (c_hoursUntilFall_ok l G (F) o j n h hn hj hn8 hh hh2) (by decide) (cE0 G _ o) rfl (lw_V q527 q528 q529 q1 q530) ⟨rfl, by decide +kernel, by decide +kernel, by decide +kernel⟩ rfl ⟨Nat.le_of_ble_eq_true rfl, Nat.le_of_ble_eq_true rfl⟩ hl.1 (Nat.le_of_ble_eq_true rfl) rfl ⟨Nat.zero_le _, Nat.zero_le _⟩ dL_hoursUntilFall_4) (fun H locs g => ?_)
  refine lv_i2l (v := (fbI F (wb 1 j) h).toInt64) hx hb dL_hoursUntilFall_7 rfl ?_
  refine g_last S g dL_hoursUntilFall_8 (fun H locs g => ?_)
  refine lv_goto (tgt := 15) hx hb dL_hoursUntilFall_9 (by decide) ?_
  refine lv_iconst (v := 0) hx hb dL_hoursUntilFall_15 (by decide) ?_
  exact e_h S hr hk0 g rfl rfl rfl dL_hoursUntilFall_16
set_option maxHeartbeats 4000000 in
set_option maxRecDepth 100000 in
theorem h_fundIn_ok (l : Launch) (G : gT) (F : Fs) (o : Int64) (t : Nat) (n : Nat) (h : Nat) (hok : okP F n h) (hn8 : n ≤ 8) (hh2 : h < 2 ^ 28) (ht1 : 1 ≤ t) (ht : t ≤ 60) : MH l yL_fundIn cL_fundIn 4 [((0 : Nat), (9 : Nat), (12 : Nat), (13 : Nat))] 7 161 0 0 [.ref (gA G 0), .int (nI t), .ref (gA G 27)] G (F) o (fbF F n h t (F 1 2) (F 1 4)) ((fbF F n h t (F 1 2) (F 1 4) 2 1).toInt64) (0) := by
  refine mk_H (own := "ShadowPoolLaw") (by decide +kernel) rfl (Nat.le_of_ble_eq_true rfl) ?_
  intro p e s m args below meth c ls hr hk0 htab S g hl
  have hl : lv_has ls 4 [(0, .ref (gA G 0)), (1, .int (nI t)), (2, .ref (gA G 27))] := hl
  have hx := S.1
  have hb := S.2.1
  refine lv_aload_n hx hb dL_fundIn_0 rfl (lv_at hl 2 rfl) ?_
  refine lv_iconst (v := 0) hx hb dL_fundIn_1 (by decide) ?_
  refine lv_aload_n hx hb dL_fundIn_2 rfl (lv_at hl 0 rfl) ?_
  refine lv_iload_n hx hb dL_fundIn_3 rfl (lv_at hl 1 rfl) ?_
  refine g_ci (rest := [.int 0, .ref (gA G 27)]) g (g_V (n := 1) (As := [.int (nI t)]) S g (c_fundIn_ok l G (F) o t n h hok hn8 hh2 ht1 ht) (by decide) (cE0 G _ o) rfl (lw_V q534 q535 q536 q1 q537) ⟨rfl, by decide +kernel, by decide +kernel, by decide +kernel⟩ rfl ⟨Nat.le_of_ble_eq_true rfl, Nat.le_of_ble_eq_true rfl⟩ hl.1 (Nat.le_of_ble_eq_true rfl) rfl ⟨Nat.zero_le _, Nat.zero_le _⟩ dL_fundIn_4) (fun H locs g => ?_)
  refine lv_i2l (v := (fbF F n h t (F 1 2) (F 1 4) 2 1).toInt64) hx hb dL_fundIn_7 rfl ?_
  refine g_last S g dL_fundIn_8 (fun H locs g => ?_)
  refine lv_goto (tgt := 15) hx hb dL_fundIn_9 (by decide) ?_
  refine lv_iconst (v := 0) hx hb dL_fundIn_15 (by decide) ?_
  exact e_h S hr hk0 g rfl rfl rfl dL_fundIn_16
set_option maxHeartbeats 4000000 in
set_option maxRecDepth 100000 in
theorem h_turnMember_ok (l : Launch) (G : gT) (F : Fs) (o : Int64) (j : Nat) (n : Nat) (hn : F 1 6 = nI n) (hj : j < n) (hn8 : n ≤ 8) : MH l yL_turnMember cL_turnMember 4 [((0 : Nat), (16 : Nat), (19 : Nat), (21 : Nat))] 2 43 0 0 [.ref (gA G 0), .int (nI j), .ref (gA G 27)] G (F) o (up2 F (wb 1 j) 5 (if F (wb 1 j) 5 = 0 then 1 else 0)) (if F (wb 1 j) 5 = 0 then 1 else 0) (0) := by
  refine mk_H (own := "ShadowPoolLaw") (by decide +kernel) rfl (Nat.le_of_ble_eq_true rfl) ?_
  intro p e s m args below meth c ls hr hk0 htab S g hl
  have hl : lv_has ls 4 [(0, .ref (gA G 0)), (1, .int (nI j)), (2, .ref (gA G 27))] := hl
  have hx := S.1
  have hb := S.2.1
  refine lv_aload_n hx hb dL_turnMember_0 rfl (lv_at hl 2 rfl) ?_
  refine lv_iconst (v := 0) hx hb dL_turnMember_1 (by decide) ?_
  refine lv_aload_n hx hb dL_turnMember_2 rfl (lv_at hl 0 rfl) ?_
  refine lv_iload_n hx hb dL_turnMember_3 rfl (lv_at hl 1 rfl) ?_
  refine g_ci (rest := [.int 0, .ref (gA G 27)]) g (g_V (n := 1) (As := [.int (nI j)]) S g (c_turnMember_ok l G (F) o j n hn hj hn8) (by decide) (cE0 G _ o) rfl (lw_V q402 q403 q404 q1 q405) ⟨rfl, by decide +kernel, by decide +kernel, by decide +kernel⟩ rfl ⟨Nat.le_of_ble_eq_true rfl, Nat.le_of_ble_eq_true rfl⟩ hl.1 (Nat.le_of_ble_eq_true rfl) rfl ⟨Nat.zero_le _, Nat.zero_le _⟩ dL_turnMember_4) (fun H locs g => ?_)
  refine lv_if_eq (tgt := 14) hx hb dL_turnMember_7 (by decide) (fun c_7 => ?_) (fun c_7 => ?_)
  · refine lv_lconst (v := 0) hx hb dL_turnMember_14 (by decide) ?_
    refine g_last S g dL_turnMember_15 (fun H locs g => ?_)
    refine lv_goto (tgt := 22) hx hb dL_turnMember_16 (by decide) ?_
    refine lv_iconst (v := 0) hx hb dL_turnMember_22 (by decide) ?_
    exact e_h S hr hk0 g rfl rfl (by by_cases h9 : F (wb 1 j) 5 = 0 <;> simp_all) dL_turnMember_23
  · refine lv_lconst (v := 1) hx hb dL_turnMember_10 (by decide) ?_
    refine lv_goto (tgt := 15) hx hb dL_turnMember_11 (by decide) ?_
    refine g_last S g dL_turnMember_15 (fun H locs g => ?_)
    refine lv_goto (tgt := 22) hx hb dL_turnMember_16 (by decide) ?_
    refine lv_iconst (v := 0) hx hb dL_turnMember_22 (by decide) ?_
    exact e_h S hr hk0 g rfl rfl (by by_cases h9 : F (wb 1 j) 5 = 0 <;> simp_all) dL_turnMember_23
set_option maxHeartbeats 4000000 in
set_option maxRecDepth 100000 in
theorem h_isMember_ok (l : Launch) (G : gT) (F : Fs) (o : Int64) (j : Nat) (n : Nat) (hn : F 1 6 = nI n) (hj : j < n) (hn8 : n ≤ 8) (hm : F (wb 1 j) 5 = 0 ∨ F (wb 1 j) 5 = 1) : MH l yL_isMember cL_isMember 4 [((0 : Nat), (16 : Nat), (19 : Nat), (21 : Nat))] 2 43 0 0 [.ref (gA G 0), .int (nI j), .ref (gA G 27)] G (F) o (F) (if F (wb 1 j) 5 = 0 then 0 else 1) (0) := by
  refine mk_H (own := "ShadowPoolLaw") (by decide +kernel) rfl (Nat.le_of_ble_eq_true rfl) ?_
  intro p e s m args below meth c ls hr hk0 htab S g hl
  have hl : lv_has ls 4 [(0, .ref (gA G 0)), (1, .int (nI j)), (2, .ref (gA G 27))] := hl
  have hx := S.1
  have hb := S.2.1
  refine lv_aload_n hx hb dL_isMember_0 rfl (lv_at hl 2 rfl) ?_
  refine lv_iconst (v := 0) hx hb dL_isMember_1 (by decide) ?_
  refine lv_aload_n hx hb dL_isMember_2 rfl (lv_at hl 0 rfl) ?_
  refine lv_iload_n hx hb dL_isMember_3 rfl (lv_at hl 1 rfl) ?_
  refine g_ci (rest := [.int 0, .ref (gA G 27)]) g (g_V (n := 1) (As := [.int (nI j)]) S g (c_isMember_ok l G (F) o j n hn hj hn8 hm) (by decide) (cE0 G _ o) rfl (lw_V q464 q465 q466 q1 q467) ⟨rfl, by decide +kernel, by decide +kernel, by decide +kernel⟩ rfl ⟨Nat.le_of_ble_eq_true rfl, Nat.le_of_ble_eq_true rfl⟩ hl.1 (Nat.le_of_ble_eq_true rfl) rfl ⟨Nat.zero_le _, Nat.zero_le _⟩ dL_isMember_4) (fun H locs g => ?_)
  refine lv_if_eq (tgt := 14) hx hb dL_isMember_7 (by decide) (fun c_7 => ?_) (fun c_7 => ?_)
  · refine lv_lconst (v := 0) hx hb dL_isMember_14 (by decide) ?_
    refine g_last S g dL_isMember_15 (fun H locs g => ?_)
    refine lv_goto (tgt := 22) hx hb dL_isMember_16 (by decide) ?_
    refine lv_iconst (v := 0) hx hb dL_isMember_22 (by decide) ?_
    exact e_h S hr hk0 g rfl rfl (by by_cases h9 : F (wb 1 j) 5 = 0 <;> simp_all) dL_isMember_23
  · refine lv_lconst (v := 1) hx hb dL_isMember_10 (by decide) ?_
    refine lv_goto (tgt := 15) hx hb dL_isMember_11 (by decide) ?_
    refine g_last S g dL_isMember_15 (fun H locs g => ?_)
    refine lv_goto (tgt := 22) hx hb dL_isMember_16 (by decide) ?_
    refine lv_iconst (v := 0) hx hb dL_isMember_22 (by decide) ?_
    exact e_h S hr hk0 g rfl rfl (by by_cases h9 : F (wb 1 j) 5 = 0 <;> simp_all) dL_isMember_23
set_option maxHeartbeats 4000000 in
set_option maxRecDepth 100000 in
theorem h_addWalker_bad (l : Launch) (hfl : l.stackTraces = false) (G : gT) (F : Fs) (o : Int64) (hi : Int32) (sk : Int32) (nt : Int32) (hb9 : inR hi 1 30 = 0 ∨ inR sk 0 5 = 0 ∨ inR nt 0 9 = 0) : MH l yL_addWalker cL_addWalker 6 [((0 : Nat), (12 : Nat), (15 : Nat), (13 : Nat)), ((0 : Nat), (12 : Nat), (19 : Nat), (15 : Nat))] 7 114 1 6 [.ref (gA G 0), .int hi, .int sk, .int nt, .ref (gA G 27)] G (F) o (F) (o) (1) := by
  refine mk_H (own := "ShadowPoolLaw") (by decide +kernel) rfl (Nat.le_of_ble_eq_true rfl) ?_
  intro p e s m args below meth c ls hr hk0 htab S g hl
  have hl : lv_has ls 6 [(0, .ref (gA G 0)), (1, .int hi), (2, .int sk), (3, .int nt), (4, .ref (gA G 27))] := hl
  have hx := S.1
  have hb := S.2.1
  refine lv_aload hx hb dL_addWalker_0 (lv_at hl 4 rfl) ?_
  refine lv_iconst (v := 0) hx hb dL_addWalker_2 (by decide) ?_
  refine lv_aload_n hx hb dL_addWalker_3 rfl (lv_at hl 0 rfl) ?_
  refine lv_iload_n hx hb dL_addWalker_4 rfl (lv_at hl 1 rfl) ?_
  refine lv_iload_n hx hb dL_addWalker_5 rfl (lv_at hl 2 rfl) ?_
  refine lv_iload_n hx hb dL_addWalker_6 rfl (lv_at hl 3 rfl) ?_
  refine g_xc (n := 3) (name := xIA) (As := [.int hi, .int sk, .int nt]) (rest := [.int 0, .ref (gA G 27)]) S g (x_addWalker_bad l hfl G (F) o hi sk nt hb9) (lw_V q297 q298 q299 q1 q300) ⟨rfl, by decide +kernel, by decide +kernel, by decide +kernel⟩ rfl ⟨Nat.le_of_ble_eq_true rfl, Nat.le_of_ble_eq_true rfl⟩ hl.1 (Nat.le_of_ble_eq_true rfl) rfl ⟨Nat.le_refl _, Nat.le_refl _⟩ dL_addWalker_7 [] ⟨0, 12, 15, 13⟩ [⟨0, 12, 19, 15⟩] htab (fun z hz => absurd hz List.not_mem_nil) (by decide) (by decide) q295 g.2.2.2.2.2.2.2.2.2.1 (fun H locs q g => ?_)
  refine lv_astore (lv' := [(5, .ref q), (0, .ref (gA G 0)), (1, .int hi), (2, .int sk), (3, .int nt), (4, .ref (gA G 27))]) hx hb dL_addWalker_15 hl (by decide) rfl (fun ls hl => ?_)
  refine lv_iconst (v := 1) hx hb dL_addWalker_17 (by decide) ?_
  exact e_h S hr hk0 g rfl rfl rfl dL_addWalker_18
set_option maxHeartbeats 4000000 in
set_option maxRecDepth 100000 in
theorem h_addWalker_full (l : Launch) (hfl : l.stackTraces = false) (G : gT) (F : Fs) (o : Int64) (hi : Int32) (sk : Int32) (nt : Int32) (hn : F 1 6 = nI 8) (g1 : ¬ inR hi 1 30 = 0) (g2 : ¬ inR sk 0 5 = 0) (g3 : ¬ inR nt 0 9 = 0) : MH l yL_addWalker cL_addWalker 6 [((0 : Nat), (12 : Nat), (15 : Nat), (13 : Nat)), ((0 : Nat), (12 : Nat), (19 : Nat), (15 : Nat))] 7 114 1 6 [.ref (gA G 0), .int hi, .int sk, .int nt, .ref (gA G 27)] G (F) o (F) (o) (2) := by
  refine mk_H (own := "ShadowPoolLaw") (by decide +kernel) rfl (Nat.le_of_ble_eq_true rfl) ?_
  intro p e s m args below meth c ls hr hk0 htab S g hl
  have hl : lv_has ls 6 [(0, .ref (gA G 0)), (1, .int hi), (2, .int sk), (3, .int nt), (4, .ref (gA G 27))] := hl
  have hx := S.1
  have hb := S.2.1
  refine lv_aload hx hb dL_addWalker_0 (lv_at hl 4 rfl) ?_
  refine lv_iconst (v := 0) hx hb dL_addWalker_2 (by decide) ?_
  refine lv_aload_n hx hb dL_addWalker_3 rfl (lv_at hl 0 rfl) ?_
  refine lv_iload_n hx hb dL_addWalker_4 rfl (lv_at hl 1 rfl) ?_
  refine lv_iload_n hx hb dL_addWalker_5 rfl (lv_at hl 2 rfl) ?_
  refine lv_iload_n hx hb dL_addWalker_6 rfl (lv_at hl 3 rfl) ?_
  refine g_xc (n := 3) (name := xIS) (As := [.int hi, .int sk, .int nt]) (rest := [.int 0, .ref (gA G 27)]) S g (x_addWalker_full l hfl G (F) o hi sk nt hn g1 g2 g3) (lw_V q297 q298 q299 q1 q300) ⟨rfl, by decide +kernel, by decide +kernel, by decide +kernel⟩ rfl ⟨Nat.le_of_ble_eq_true rfl, Nat.le_of_ble_eq_true rfl⟩ hl.1 (Nat.le_of_ble_eq_true rfl) rfl ⟨Nat.le_refl _, Nat.le_refl _⟩ dL_addWalker_7 [⟨0, 12, 15, 13⟩] ⟨0, 12, 19, 15⟩ [] htab (fun z hz => by rcases List.mem_singleton.mp hz with rfl; exact Or.inr ⟨by decide, _, q295, g.2.2.2.2.2.2.2.2.2.2.2.2.1⟩) (by decide) (by decide) q296 g.2.2.2.2.2.2.2.2.2.2.1 (fun H locs q g => ?_)
  refine lv_astore (lv' := [(5, .ref q), (0, .ref (gA G 0)), (1, .int hi), (2, .int sk), (3, .int nt), (4, .ref (gA G 27))]) hx hb dL_addWalker_19 hl (by decide) rfl (fun ls hl => ?_)
  refine lv_iconst (v := 2) hx hb dL_addWalker_21 (by decide) ?_
  exact e_h S hr hk0 g rfl rfl rfl dL_addWalker_22
set_option maxHeartbeats 4000000 in
set_option maxRecDepth 100000 in
theorem h_setNet_no (l : Launch) (hfl : l.stackTraces = false) (G : gT) (F : Fs) (o : Int64) (x : Int32) (n : Nat) (y : Int32) (hn : F 1 6 = nI n) (hxx : x < 0 ∨ nI n ≤ x) : MH l yL_setNet cL_setNet 5 [((0 : Nat), (10 : Nat), (13 : Nat), (21 : Nat)), ((0 : Nat), (10 : Nat), (17 : Nat), (13 : Nat))] 7 114 1 6 [.ref (gA G 0), .int x, .int y, .ref (gA G 27)] G (F) o (F) (o) (1) := by
  refine mk_H (own := "ShadowPoolLaw") (by decide +kernel) rfl (Nat.le_of_ble_eq_true rfl) ?_
  intro p e s m args below meth c ls hr hk0 htab S g hl
  have hl : lv_has ls 5 [(0, .ref (gA G 0)), (1, .int x), (2, .int y), (3, .ref (gA G 27))] := hl
  have hx := S.1
  have hb := S.2.1
  refine lv_aload_n hx hb dL_setNet_0 rfl (lv_at hl 3 rfl) ?_
  refine lv_iconst (v := 0) hx hb dL_setNet_1 (by decide) ?_
  refine lv_aload_n hx hb dL_setNet_2 rfl (lv_at hl 0 rfl) ?_
  refine lv_iload_n hx hb dL_setNet_3 rfl (lv_at hl 1 rfl) ?_
  refine lv_iload_n hx hb dL_setNet_4 rfl (lv_at hl 2 rfl) ?_
  refine g_xc (n := 2) (name := xIB) (As := [.int x, .int y]) (rest := [.int 0, .ref (gA G 27)]) S g (x_setNet l hfl G (F) o x n y hn hxx) (lw_V q425 q426 q427 q1 q428) ⟨rfl, by decide +kernel, by decide +kernel, by decide +kernel⟩ rfl ⟨Nat.le_of_ble_eq_true rfl, Nat.le_of_ble_eq_true rfl⟩ hl.1 (Nat.le_of_ble_eq_true rfl) rfl ⟨Nat.le_refl _, Nat.le_refl _⟩ dL_setNet_5 [] ⟨0, 10, 13, 21⟩ [⟨0, 10, 17, 13⟩] htab (fun z hz => absurd hz List.not_mem_nil) (by decide) (by decide) q401 g.2.2.2.2.2.2.2.2.2.2.2.1 (fun H locs q g => ?_)
  refine lv_astore (lv' := [(4, .ref q), (0, .ref (gA G 0)), (1, .int x), (2, .int y), (3, .ref (gA G 27))]) hx hb dL_setNet_13 hl (by decide) rfl (fun ls hl => ?_)
  refine lv_iconst (v := 1) hx hb dL_setNet_15 (by decide) ?_
  exact e_h S hr hk0 g rfl rfl rfl dL_setNet_16
set_option maxHeartbeats 4000000 in
set_option maxRecDepth 100000 in
theorem h_rest_no (l : Launch) (hfl : l.stackTraces = false) (G : gT) (F : Fs) (o : Int64) (x : Int32) (n : Nat) (hn : F 1 6 = nI n) (hxx : x < 0 ∨ nI n ≤ x) : MH l yL_rest cL_rest 4 [((0 : Nat), (9 : Nat), (12 : Nat), (21 : Nat))] 7 113 1 6 [.ref (gA G 0), .int x, .ref (gA G 27)] G (F) o (F) (o) (1) := by
  refine mk_H (own := "ShadowPoolLaw") (by decide +kernel) rfl (Nat.le_of_ble_eq_true rfl) ?_
  intro p e s m args below meth c ls hr hk0 htab S g hl
  have hl : lv_has ls 4 [(0, .ref (gA G 0)), (1, .int x), (2, .ref (gA G 27))] := hl
  have hx := S.1
  have hb := S.2.1
  refine lv_aload_n hx hb dL_rest_0 rfl (lv_at hl 2 rfl) ?_
  refine lv_iconst (v := 0) hx hb dL_rest_1 (by decide) ?_
  refine lv_aload_n hx hb dL_rest_2 rfl (lv_at hl 0 rfl) ?_
  refine lv_iload_n hx hb dL_rest_3 rfl (lv_at hl 1 rfl) ?_
  refine g_xc (n := 1) (name := xIB) (As := [.int x]) (rest := [.int 0, .ref (gA G 27)]) S g (x_rest l hfl G (F) o x n hn hxx) (lw_V q432 q433 q434 q1 q435) ⟨rfl, by decide +kernel, by decide +kernel, by decide +kernel⟩ rfl ⟨Nat.le_of_ble_eq_true rfl, Nat.le_of_ble_eq_true rfl⟩ hl.1 (Nat.le_of_ble_eq_true rfl) rfl ⟨Nat.le_refl _, Nat.le_refl _⟩ dL_rest_4 [] ⟨0, 9, 12, 21⟩ [] htab (fun z hz => absurd hz List.not_mem_nil) (by decide) (by decide) q401 g.2.2.2.2.2.2.2.2.2.2.2.1 (fun H locs q g => ?_)
  refine lv_astore_n (lv' := [(3, .ref q), (0, .ref (gA G 0)), (1, .int x), (2, .ref (gA G 27))]) hx hb dL_rest_12 rfl hl (by decide) rfl (fun ls hl => ?_)
  refine lv_iconst (v := 1) hx hb dL_rest_13 (by decide) ?_
  exact e_h S hr hk0 g rfl rfl rfl dL_rest_14
set_option maxHeartbeats 4000000 in
set_option maxRecDepth 100000 in
theorem h_setRate_no (l : Launch) (hfl : l.stackTraces = false) (G : gT) (F : Fs) (o : Int64) (x : Int32) (hx9 : inR x 0 9 = 0) : MH l yL_setRate cL_setRate 4 [((0 : Nat), (9 : Nat), (12 : Nat), (13 : Nat))] 7 112 1 6 [.ref (gA G 0), .int x, .ref (gA G 27)] G (F) o (F) (o) (1) := by
  refine mk_H (own := "ShadowPoolLaw") (by decide +kernel) rfl (Nat.le_of_ble_eq_true rfl) ?_
  intro p e s m args below meth c ls hr hk0 htab S g hl
  have hl : lv_has ls 4 [(0, .ref (gA G 0)), (1, .int x), (2, .ref (gA G 27))] := hl
  have hx := S.1
  have hb := S.2.1
  refine lv_aload_n hx hb dL_setRate_0 rfl (lv_at hl 2 rfl) ?_
  refine lv_iconst (v := 0) hx hb dL_setRate_1 (by decide) ?_
  refine lv_aload_n hx hb dL_setRate_2 rfl (lv_at hl 0 rfl) ?_
  refine lv_iload_n hx hb dL_setRate_3 rfl (lv_at hl 1 rfl) ?_
  refine g_xc (n := 1) (name := xIA) (As := [.int x]) (rest := [.int 0, .ref (gA G 27)]) S g (x_setRate l hfl G (F) o x hx9) (lw_V q439 q440 q441 q1 q442) ⟨rfl, by decide +kernel, by decide +kernel, by decide +kernel⟩ rfl ⟨Nat.le_of_ble_eq_true rfl, Nat.le_of_ble_eq_true rfl⟩ hl.1 (Nat.le_of_ble_eq_true rfl) rfl ⟨Nat.le_refl _, Nat.le_refl _⟩ dL_setRate_4 [] ⟨0, 9, 12, 13⟩ [] htab (fun z hz => absurd hz List.not_mem_nil) (by decide) (by decide) q295 g.2.2.2.2.2.2.2.2.2.1 (fun H locs q g => ?_)
  refine lv_astore_n (lv' := [(3, .ref q), (0, .ref (gA G 0)), (1, .int x), (2, .ref (gA G 27))]) hx hb dL_setRate_12 rfl hl (by decide) rfl (fun ls hl => ?_)
  refine lv_iconst (v := 1) hx hb dL_setRate_13 (by decide) ?_
  exact e_h S hr hk0 g rfl rfl rfl dL_setRate_14
set_option maxHeartbeats 4000000 in
set_option maxRecDepth 100000 in
theorem h_reinsure_no (l : Launch) (hfl : l.stackTraces = false) (G : gT) (F : Fs) (o : Int64) (x : Int32) (y : Int32) (hb9 : inR x 0 200 = 0 ∨ inR y 0 400 = 0) : MH l yL_reinsure cL_reinsure 5 [((0 : Nat), (10 : Nat), (13 : Nat), (13 : Nat))] 7 113 1 6 [.ref (gA G 0), .int x, .int y, .ref (gA G 27)] G (F) o (F) (o) (1) := by
  refine mk_H (own := "ShadowPoolLaw") (by decide +kernel) rfl (Nat.le_of_ble_eq_true rfl) ?_
  intro p e s m args below meth c ls hr hk0 htab S g hl
  have hl : lv_has ls 5 [(0, .ref (gA G 0)), (1, .int x), (2, .int y), (3, .ref (gA G 27))] := hl
  have hx := S.1
  have hb := S.2.1
  refine lv_aload_n hx hb dL_reinsure_0 rfl (lv_at hl 3 rfl) ?_
  refine lv_iconst (v := 0) hx hb dL_reinsure_1 (by decide) ?_
  refine lv_aload_n hx hb dL_reinsure_2 rfl (lv_at hl 0 rfl) ?_
  refine lv_iload_n hx hb dL_reinsure_3 rfl (lv_at hl 1 rfl) ?_
  refine lv_iload_n hx hb dL_reinsure_4 rfl (lv_at hl 2 rfl) ?_
  refine g_xc (n := 2) (name := xIA) (As := [.int x, .int y]) (rest := [.int 0, .ref (gA G 27)]) S g (x_reinsure l hfl G (F) o x y hb9) (lw_V q447 q448 q449 q1 q450) ⟨rfl, by decide +kernel, by decide +kernel, by decide +kernel⟩ rfl ⟨Nat.le_of_ble_eq_true rfl, Nat.le_of_ble_eq_true rfl⟩ hl.1 (Nat.le_of_ble_eq_true rfl) rfl ⟨Nat.le_refl _, Nat.le_refl _⟩ dL_reinsure_5 [] ⟨0, 10, 13, 13⟩ [] htab (fun z hz => absurd hz List.not_mem_nil) (by decide) (by decide) q295 g.2.2.2.2.2.2.2.2.2.1 (fun H locs q g => ?_)
  refine lv_astore (lv' := [(4, .ref q), (0, .ref (gA G 0)), (1, .int x), (2, .int y), (3, .ref (gA G 27))]) hx hb dL_reinsure_13 hl (by decide) rfl (fun ls hl => ?_)
  refine lv_iconst (v := 1) hx hb dL_reinsure_15 (by decide) ?_
  exact e_h S hr hk0 g rfl rfl rfl dL_reinsure_16
set_option maxHeartbeats 4000000 in
set_option maxRecDepth 100000 in
theorem h_pass_no (l : Launch) (hfl : l.stackTraces = false) (G : gT) (F : Fs) (o : Int64) (x : Int32) (hx9 : inR x 1 60 = 0) : MH l yL_pass cL_pass 4 [((0 : Nat), (9 : Nat), (12 : Nat), (13 : Nat))] 7 111 1 6 [.ref (gA G 0), .int x, .ref (gA G 27)] G (F) o (F) (o) (1) := by
  refine mk_H (own := "ShadowPoolLaw") (by decide +kernel) rfl (Nat.le_of_ble_eq_true rfl) ?_
  intro p e s m args below meth c ls hr hk0 htab S g hl
  have hl : lv_has ls 4 [(0, .ref (gA G 0)), (1, .int x), (2, .ref (gA G 27))] := hl
  have hx := S.1
  have hb := S.2.1
  refine lv_aload_n hx hb dL_pass_0 rfl (lv_at hl 2 rfl) ?_
  refine lv_iconst (v := 0) hx hb dL_pass_1 (by decide) ?_
  refine lv_aload_n hx hb dL_pass_2 rfl (lv_at hl 0 rfl) ?_
  refine lv_iload_n hx hb dL_pass_3 rfl (lv_at hl 1 rfl) ?_
  refine g_xc (n := 1) (name := xIA) (As := [.int x]) (rest := [.int 0, .ref (gA G 27)]) S g (x_pass l hfl G (F) o x hx9) (lw_V q456 q457 q458 q1 q459) ⟨rfl, by decide +kernel, by decide +kernel, by decide +kernel⟩ rfl ⟨Nat.le_of_ble_eq_true rfl, Nat.le_of_ble_eq_true rfl⟩ hl.1 (Nat.le_of_ble_eq_true rfl) rfl ⟨Nat.le_refl _, Nat.le_refl _⟩ dL_pass_4 [] ⟨0, 9, 12, 13⟩ [] htab (fun z hz => absurd hz List.not_mem_nil) (by decide) (by decide) q295 g.2.2.2.2.2.2.2.2.2.1 (fun H locs q g => ?_)
  refine lv_astore_n (lv' := [(3, .ref q), (0, .ref (gA G 0)), (1, .int x), (2, .ref (gA G 27))]) hx hb dL_pass_12 rfl hl (by decide) rfl (fun ls hl => ?_)
  refine lv_iconst (v := 1) hx hb dL_pass_13 (by decide) ?_
  exact e_h S hr hk0 g rfl rfl rfl dL_pass_14
set_option maxHeartbeats 4000000 in
set_option maxRecDepth 100000 in
theorem h_netOf_no (l : Launch) (hfl : l.stackTraces = false) (G : gT) (F : Fs) (o : Int64) (x : Int32) (n : Nat) (hn : F 1 6 = nI n) (hxx : x < 0 ∨ nI n ≤ x) : MH l yL_netOf cL_netOf 4 [((0 : Nat), (9 : Nat), (12 : Nat), (21 : Nat))] 7 112 1 6 [.ref (gA G 0), .int x, .ref (gA G 27)] G (F) o (F) (o) (1) := by
  refine mk_H (own := "ShadowPoolLaw") (by decide +kernel) rfl (Nat.le_of_ble_eq_true rfl) ?_
  intro p e s m args below meth c ls hr hk0 htab S g hl
  have hl : lv_has ls 4 [(0, .ref (gA G 0)), (1, .int x), (2, .ref (gA G 27))] := hl
  have hx := S.1
  have hb := S.2.1
  refine lv_aload_n hx hb dL_netOf_0 rfl (lv_at hl 2 rfl) ?_
  refine lv_iconst (v := 0) hx hb dL_netOf_1 (by decide) ?_
  refine lv_aload_n hx hb dL_netOf_2 rfl (lv_at hl 0 rfl) ?_
  refine lv_iload_n hx hb dL_netOf_3 rfl (lv_at hl 1 rfl) ?_
  refine g_xc (n := 1) (name := xIB) (As := [.int x]) (rest := [.int 0, .ref (gA G 27)]) S g (x_netOf l hfl G (F) o x n hn hxx) (lw_V q471 q472 q473 q1 q474) ⟨rfl, by decide +kernel, by decide +kernel, by decide +kernel⟩ rfl ⟨Nat.le_of_ble_eq_true rfl, Nat.le_of_ble_eq_true rfl⟩ hl.1 (Nat.le_of_ble_eq_true rfl) rfl ⟨Nat.le_refl _, Nat.le_refl _⟩ dL_netOf_4 [] ⟨0, 9, 12, 21⟩ [] htab (fun z hz => absurd hz List.not_mem_nil) (by decide) (by decide) q401 g.2.2.2.2.2.2.2.2.2.2.2.1 (fun H locs q g => ?_)
  refine lv_astore_n (lv' := [(3, .ref q), (0, .ref (gA G 0)), (1, .int x), (2, .ref (gA G 27))]) hx hb dL_netOf_12 rfl hl (by decide) rfl (fun ls hl => ?_)
  refine lv_iconst (v := 1) hx hb dL_netOf_13 (by decide) ?_
  exact e_h S hr hk0 g rfl rfl rfl dL_netOf_14
set_option maxHeartbeats 4000000 in
set_option maxRecDepth 100000 in
theorem h_wobbleOf_no (l : Launch) (hfl : l.stackTraces = false) (G : gT) (F : Fs) (o : Int64) (x : Int32) (n : Nat) (hn : F 1 6 = nI n) (hxx : x < 0 ∨ nI n ≤ x) : MH l yL_wobbleOf cL_wobbleOf 4 [((0 : Nat), (9 : Nat), (12 : Nat), (21 : Nat))] 7 112 1 6 [.ref (gA G 0), .int x, .ref (gA G 27)] G (F) o (F) (o) (1) := by
  refine mk_H (own := "ShadowPoolLaw") (by decide +kernel) rfl (Nat.le_of_ble_eq_true rfl) ?_
  intro p e s m args below meth c ls hr hk0 htab S g hl
  have hl : lv_has ls 4 [(0, .ref (gA G 0)), (1, .int x), (2, .ref (gA G 27))] := hl
  have hx := S.1
  have hb := S.2.1
  refine lv_aload_n hx hb dL_wobbleOf_0 rfl (lv_at hl 2 rfl) ?_
  refine lv_iconst (v := 0) hx hb dL_wobbleOf_1 (by decide) ?_
  refine lv_aload_n hx hb dL_wobbleOf_2 rfl (lv_at hl 0 rfl) ?_
  refine lv_iload_n hx hb dL_wobbleOf_3 rfl (lv_at hl 1 rfl) ?_
  refine g_xc (n := 1) (name := xIB) (As := [.int x]) (rest := [.int 0, .ref (gA G 27)]) S g (x_wobbleOf l hfl G (F) o x n hn hxx) (lw_V q478 q479 q480 q1 q481) ⟨rfl, by decide +kernel, by decide +kernel, by decide +kernel⟩ rfl ⟨Nat.le_of_ble_eq_true rfl, Nat.le_of_ble_eq_true rfl⟩ hl.1 (Nat.le_of_ble_eq_true rfl) rfl ⟨Nat.le_refl _, Nat.le_refl _⟩ dL_wobbleOf_4 [] ⟨0, 9, 12, 21⟩ [] htab (fun z hz => absurd hz List.not_mem_nil) (by decide) (by decide) q401 g.2.2.2.2.2.2.2.2.2.2.2.1 (fun H locs q g => ?_)
  refine lv_astore_n (lv' := [(3, .ref q), (0, .ref (gA G 0)), (1, .int x), (2, .ref (gA G 27))]) hx hb dL_wobbleOf_12 rfl hl (by decide) rfl (fun ls hl => ?_)
  refine lv_iconst (v := 1) hx hb dL_wobbleOf_13 (by decide) ?_
  exact e_h S hr hk0 g rfl rfl rfl dL_wobbleOf_14
set_option maxHeartbeats 4000000 in
set_option maxRecDepth 100000 in
theorem h_fallsOf_no (l : Launch) (hfl : l.stackTraces = false) (G : gT) (F : Fs) (o : Int64) (x : Int32) (n : Nat) (hn : F 1 6 = nI n) (hxx : x < 0 ∨ nI n ≤ x) : MH l yL_fallsOf cL_fallsOf 4 [((0 : Nat), (9 : Nat), (12 : Nat), (21 : Nat))] 7 112 1 6 [.ref (gA G 0), .int x, .ref (gA G 27)] G (F) o (F) (o) (1) := by
  refine mk_H (own := "ShadowPoolLaw") (by decide +kernel) rfl (Nat.le_of_ble_eq_true rfl) ?_
  intro p e s m args below meth c ls hr hk0 htab S g hl
  have hl : lv_has ls 4 [(0, .ref (gA G 0)), (1, .int x), (2, .ref (gA G 27))] := hl
  have hx := S.1
  have hb := S.2.1
  refine lv_aload_n hx hb dL_fallsOf_0 rfl (lv_at hl 2 rfl) ?_
  refine lv_iconst (v := 0) hx hb dL_fallsOf_1 (by decide) ?_
  refine lv_aload_n hx hb dL_fallsOf_2 rfl (lv_at hl 0 rfl) ?_
  refine lv_iload_n hx hb dL_fallsOf_3 rfl (lv_at hl 1 rfl) ?_
  refine g_xc (n := 1) (name := xIB) (As := [.int x]) (rest := [.int 0, .ref (gA G 27)]) S g (x_fallsOf l hfl G (F) o x n hn hxx) (lw_V q485 q486 q487 q1 q488) ⟨rfl, by decide +kernel, by decide +kernel, by decide +kernel⟩ rfl ⟨Nat.le_of_ble_eq_true rfl, Nat.le_of_ble_eq_true rfl⟩ hl.1 (Nat.le_of_ble_eq_true rfl) rfl ⟨Nat.le_refl _, Nat.le_refl _⟩ dL_fallsOf_4 [] ⟨0, 9, 12, 21⟩ [] htab (fun z hz => absurd hz List.not_mem_nil) (by decide) (by decide) q401 g.2.2.2.2.2.2.2.2.2.2.2.1 (fun H locs q g => ?_)
  refine lv_astore_n (lv' := [(3, .ref q), (0, .ref (gA G 0)), (1, .int x), (2, .ref (gA G 27))]) hx hb dL_fallsOf_12 rfl hl (by decide) rfl (fun ls hl => ?_)
  refine lv_iconst (v := 1) hx hb dL_fallsOf_13 (by decide) ?_
  exact e_h S hr hk0 g rfl rfl rfl dL_fallsOf_14
set_option maxHeartbeats 4000000 in
set_option maxRecDepth 100000 in
theorem h_shadowOf_no (l : Launch) (hfl : l.stackTraces = false) (G : gT) (F : Fs) (o : Int64) (x : Int32) (n : Nat) (hn : F 1 6 = nI n) (hxx : x < 0 ∨ nI n ≤ x) : MH l yL_shadowOf cL_shadowOf 4 [((0 : Nat), (9 : Nat), (12 : Nat), (21 : Nat))] 7 112 1 6 [.ref (gA G 0), .int x, .ref (gA G 27)] G (F) o (F) (o) (1) := by
  refine mk_H (own := "ShadowPoolLaw") (by decide +kernel) rfl (Nat.le_of_ble_eq_true rfl) ?_
  intro p e s m args below meth c ls hr hk0 htab S g hl
  have hl : lv_has ls 4 [(0, .ref (gA G 0)), (1, .int x), (2, .ref (gA G 27))] := hl
  have hx := S.1
  have hb := S.2.1
  refine lv_aload_n hx hb dL_shadowOf_0 rfl (lv_at hl 2 rfl) ?_
  refine lv_iconst (v := 0) hx hb dL_shadowOf_1 (by decide) ?_
  refine lv_aload_n hx hb dL_shadowOf_2 rfl (lv_at hl 0 rfl) ?_
  refine lv_iload_n hx hb dL_shadowOf_3 rfl (lv_at hl 1 rfl) ?_
  refine g_xc (n := 1) (name := xIB) (As := [.int x]) (rest := [.int 0, .ref (gA G 27)]) S g (x_shadowOf l hfl G (F) o x n hn hxx) (lw_V q492 q493 q494 q1 q495) ⟨rfl, by decide +kernel, by decide +kernel, by decide +kernel⟩ rfl ⟨Nat.le_of_ble_eq_true rfl, Nat.le_of_ble_eq_true rfl⟩ hl.1 (Nat.le_of_ble_eq_true rfl) rfl ⟨Nat.le_refl _, Nat.le_refl _⟩ dL_shadowOf_4 [] ⟨0, 9, 12, 21⟩ [] htab (fun z hz => absurd hz List.not_mem_nil) (by decide) (by decide) q401 g.2.2.2.2.2.2.2.2.2.2.2.1 (fun H locs q g => ?_)
  refine lv_astore_n (lv' := [(3, .ref q), (0, .ref (gA G 0)), (1, .int x), (2, .ref (gA G 27))]) hx hb dL_shadowOf_12 rfl hl (by decide) rfl (fun ls hl => ?_)
  refine lv_iconst (v := 1) hx hb dL_shadowOf_13 (by decide) ?_
  exact e_h S hr hk0 g rfl rfl rfl dL_shadowOf_14
set_option maxHeartbeats 4000000 in
set_option maxRecDepth 100000 in
theorem h_costOf_no (l : Launch) (hfl : l.stackTraces = false) (G : gT) (F : Fs) (o : Int64) (x : Int32) (n : Nat) (hn : F 1 6 = nI n) (hxx : x < 0 ∨ nI n ≤ x) : MH l yL_costOf cL_costOf 4 [((0 : Nat), (9 : Nat), (12 : Nat), (21 : Nat))] 7 112 1 6 [.ref (gA G 0), .int x, .ref (gA G 27)] G (F) o (F) (o) (1) := by
  refine mk_H (own := "ShadowPoolLaw") (by decide +kernel) rfl (Nat.le_of_ble_eq_true rfl) ?_
  intro p e s m args below meth c ls hr hk0 htab S g hl
  have hl : lv_has ls 4 [(0, .ref (gA G 0)), (1, .int x), (2, .ref (gA G 27))] := hl
  have hx := S.1
  have hb := S.2.1
  refine lv_aload_n hx hb dL_costOf_0 rfl (lv_at hl 2 rfl) ?_
  refine lv_iconst (v := 0) hx hb dL_costOf_1 (by decide) ?_
  refine lv_aload_n hx hb dL_costOf_2 rfl (lv_at hl 0 rfl) ?_
  refine lv_iload_n hx hb dL_costOf_3 rfl (lv_at hl 1 rfl) ?_
  refine g_xc (n := 1) (name := xIB) (As := [.int x]) (rest := [.int 0, .ref (gA G 27)]) S g (x_costOf l hfl G (F) o x n hn hxx) (lw_V q499 q500 q501 q1 q502) ⟨rfl, by decide +kernel, by decide +kernel, by decide +kernel⟩ rfl ⟨Nat.le_of_ble_eq_true rfl, Nat.le_of_ble_eq_true rfl⟩ hl.1 (Nat.le_of_ble_eq_true rfl) rfl ⟨Nat.le_refl _, Nat.le_refl _⟩ dL_costOf_4 [] ⟨0, 9, 12, 21⟩ [] htab (fun z hz => absurd hz List.not_mem_nil) (by decide) (by decide) q401 g.2.2.2.2.2.2.2.2.2.2.2.1 (fun H locs q g => ?_)
  refine lv_astore_n (lv' := [(3, .ref q), (0, .ref (gA G 0)), (1, .int x), (2, .ref (gA G 27))]) hx hb dL_costOf_12 rfl hl (by decide) rfl (fun ls hl => ?_)
  refine lv_iconst (v := 1) hx hb dL_costOf_13 (by decide) ?_
  exact e_h S hr hk0 g rfl rfl rfl dL_costOf_14
set_option maxHeartbeats 4000000 in
set_option maxRecDepth 100000 in
theorem h_ownPartOf_no (l : Launch) (hfl : l.stackTraces = false) (G : gT) (F : Fs) (o : Int64) (x : Int32) (n : Nat) (hn : F 1 6 = nI n) (hxx : x < 0 ∨ nI n ≤ x) : MH l yL_ownPartOf cL_ownPartOf 4 [((0 : Nat), (9 : Nat), (12 : Nat), (21 : Nat))] 7 112 1 6 [.ref (gA G 0), .int x, .ref (gA G 27)] G (F) o (F) (o) (1) := by
  refine mk_H (own := "ShadowPoolLaw") (by decide +kernel) rfl (Nat.le_of_ble_eq_true rfl) ?_
  intro p e s m args below meth c ls hr hk0 htab S g hl
  have hl : lv_has ls 4 [(0, .ref (gA G 0)), (1, .int x), (2, .ref (gA G 27))] := hl
  have hx := S.1
  have hb := S.2.1
  refine lv_aload_n hx hb dL_ownPartOf_0 rfl (lv_at hl 2 rfl) ?_
  refine lv_iconst (v := 0) hx hb dL_ownPartOf_1 (by decide) ?_
  refine lv_aload_n hx hb dL_ownPartOf_2 rfl (lv_at hl 0 rfl) ?_
  refine lv_iload_n hx hb dL_ownPartOf_3 rfl (lv_at hl 1 rfl) ?_
  refine g_xc (n := 1) (name := xIB) (As := [.int x]) (rest := [.int 0, .ref (gA G 27)]) S g (x_ownPartOf l hfl G (F) o x n hn hxx) (lw_V q506 q507 q508 q1 q509) ⟨rfl, by decide +kernel, by decide +kernel, by decide +kernel⟩ rfl ⟨Nat.le_of_ble_eq_true rfl, Nat.le_of_ble_eq_true rfl⟩ hl.1 (Nat.le_of_ble_eq_true rfl) rfl ⟨Nat.le_refl _, Nat.le_refl _⟩ dL_ownPartOf_4 [] ⟨0, 9, 12, 21⟩ [] htab (fun z hz => absurd hz List.not_mem_nil) (by decide) (by decide) q401 g.2.2.2.2.2.2.2.2.2.2.2.1 (fun H locs q g => ?_)
  refine lv_astore_n (lv' := [(3, .ref q), (0, .ref (gA G 0)), (1, .int x), (2, .ref (gA G 27))]) hx hb dL_ownPartOf_12 rfl hl (by decide) rfl (fun ls hl => ?_)
  refine lv_iconst (v := 1) hx hb dL_ownPartOf_13 (by decide) ?_
  exact e_h S hr hk0 g rfl rfl rfl dL_ownPartOf_14
set_option maxHeartbeats 4000000 in
set_option maxRecDepth 100000 in
theorem h_poolPartOf_no (l : Launch) (hfl : l.stackTraces = false) (G : gT) (F : Fs) (o : Int64) (x : Int32) (n : Nat) (hn : F 1 6 = nI n) (hxx : x < 0 ∨ nI n ≤ x) : MH l yL_poolPartOf cL_poolPartOf 4 [((0 : Nat), (9 : Nat), (12 : Nat), (21 : Nat))] 7 113 1 6 [.ref (gA G 0), .int x, .ref (gA G 27)] G (F) o (F) (o) (1) := by
  refine mk_H (own := "ShadowPoolLaw") (by decide +kernel) rfl (Nat.le_of_ble_eq_true rfl) ?_
  intro p e s m args below meth c ls hr hk0 htab S g hl
  have hl : lv_has ls 4 [(0, .ref (gA G 0)), (1, .int x), (2, .ref (gA G 27))] := hl
  have hx := S.1
  have hb := S.2.1
  refine lv_aload_n hx hb dL_poolPartOf_0 rfl (lv_at hl 2 rfl) ?_
  refine lv_iconst (v := 0) hx hb dL_poolPartOf_1 (by decide) ?_
  refine lv_aload_n hx hb dL_poolPartOf_2 rfl (lv_at hl 0 rfl) ?_
  refine lv_iload_n hx hb dL_poolPartOf_3 rfl (lv_at hl 1 rfl) ?_
  refine g_xc (n := 1) (name := xIB) (As := [.int x]) (rest := [.int 0, .ref (gA G 27)]) S g (x_poolPartOf l hfl G (F) o x n hn hxx) (lw_V q513 q514 q515 q1 q516) ⟨rfl, by decide +kernel, by decide +kernel, by decide +kernel⟩ rfl ⟨Nat.le_of_ble_eq_true rfl, Nat.le_of_ble_eq_true rfl⟩ hl.1 (Nat.le_of_ble_eq_true rfl) rfl ⟨Nat.le_refl _, Nat.le_refl _⟩ dL_poolPartOf_4 [] ⟨0, 9, 12, 21⟩ [] htab (fun z hz => absurd hz List.not_mem_nil) (by decide) (by decide) q401 g.2.2.2.2.2.2.2.2.2.2.2.1 (fun H locs q g => ?_)
  refine lv_astore_n (lv' := [(3, .ref q), (0, .ref (gA G 0)), (1, .int x), (2, .ref (gA G 27))]) hx hb dL_poolPartOf_12 rfl hl (by decide) rfl (fun ls hl => ?_)
  refine lv_iconst (v := 1) hx hb dL_poolPartOf_13 (by decide) ?_
  exact e_h S hr hk0 g rfl rfl rfl dL_poolPartOf_14
set_option maxHeartbeats 4000000 in
set_option maxRecDepth 100000 in
theorem h_reinsuredPartOf_no (l : Launch) (hfl : l.stackTraces = false) (G : gT) (F : Fs) (o : Int64) (x : Int32) (n : Nat) (hn : F 1 6 = nI n) (hxx : x < 0 ∨ nI n ≤ x) : MH l yL_reinsuredPartOf cL_reinsuredPartOf 4 [((0 : Nat), (9 : Nat), (12 : Nat), (21 : Nat))] 7 112 1 6 [.ref (gA G 0), .int x, .ref (gA G 27)] G (F) o (F) (o) (1) := by
  refine mk_H (own := "ShadowPoolLaw") (by decide +kernel) rfl (Nat.le_of_ble_eq_true rfl) ?_
  intro p e s m args below meth c ls hr hk0 htab S g hl
  have hl : lv_has ls 4 [(0, .ref (gA G 0)), (1, .int x), (2, .ref (gA G 27))] := hl
  have hx := S.1
  have hb := S.2.1
  refine lv_aload_n hx hb dL_reinsuredPartOf_0 rfl (lv_at hl 2 rfl) ?_
  refine lv_iconst (v := 0) hx hb dL_reinsuredPartOf_1 (by decide) ?_
  refine lv_aload_n hx hb dL_reinsuredPartOf_2 rfl (lv_at hl 0 rfl) ?_
  refine lv_iload_n hx hb dL_reinsuredPartOf_3 rfl (lv_at hl 1 rfl) ?_
  refine g_xc (n := 1) (name := xIB) (As := [.int x]) (rest := [.int 0, .ref (gA G 27)]) S g (x_reinsuredPartOf l hfl G (F) o x n hn hxx) (lw_V q520 q521 q522 q1 q523) ⟨rfl, by decide +kernel, by decide +kernel, by decide +kernel⟩ rfl ⟨Nat.le_of_ble_eq_true rfl, Nat.le_of_ble_eq_true rfl⟩ hl.1 (Nat.le_of_ble_eq_true rfl) rfl ⟨Nat.le_refl _, Nat.le_refl _⟩ dL_reinsuredPartOf_4 [] ⟨0, 9, 12, 21⟩ [] htab (fun z hz => absurd hz List.not_mem_nil) (by decide) (by decide) q401 g.2.2.2.2.2.2.2.2.2.2.2.1 (fun H locs q g => ?_)
  refine lv_astore_n (lv' := [(3, .ref q), (0, .ref (gA G 0)), (1, .int x), (2, .ref (gA G 27))]) hx hb dL_reinsuredPartOf_12 rfl hl (by decide) rfl (fun ls hl => ?_)
  refine lv_iconst (v := 1) hx hb dL_reinsuredPartOf_13 (by decide) ?_
  exact e_h S hr hk0 g rfl rfl rfl dL_reinsuredPartOf_14
set_option maxHeartbeats 4000000 in
set_option maxRecDepth 100000 in
theorem h_hoursUntilFall_no (l : Launch) (hfl : l.stackTraces = false) (G : gT) (F : Fs) (o : Int64) (x : Int32) (n : Nat) (hn : F 1 6 = nI n) (hxx : x < 0 ∨ nI n ≤ x) : MH l yL_hoursUntilFall cL_hoursUntilFall 4 [((0 : Nat), (9 : Nat), (12 : Nat), (21 : Nat))] 7 112 1 6 [.ref (gA G 0), .int x, .ref (gA G 27)] G (F) o (F) (o) (1) := by
  refine mk_H (own := "ShadowPoolLaw") (by decide +kernel) rfl (Nat.le_of_ble_eq_true rfl) ?_
  intro p e s m args below meth c ls hr hk0 htab S g hl
  have hl : lv_has ls 4 [(0, .ref (gA G 0)), (1, .int x), (2, .ref (gA G 27))] := hl
  have hx := S.1
  have hb := S.2.1
  refine lv_aload_n hx hb dL_hoursUntilFall_0 rfl (lv_at hl 2 rfl) ?_
  refine lv_iconst (v := 0) hx hb dL_hoursUntilFall_1 (by decide) ?_
  refine lv_aload_n hx hb dL_hoursUntilFall_2 rfl (lv_at hl 0 rfl) ?_
  refine lv_iload_n hx hb dL_hoursUntilFall_3 rfl (lv_at hl 1 rfl) ?_
  refine g_xc (n := 1) (name := xIB) (As := [.int x]) (rest := [.int 0, .ref (gA G 27)]) S g (x_hoursUntilFall l hfl G (F) o x n hn hxx) (lw_V q527 q528 q529 q1 q530) ⟨rfl, by decide +kernel, by decide +kernel, by decide +kernel⟩ rfl ⟨Nat.le_of_ble_eq_true rfl, Nat.le_of_ble_eq_true rfl⟩ hl.1 (Nat.le_of_ble_eq_true rfl) rfl ⟨Nat.le_refl _, Nat.le_refl _⟩ dL_hoursUntilFall_4 [] ⟨0, 9, 12, 21⟩ [] htab (fun z hz => absurd hz List.not_mem_nil) (by decide) (by decide) q401 g.2.2.2.2.2.2.2.2.2.2.2.1 (fun H locs q g => ?_)
  refine lv_astore_n (lv' := [(3, .ref q), (0, .ref (gA G 0)), (1, .int x), (2, .ref (gA G 27))]) hx hb dL_hoursUntilFall_12 rfl hl (by decide) rfl (fun ls hl => ?_)
  refine lv_iconst (v := 1) hx hb dL_hoursUntilFall_13 (by decide) ?_
  exact e_h S hr hk0 g rfl rfl rfl dL_hoursUntilFall_14
set_option maxHeartbeats 4000000 in
set_option maxRecDepth 100000 in
theorem h_fundIn_no (l : Launch) (hfl : l.stackTraces = false) (G : gT) (F : Fs) (o : Int64) (x : Int32) (hx9 : inR x 1 60 = 0) : MH l yL_fundIn cL_fundIn 4 [((0 : Nat), (9 : Nat), (12 : Nat), (13 : Nat))] 7 111 1 6 [.ref (gA G 0), .int x, .ref (gA G 27)] G (F) o (F) (o) (1) := by
  refine mk_H (own := "ShadowPoolLaw") (by decide +kernel) rfl (Nat.le_of_ble_eq_true rfl) ?_
  intro p e s m args below meth c ls hr hk0 htab S g hl
  have hl : lv_has ls 4 [(0, .ref (gA G 0)), (1, .int x), (2, .ref (gA G 27))] := hl
  have hx := S.1
  have hb := S.2.1
  refine lv_aload_n hx hb dL_fundIn_0 rfl (lv_at hl 2 rfl) ?_
  refine lv_iconst (v := 0) hx hb dL_fundIn_1 (by decide) ?_
  refine lv_aload_n hx hb dL_fundIn_2 rfl (lv_at hl 0 rfl) ?_
  refine lv_iload_n hx hb dL_fundIn_3 rfl (lv_at hl 1 rfl) ?_
  refine g_xc (n := 1) (name := xIA) (As := [.int x]) (rest := [.int 0, .ref (gA G 27)]) S g (x_fundIn l hfl G (F) o x hx9) (lw_V q534 q535 q536 q1 q537) ⟨rfl, by decide +kernel, by decide +kernel, by decide +kernel⟩ rfl ⟨Nat.le_of_ble_eq_true rfl, Nat.le_of_ble_eq_true rfl⟩ hl.1 (Nat.le_of_ble_eq_true rfl) rfl ⟨Nat.le_refl _, Nat.le_refl _⟩ dL_fundIn_4 [] ⟨0, 9, 12, 13⟩ [] htab (fun z hz => absurd hz List.not_mem_nil) (by decide) (by decide) q295 g.2.2.2.2.2.2.2.2.2.1 (fun H locs q g => ?_)
  refine lv_astore_n (lv' := [(3, .ref q), (0, .ref (gA G 0)), (1, .int x), (2, .ref (gA G 27))]) hx hb dL_fundIn_12 rfl hl (by decide) rfl (fun ls hl => ?_)
  refine lv_iconst (v := 1) hx hb dL_fundIn_13 (by decide) ?_
  exact e_h S hr hk0 g rfl rfl rfl dL_fundIn_14
set_option maxHeartbeats 4000000 in
set_option maxRecDepth 100000 in
theorem h_turnMember_no (l : Launch) (hfl : l.stackTraces = false) (G : gT) (F : Fs) (o : Int64) (x : Int32) (n : Nat) (hn : F 1 6 = nI n) (hxx : x < 0 ∨ nI n ≤ x) : MH l yL_turnMember cL_turnMember 4 [((0 : Nat), (16 : Nat), (19 : Nat), (21 : Nat))] 7 112 1 6 [.ref (gA G 0), .int x, .ref (gA G 27)] G (F) o (F) (o) (1) := by
  refine mk_H (own := "ShadowPoolLaw") (by decide +kernel) rfl (Nat.le_of_ble_eq_true rfl) ?_
  intro p e s m args below meth c ls hr hk0 htab S g hl
  have hl : lv_has ls 4 [(0, .ref (gA G 0)), (1, .int x), (2, .ref (gA G 27))] := hl
  have hx := S.1
  have hb := S.2.1
  refine lv_aload_n hx hb dL_turnMember_0 rfl (lv_at hl 2 rfl) ?_
  refine lv_iconst (v := 0) hx hb dL_turnMember_1 (by decide) ?_
  refine lv_aload_n hx hb dL_turnMember_2 rfl (lv_at hl 0 rfl) ?_
  refine lv_iload_n hx hb dL_turnMember_3 rfl (lv_at hl 1 rfl) ?_
  refine g_xc (n := 1) (name := xIB) (As := [.int x]) (rest := [.int 0, .ref (gA G 27)]) S g (x_turnMember l hfl G (F) o x n hn hxx) (lw_V q402 q403 q404 q1 q405) ⟨rfl, by decide +kernel, by decide +kernel, by decide +kernel⟩ rfl ⟨Nat.le_of_ble_eq_true rfl, Nat.le_of_ble_eq_true rfl⟩ hl.1 (Nat.le_of_ble_eq_true rfl) rfl ⟨Nat.le_refl _, Nat.le_refl _⟩ dL_turnMember_4 [] ⟨0, 16, 19, 21⟩ [] htab (fun z hz => absurd hz List.not_mem_nil) (by decide) (by decide) q401 g.2.2.2.2.2.2.2.2.2.2.2.1 (fun H locs q g => ?_)
  refine lv_astore_n (lv' := [(3, .ref q), (0, .ref (gA G 0)), (1, .int x), (2, .ref (gA G 27))]) hx hb dL_turnMember_19 rfl hl (by decide) rfl (fun ls hl => ?_)
  refine lv_iconst (v := 1) hx hb dL_turnMember_20 (by decide) ?_
  exact e_h S hr hk0 g rfl rfl rfl dL_turnMember_21
set_option maxHeartbeats 4000000 in
set_option maxRecDepth 100000 in
theorem h_isMember_no (l : Launch) (hfl : l.stackTraces = false) (G : gT) (F : Fs) (o : Int64) (x : Int32) (n : Nat) (hn : F 1 6 = nI n) (hxx : x < 0 ∨ nI n ≤ x) : MH l yL_isMember cL_isMember 4 [((0 : Nat), (16 : Nat), (19 : Nat), (21 : Nat))] 7 112 1 6 [.ref (gA G 0), .int x, .ref (gA G 27)] G (F) o (F) (o) (1) := by
  refine mk_H (own := "ShadowPoolLaw") (by decide +kernel) rfl (Nat.le_of_ble_eq_true rfl) ?_
  intro p e s m args below meth c ls hr hk0 htab S g hl
  have hl : lv_has ls 4 [(0, .ref (gA G 0)), (1, .int x), (2, .ref (gA G 27))] := hl
  have hx := S.1
  have hb := S.2.1
  refine lv_aload_n hx hb dL_isMember_0 rfl (lv_at hl 2 rfl) ?_
  refine lv_iconst (v := 0) hx hb dL_isMember_1 (by decide) ?_
  refine lv_aload_n hx hb dL_isMember_2 rfl (lv_at hl 0 rfl) ?_
  refine lv_iload_n hx hb dL_isMember_3 rfl (lv_at hl 1 rfl) ?_
  refine g_xc (n := 1) (name := xIB) (As := [.int x]) (rest := [.int 0, .ref (gA G 27)]) S g (x_isMember l hfl G (F) o x n hn hxx) (lw_V q464 q465 q466 q1 q467) ⟨rfl, by decide +kernel, by decide +kernel, by decide +kernel⟩ rfl ⟨Nat.le_of_ble_eq_true rfl, Nat.le_of_ble_eq_true rfl⟩ hl.1 (Nat.le_of_ble_eq_true rfl) rfl ⟨Nat.le_refl _, Nat.le_refl _⟩ dL_isMember_4 [] ⟨0, 16, 19, 21⟩ [] htab (fun z hz => absurd hz List.not_mem_nil) (by decide) (by decide) q401 g.2.2.2.2.2.2.2.2.2.2.2.1 (fun H locs q g => ?_)
  refine lv_astore_n (lv' := [(3, .ref q), (0, .ref (gA G 0)), (1, .int x), (2, .ref (gA G 27))]) hx hb dL_isMember_19 rfl hl (by decide) rfl (fun ls hl => ?_)
  refine lv_iconst (v := 1) hx hb dL_isMember_20 (by decide) ?_
  exact e_h S hr hk0 g rfl rfl rfl dL_isMember_21
set_option maxHeartbeats 4000000 in
set_option maxRecDepth 100000 in
theorem h_setNet_net (l : Launch) (hfl : l.stackTraces = false) (G : gT) (F : Fs) (o : Int64) (j : Nat) (n : Nat) (y : Int32) (hn : F 1 6 = nI n) (hj : j < n) (hn8 : n ≤ 8) (hy9 : inR y 0 9 = 0) : MH l yL_setNet cL_setNet 5 [((0 : Nat), (10 : Nat), (13 : Nat), (21 : Nat)), ((0 : Nat), (10 : Nat), (17 : Nat), (13 : Nat))] 7 114 1 6 [.ref (gA G 0), .int (nI j), .int y, .ref (gA G 27)] G (F) o (F) (o) (2) := by
  refine mk_H (own := "ShadowPoolLaw") (by decide +kernel) rfl (Nat.le_of_ble_eq_true rfl) ?_
  intro p e s m args below meth c ls hr hk0 htab S g hl
  have hl : lv_has ls 5 [(0, .ref (gA G 0)), (1, .int (nI j)), (2, .int y), (3, .ref (gA G 27))] := hl
  have hx := S.1
  have hb := S.2.1
  refine lv_aload_n hx hb dL_setNet_0 rfl (lv_at hl 3 rfl) ?_
  refine lv_iconst (v := 0) hx hb dL_setNet_1 (by decide) ?_
  refine lv_aload_n hx hb dL_setNet_2 rfl (lv_at hl 0 rfl) ?_
  refine lv_iload_n hx hb dL_setNet_3 rfl (lv_at hl 1 rfl) ?_
  refine lv_iload_n hx hb dL_setNet_4 rfl (lv_at hl 2 rfl) ?_
  refine g_xc (n := 2) (name := xIA) (As := [.int (nI j), .int y]) (rest := [.int 0, .ref (gA G 27)]) S g (x_setNet_net l hfl G (F) o j n y hn hj hn8 hy9) (lw_V q425 q426 q427 q1 q428) ⟨rfl, by decide +kernel, by decide +kernel, by decide +kernel⟩ rfl ⟨Nat.le_of_ble_eq_true rfl, Nat.le_of_ble_eq_true rfl⟩ hl.1 (Nat.le_of_ble_eq_true rfl) rfl ⟨Nat.le_refl _, Nat.le_refl _⟩ dL_setNet_5 [⟨0, 10, 13, 21⟩] ⟨0, 10, 17, 13⟩ [] htab (fun z hz => by rcases List.mem_singleton.mp hz with rfl; exact Or.inr ⟨by decide, _, q401, g.2.2.2.2.2.2.2.2.2.2.2.2.2.1⟩) (by decide) (by decide) q295 g.2.2.2.2.2.2.2.2.2.1 (fun H locs q g => ?_)
  refine lv_astore (lv' := [(4, .ref q), (0, .ref (gA G 0)), (1, .int (nI j)), (2, .int y), (3, .ref (gA G 27))]) hx hb dL_setNet_17 hl (by decide) rfl (fun ls hl => ?_)
  refine lv_iconst (v := 2) hx hb dL_setNet_19 (by decide) ?_
  exact e_h S hr hk0 g rfl rfl rfl dL_setNet_20
