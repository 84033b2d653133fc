theorem inR_N {t lo hi : Nat} (h1 : lo ≤ t) (h2 : t ≤ hi) (h3 : hi < 2 ^ 31) : ¬ inR (nI t) (nI lo) (nI hi) = 0 := by
  unfold inR
  rw [if_neg (nI_nlt h1 (by omega)), if_neg (nI_nlt h2 h3)]
  decide
theorem nI_nle2 {a b : Nat} (h : b < a) (ha : a < 2 ^ 31) : ¬ nI a ≤ nI b := nI_ge h ha
theorem th0_24 (F : Fs) (v : Int32) (j : Nat) : th0 F v 24 j = F 24 j := up2_ne _ _ (by omega)
set_option maxHeartbeats 4000000 in
set_option maxRecDepth 100000 in
theorem m_setRate_ok (l : Launch) (G : gT) (F : Fs) (o : Int64) (x : Int32) (hx9 : ¬ inR x 0 9 = 0) : MI l yX3_setRate cX3_setRate 3 (some .int) 1 22 [.ref (gA G 21), .int x] G (F) o (up2 (th0 F 0) 25 2 x) (F 25 2) := by
  refine mk_G (own := "ShadowPoolModel") (Qs := (fun sz => QI G (up2 (th0 F 0) 25 2 x) o (F 25 2) sz)) (by decide +kernel) rfl (Nat.le_of_ble_eq_true rfl) ?_
  intro p e s m args below meth c ls hr hk0 hnm S g hl
  have hl : lv_has ls 3 [(0, .ref (gA G 21)), (1, .int x)] := hl
  have hx := S.1
  have hb := S.2.1
  refine lv_aload_n hx hb dX3_setRate_0 rfl (lv_at hl 0 rfl) ?_
  refine lv_iconst (v := 0) hx hb dX3_setRate_1 (by decide) ?_
  refine gMp (k := 0) S g 0 (by decide) q544 dX3_setRate_2 (fun H locs g => ?_)
  rw [show up2 (F) (21) 0 (0) = th0 F 0 from rfl] at g
  refine lv_iload_n hx hb dX3_setRate_5 rfl (lv_at hl 1 rfl) ?_
  refine lv_iconst (v := 0) hx hb dX3_setRate_6 (by decide) ?_
  refine lv_bipush (v := 9) hx hb dX3_setRate_7 (by decide) ?_
  refine g_ci (rest := []) g (g_S (n := 3) (As := [.int x, .int 0, .int 9]) S g (m_isFrom l G (th0 F 0) o x 0 9) (lw_S q579 q580 q4 q581) ⟨by decide +kernel, by decide +kernel, by decide +kernel⟩ rfl ⟨Nat.le_of_ble_eq_true rfl, Nat.le_of_ble_eq_true rfl⟩ hl.1 (Nat.le_of_ble_eq_true rfl) rfl ⟨Nat.zero_le _, Nat.zero_le _⟩ dX3_setRate_9) (fun H locs g => ?_)
  refine lv_if_ne (tgt := 21) hx hb dX3_setRate_12 (by decide) (fun c_12 => ?_) (fun c9 => absurd c9 hx9)
  refine lv_aload_n hx hb dX3_setRate_21 rfl (lv_at hl 0 rfl) ?_
  refine gMr (k := 0) S g 6 (by decide) q550 dX3_setRate_22 ?_
  refine lv_iconst (v := 2) hx hb dX3_setRate_25 (by decide) ?_
  refine gAn (k := 25) S g (Or.inl rfl) (2) rfl (by decide) dX3_setRate_26 ?_
  refine lv_istore_n (lv' := [(2, .int (((th0 F 0)) 25 2)), (0, .ref (gA G 21)), (1, .int x)]) hx hb dX3_setRate_27 rfl hl (by decide) rfl (fun ls hl => ?_)
  refine lv_aload_n hx hb dX3_setRate_28 rfl (lv_at hl 1 rfl) ?_
  refine gMr (k := 0) S g 6 (by decide) q550 dX3_setRate_29 ?_
  refine lv_iconst (v := 2) hx hb dX3_setRate_32 (by decide) ?_
  refine lv_iload_n hx hb dX3_setRate_33 rfl (lv_at hl 2 rfl) ?_
  refine gAns (k := 25) S g (Or.inl rfl) (2) rfl (by decide) dX3_setRate_34 (fun H locs g => ?_)
  refine lv_iload_n hx hb dX3_setRate_35 rfl (lv_at hl 0 rfl) ?_
  exact e_i S hr hk0 g rfl rfl dX3_setRate_36
set_option maxHeartbeats 4000000 in
set_option maxRecDepth 100000 in
theorem m_setRate_no (l : Launch) (G : gT) (F : Fs) (o : Int64) (x : Int32) (hx9 : inR x 0 9 = 0) : MI l yX3_setRate cX3_setRate 3 (some .int) 1 22 [.ref (gA G 21), .int x] G (F) o (th0 F 1) (0) := by
  refine mk_G (own := "ShadowPoolModel") (Qs := (fun sz => QI G (th0 F 1) o (0) sz)) (by decide +kernel) rfl (Nat.le_of_ble_eq_true rfl) ?_
  intro p e s m args below meth c ls hr hk0 hnm S g hl
  have hl : lv_has ls 3 [(0, .ref (gA G 21)), (1, .int x)] := hl
  have hx := S.1
  have hb := S.2.1
  refine lv_aload_n hx hb dX3_setRate_0 rfl (lv_at hl 0 rfl) ?_
  refine lv_iconst (v := 0) hx hb dX3_setRate_1 (by decide) ?_
  refine gMp (k := 0) S g 0 (by decide) q544 dX3_setRate_2 (fun H locs g => ?_)
  rw [show up2 (F) (21) 0 (0) = th0 F 0 from rfl] at g
  refine lv_iload_n hx hb dX3_setRate_5 rfl (lv_at hl 1 rfl) ?_
  refine lv_iconst (v := 0) hx hb dX3_setRate_6 (by decide) ?_
  refine lv_bipush (v := 9) hx hb dX3_setRate_7 (by decide) ?_
  refine g_ci (rest := []) g (g_S (n := 3) (As := [.int x, .int 0, .int 9]) S g (m_isFrom l G (th0 F 0) o x 0 9) (lw_S q579 q580 q4 q581) ⟨by decide +kernel, by decide +kernel, by decide +kernel⟩ rfl ⟨Nat.le_of_ble_eq_true rfl, Nat.le_of_ble_eq_true rfl⟩ hl.1 (Nat.le_of_ble_eq_true rfl) rfl ⟨Nat.zero_le _, Nat.zero_le _⟩ dX3_setRate_9) (fun H locs g => ?_)
  refine lv_if_ne (tgt := 21) hx hb dX3_setRate_12 (by decide) (fun c9 => absurd hx9 c9) (fun c_12 => ?_)
  refine lv_aload_n hx hb dX3_setRate_15 rfl (lv_at hl 0 rfl) ?_
  refine lv_iconst (v := 1) hx hb dX3_setRate_16 (by decide) ?_
  refine g_ci (rest := []) g (g_V (n := 1) (As := [.int 1]) S g (m_no l G ((th0 F 0)) o 1) (by decide) (cEm G _ o) rfl (lw_V q582 q584 qs21 q4 q585) ⟨rfl, by decide +kernel, by decide +kernel, by decide +kernel⟩ rfl ⟨Nat.le_of_ble_eq_true rfl, Nat.le_of_ble_eq_true rfl⟩ hl.1 (Nat.le_of_ble_eq_true rfl) rfl ⟨Nat.zero_le _, Nat.zero_le _⟩ dX3_setRate_17) (fun H locs g => ?_)
  exact e_i S hr hk0 g rfl (by funext a b; simp only [th0, up2_at]; split <;> rfl) dX3_setRate_20
set_option maxHeartbeats 4000000 in
set_option maxRecDepth 100000 in
theorem m_reinsure_ok (l : Launch) (G : gT) (F : Fs) (o : Int64) (x : Int32) (y : Int32) (hx9 : ¬ inR x 0 200 = 0) (hy9 : ¬ inR y 0 400 = 0) : MI l yX3_reinsure cX3_reinsure 4 (some .int) 1 22 [.ref (gA G 21), .int x, .int y] G (F) o (up2 (up2 (th0 F 0) 21 2 x) 25 3 y) (F 25 3) := by
  refine mk_G (own := "ShadowPoolModel") (Qs := (fun sz => QI G (up2 (up2 (th0 F 0) 21 2 x) 25 3 y) o (F 25 3) sz)) (by decide +kernel) rfl (Nat.le_of_ble_eq_true rfl) ?_
  intro p e s m args below meth c ls hr hk0 hnm S g hl
  have hl : lv_has ls 4 [(0, .ref (gA G 21)), (1, .int x), (2, .int y)] := hl
  have hx := S.1
  have hb := S.2.1
  refine lv_aload_n hx hb dX3_reinsure_0 rfl (lv_at hl 0 rfl) ?_
  refine lv_iconst (v := 0) hx hb dX3_reinsure_1 (by decide) ?_
  refine gMp (k := 0) S g 0 (by decide) q544 dX3_reinsure_2 (fun H locs g => ?_)
  rw [show up2 (F) (21) 0 (0) = th0 F 0 from rfl] at g
  refine lv_iload_n hx hb dX3_reinsure_5 rfl (lv_at hl 1 rfl) ?_
  refine lv_iconst (v := 0) hx hb dX3_reinsure_6 (by decide) ?_
  refine lv_sipush (v := 200) hx hb dX3_reinsure_7 (by decide) ?_
  refine g_ci (rest := []) g (g_S (n := 3) (As := [.int x, .int 0, .int 200]) S g (m_isFrom l G (th0 F 0) o x 0 200) (lw_S q579 q580 q4 q581) ⟨by decide +kernel, by decide +kernel, by decide +kernel⟩ rfl ⟨Nat.le_of_ble_eq_true rfl, Nat.le_of_ble_eq_true rfl⟩ hl.1 (Nat.le_of_ble_eq_true rfl) rfl ⟨Nat.zero_le _, Nat.zero_le _⟩ dX3_reinsure_10) (fun H locs g => ?_)
  refine lv_if_eq (tgt := 27) hx hb dX3_reinsure_13 (by decide) (fun c9 => absurd c9 hx9) (fun c_13 => ?_)
  refine lv_iload_n hx hb dX3_reinsure_16 rfl (lv_at hl 2 rfl) ?_
  refine lv_iconst (v := 0) hx hb dX3_reinsure_17 (by decide) ?_
  refine lv_sipush (v := 400) hx hb dX3_reinsure_18 (by decide) ?_
  refine g_ci (rest := []) g (g_S (n := 3) (As := [.int y, .int 0, .int 400]) S g (m_isFrom l G ((th0 F 0)) o y 0 400) (lw_S q579 q580 q4 q581) ⟨by decide +kernel, by decide +kernel, by decide +kernel⟩ rfl ⟨Nat.le_of_ble_eq_true rfl, Nat.le_of_ble_eq_true rfl⟩ hl.1 (Nat.le_of_ble_eq_true rfl) rfl ⟨Nat.zero_le _, Nat.zero_le _⟩ dX3_reinsure_21) (fun H locs g => ?_)
  refine lv_if_ne (tgt := 33) hx hb dX3_reinsure_24 (by decide) (fun c_24 => ?_) (fun c9 => absurd c9 hy9)
  refine lv_aload_n hx hb dX3_reinsure_33 rfl (lv_at hl 0 rfl) ?_
  refine gMr (k := 0) S g 6 (by decide) q550 dX3_reinsure_34 ?_
  refine lv_iconst (v := 3) hx hb dX3_reinsure_37 (by decide) ?_
  refine gAn (k := 25) S g (Or.inl rfl) (3) rfl (by decide) dX3_reinsure_38 ?_
  refine lv_istore_n (lv' := [(3, .int ((((th0 F 0))) 25 3)), (0, .ref (gA G 21)), (1, .int x), (2, .int y)]) hx hb dX3_reinsure_39 rfl hl (by decide) rfl (fun ls hl => ?_)
  refine lv_aload_n hx hb dX3_reinsure_40 rfl (lv_at hl 1 rfl) ?_
  refine lv_iload_n hx hb dX3_reinsure_41 rfl (lv_at hl 2 rfl) ?_
  refine gMp (k := 0) S g 2 (by decide) q546 dX3_reinsure_42 (fun H locs g => ?_)
  refine lv_aload_n hx hb dX3_reinsure_45 rfl (lv_at hl 1 rfl) ?_
  refine gMr (k := 0) S g 6 (by decide) q550 dX3_reinsure_46 ?_
  refine lv_iconst (v := 3) hx hb dX3_reinsure_49 (by decide) ?_
  refine lv_iload_n hx hb dX3_reinsure_50 rfl (lv_at hl 3 rfl) ?_
  refine gAns (k := 25) S g (Or.inl rfl) (3) rfl (by decide) dX3_reinsure_51 (fun H locs g => ?_)
  refine lv_iload_n hx hb dX3_reinsure_52 rfl (lv_at hl 0 rfl) ?_
  exact e_i S hr hk0 g rfl rfl dX3_reinsure_53
set_option maxHeartbeats 4000000 in
set_option maxRecDepth 100000 in
theorem m_reinsure_no (l : Launch) (G : gT) (F : Fs) (o : Int64) (x : Int32) (y : Int32) (hb9 : inR x 0 200 = 0 ∨ inR y 0 400 = 0) : MI l yX3_reinsure cX3_reinsure 4 (some .int) 1 22 [.ref (gA G 21), .int x, .int y] G (F) o (th0 F 1) (0) := by
  refine mk_G (own := "ShadowPoolModel") (Qs := (fun sz => QI G (th0 F 1) o (0) sz)) (by decide +kernel) rfl (Nat.le_of_ble_eq_true rfl) ?_
  intro p e s m args below meth c ls hr hk0 hnm S g hl
  have hl : lv_has ls 4 [(0, .ref (gA G 21)), (1, .int x), (2, .int y)] := hl
  have hx := S.1
  have hb := S.2.1
  refine lv_aload_n hx hb dX3_reinsure_0 rfl (lv_at hl 0 rfl) ?_
  refine lv_iconst (v := 0) hx hb dX3_reinsure_1 (by decide) ?_
  refine gMp (k := 0) S g 0 (by decide) q544 dX3_reinsure_2 (fun H locs g => ?_)
  rw [show up2 (F) (21) 0 (0) = th0 F 0 from rfl] at g
  refine lv_iload_n hx hb dX3_reinsure_5 rfl (lv_at hl 1 rfl) ?_
  refine lv_iconst (v := 0) hx hb dX3_reinsure_6 (by decide) ?_
  refine lv_sipush (v := 200) hx hb dX3_reinsure_7 (by decide) ?_
  refine g_ci (rest := []) g (g_S (n := 3) (As := [.int x, .int 0, .int 200]) S g (m_isFrom l G (th0 F 0) o x 0 200) (lw_S q579 q580 q4 q581) ⟨by decide +kernel, by decide +kernel, by decide +kernel⟩ rfl ⟨Nat.le_of_ble_eq_true rfl, Nat.le_of_ble_eq_true rfl⟩ hl.1 (Nat.le_of_ble_eq_true rfl) rfl ⟨Nat.zero_le _, Nat.zero_le _⟩ dX3_reinsure_10) (fun H locs g => ?_)
  refine lv_if_eq (tgt := 27) hx hb dX3_reinsure_13 (by decide) (fun c_13 => ?_) (fun c_13 => ?_)
  · refine lv_aload_n hx hb dX3_reinsure_27 rfl (lv_at hl 0 rfl) ?_
    refine lv_iconst (v := 1) hx hb dX3_reinsure_28 (by decide) ?_
    refine g_ci (rest := []) g (g_V (n := 1) (As := [.int 1]) S g (m_no l G ((th0 F 0)) o 1) (by decide) (cEm G _ o) rfl (lw_V q582 q584 qs21 q4 q585) ⟨rfl, by decide +kernel, by decide +kernel, by decide +kernel⟩ rfl ⟨Nat.le_of_ble_eq_true rfl, Nat.le_of_ble_eq_true rfl⟩ hl.1 (Nat.le_of_ble_eq_true rfl) rfl ⟨Nat.zero_le _, Nat.zero_le _⟩ dX3_reinsure_29) (fun H locs g => ?_)
    exact e_i S hr hk0 g rfl (by funext a b; simp only [th0, up2_at]; split <;> rfl) dX3_reinsure_32
  · refine lv_iload_n hx hb dX3_reinsure_16 rfl (lv_at hl 2 rfl) ?_
    refine lv_iconst (v := 0) hx hb dX3_reinsure_17 (by decide) ?_
    refine lv_sipush (v := 400) hx hb dX3_reinsure_18 (by decide) ?_
    refine g_ci (rest := []) g (g_S (n := 3) (As := [.int y, .int 0, .int 400]) S g (m_isFrom l G ((th0 F 0)) o y 0 400) (lw_S q579 q580 q4 q581) ⟨by decide +kernel, by decide +kernel, by decide +kernel⟩ rfl ⟨Nat.le_of_ble_eq_true rfl, Nat.le_of_ble_eq_true rfl⟩ hl.1 (Nat.le_of_ble_eq_true rfl) rfl ⟨Nat.zero_le _, Nat.zero_le _⟩ dX3_reinsure_21) (fun H locs g => ?_)
    refine lv_if_ne (tgt := 33) hx hb dX3_reinsure_24 (by decide) (fun c9 => absurd (hb9.resolve_left c_13) c9) (fun c_24 => ?_)
    refine lv_aload_n hx hb dX3_reinsure_27 rfl (lv_at hl 0 rfl) ?_
    refine lv_iconst (v := 1) hx hb dX3_reinsure_28 (by decide) ?_
    refine g_ci (rest := []) g (g_V (n := 1) (As := [.int 1]) S g (m_no l G (((th0 F 0))) o 1) (by decide) (cEm G _ o) rfl (lw_V q582 q584 qs21 q4 q585) ⟨rfl, by decide +kernel, by decide +kernel, by decide +kernel⟩ rfl ⟨Nat.le_of_ble_eq_true rfl, Nat.le_of_ble_eq_true rfl⟩ hl.1 (Nat.le_of_ble_eq_true rfl) rfl ⟨Nat.zero_le _, Nat.zero_le _⟩ dX3_reinsure_29) (fun H locs g => ?_)
    exact e_i S hr hk0 g rfl (by funext a b; simp only [th0, up2_at]; split <;> rfl) dX3_reinsure_32
set_option maxHeartbeats 4000000 in
set_option maxRecDepth 100000 in
theorem m_pass_ok (l : Launch) (G : gT) (F : Fs) (o : Int64) (t : Nat) (n : Nat) (h : Nat) (hok : okM F n h) (hn8 : n ≤ 8) (hh2 : h + t < 2 ^ 29) (ht1 : 1 ≤ t) (ht : t ≤ 60) : MI l yX3_pass cX3_pass 2 (some .int) 9 191 [.ref (gA G 21), .int (nI t)] G (F) o ((gmL n t h 0 (th0 F 0)).2) ((gmL n t h 0 (th0 F 0)).1) := by
  refine mk_G (own := "ShadowPoolModel") (Qs := (fun sz => QI G ((gmL n t h 0 (th0 F 0)).2) o ((gmL n t h 0 (th0 F 0)).1) sz)) (by decide +kernel) rfl (Nat.le_of_ble_eq_true rfl) ?_
  intro p e s m args below meth c ls hr hk0 hnm S g hl
  have hl : lv_has ls 2 [(0, .ref (gA G 21)), (1, .int (nI t))] := hl
  have hx := S.1
  have hb := S.2.1
  refine lv_aload_n hx hb dX3_pass_0 rfl (lv_at hl 0 rfl) ?_
  refine lv_iconst (v := 0) hx hb dX3_pass_1 (by decide) ?_
  refine gMp (k := 0) S g 0 (by decide) q544 dX3_pass_2 (fun H locs g => ?_)
  rw [show up2 (F) (21) 0 (0) = th0 F 0 from rfl] at g
  refine lv_iload_n hx hb dX3_pass_5 rfl (lv_at hl 1 rfl) ?_
  refine lv_iconst (v := 1) hx hb dX3_pass_6 (by decide) ?_
  refine lv_bipush (v := 60) hx hb dX3_pass_7 (by decide) ?_
  refine g_ci (rest := []) g (g_S (n := 3) (As := [.int (nI t), .int 1, .int 60]) S g (m_isFrom l G (th0 F 0) o (nI t) 1 60) (lw_S q579 q580 q4 q581) ⟨by decide +kernel, by decide +kernel, by decide +kernel⟩ rfl ⟨Nat.le_of_ble_eq_true rfl, Nat.le_of_ble_eq_true rfl⟩ hl.1 (Nat.le_of_ble_eq_true rfl) rfl ⟨Nat.zero_le _, Nat.zero_le _⟩ dX3_pass_9) (fun H locs g => ?_)
  refine lv_if_eq (tgt := 23) hx hb dX3_pass_12 (by decide) (fun c9 => absurd c9 (inR_N (lo := 1) (hi := 60) ht1 ht (by decide))) (fun c_12 => ?_)
  refine lv_aload_n hx hb dX3_pass_15 rfl (lv_at hl 0 rfl) ?_
  refine lv_iload_n hx hb dX3_pass_16 rfl (lv_at hl 1 rfl) ?_
  refine g_ci (rest := []) g (g_V (n := 1) (As := [.int (nI t)]) S g (m_hoursOn l G ((th0 F 0)) o n h t (okM_th hok 0) hn8 hh2) (by decide) (cEm G _ o) rfl (lw_V q614 q616 qs23 q4 q617) ⟨rfl, by decide +kernel, by decide +kernel, by decide +kernel⟩ rfl ⟨Nat.le_of_ble_eq_true rfl, Nat.le_of_ble_eq_true rfl⟩ hl.1 (Nat.le_of_ble_eq_true rfl) rfl ⟨Nat.zero_le _, Nat.zero_le _⟩ dX3_pass_17) (fun H locs g => ?_)
  refine lv_goto (tgt := 28) hx hb dX3_pass_20 (by decide) ?_
  exact e_i S hr hk0 g rfl rfl dX3_pass_28
set_option maxHeartbeats 4000000 in
set_option maxRecDepth 100000 in
theorem m_pass_no (l : Launch) (G : gT) (F : Fs) (o : Int64) (x : Int32) (hx9 : inR x 1 60 = 0) : MI l yX3_pass cX3_pass 2 (some .int) 1 22 [.ref (gA G 21), .int x] G (F) o (th0 F 1) (0) := by
  refine mk_G (own := "ShadowPoolModel") (Qs := (fun sz => QI G (th0 F 1) o (0) sz)) (by decide +kernel) rfl (Nat.le_of_ble_eq_true rfl) ?_
  intro p e s m args below meth c ls hr hk0 hnm S g hl
  have hl : lv_has ls 2 [(0, .ref (gA G 21)), (1, .int x)] := hl
  have hx := S.1
  have hb := S.2.1
  refine lv_aload_n hx hb dX3_pass_0 rfl (lv_at hl 0 rfl) ?_
  refine lv_iconst (v := 0) hx hb dX3_pass_1 (by decide) ?_
  refine gMp (k := 0) S g 0 (by decide) q544 dX3_pass_2 (fun H locs g => ?_)
  rw [show up2 (F) (21) 0 (0) = th0 F 0 from rfl] at g
  refine lv_iload_n hx hb dX3_pass_5 rfl (lv_at hl 1 rfl) ?_
  refine lv_iconst (v := 1) hx hb dX3_pass_6 (by decide) ?_
  refine lv_bipush (v := 60) hx hb dX3_pass_7 (by decide) ?_
  refine g_ci (rest := []) g (g_S (n := 3) (As := [.int x, .int 1, .int 60]) S g (m_isFrom l G (th0 F 0) o x 1 60) (lw_S q579 q580 q4 q581) ⟨by decide +kernel, by decide +kernel, by decide +kernel⟩ rfl ⟨Nat.le_of_ble_eq_true rfl, Nat.le_of_ble_eq_true rfl⟩ hl.1 (Nat.le_of_ble_eq_true rfl) rfl ⟨Nat.zero_le _, Nat.zero_le _⟩ dX3_pass_9) (fun H locs g => ?_)
  refine lv_if_eq (tgt := 23) hx hb dX3_pass_12 (by decide) (fun c_12 => ?_) (fun c9 => absurd hx9 c9)
  refine lv_aload_n hx hb dX3_pass_23 rfl (lv_at hl 0 rfl) ?_
  refine lv_iconst (v := 1) hx hb dX3_pass_24 (by decide) ?_
  refine g_ci (rest := []) g (g_V (n := 1) (As := [.int 1]) S g (m_no l G ((th0 F 0)) o 1) (by decide) (cEm G _ o) rfl (lw_V q582 q584 qs21 q4 q585) ⟨rfl, by decide +kernel, by decide +kernel, by decide +kernel⟩ rfl ⟨Nat.le_of_ble_eq_true rfl, Nat.le_of_ble_eq_true rfl⟩ hl.1 (Nat.le_of_ble_eq_true rfl) rfl ⟨Nat.zero_le _, Nat.zero_le _⟩ dX3_pass_25) (fun H locs g => ?_)
  exact e_i S hr hk0 g rfl (by funext a b; simp only [th0, up2_at]; split <;> rfl) dX3_pass_28
set_option maxHeartbeats 4000000 in
set_option maxRecDepth 100000 in
theorem m_turnMember_ok (l : Launch) (G : gT) (F : Fs) (o : Int64) (j : Nat) (n : Nat) (hn : F 21 1 = nI n) (hj : j < n) (hn8 : n ≤ 8) (hm : F 24 j = 0 ∨ F 24 j = 1) : MI l yX3_turnMember cX3_turnMember 2 (some .boolean) 2 43 [.ref (gA G 21), .int (nI j)] G (F) o (up2 (th0 F 0) 24 j (if F 24 j = 0 then 1 else 0)) (if F 24 j = 0 then 1 else 0) := by
  refine mk_G (own := "ShadowPoolModel") (Qs := (fun sz => QI G (up2 (th0 F 0) 24 j (if F 24 j = 0 then 1 else 0)) o (if F 24 j = 0 then 1 else 0) sz)) (by decide +kernel) rfl (Nat.le_of_ble_eq_true rfl) ?_
  intro p e s m args below meth c ls hr hk0 hnm S g hl
  have hl : lv_has ls 2 [(0, .ref (gA G 21)), (1, .int (nI j))] := hl
  have hx := S.1
  have hb := S.2.1
  refine lv_aload_n hx hb dX3_turnMember_0 rfl (lv_at hl 0 rfl) ?_
  refine lv_aload_n hx hb dX3_turnMember_1 rfl (lv_at hl 0 rfl) ?_
  refine lv_iload_n hx hb dX3_turnMember_2 rfl (lv_at hl 1 rfl) ?_
  refine g_ci (rest := [.ref (gA G 21)]) g (g_V (n := 1) (As := [.int (nI j)]) S g (m_isWalker l G (F) o (nI j) n hn) (by decide) (cEm G _ o) rfl (lw_V q590 q592 qs22 q4 q593) ⟨rfl, by decide +kernel, by decide +kernel, by decide +kernel⟩ rfl ⟨Nat.le_of_ble_eq_true rfl, Nat.le_of_ble_eq_true rfl⟩ hl.1 (Nat.le_of_ble_eq_true rfl) rfl ⟨Nat.zero_le _, Nat.zero_le _⟩ dX3_turnMember_3) (fun H locs g => ?_)
  refine lv_if_eq (tgt := 13) hx hb dX3_turnMember_6 (by decide) (fun c9 => absurd c9 (by rw [isW_ok hj hn8]; decide)) (fun c_6 => ?_)
  refine lv_iconst (v := 0) hx hb dX3_turnMember_9 (by decide) ?_
  refine lv_goto (tgt := 14) hx hb dX3_turnMember_10 (by decide) ?_
  refine gMp (k := 0) S g 0 (by decide) q544 dX3_turnMember_14 (fun H locs g => ?_)
  rw [show up2 (F) (21) 0 (0) = th0 F 0 from rfl] at g
  refine lv_aload_n hx hb dX3_turnMember_17 rfl (lv_at hl 0 rfl) ?_
  refine gM (k := 0) S g 0 (by decide) q544 dX3_turnMember_18 ?_
  refine lv_if_le (tgt := 26) hx hb dX3_turnMember_21 (by decide) (fun c_21 => ?_) (fun c9 => absurd (by rw [th0, up2_s]; decide) c9)
  refine lv_aload_n hx hb dX3_turnMember_26 rfl (lv_at hl 0 rfl) ?_
  refine gMr (k := 0) S g 5 (by decide) q549 dX3_turnMember_27 ?_
  refine lv_iload_n hx hb dX3_turnMember_30 rfl (lv_at hl 1 rfl) ?_
  refine lv_aload_n hx hb dX3_turnMember_31 rfl (lv_at hl 0 rfl) ?_
  refine gMr (k := 0) S g 5 (by decide) q549 dX3_turnMember_32 ?_
  refine lv_iload_n hx hb dX3_turnMember_35 rfl (lv_at hl 1 rfl) ?_
  refine g_zald S g (j) rfl (by omega) dX3_turnMember_36 ?_
  refine lv_if_ne (tgt := 44) hx hb dX3_turnMember_37 (by decide) (fun c_37 => ?_) (fun c_37 => ?_)
  · refine lv_iconst (v := 0) hx hb dX3_turnMember_44 (by decide) ?_
    refine g_zast S g (j) rfl (by omega) (by decide) dX3_turnMember_45 (fun H locs g => ?_)
    refine lv_aload_n hx hb dX3_turnMember_46 rfl (lv_at hl 0 rfl) ?_
    refine gMr (k := 0) S g 5 (by decide) q549 dX3_turnMember_47 ?_
    refine lv_iload_n hx hb dX3_turnMember_50 rfl (lv_at hl 1 rfl) ?_
    refine g_zald S g (j) rfl (by omega) dX3_turnMember_51 ?_
    exact e_z S hr hk0 g (by simp only [up2_s]; rfl) (by rw [up2_s]; simp only [th0_24] at c_37; simp only [c_6, c_21, c_37, ↓reduceIte]) (by simp only [th0_24] at c_37; simp only [c_6, c_21, c_37, ↓reduceIte]) dX3_turnMember_52
  · refine lv_iconst (v := 1) hx hb dX3_turnMember_40 (by decide) ?_
    refine lv_goto (tgt := 45) hx hb dX3_turnMember_41 (by decide) ?_
    refine g_zast S g (j) rfl (by omega) (by decide) dX3_turnMember_45 (fun H locs g => ?_)
    refine lv_aload_n hx hb dX3_turnMember_46 rfl (lv_at hl 0 rfl) ?_
    refine gMr (k := 0) S g 5 (by decide) q549 dX3_turnMember_47 ?_
    refine lv_iload_n hx hb dX3_turnMember_50 rfl (lv_at hl 1 rfl) ?_
    refine g_zald S g (j) rfl (by omega) dX3_turnMember_51 ?_
    exact e_z S hr hk0 g (by simp only [up2_s]; rfl) (by rw [up2_s]; simp only [th0_24] at c_37; simp only [c_6, c_21, c_37, ↓reduceIte]) (by simp only [th0_24] at c_37; simp only [c_6, c_21, c_37, ↓reduceIte]) dX3_turnMember_52
set_option maxHeartbeats 4000000 in
set_option maxRecDepth 100000 in
theorem m_turnMember_no (l : Launch) (G : gT) (F : Fs) (o : Int64) (x : Int32) (n : Nat) (hn : F 21 1 = nI n) (hn8 : n ≤ 8) (hxx : x < 0 ∨ nI n ≤ x) : MI l yX3_turnMember cX3_turnMember 2 (some .boolean) 2 43 [.ref (gA G 21), .int x] G (F) o (th0 F 1) (0) := by
  refine mk_G (own := "ShadowPoolModel") (Qs := (fun sz => QI G (th0 F 1) o (0) sz)) (by decide +kernel) rfl (Nat.le_of_ble_eq_true rfl) ?_
  intro p e s m args below meth c ls hr hk0 hnm S g hl
  have hl : lv_has ls 2 [(0, .ref (gA G 21)), (1, .int x)] := hl
  have hx := S.1
  have hb := S.2.1
  refine lv_aload_n hx hb dX3_turnMember_0 rfl (lv_at hl 0 rfl) ?_
  refine lv_aload_n hx hb dX3_turnMember_1 rfl (lv_at hl 0 rfl) ?_
  refine lv_iload_n hx hb dX3_turnMember_2 rfl (lv_at hl 1 rfl) ?_
  refine g_ci (rest := [.ref (gA G 21)]) g (g_V (n := 1) (As := [.int x]) S g (m_isWalker l G (F) o x n hn) (by decide) (cEm G _ o) rfl (lw_V q590 q592 qs22 q4 q593) ⟨rfl, by decide +kernel, by decide +kernel, by decide +kernel⟩ rfl ⟨Nat.le_of_ble_eq_true rfl, Nat.le_of_ble_eq_true rfl⟩ hl.1 (Nat.le_of_ble_eq_true rfl) rfl ⟨Nat.zero_le _, Nat.zero_le _⟩ dX3_turnMember_3) (fun H locs g => ?_)
  refine lv_if_eq (tgt := 13) hx hb dX3_turnMember_6 (by decide) (fun c_6 => ?_) (fun c9 => absurd (isW_no hn8 hxx) c9)
  refine lv_iconst (v := 1) hx hb dX3_turnMember_13 (by decide) ?_
  refine gMp (k := 0) S g 0 (by decide) q544 dX3_turnMember_14 (fun H locs g => ?_)
  refine lv_aload_n hx hb dX3_turnMember_17 rfl (lv_at hl 0 rfl) ?_
  refine gM (k := 0) S g 0 (by decide) q544 dX3_turnMember_18 ?_
  refine lv_if_le (tgt := 26) hx hb dX3_turnMember_21 (by decide) (fun c9 => absurd c9 (by rw [up2_s]; decide)) (fun c_21 => ?_)
  refine lv_iconst (v := 0) hx hb dX3_turnMember_24 (by decide) ?_
  exact e_z S hr hk0 g (by first | rfl | decide) rfl rfl dX3_turnMember_25
set_option maxHeartbeats 4000000 in
set_option maxRecDepth 100000 in
theorem m_isMember_ok (l : Launch) (G : gT) (F : Fs) (o : Int64) (j : Nat) (n : Nat) (hn : F 21 1 = nI n) (hj : j < n) (hn8 : n ≤ 8) : MI l yX3_isMember cX3_isMember 2 (some .boolean) 2 43 [.ref (gA G 21), .int (nI j)] G (F) o (th0 F 0) (if F 24 j = 0 then 0 else 1) := by
  refine mk_G (own := "ShadowPoolModel") (Qs := (fun sz => QI G (th0 F 0) o (if F 24 j = 0 then 0 else 1) sz)) (by decide +kernel) rfl (Nat.le_of_ble_eq_true rfl) ?_
  intro p e s m args below meth c ls hr hk0 hnm S g hl
  have hl : lv_has ls 2 [(0, .ref (gA G 21)), (1, .int (nI j))] := hl
  have hx := S.1
  have hb := S.2.1
  refine lv_aload_n hx hb dX3_isMember_0 rfl (lv_at hl 0 rfl) ?_
  refine lv_aload_n hx hb dX3_isMember_1 rfl (lv_at hl 0 rfl) ?_
  refine lv_iload_n hx hb dX3_isMember_2 rfl (lv_at hl 1 rfl) ?_
  refine g_ci (rest := [.ref (gA G 21)]) g (g_V (n := 1) (As := [.int (nI j)]) S g (m_isWalker l G (F) o (nI j) n hn) (by decide) (cEm G _ o) rfl (lw_V q590 q592 qs22 q4 q593) ⟨rfl, by decide +kernel, by decide +kernel, by decide +kernel⟩ rfl ⟨Nat.le_of_ble_eq_true rfl, Nat.le_of_ble_eq_true rfl⟩ hl.1 (Nat.le_of_ble_eq_true rfl) rfl ⟨Nat.zero_le _, Nat.zero_le _⟩ dX3_isMember_3) (fun H locs g => ?_)
  refine lv_if_eq (tgt := 13) hx hb dX3_isMember_6 (by decide) (fun c9 => absurd c9 (by rw [isW_ok hj hn8]; decide)) (fun c_6 => ?_)
  refine lv_iconst (v := 0) hx hb dX3_isMember_9 (by decide) ?_
  refine lv_goto (tgt := 14) hx hb dX3_isMember_10 (by decide) ?_
  refine gMp (k := 0) S g 0 (by decide) q544 dX3_isMember_14 (fun H locs g => ?_)
  rw [show up2 (F) (21) 0 (0) = th0 F 0 from rfl] at g
  refine lv_aload_n hx hb dX3_isMember_17 rfl (lv_at hl 0 rfl) ?_
  refine gM (k := 0) S g 0 (by decide) q544 dX3_isMember_18 ?_
  refine lv_if_ne (tgt := 37) hx hb dX3_isMember_21 (by decide) (fun c9 => absurd (up2_s F 21 0 0) c9) (fun c_21 => ?_)
  refine lv_aload_n hx hb dX3_isMember_24 rfl (lv_at hl 0 rfl) ?_
  refine gMr (k := 0) S g 5 (by decide) q549 dX3_isMember_25 ?_
  refine lv_iload_n hx hb dX3_isMember_28 rfl (lv_at hl 1 rfl) ?_
  refine g_zald S g (j) rfl (by omega) dX3_isMember_29 ?_
  refine lv_if_eq (tgt := 37) hx hb dX3_isMember_30 (by decide) (fun c_30 => ?_) (fun c_30 => ?_)
  · refine lv_iconst (v := 0) hx hb dX3_isMember_37 (by decide) ?_
    exact e_z S hr hk0 g (by first | rfl | decide) (by simp only [th0_24] at c_30; simp only [c_6, c_21, c_30, ↓reduceIte]) rfl dX3_isMember_38
  · refine lv_iconst (v := 1) hx hb dX3_isMember_33 (by decide) ?_
    refine lv_goto (tgt := 38) hx hb dX3_isMember_34 (by decide) ?_
    exact e_z S hr hk0 g (by first | rfl | decide) (by simp only [th0_24] at c_30; simp only [c_6, c_21, c_30, ↓reduceIte]) rfl dX3_isMember_38
set_option maxHeartbeats 4000000 in
set_option maxRecDepth 100000 in
theorem m_isMember_no (l : Launch) (G : gT) (F : Fs) (o : Int64) (x : Int32) (n : Nat) (hn : F 21 1 = nI n) (hn8 : n ≤ 8) (hxx : x < 0 ∨ nI n ≤ x) : MI l yX3_isMember cX3_isMember 2 (some .boolean) 2 43 [.ref (gA G 21), .int x] G (F) o (th0 F 1) (0) := by
  refine mk_G (own := "ShadowPoolModel") (Qs := (fun sz => QI G (th0 F 1) o (0) sz)) (by decide +kernel) rfl (Nat.le_of_ble_eq_true rfl) ?_
  intro p e s m args below meth c ls hr hk0 hnm S g hl
  have hl : lv_has ls 2 [(0, .ref (gA G 21)), (1, .int x)] := hl
  have hx := S.1
  have hb := S.2.1
  refine lv_aload_n hx hb dX3_isMember_0 rfl (lv_at hl 0 rfl) ?_
  refine lv_aload_n hx hb dX3_isMember_1 rfl (lv_at hl 0 rfl) ?_
  refine lv_iload_n hx hb dX3_isMember_2 rfl (lv_at hl 1 rfl) ?_
  refine g_ci (rest := [.ref (gA G 21)]) g (g_V (n := 1) (As := [.int x]) S g (m_isWalker l G (F) o x n hn) (by decide) (cEm G _ o) rfl (lw_V q590 q592 qs22 q4 q593) ⟨rfl, by decide +kernel, by decide +kernel, by decide +kernel⟩ rfl ⟨Nat.le_of_ble_eq_true rfl, Nat.le_of_ble_eq_true rfl⟩ hl.1 (Nat.le_of_ble_eq_true rfl) rfl ⟨Nat.zero_le _, Nat.zero_le _⟩ dX3_isMember_3) (fun H locs g => ?_)
  refine lv_if_eq (tgt := 13) hx hb dX3_isMember_6 (by decide) (fun c_6 => ?_) (fun c9 => absurd (isW_no hn8 hxx) c9)
  refine lv_iconst (v := 1) hx hb dX3_isMember_13 (by decide) ?_
  refine gMp (k := 0) S g 0 (by decide) q544 dX3_isMember_14 (fun H locs g => ?_)
  refine lv_aload_n hx hb dX3_isMember_17 rfl (lv_at hl 0 rfl) ?_
  refine gM (k := 0) S g 0 (by decide) q544 dX3_isMember_18 ?_
  refine lv_if_ne (tgt := 37) hx hb dX3_isMember_21 (by decide) (fun c_21 => ?_) (fun c9 => absurd c9 (by rw [up2_s]; decide))
  refine lv_iconst (v := 0) hx hb dX3_isMember_37 (by decide) ?_
  exact e_z S hr hk0 g (by first | rfl | decide) rfl rfl dX3_isMember_38
set_option maxHeartbeats 4000000 in
set_option maxRecDepth 100000 in
theorem m_setNet_ok (l : Launch) (G : gT) (F : Fs) (o : Int64) (j : Nat) (n : Nat) (y : Int32) (hn : F 21 1 = nI n) (hj : j < n) (hn8 : n ≤ 8) (hy9 : ¬ inR y 0 9 = 0) : MI l yX3_setNet cX3_setNet 4 (some .int) 2 43 [.ref (gA G 21), .int (nI j), .int y] G (F) o (up2 (th0 F 0) 25 (5 + j) y) (F 25 (5 + j)) := by
  refine mk_G (own := "ShadowPoolModel") (Qs := (fun sz => QI G (up2 (th0 F 0) 25 (5 + j) y) o (F 25 (5 + j)) sz)) (by decide +kernel) rfl (Nat.le_of_ble_eq_true rfl) ?_
  intro p e s m args below meth c ls hr hk0 hnm S g hl
  have hl : lv_has ls 4 [(0, .ref (gA G 21)), (1, .int (nI j)), (2, .int y)] := hl
  have hx := S.1
  have hb := S.2.1
  refine lv_aload_n hx hb dX3_setNet_0 rfl (lv_at hl 0 rfl) ?_
  refine lv_iconst (v := 0) hx hb dX3_setNet_1 (by decide) ?_
  refine gMp (k := 0) S g 0 (by decide) q544 dX3_setNet_2 (fun H locs g => ?_)
  rw [show up2 (F) (21) 0 (0) = th0 F 0 from rfl] at g
  refine lv_aload_n hx hb dX3_setNet_5 rfl (lv_at hl 0 rfl) ?_
  refine lv_iload_n hx hb dX3_setNet_6 rfl (lv_at hl 1 rfl) ?_
  refine g_ci (rest := []) g (g_V (n := 1) (As := [.int (nI j)]) S g (m_isWalker l G (th0 F 0) o (nI j) n (by rw [th0, up2_ne _ _ (by decide)]; exact hn)) (by decide) (cEm G _ o) rfl (lw_V q590 q592 qs22 q4 q593) ⟨rfl, by decide +kernel, by decide +kernel, by decide +kernel⟩ rfl ⟨Nat.le_of_ble_eq_true rfl, Nat.le_of_ble_eq_true rfl⟩ hl.1 (Nat.le_of_ble_eq_true rfl) rfl ⟨Nat.zero_le _, Nat.zero_le _⟩ dX3_setNet_7) (fun H locs g => ?_)
  refine lv_if_ne (tgt := 19) hx hb dX3_setNet_10 (by decide) (fun c_10 => ?_) (fun c9 => absurd c9 (by rw [isW_ok hj hn8]; decide))
  refine lv_iload_n hx hb dX3_setNet_19 rfl (lv_at hl 2 rfl) ?_
  refine lv_iconst (v := 0) hx hb dX3_setNet_20 (by decide) ?_
  refine lv_bipush (v := 9) hx hb dX3_setNet_21 (by decide) ?_
  refine g_ci (rest := []) g (g_S (n := 3) (As := [.int y, .int 0, .int 9]) S g (m_isFrom l G ((th0 F 0)) o y 0 9) (lw_S q579 q580 q4 q581) ⟨by decide +kernel, by decide +kernel, by decide +kernel⟩ rfl ⟨Nat.le_of_ble_eq_true rfl, Nat.le_of_ble_eq_true rfl⟩ hl.1 (Nat.le_of_ble_eq_true rfl) rfl ⟨Nat.zero_le _, Nat.zero_le _⟩ dX3_setNet_23) (fun H locs g => ?_)
  refine lv_if_ne (tgt := 35) hx hb dX3_setNet_26 (by decide) (fun c_26 => ?_) (fun c9 => absurd c9 hy9)
  refine lv_aload_n hx hb dX3_setNet_35 rfl (lv_at hl 0 rfl) ?_
  refine gMr (k := 0) S g 6 (by decide) q550 dX3_setNet_36 ?_
  refine lv_iconst (v := 5) hx hb dX3_setNet_39 (by decide) ?_
  refine lv_iload_n hx hb dX3_setNet_40 rfl (lv_at hl 1 rfl) ?_
  refine lv_iadd hx hb dX3_setNet_41 ?_
  refine gAn (k := 25) S g (Or.inl rfl) (5 + j) (nI_add 5 j) (by omega) dX3_setNet_42 ?_
  refine lv_istore_n (lv' := [(3, .int ((((th0 F 0))) 25 (5 + j))), (0, .ref (gA G 21)), (1, .int (nI j)), (2, .int y)]) hx hb dX3_setNet_43 rfl hl (by decide) rfl (fun ls hl => ?_)
  refine lv_aload_n hx hb dX3_setNet_44 rfl (lv_at hl 1 rfl) ?_
  refine gMr (k := 0) S g 6 (by decide) q550 dX3_setNet_45 ?_
  refine lv_iconst (v := 5) hx hb dX3_setNet_48 (by decide) ?_
  refine lv_iload_n hx hb dX3_setNet_49 rfl (lv_at hl 2 rfl) ?_
  refine lv_iadd hx hb dX3_setNet_50 ?_
  refine lv_iload_n hx hb dX3_setNet_51 rfl (lv_at hl 3 rfl) ?_
  refine gAns (k := 25) S g (Or.inl rfl) (5 + j) (nI_add 5 j) (by omega) dX3_setNet_52 (fun H locs g => ?_)
  refine lv_iload_n hx hb dX3_setNet_53 rfl (lv_at hl 0 rfl) ?_
  exact e_i S hr hk0 g rfl rfl dX3_setNet_54
set_option maxHeartbeats 4000000 in
set_option maxRecDepth 100000 in
theorem m_setNet_no (l : Launch) (G : gT) (F : Fs) (o : Int64) (x : Int32) (n : Nat) (y : Int32) (hn : F 21 1 = nI n) (hn8 : n ≤ 8) (hxx : x < 0 ∨ nI n ≤ x) : MI l yX3_setNet cX3_setNet 4 (some .int) 2 43 [.ref (gA G 21), .int x, .int y] G (F) o (th0 F 1) (0) := by
  refine mk_G (own := "ShadowPoolModel") (Qs := (fun sz => QI G (th0 F 1) o (0) sz)) (by decide +kernel) rfl (Nat.le_of_ble_eq_true rfl) ?_
  intro p e s m args below meth c ls hr hk0 hnm S g hl
  have hl : lv_has ls 4 [(0, .ref (gA G 21)), (1, .int x), (2, .int y)] := hl
  have hx := S.1
  have hb := S.2.1
  refine lv_aload_n hx hb dX3_setNet_0 rfl (lv_at hl 0 rfl) ?_
  refine lv_iconst (v := 0) hx hb dX3_setNet_1 (by decide) ?_
  refine gMp (k := 0) S g 0 (by decide) q544 dX3_setNet_2 (fun H locs g => ?_)
  rw [show up2 (F) (21) 0 (0) = th0 F 0 from rfl] at g
  refine lv_aload_n hx hb dX3_setNet_5 rfl (lv_at hl 0 rfl) ?_
  refine lv_iload_n hx hb dX3_setNet_6 rfl (lv_at hl 1 rfl) ?_
  refine g_ci (rest := []) g (g_V (n := 1) (As := [.int x]) S g (m_isWalker l G (th0 F 0) o x n (by rw [th0, up2_ne _ _ (by decide)]; exact hn)) (by decide) (cEm G _ o) rfl (lw_V q590 q592 qs22 q4 q593) ⟨rfl, by decide +kernel, by decide +kernel, by decide +kernel⟩ rfl ⟨Nat.le_of_ble_eq_true rfl, Nat.le_of_ble_eq_true rfl⟩ hl.1 (Nat.le_of_ble_eq_true rfl) rfl ⟨Nat.zero_le _, Nat.zero_le _⟩ dX3_setNet_7) (fun H locs g => ?_)
  refine lv_if_ne (tgt := 19) hx hb dX3_setNet_10 (by decide) (fun c9 => absurd (isW_no hn8 hxx) c9) (fun c_10 => ?_)
  refine lv_aload_n hx hb dX3_setNet_13 rfl (lv_at hl 0 rfl) ?_
  refine lv_iconst (v := 1) hx hb dX3_setNet_14 (by decide) ?_
  refine g_ci (rest := []) g (g_V (n := 1) (As := [.int 1]) S g (m_no l G ((th0 F 0)) o 1) (by decide) (cEm G _ o) rfl (lw_V q582 q584 qs21 q4 q585) ⟨rfl, by decide +kernel, by decide +kernel, by decide +kernel⟩ rfl ⟨Nat.le_of_ble_eq_true rfl, Nat.le_of_ble_eq_true rfl⟩ hl.1 (Nat.le_of_ble_eq_true rfl) rfl ⟨Nat.zero_le _, Nat.zero_le _⟩ dX3_setNet_15) (fun H locs g => ?_)
  exact e_i S hr hk0 g rfl (by funext a b; simp only [th0, up2_at]; split <;> rfl) dX3_setNet_18
set_option maxHeartbeats 4000000 in
set_option maxRecDepth 100000 in
theorem m_setNet_net (l : Launch) (G : gT) (F : Fs) (o : Int64) (j : Nat) (n : Nat) (y : Int32) (hn : F 21 1 = nI n) (hj : j < n) (hn8 : n ≤ 8) (hy9 : inR y 0 9 = 0) : MI l yX3_setNet cX3_setNet 4 (some .int) 2 43 [.ref (gA G 21), .int (nI j), .int y] G (F) o (th0 F 2) (0) := by
  refine mk_G (own := "ShadowPoolModel") (Qs := (fun sz => QI G (th0 F 2) o (0) sz)) (by decide +kernel) rfl (Nat.le_of_ble_eq_true rfl) ?_
  intro p e s m args below meth c ls hr hk0 hnm S g hl
  have hl : lv_has ls 4 [(0, .ref (gA G 21)), (1, .int (nI j)), (2, .int y)] := hl
  have hx := S.1
  have hb := S.2.1
  refine lv_aload_n hx hb dX3_setNet_0 rfl (lv_at hl 0 rfl) ?_
  refine lv_iconst (v := 0) hx hb dX3_setNet_1 (by decide) ?_
  refine gMp (k := 0) S g 0 (by decide) q544 dX3_setNet_2 (fun H locs g => ?_)
  rw [show up2 (F) (21) 0 (0) = th0 F 0 from rfl] at g
  refine lv_aload_n hx hb dX3_setNet_5 rfl (lv_at hl 0 rfl) ?_
  refine lv_iload_n hx hb dX3_setNet_6 rfl (lv_at hl 1 rfl) ?_
  refine g_ci (rest := []) g (g_V (n := 1) (As := [.int (nI j)]) S g (m_isWalker l G (th0 F 0) o (nI j) n (by rw [th0, up2_ne _ _ (by decide)]; exact hn)) (by decide) (cEm G _ o) rfl (lw_V q590 q592 qs22 q4 q593) ⟨rfl, by decide +kernel, by decide +kernel, by decide +kernel⟩ rfl ⟨Nat.le_of_ble_eq_true rfl, Nat.le_of_ble_eq_true rfl⟩ hl.1 (Nat.le_of_ble_eq_true rfl) rfl ⟨Nat.zero_le _, Nat.zero_le _⟩ dX3_setNet_7) (fun H locs g => ?_)
  refine lv_if_ne (tgt := 19) hx hb dX3_setNet_10 (by decide) (fun c_10 => ?_) (fun c9 => absurd c9 (by rw [isW_ok hj hn8]; decide))
  refine lv_iload_n hx hb dX3_setNet_19 rfl (lv_at hl 2 rfl) ?_
  refine lv_iconst (v := 0) hx hb dX3_setNet_20 (by decide) ?_
  refine lv_bipush (v := 9) hx hb dX3_setNet_21 (by decide) ?_
  refine g_ci (rest := []) g (g_S (n := 3) (As := [.int y, .int 0, .int 9]) S g (m_isFrom l G ((th0 F 0)) o y 0 9) (lw_S q579 q580 q4 q581) ⟨by decide +kernel, by decide +kernel, by decide +kernel⟩ rfl ⟨Nat.le_of_ble_eq_true rfl, Nat.le_of_ble_eq_true rfl⟩ hl.1 (Nat.le_of_ble_eq_true rfl) rfl ⟨Nat.zero_le _, Nat.zero_le _⟩ dX3_setNet_23) (fun H locs g => ?_)
  refine lv_if_ne (tgt := 35) hx hb dX3_setNet_26 (by decide) (fun c9 => absurd hy9 c9) (fun c_26 => ?_)
  refine lv_aload_n hx hb dX3_setNet_29 rfl (lv_at hl 0 rfl) ?_
  refine lv_iconst (v := 2) hx hb dX3_setNet_30 (by decide) ?_
  refine g_ci (rest := []) g (g_V (n := 1) (As := [.int 2]) S g (m_no l G (((th0 F 0))) o 2) (by decide) (cEm G _ o) rfl (lw_V q582 q584 qs21 q4 q585) ⟨rfl, by decide +kernel, by decide +kernel, by decide +kernel⟩ rfl ⟨Nat.le_of_ble_eq_true rfl, Nat.le_of_ble_eq_true rfl⟩ hl.1 (Nat.le_of_ble_eq_true rfl) rfl ⟨Nat.zero_le _, Nat.zero_le _⟩ dX3_setNet_31) (fun H locs g => ?_)
  exact e_i S hr hk0 g rfl (by funext a b; simp only [th0, up2_at]; split <;> rfl) dX3_setNet_34
set_option maxHeartbeats 4000000 in
set_option maxRecDepth 100000 in
theorem m_rest_ok (l : Launch) (G : gT) (F : Fs) (o : Int64) (j : Nat) (n : Nat) (hn : F 21 1 = nI n) (hj : j < n) (hn8 : n ≤ 8) : MI l yX3_rest cX3_rest 3 (some .int) 2 43 [.ref (gA G 21), .int (nI j)] G (F) o (up2 (th0 F 0) 25 (13 + j) 0) (F 25 (13 + j)) := by
  refine mk_G (own := "ShadowPoolModel") (Qs := (fun sz => QI G (up2 (th0 F 0) 25 (13 + j) 0) o (F 25 (13 + j)) sz)) (by decide +kernel) rfl (Nat.le_of_ble_eq_true rfl) ?_
  intro p e s m args below meth c ls hr hk0 hnm S g hl
  have hl : lv_has ls 3 [(0, .ref (gA G 21)), (1, .int (nI j))] := hl
  have hx := S.1
  have hb := S.2.1
  refine lv_aload_n hx hb dX3_rest_0 rfl (lv_at hl 0 rfl) ?_
  refine lv_iconst (v := 0) hx hb dX3_rest_1 (by decide) ?_
  refine gMp (k := 0) S g 0 (by decide) q544 dX3_rest_2 (fun H locs g => ?_)
  rw [show up2 (F) (21) 0 (0) = th0 F 0 from rfl] at g
  refine lv_aload_n hx hb dX3_rest_5 rfl (lv_at hl 0 rfl) ?_
  refine lv_iload_n hx hb dX3_rest_6 rfl (lv_at hl 1 rfl) ?_
  refine g_ci (rest := []) g (g_V (n := 1) (As := [.int (nI j)]) S g (m_isWalker l G (th0 F 0) o (nI j) n (by rw [th0, up2_ne _ _ (by decide)]; exact hn)) (by decide) (cEm G _ o) rfl (lw_V q590 q592 qs22 q4 q593) ⟨rfl, by decide +kernel, by decide +kernel, by decide +kernel⟩ rfl ⟨Nat.le_of_ble_eq_true rfl, Nat.le_of_ble_eq_true rfl⟩ hl.1 (Nat.le_of_ble_eq_true rfl) rfl ⟨Nat.zero_le _, Nat.zero_le _⟩ dX3_rest_7) (fun H locs g => ?_)
  refine lv_if_ne (tgt := 19) hx hb dX3_rest_10 (by decide) (fun c_10 => ?_) (fun c9 => absurd c9 (by rw [isW_ok hj hn8]; decide))
  refine lv_aload_n hx hb dX3_rest_19 rfl (lv_at hl 0 rfl) ?_
  refine gMr (k := 0) S g 6 (by decide) q550 dX3_rest_20 ?_
  refine lv_bipush (v := 13) hx hb dX3_rest_23 (by decide) ?_
  refine lv_iload_n hx hb dX3_rest_25 rfl (lv_at hl 1 rfl) ?_
  refine lv_iadd hx hb dX3_rest_26 ?_
  refine gAn (k := 25) S g (Or.inl rfl) (13 + j) (nI_add 13 j) (by omega) dX3_rest_27 ?_
  refine lv_istore_n (lv' := [(2, .int (((th0 F 0)) 25 (13 + j))), (0, .ref (gA G 21)), (1, .int (nI j))]) hx hb dX3_rest_28 rfl hl (by decide) rfl (fun ls hl => ?_)
  refine lv_aload_n hx hb dX3_rest_29 rfl (lv_at hl 1 rfl) ?_
  refine gMr (k := 0) S g 6 (by decide) q550 dX3_rest_30 ?_
  refine lv_bipush (v := 13) hx hb dX3_rest_33 (by decide) ?_
  refine lv_iload_n hx hb dX3_rest_35 rfl (lv_at hl 2 rfl) ?_
  refine lv_iadd hx hb dX3_rest_36 ?_
  refine lv_iconst (v := 0) hx hb dX3_rest_37 (by decide) ?_
  refine gAns (k := 25) S g (Or.inl rfl) (13 + j) (nI_add 13 j) (by omega) dX3_rest_38 (fun H locs g => ?_)
  refine lv_iload_n hx hb dX3_rest_39 rfl (lv_at hl 0 rfl) ?_
  exact e_i S hr hk0 g rfl rfl dX3_rest_40
set_option maxHeartbeats 4000000 in
set_option maxRecDepth 100000 in
theorem m_rest_no (l : Launch) (G : gT) (F : Fs) (o : Int64) (x : Int32) (n : Nat) (hn : F 21 1 = nI n) (hn8 : n ≤ 8) (hxx : x < 0 ∨ nI n ≤ x) : MI l yX3_rest cX3_rest 3 (some .int) 2 43 [.ref (gA G 21), .int x] G (F) o (th0 F 1) (0) := by
  refine mk_G (own := "ShadowPoolModel") (Qs := (fun sz => QI G (th0 F 1) o (0) sz)) (by decide +kernel) rfl (Nat.le_of_ble_eq_true rfl) ?_
  intro p e s m args below meth c ls hr hk0 hnm S g hl
  have hl : lv_has ls 3 [(0, .ref (gA G 21)), (1, .int x)] := hl
  have hx := S.1
  have hb := S.2.1
  refine lv_aload_n hx hb dX3_rest_0 rfl (lv_at hl 0 rfl) ?_
  refine lv_iconst (v := 0) hx hb dX3_rest_1 (by decide) ?_
  refine gMp (k := 0) S g 0 (by decide) q544 dX3_rest_2 (fun H locs g => ?_)
  rw [show up2 (F) (21) 0 (0) = th0 F 0 from rfl] at g
  refine lv_aload_n hx hb dX3_rest_5 rfl (lv_at hl 0 rfl) ?_
  refine lv_iload_n hx hb dX3_rest_6 rfl (lv_at hl 1 rfl) ?_
  refine g_ci (rest := []) g (g_V (n := 1) (As := [.int x]) S g (m_isWalker l G (th0 F 0) o x n (by rw [th0, up2_ne _ _ (by decide)]; exact hn)) (by decide) (cEm G _ o) rfl (lw_V q590 q592 qs22 q4 q593) ⟨rfl, by decide +kernel, by decide +kernel, by decide +kernel⟩ rfl ⟨Nat.le_of_ble_eq_true rfl, Nat.le_of_ble_eq_true rfl⟩ hl.1 (Nat.le_of_ble_eq_true rfl) rfl ⟨Nat.zero_le _, Nat.zero_le _⟩ dX3_rest_7) (fun H locs g => ?_)
  refine lv_if_ne (tgt := 19) hx hb dX3_rest_10 (by decide) (fun c9 => absurd (isW_no hn8 hxx) c9) (fun c_10 => ?_)
  refine lv_aload_n hx hb dX3_rest_13 rfl (lv_at hl 0 rfl) ?_
  refine lv_iconst (v := 1) hx hb dX3_rest_14 (by decide) ?_
  refine g_ci (rest := []) g (g_V (n := 1) (As := [.int 1]) S g (m_no l G ((th0 F 0)) o 1) (by decide) (cEm G _ o) rfl (lw_V q582 q584 qs21 q4 q585) ⟨rfl, by decide +kernel, by decide +kernel, by decide +kernel⟩ rfl ⟨Nat.le_of_ble_eq_true rfl, Nat.le_of_ble_eq_true rfl⟩ hl.1 (Nat.le_of_ble_eq_true rfl) rfl ⟨Nat.zero_le _, Nat.zero_le _⟩ dX3_rest_15) (fun H locs g => ?_)
  exact e_i S hr hk0 g rfl (by funext a b; simp only [th0, up2_at]; split <;> rfl) dX3_rest_18
set_option maxHeartbeats 4000000 in
set_option maxRecDepth 100000 in
theorem m_addWalker_bad (l : Launch) (G : gT) (F : Fs) (o : Int64) (hi : Int32) (sk : Int32) (nt : Int32) (hb9 : inR hi 1 30 = 0 ∨ inR sk 0 5 = 0 ∨ inR nt 0 9 = 0) : MI l yX3_addWalker cX3_addWalker 4 (some .int) 1 22 [.ref (gA G 21), .int hi, .int sk, .int nt] G (F) o (th0 F 1) (0) := by
  refine mk_G (own := "ShadowPoolModel") (Qs := (fun sz => QI G (th0 F 1) o (0) sz)) (by decide +kernel) rfl (Nat.le_of_ble_eq_true rfl) ?_
  intro p e s m args below meth c ls hr hk0 hnm S g hl
  have hl : lv_has ls 4 [(0, .ref (gA G 21)), (1, .int hi), (2, .int sk), (3, .int nt)] := hl
  have hx := S.1
  have hb := S.2.1
  refine lv_aload_n hx hb dX3_addWalker_0 rfl (lv_at hl 0 rfl) ?_
  refine lv_iconst (v := 0) hx hb dX3_addWalker_1 (by decide) ?_
  refine gMp (k := 0) S g 0 (by decide) q544 dX3_addWalker_2 (fun H locs g => ?_)
  rw [show up2 (F) (21) 0 (0) = th0 F 0 from rfl] at g
  refine lv_iload_n hx hb dX3_addWalker_5 rfl (lv_at hl 1 rfl) ?_
  refine lv_iconst (v := 1) hx hb dX3_addWalker_6 (by decide) ?_
  refine lv_bipush (v := 30) hx hb dX3_addWalker_7 (by decide) ?_
  refine g_ci (rest := []) g (g_S (n := 3) (As := [.int hi, .int 1, .int 30]) S g (m_isFrom l G (th0 F 0) o hi 1 30) (lw_S q579 q580 q4 q581) ⟨by decide +kernel, by decide +kernel, by decide +kernel⟩ rfl ⟨Nat.le_of_ble_eq_true rfl, Nat.le_of_ble_eq_true rfl⟩ hl.1 (Nat.le_of_ble_eq_true rfl) rfl ⟨Nat.zero_le _, Nat.zero_le _⟩ dX3_addWalker_9) (fun H locs g => ?_)
  refine lv_if_eq (tgt := 34) hx hb dX3_addWalker_12 (by decide) (fun c_12 => ?_) (fun c_12 => ?_)
  · refine lv_aload_n hx hb dX3_addWalker_34 rfl (lv_at hl 0 rfl) ?_
    refine lv_iconst (v := 1) hx hb dX3_addWalker_35 (by decide) ?_
    refine g_ci (rest := []) g (g_V (n := 1) (As := [.int 1]) S g (m_no l G ((th0 F 0)) o 1) (by decide) (cEm G _ o) rfl (lw_V q582 q584 qs21 q4 q585) ⟨rfl, by decide +kernel, by decide +kernel, by decide +kernel⟩ rfl ⟨Nat.le_of_ble_eq_true rfl, Nat.le_of_ble_eq_true rfl⟩ hl.1 (Nat.le_of_ble_eq_true rfl) rfl ⟨Nat.zero_le _, Nat.zero_le _⟩ dX3_addWalker_36) (fun H locs g => ?_)
    exact e_i S hr hk0 g rfl (by funext a b; simp only [th0, up2_at]; split <;> rfl) dX3_addWalker_39
  · refine lv_iload_n hx hb dX3_addWalker_15 rfl (lv_at hl 2 rfl) ?_
    refine lv_iconst (v := 0) hx hb dX3_addWalker_16 (by decide) ?_
    refine lv_iconst (v := 5) hx hb dX3_addWalker_17 (by decide) ?_
    refine g_ci (rest := []) g (g_S (n := 3) (As := [.int sk, .int 0, .int 5]) S g (m_isFrom l G ((th0 F 0)) o sk 0 5) (lw_S q579 q580 q4 q581) ⟨by decide +kernel, by decide +kernel, by decide +kernel⟩ rfl ⟨Nat.le_of_ble_eq_true rfl, Nat.le_of_ble_eq_true rfl⟩ hl.1 (Nat.le_of_ble_eq_true rfl) rfl ⟨Nat.zero_le _, Nat.zero_le _⟩ dX3_addWalker_18) (fun H locs g => ?_)
    refine lv_if_eq (tgt := 34) hx hb dX3_addWalker_21 (by decide) (fun c_21 => ?_) (fun c_21 => ?_)
    · refine lv_aload_n hx hb dX3_addWalker_34 rfl (lv_at hl 0 rfl) ?_
      refine lv_iconst (v := 1) hx hb dX3_addWalker_35 (by decide) ?_
      refine g_ci (rest := []) g (g_V (n := 1) (As := [.int 1]) S g (m_no l G (((th0 F 0))) o 1) (by decide) (cEm G _ o) rfl (lw_V q582 q584 qs21 q4 q585) ⟨rfl, by decide +kernel, by decide +kernel, by decide +kernel⟩ rfl ⟨Nat.le_of_ble_eq_true rfl, Nat.le_of_ble_eq_true rfl⟩ hl.1 (Nat.le_of_ble_eq_true rfl) rfl ⟨Nat.zero_le _, Nat.zero_le _⟩ dX3_addWalker_36) (fun H locs g => ?_)
      exact e_i S hr hk0 g rfl (by funext a b; simp only [th0, up2_at]; split <;> rfl) dX3_addWalker_39
    · refine lv_iload_n hx hb dX3_addWalker_24 rfl (lv_at hl 3 rfl) ?_
      refine lv_iconst (v := 0) hx hb dX3_addWalker_25 (by decide) ?_
      refine lv_bipush (v := 9) hx hb dX3_addWalker_26 (by decide) ?_
      refine g_ci (rest := []) g (g_S (n := 3) (As := [.int nt, .int 0, .int 9]) S g (m_isFrom l G (((th0 F 0))) o nt 0 9) (lw_S q579 q580 q4 q581) ⟨by decide +kernel, by decide +kernel, by decide +kernel⟩ rfl ⟨Nat.le_of_ble_eq_true rfl, Nat.le_of_ble_eq_true rfl⟩ hl.1 (Nat.le_of_ble_eq_true rfl) rfl ⟨Nat.zero_le _, Nat.zero_le _⟩ dX3_addWalker_28) (fun H locs g => ?_)
      refine lv_if_ne (tgt := 40) hx hb dX3_addWalker_31 (by decide) (fun c9 => absurd (by rcases hb9 with q | q | q <;> first | exact absurd q c_12 | exact absurd q c_21 | exact q) c9) (fun c_31 => ?_)
      refine lv_aload_n hx hb dX3_addWalker_34 rfl (lv_at hl 0 rfl) ?_
      refine lv_iconst (v := 1) hx hb dX3_addWalker_35 (by decide) ?_
      refine g_ci (rest := []) g (g_V (n := 1) (As := [.int 1]) S g (m_no l G ((((th0 F 0)))) o 1) (by decide) (cEm G _ o) rfl (lw_V q582 q584 qs21 q4 q585) ⟨rfl, by decide +kernel, by decide +kernel, by decide +kernel⟩ rfl ⟨Nat.le_of_ble_eq_true rfl, Nat.le_of_ble_eq_true rfl⟩ hl.1 (Nat.le_of_ble_eq_true rfl) rfl ⟨Nat.zero_le _, Nat.zero_le _⟩ dX3_addWalker_36) (fun H locs g => ?_)
      exact e_i S hr hk0 g rfl (by funext a b; simp only [th0, up2_at]; split <;> rfl) dX3_addWalker_39
set_option maxHeartbeats 4000000 in
set_option maxRecDepth 100000 in
theorem m_addWalker_full (l : Launch) (G : gT) (F : Fs) (o : Int64) (hi : Int32) (sk : Int32) (nt : Int32) (hn : F 21 1 = nI 8) (g1 : ¬ inR hi 1 30 = 0) (g2 : ¬ inR sk 0 5 = 0) (g3 : ¬ inR nt 0 9 = 0) : MI l yX3_addWalker cX3_addWalker 4 (some .int) 1 22 [.ref (gA G 21), .int hi, .int sk, .int nt] G (F) o (th0 F 2) (0) := by
  refine mk_G (own := "ShadowPoolModel") (Qs := (fun sz => QI G (th0 F 2) o (0) sz)) (by decide +kernel) rfl (Nat.le_of_ble_eq_true rfl) ?_
  intro p e s m args below meth c ls hr hk0 hnm S g hl
  have hl : lv_has ls 4 [(0, .ref (gA G 21)), (1, .int hi), (2, .int sk), (3, .int nt)] := hl
  have hx := S.1
  have hb := S.2.1
  refine lv_aload_n hx hb dX3_addWalker_0 rfl (lv_at hl 0 rfl) ?_
  refine lv_iconst (v := 0) hx hb dX3_addWalker_1 (by decide) ?_
  refine gMp (k := 0) S g 0 (by decide) q544 dX3_addWalker_2 (fun H locs g => ?_)
  rw [show up2 (F) (21) 0 (0) = th0 F 0 from rfl] at g
  refine lv_iload_n hx hb dX3_addWalker_5 rfl (lv_at hl 1 rfl) ?_
  refine lv_iconst (v := 1) hx hb dX3_addWalker_6 (by decide) ?_
  refine lv_bipush (v := 30) hx hb dX3_addWalker_7 (by decide) ?_
  refine g_ci (rest := []) g (g_S (n := 3) (As := [.int hi, .int 1, .int 30]) S g (m_isFrom l G (th0 F 0) o hi 1 30) (lw_S q579 q580 q4 q581) ⟨by decide +kernel, by decide +kernel, by decide +kernel⟩ rfl ⟨Nat.le_of_ble_eq_true rfl, Nat.le_of_ble_eq_true rfl⟩ hl.1 (Nat.le_of_ble_eq_true rfl) rfl ⟨Nat.zero_le _, Nat.zero_le _⟩ dX3_addWalker_9) (fun H locs g => ?_)
  refine lv_if_eq (tgt := 34) hx hb dX3_addWalker_12 (by decide) (fun c9 => absurd c9 g1) (fun c_12 => ?_)
  refine lv_iload_n hx hb dX3_addWalker_15 rfl (lv_at hl 2 rfl) ?_
  refine lv_iconst (v := 0) hx hb dX3_addWalker_16 (by decide) ?_
  refine lv_iconst (v := 5) hx hb dX3_addWalker_17 (by decide) ?_
  refine g_ci (rest := []) g (g_S (n := 3) (As := [.int sk, .int 0, .int 5]) S g (m_isFrom l G ((th0 F 0)) o sk 0 5) (lw_S q579 q580 q4 q581) ⟨by decide +kernel, by decide +kernel, by decide +kernel⟩ rfl ⟨Nat.le_of_ble_eq_true rfl, Nat.le_of_ble_eq_true rfl⟩ hl.1 (Nat.le_of_ble_eq_true rfl) rfl ⟨Nat.zero_le _, Nat.zero_le _⟩ dX3_addWalker_18) (fun H locs g => ?_)
  refine lv_if_eq (tgt := 34) hx hb dX3_addWalker_21 (by decide) (fun c9 => absurd c9 g2) (fun c_21 => ?_)
  refine lv_iload_n hx hb dX3_addWalker_24 rfl (lv_at hl 3 rfl) ?_
  refine lv_iconst (v := 0) hx hb dX3_addWalker_25 (by decide) ?_
  refine lv_bipush (v := 9) hx hb dX3_addWalker_26 (by decide) ?_
  refine g_ci (rest := []) g (g_S (n := 3) (As := [.int nt, .int 0, .int 9]) S g (m_isFrom l G (((th0 F 0))) o nt 0 9) (lw_S q579 q580 q4 q581) ⟨by decide +kernel, by decide +kernel, by decide +kernel⟩ rfl ⟨Nat.le_of_ble_eq_true rfl, Nat.le_of_ble_eq_true rfl⟩ hl.1 (Nat.le_of_ble_eq_true rfl) rfl ⟨Nat.zero_le _, Nat.zero_le _⟩ dX3_addWalker_28) (fun H locs g => ?_)
  refine lv_if_ne (tgt := 40) hx hb dX3_addWalker_31 (by decide) (fun c_31 => ?_) (fun c9 => absurd c9 g3)
  refine lv_aload_n hx hb dX3_addWalker_40 rfl (lv_at hl 0 rfl) ?_
  refine gM (k := 0) S g 1 (by decide) q545 dX3_addWalker_41 ?_
  refine lv_bipush (v := 8) hx hb dX3_addWalker_44 (by decide) ?_
  refine lv_icmp_ne (tgt := 55) hx hb dX3_addWalker_46 (by decide) (fun c9 => absurd (by rw [th0, up2_ne _ _ (by decide)]; exact hn) c9) (fun c_46 => ?_)
  refine lv_aload_n hx hb dX3_addWalker_49 rfl (lv_at hl 0 rfl) ?_
  refine lv_iconst (v := 2) hx hb dX3_addWalker_50 (by decide) ?_
  refine g_ci (rest := []) g (g_V (n := 1) (As := [.int 2]) S g (m_no l G ((((th0 F 0)))) o 2) (by decide) (cEm G _ o) rfl (lw_V q582 q584 qs21 q4 q585) ⟨rfl, by decide +kernel, by decide +kernel, by decide +kernel⟩ rfl ⟨Nat.le_of_ble_eq_true rfl, Nat.le_of_ble_eq_true rfl⟩ hl.1 (Nat.le_of_ble_eq_true rfl) rfl ⟨Nat.zero_le _, Nat.zero_le _⟩ dX3_addWalker_51) (fun H locs g => ?_)
  exact e_i S hr hk0 g rfl (by funext a b; simp only [th0, up2_at]; split <;> rfl) dX3_addWalker_54
set_option maxHeartbeats 4000000 in
set_option maxRecDepth 100000 in
theorem m_addWalker_ok (l : Launch) (G : gT) (F : Fs) (o : Int64) (hi : Int32) (sk : Int32) (nt : Int32) (n : Nat) (hn : F 21 1 = nI n) (hn8 : n < 8) (g1 : ¬ inR hi 1 30 = 0) (g2 : ¬ inR sk 0 5 = 0) (g3 : ¬ inR nt 0 9 = 0) : MI l yX3_addWalker cX3_addWalker 4 (some .int) 1 22 [.ref (gA G 21), .int hi, .int sk, .int nt] G (F) o (amA F n hi sk nt) (nI n) := by
  refine mk_G (own := "ShadowPoolModel") (Qs := (fun sz => QI G (amA F n hi sk nt) o (nI n) sz)) (by decide +kernel) rfl (Nat.le_of_ble_eq_true rfl) ?_
  intro p e s m args below meth c ls hr hk0 hnm S g hl
  have hl : lv_has ls 4 [(0, .ref (gA G 21)), (1, .int hi), (2, .int sk), (3, .int nt)] := hl
  have hx := S.1
  have hb := S.2.1
  refine lv_aload_n hx hb dX3_addWalker_0 rfl (lv_at hl 0 rfl) ?_
  refine lv_iconst (v := 0) hx hb dX3_addWalker_1 (by decide) ?_
  refine gMp (k := 0) S g 0 (by decide) q544 dX3_addWalker_2 (fun H locs g => ?_)
  rw [show up2 (F) (21) 0 (0) = th0 F 0 from rfl] at g
  refine lv_iload_n hx hb dX3_addWalker_5 rfl (lv_at hl 1 rfl) ?_
  refine lv_iconst (v := 1) hx hb dX3_addWalker_6 (by decide) ?_
  refine lv_bipush (v := 30) hx hb dX3_addWalker_7 (by decide) ?_
  refine g_ci (rest := []) g (g_S (n := 3) (As := [.int hi, .int 1, .int 30]) S g (m_isFrom l G (th0 F 0) o hi 1 30) (lw_S q579 q580 q4 q581) ⟨by decide +kernel, by decide +kernel, by decide +kernel⟩ rfl ⟨Nat.le_of_ble_eq_true rfl, Nat.le_of_ble_eq_true rfl⟩ hl.1 (Nat.le_of_ble_eq_true rfl) rfl ⟨Nat.zero_le _, Nat.zero_le _⟩ dX3_addWalker_9) (fun H locs g => ?_)
  refine lv_if_eq (tgt := 34) hx hb dX3_addWalker_12 (by decide) (fun c9 => absurd c9 g1) (fun c_12 => ?_)
  refine lv_iload_n hx hb dX3_addWalker_15 rfl (lv_at hl 2 rfl) ?_
  refine lv_iconst (v := 0) hx hb dX3_addWalker_16 (by decide) ?_
  refine lv_iconst (v := 5) hx hb dX3_addWalker_17 (by decide) ?_
  refine g_ci (rest := []) g (g_S (n := 3) (As := [.int sk, .int 0, .int 5]) S g (m_isFrom l G ((th0 F 0)) o sk 0 5) (lw_S q579 q580 q4 q581) ⟨by decide +kernel, by decide +kernel, by decide +kernel⟩ rfl ⟨Nat.le_of_ble_eq_true rfl, Nat.le_of_ble_eq_true rfl⟩ hl.1 (Nat.le_of_ble_eq_true rfl) rfl ⟨Nat.zero_le _, Nat.zero_le _⟩ dX3_addWalker_18) (fun H locs g => ?_)
  refine lv_if_eq (tgt := 34) hx hb dX3_addWalker_21 (by decide) (fun c9 => absurd c9 g2) (fun c_21 => ?_)
  refine lv_iload_n hx hb dX3_addWalker_24 rfl (lv_at hl 3 rfl) ?_
  refine lv_iconst (v := 0) hx hb dX3_addWalker_25 (by decide) ?_
  refine lv_bipush (v := 9) hx hb dX3_addWalker_26 (by decide) ?_
  refine g_ci (rest := []) g (g_S (n := 3) (As := [.int nt, .int 0, .int 9]) S g (m_isFrom l G (((th0 F 0))) o nt 0 9) (lw_S q579 q580 q4 q581) ⟨by decide +kernel, by decide +kernel, by decide +kernel⟩ rfl ⟨Nat.le_of_ble_eq_true rfl, Nat.le_of_ble_eq_true rfl⟩ hl.1 (Nat.le_of_ble_eq_true rfl) rfl ⟨Nat.zero_le _, Nat.zero_le _⟩ dX3_addWalker_28) (fun H locs g => ?_)
  refine lv_if_ne (tgt := 40) hx hb dX3_addWalker_31 (by decide) (fun c_31 => ?_) (fun c9 => absurd c9 g3)
  refine lv_aload_n hx hb dX3_addWalker_40 rfl (lv_at hl 0 rfl) ?_
  refine gM (k := 0) S g 1 (by decide) q545 dX3_addWalker_41 ?_
  rw [show (((((th0 F 0)))) 21 1 : Int32) = nI n from (by simp only [th0, up2_at]; exact hn)]
  refine lv_bipush (v := 8) hx hb dX3_addWalker_44 (by decide) ?_
  refine lv_icmp_ne (tgt := 55) hx hb dX3_addWalker_46 (by decide) (fun c_46 => ?_) (fun c9 => absurd c9 (fun q => absurd ((nI_eq (b := 8) (by omega) (by omega)).mp q) (by omega)))
  refine lv_aload_n hx hb dX3_addWalker_55 rfl (lv_at hl 0 rfl) ?_
  refine gMr (k := 0) S g 3 (by decide) q547 dX3_addWalker_56 ?_
  refine lv_aload_n hx hb dX3_addWalker_59 rfl (lv_at hl 0 rfl) ?_
  refine gM (k := 0) S g 1 (by decide) q545 dX3_addWalker_60 ?_
  rw [show (((((th0 F 0)))) 21 1 : Int32) = nI n from (by simp only [th0, up2_at]; exact hn)]
  refine lv_iload_n hx hb dX3_addWalker_63 rfl (lv_at hl 1 rfl) ?_
  refine gAis (k := 22) S g (Or.inl rfl) (n) rfl (by omega) dX3_addWalker_64 (fun H locs g => ?_)
  refine lv_aload_n hx hb dX3_addWalker_65 rfl (lv_at hl 0 rfl) ?_
  refine gMr (k := 0) S g 4 (by decide) q548 dX3_addWalker_66 ?_
  refine lv_aload_n hx hb dX3_addWalker_69 rfl (lv_at hl 0 rfl) ?_
  refine gM (k := 0) S g 1 (by decide) q545 dX3_addWalker_70 ?_
  rw [show ((up2 ((((th0 F 0)))) (22) (n) (hi)) 21 1 : Int32) = nI n from (by simp only [th0, up2_at]; exact hn)]
  refine lv_iload_n hx hb dX3_addWalker_73 rfl (lv_at hl 2 rfl) ?_
  refine gAis (k := 23) S g (Or.inr rfl) (n) rfl (by omega) dX3_addWalker_74 (fun H locs g => ?_)
  refine lv_aload_n hx hb dX3_addWalker_75 rfl (lv_at hl 0 rfl) ?_
  refine gMr (k := 0) S g 5 (by decide) q549 dX3_addWalker_76 ?_
  refine lv_aload_n hx hb dX3_addWalker_79 rfl (lv_at hl 0 rfl) ?_
  refine gM (k := 0) S g 1 (by decide) q545 dX3_addWalker_80 ?_
  rw [show ((up2 (up2 ((((th0 F 0)))) (22) (n) (hi)) (23) (n) (sk)) 21 1 : Int32) = nI n from (by simp only [th0, up2_at]; exact hn)]
  refine lv_iconst (v := 1) hx hb dX3_addWalker_83 (by decide) ?_
  refine g_zast S g (n) rfl (by omega) (by decide) dX3_addWalker_84 (fun H locs g => ?_)
  refine lv_aload_n hx hb dX3_addWalker_85 rfl (lv_at hl 0 rfl) ?_
  refine gMr (k := 0) S g 6 (by decide) q550 dX3_addWalker_86 ?_
  refine lv_iconst (v := 5) hx hb dX3_addWalker_89 (by decide) ?_
  refine lv_aload_n hx hb dX3_addWalker_90 rfl (lv_at hl 0 rfl) ?_
  refine gM (k := 0) S g 1 (by decide) q545 dX3_addWalker_91 ?_
  rw [show ((up2 (up2 (up2 ((((th0 F 0)))) (22) (n) (hi)) (23) (n) (sk)) 24 (n) (1)) 21 1 : Int32) = nI n from (by simp only [th0, up2_at]; exact hn)]
  refine lv_iadd hx hb dX3_addWalker_94 ?_
  refine lv_iload_n hx hb dX3_addWalker_95 rfl (lv_at hl 3 rfl) ?_
  refine gAns (k := 25) S g (Or.inl rfl) (5 + n) (nI_add 5 n) (by omega) dX3_addWalker_96 (fun H locs g => ?_)
  refine lv_aload_n hx hb dX3_addWalker_97 rfl (lv_at hl 0 rfl) ?_
  refine lv_dup hx hb dX3_addWalker_98 rfl ?_
  refine gM (k := 0) S g 1 (by decide) q545 dX3_addWalker_99 ?_
  rw [show ((up2 (up2 (up2 (up2 ((((th0 F 0)))) (22) (n) (hi)) (23) (n) (sk)) 24 (n) (1)) (25) (5 + n) (nt)) 21 1 : Int32) = nI n from (by simp only [th0, up2_at]; exact hn)]
  refine lv_iconst (v := 1) hx hb dX3_addWalker_102 (by decide) ?_
  refine lv_iadd hx hb dX3_addWalker_103 ?_
  rw [show ((nI n) + (1) : Int32) = nI (n + 1) from nI_1 n]
  refine gMp (k := 0) S g 1 (by decide) q545 dX3_addWalker_104 (fun H locs g => ?_)
  refine lv_aload_n hx hb dX3_addWalker_107 rfl (lv_at hl 0 rfl) ?_
  refine gM (k := 0) S g 1 (by decide) q545 dX3_addWalker_108 ?_
  rw [show ((up2 (up2 (up2 (up2 (up2 ((((th0 F 0)))) (22) (n) (hi)) (23) (n) (sk)) 24 (n) (1)) (25) (5 + n) (nt)) (21) 1 (nI (n + 1))) 21 1 : Int32) = nI (n + 1) from by simp only [up2_at]; rfl]
  refine lv_iconst (v := 1) hx hb dX3_addWalker_111 (by decide) ?_
  refine lv_isub hx hb dX3_addWalker_112 ?_
  rw [show ((nI (n + 1)) - (1) : Int32) = nI n from nI_pred n]
  exact e_i S hr hk0 g (by first | rfl | (simp only [c_12, c_21, c_31, c_46, ↓reduceIte]; done) | (simp [c_12, c_21, c_31, c_46, ↓reduceIte]; done)) rfl dX3_addWalker_113
set_option maxHeartbeats 4000000 in
set_option maxRecDepth 100000 in
theorem m_fundBehind (l : Launch) (G : gT) (F : Fs) (o : Int64) (n : Nat) (h : Nat) (t : Nat) (hok : okM F n h) (hn8 : n ≤ 8) (hh2 : h + t < 2 ^ 29) : MI l yX3_fundBehind cX3_fundBehind 3 (some .int) 9 191 [.ref (gA G 21), .int (nI t)] G (F) o (fdF F n h t) (fdR F n h t) := by
  refine mk_G (own := "ShadowPoolModel") (Qs := (fun sz => QI G (fdF F n h t) o (fdR F n h t) sz)) (by decide +kernel) rfl (Nat.le_of_ble_eq_true rfl) ?_
  intro p e s m args below meth c ls hr hk0 hnm S g hl
  have hl : lv_has ls 3 [(0, .ref (gA G 21)), (1, .int (nI t))] := hl
  have hx := S.1
  have hb := S.2.1
  refine lv_aload_n hx hb dX3_fundBehind_0 rfl (lv_at hl 0 rfl) ?_
  refine lv_iload_n hx hb dX3_fundBehind_1 rfl (lv_at hl 1 rfl) ?_
  refine g_ci (rest := []) g (g_V (n := 1) (As := [.int (nI t)]) S g (m_hoursOn l G (F) o n h t hok hn8 hh2) (by decide) (cEm G _ o) rfl (lw_V q614 q616 qs23 q4 q617) ⟨rfl, by decide +kernel, by decide +kernel, by decide +kernel⟩ rfl ⟨Nat.le_of_ble_eq_true rfl, Nat.le_of_ble_eq_true rfl⟩ hl.1 (Nat.le_of_ble_eq_true rfl) rfl ⟨Nat.zero_le _, Nat.zero_le _⟩ dX3_fundBehind_2) (fun H locs g => ?_)
  refine lv_pop hx hb dX3_fundBehind_5 rfl ?_
  refine lv_aload_n hx hb dX3_fundBehind_6 rfl (lv_at hl 0 rfl) ?_
  refine gMr (k := 0) S g 6 (by decide) q550 dX3_fundBehind_7 ?_
  refine lv_iconst (v := 1) hx hb dX3_fundBehind_10 (by decide) ?_
  refine gAn (k := 25) S g (Or.inl rfl) (1) rfl (by decide) dX3_fundBehind_11 ?_
  refine lv_istore_n (lv' := [(2, .int (((gmL n t h 0 F).2) 25 1)), (0, .ref (gA G 21)), (1, .int (nI t))]) hx hb dX3_fundBehind_12 rfl hl (by decide) rfl (fun ls hl => ?_)
  refine lv_aload_n hx hb dX3_fundBehind_13 rfl (lv_at hl 1 rfl) ?_
  refine g_cv (rest := []) g (g_V (n := 0) (As := []) S g (m_bringBack l G ((gmL n t h 0 F).2) o ) (by decide) (cEm G _ o) rfl (lw_V q769 q771 qs38 q4 q772) ⟨rfl, by decide +kernel, by decide +kernel, by decide +kernel⟩ rfl ⟨Nat.le_of_ble_eq_true rfl, Nat.le_of_ble_eq_true rfl⟩ hl.1 (Nat.le_of_ble_eq_true rfl) rfl ⟨Nat.zero_le _, Nat.zero_le _⟩ dX3_fundBehind_14) (fun H locs g => ?_)
  refine lv_iload_n hx hb dX3_fundBehind_17 rfl (lv_at hl 0 rfl) ?_
  exact e_i S hr hk0 g rfl rfl dX3_fundBehind_18
set_option maxHeartbeats 4000000 in
set_option maxRecDepth 100000 in
theorem m_fundIn_ok (l : Launch) (G : gT) (F : Fs) (o : Int64) (t : Nat) (n : Nat) (h : Nat) (hok : okM F n h) (hn8 : n ≤ 8) (hh2 : h + t < 2 ^ 29) (ht1 : 1 ≤ t) (ht : t ≤ 60) : MI l yX3_fundIn cX3_fundIn 2 (some .int) 10 213 [.ref (gA G 21), .int (nI t)] G (F) o (fdF (kpF (th0 F 0)) n h t) (fdR (kpF (th0 F 0)) n h t) := by
  refine mk_G (own := "ShadowPoolModel") (Qs := (fun sz => QI G (fdF (kpF (th0 F 0)) n h t) o (fdR (kpF (th0 F 0)) n h t) sz)) (by decide +kernel) rfl (Nat.le_of_ble_eq_true rfl) ?_
  intro p e s m args below meth c ls hr hk0 hnm S g hl
  have hl : lv_has ls 2 [(0, .ref (gA G 21)), (1, .int (nI t))] := hl
  have hx := S.1
  have hb := S.2.1
  refine lv_aload_n hx hb dX3_fundIn_0 rfl (lv_at hl 0 rfl) ?_
  refine lv_iconst (v := 0) hx hb dX3_fundIn_1 (by decide) ?_
  refine gMp (k := 0) S g 0 (by decide) q544 dX3_fundIn_2 (fun H locs g => ?_)
  rw [show up2 (F) (21) 0 (0) = th0 F 0 from rfl] at g
  refine lv_iload_n hx hb dX3_fundIn_5 rfl (lv_at hl 1 rfl) ?_
  refine lv_iconst (v := 1) hx hb dX3_fundIn_6 (by decide) ?_
  refine lv_bipush (v := 60) hx hb dX3_fundIn_7 (by decide) ?_
  refine g_ci (rest := []) g (g_S (n := 3) (As := [.int (nI t), .int 1, .int 60]) S g (m_isFrom l G (th0 F 0) o (nI t) 1 60) (lw_S q579 q580 q4 q581) ⟨by decide +kernel, by decide +kernel, by decide +kernel⟩ rfl ⟨Nat.le_of_ble_eq_true rfl, Nat.le_of_ble_eq_true rfl⟩ hl.1 (Nat.le_of_ble_eq_true rfl) rfl ⟨Nat.zero_le _, Nat.zero_le _⟩ dX3_fundIn_9) (fun H locs g => ?_)
  refine lv_if_ne (tgt := 21) hx hb dX3_fundIn_12 (by decide) (fun c_12 => ?_) (fun c9 => absurd c9 (inR_N (lo := 1) (hi := 60) ht1 ht (by decide)))
  refine lv_aload_n hx hb dX3_fundIn_21 rfl (lv_at hl 0 rfl) ?_
  refine g_cv (rest := []) g (g_V (n := 0) (As := []) S g (m_keep l G ((th0 F 0)) o ) (by decide) (cEm G _ o) rfl (lw_V q762 q764 qs37 q4 q765) ⟨rfl, by decide +kernel, by decide +kernel, by decide +kernel⟩ rfl ⟨Nat.le_of_ble_eq_true rfl, Nat.le_of_ble_eq_true rfl⟩ hl.1 (Nat.le_of_ble_eq_true rfl) rfl ⟨Nat.zero_le _, Nat.zero_le _⟩ dX3_fundIn_22) (fun H locs g => ?_)
  refine lv_aload_n hx hb dX3_fundIn_25 rfl (lv_at hl 0 rfl) ?_
  refine lv_iload_n hx hb dX3_fundIn_26 rfl (lv_at hl 1 rfl) ?_
  refine g_ci (rest := []) g (g_V (n := 1) (As := [.int (nI t)]) S g (m_fundBehind l G (kpF ((th0 F 0))) o n h t (okM_kp (okM_th hok 0)) hn8 hh2) (by decide) (cEm G _ o) rfl (lw_V q785 q787 qs40 q4 q788) ⟨rfl, by decide +kernel, by decide +kernel, by decide +kernel⟩ rfl ⟨Nat.le_of_ble_eq_true rfl, Nat.le_of_ble_eq_true rfl⟩ hl.1 (Nat.le_of_ble_eq_true rfl) rfl ⟨Nat.zero_le _, Nat.zero_le _⟩ dX3_fundIn_27) (fun H locs g => ?_)
  exact e_i S hr hk0 g rfl rfl dX3_fundIn_30
set_option maxHeartbeats 4000000 in
set_option maxRecDepth 100000 in
theorem m_fundIn_no (l : Launch) (G : gT) (F : Fs) (o : Int64) (x : Int32) (hx9 : inR x 1 60 = 0) : MI l yX3_fundIn cX3_fundIn 2 (some .int) 1 22 [.ref (gA G 21), .int x] G (F) o (th0 F 1) (0) := by
  refine mk_G (own := "ShadowPoolModel") (Qs := (fun sz => QI G (th0 F 1) o (0) sz)) (by decide +kernel) rfl (Nat.le_of_ble_eq_true rfl) ?_
  intro p e s m args below meth c ls hr hk0 hnm S g hl
  have hl : lv_has ls 2 [(0, .ref (gA G 21)), (1, .int x)] := hl
  have hx := S.1
  have hb := S.2.1
  refine lv_aload_n hx hb dX3_fundIn_0 rfl (lv_at hl 0 rfl) ?_
  refine lv_iconst (v := 0) hx hb dX3_fundIn_1 (by decide) ?_
  refine gMp (k := 0) S g 0 (by decide) q544 dX3_fundIn_2 (fun H locs g => ?_)
  rw [show up2 (F) (21) 0 (0) = th0 F 0 from rfl] at g
  refine lv_iload_n hx hb dX3_fundIn_5 rfl (lv_at hl 1 rfl) ?_
  refine lv_iconst (v := 1) hx hb dX3_fundIn_6 (by decide) ?_
  refine lv_bipush (v := 60) hx hb dX3_fundIn_7 (by decide) ?_
  refine g_ci (rest := []) g (g_S (n := 3) (As := [.int x, .int 1, .int 60]) S g (m_isFrom l G (th0 F 0) o x 1 60) (lw_S q579 q580 q4 q581) ⟨by decide +kernel, by decide +kernel, by decide +kernel⟩ rfl ⟨Nat.le_of_ble_eq_true rfl, Nat.le_of_ble_eq_true rfl⟩ hl.1 (Nat.le_of_ble_eq_true rfl) rfl ⟨Nat.zero_le _, Nat.zero_le _⟩ dX3_fundIn_9) (fun H locs g => ?_)
  refine lv_if_ne (tgt := 21) hx hb dX3_fundIn_12 (by decide) (fun c9 => absurd hx9 c9) (fun c_12 => ?_)
  refine lv_aload_n hx hb dX3_fundIn_15 rfl (lv_at hl 0 rfl) ?_
  refine lv_iconst (v := 1) hx hb dX3_fundIn_16 (by decide) ?_
  refine g_ci (rest := []) g (g_V (n := 1) (As := [.int 1]) S g (m_no l G ((th0 F 0)) o 1) (by decide) (cEm G _ o) rfl (lw_V q582 q584 qs21 q4 q585) ⟨rfl, by decide +kernel, by decide +kernel, by decide +kernel⟩ rfl ⟨Nat.le_of_ble_eq_true rfl, Nat.le_of_ble_eq_true rfl⟩ hl.1 (Nat.le_of_ble_eq_true rfl) rfl ⟨Nat.zero_le _, Nat.zero_le _⟩ dX3_fundIn_17) (fun H locs g => ?_)
  exact e_i S hr hk0 g rfl (by funext a b; simp only [th0, up2_at]; split <;> rfl) dX3_fundIn_20
set_option maxHeartbeats 4000000 in
set_option maxRecDepth 100000 in
theorem m_hoursUntilFall_no (l : Launch) (G : gT) (F : Fs) (o : Int64) (x : Int32) (n : Nat) (hn : F 21 1 = nI n) (hn8 : n ≤ 8) (hxx : x < 0 ∨ nI n ≤ x) : MI l yX3_hoursUntilFall cX3_hoursUntilFall 4 (some .int) 2 43 [.ref (gA G 21), .int x] G (F) o (th0 F 1) (0) := by
  refine mk_G (own := "ShadowPoolModel") (Qs := (fun sz => QI G (th0 F 1) o (0) sz)) (by decide +kernel) rfl (Nat.le_of_ble_eq_true rfl) ?_
  intro p e s m args below meth c ls hr hk0 hnm S g hl
  have hl : lv_has ls 4 [(0, .ref (gA G 21)), (1, .int x)] := hl
  have hx := S.1
  have hb := S.2.1
  refine lv_aload_n hx hb dX3_hoursUntilFall_0 rfl (lv_at hl 0 rfl) ?_
  refine lv_iconst (v := 0) hx hb dX3_hoursUntilFall_1 (by decide) ?_
  refine gMp (k := 0) S g 0 (by decide) q544 dX3_hoursUntilFall_2 (fun H locs g => ?_)
  rw [show up2 (F) (21) 0 (0) = th0 F 0 from rfl] at g
  refine lv_aload_n hx hb dX3_hoursUntilFall_5 rfl (lv_at hl 0 rfl) ?_
  refine lv_iload_n hx hb dX3_hoursUntilFall_6 rfl (lv_at hl 1 rfl) ?_
  refine g_ci (rest := []) g (g_V (n := 1) (As := [.int x]) S g (m_isWalker l G (th0 F 0) o x n (by rw [th0, up2_ne _ _ (by decide)]; exact hn)) (by decide) (cEm G _ o) rfl (lw_V q590 q592 qs22 q4 q593) ⟨rfl, by decide +kernel, by decide +kernel, by decide +kernel⟩ rfl ⟨Nat.le_of_ble_eq_true rfl, Nat.le_of_ble_eq_true rfl⟩ hl.1 (Nat.le_of_ble_eq_true rfl) rfl ⟨Nat.zero_le _, Nat.zero_le _⟩ dX3_hoursUntilFall_7) (fun H locs g => ?_)
  refine lv_if_ne (tgt := 19) hx hb dX3_hoursUntilFall_10 (by decide) (fun c9 => absurd (isW_no hn8 hxx) c9) (fun c_10 => ?_)
  refine lv_aload_n hx hb dX3_hoursUntilFall_13 rfl (lv_at hl 0 rfl) ?_
  refine lv_iconst (v := 1) hx hb dX3_hoursUntilFall_14 (by decide) ?_
  refine g_ci (rest := []) g (g_V (n := 1) (As := [.int 1]) S g (m_no l G ((th0 F 0)) o 1) (by decide) (cEm G _ o) rfl (lw_V q582 q584 qs21 q4 q585) ⟨rfl, by decide +kernel, by decide +kernel, by decide +kernel⟩ rfl ⟨Nat.le_of_ble_eq_true rfl, Nat.le_of_ble_eq_true rfl⟩ hl.1 (Nat.le_of_ble_eq_true rfl) rfl ⟨Nat.zero_le _, Nat.zero_le _⟩ dX3_hoursUntilFall_15) (fun H locs g => ?_)
  exact e_i S hr hk0 g rfl (by funext a b; simp only [th0, up2_at]; split <;> rfl) dX3_hoursUntilFall_18
set_option maxHeartbeats 4000000 in
set_option maxRecDepth 100000 in
theorem m_hoursUntilFall_ok (l : Launch) (G : gT) (F : Fs) (o : Int64) (j : Nat) (n : Nat) (h : Nat) (hok : okM F n h) (hn8 : n ≤ 8) (hh2 : h < 2 ^ 28) (hj : j < n) : MI l yX3_hoursUntilFall cX3_hoursUntilFall 4 (some .int) 8 168 [.ref (gA G 21), .int (nI j)] G (F) o (hmF (th0 F 0) j n h) (hmR (th0 F 0) j n h) := by
  refine mk_G (own := "ShadowPoolModel") (Qs := (fun sz => QI G (hmF (th0 F 0) j n h) o (hmR (th0 F 0) j n h) sz)) (by decide +kernel) rfl (Nat.le_of_ble_eq_true rfl) ?_
  intro p e s m args below meth c ls hr hk0 hnm S g hl
  have hl : lv_has ls 4 [(0, .ref (gA G 21)), (1, .int (nI j))] := hl
  have hx := S.1
  have hb := S.2.1
  refine lv_aload_n hx hb dX3_hoursUntilFall_0 rfl (lv_at hl 0 rfl) ?_
  refine lv_iconst (v := 0) hx hb dX3_hoursUntilFall_1 (by decide) ?_
  refine gMp (k := 0) S g 0 (by decide) q544 dX3_hoursUntilFall_2 (fun H locs g => ?_)
  rw [show up2 (F) (21) 0 (0) = th0 F 0 from rfl] at g
  refine lv_aload_n hx hb dX3_hoursUntilFall_5 rfl (lv_at hl 0 rfl) ?_
  refine lv_iload_n hx hb dX3_hoursUntilFall_6 rfl (lv_at hl 1 rfl) ?_
  refine g_ci (rest := []) g (g_V (n := 1) (As := [.int (nI j)]) S g (m_isWalker l G (th0 F 0) o (nI j) n (by rw [th0, up2_ne _ _ (by decide)]; exact hok.1)) (by decide) (cEm G _ o) rfl (lw_V q590 q592 qs22 q4 q593) ⟨rfl, by decide +kernel, by decide +kernel, by decide +kernel⟩ rfl ⟨Nat.le_of_ble_eq_true rfl, Nat.le_of_ble_eq_true rfl⟩ hl.1 (Nat.le_of_ble_eq_true rfl) rfl ⟨Nat.zero_le _, Nat.zero_le _⟩ dX3_hoursUntilFall_7) (fun H locs g => ?_)
  refine lv_if_ne (tgt := 19) hx hb dX3_hoursUntilFall_10 (by decide) (fun c_10 => ?_) (fun c9 => absurd c9 (by rw [isW_ok hj hn8]; decide))
  refine lv_aload_n hx hb dX3_hoursUntilFall_19 rfl (lv_at hl 0 rfl) ?_
  refine g_cv (rest := []) g (g_V (n := 0) (As := []) S g (m_keep l G ((th0 F 0)) o ) (by decide) (cEm G _ o) rfl (lw_V q762 q764 qs37 q4 q765) ⟨rfl, by decide +kernel, by decide +kernel, by decide +kernel⟩ rfl ⟨Nat.le_of_ble_eq_true rfl, Nat.le_of_ble_eq_true rfl⟩ hl.1 (Nat.le_of_ble_eq_true rfl) rfl ⟨Nat.zero_le _, Nat.zero_le _⟩ dX3_hoursUntilFall_20) (fun H locs g => ?_)
  refine lv_iconst (v := (-1)) hx hb dX3_hoursUntilFall_23 (by decide) ?_
  refine lv_istore_n (lv' := [(2, .int (-1)), (0, .ref (gA G 21)), (1, .int (nI j))]) hx hb dX3_hoursUntilFall_24 rfl hl (by decide) rfl (fun ls hl => ?_)
  refine lv_iconst (v := 1) hx hb dX3_hoursUntilFall_25 (by decide) ?_
  refine lv_istore_n (lv' := [(3, .int 1), (2, .int (-1)), (0, .ref (gA G 21)), (1, .int (nI j))]) hx hb dX3_hoursUntilFall_26 rfl hl (by decide) rfl (fun ls hl => ?_)
  have loop27 : ∀ (n_ : Nat) (i : Nat) (told : Int32) (F1 : Fs) (H : Heap) (locs : List Loc) (ls : Array Slot) (hi : i + n_ = 100) (hc : okM F1 n (h + i)) (hres : hmL j n h n_ i told F1 = hmL j n h 100 0 (-1) (kpF (th0 F 0))), GB G (F1) o [] [] s H locs → lv_has ls 4 [(0, .ref (gA G 21)), (1, .int (nI j)), (2, .int told), (3, .int (nI (i + 1)))] → W p l e (rmG 8 168) s m args below meth c H locs 0 0 (MQ below (QI G (hmF (th0 F 0) j n h) o (hmR (th0 F 0) j n h) s.heap.size) args s 0 0 (GA G s.heap.size)) (F0 m 27 ls []) := by
    intro n_
    induction n_ with
    | zero =>
      intro i told F1 H locs ls hi hc hres g hl
      refine lv_iload_n hx hb dX3_hoursUntilFall_27 rfl (lv_at hl 3 rfl) ?_
      refine lv_bipush (v := 100) hx hb dX3_hoursUntilFall_28 (by decide) ?_
      refine lv_icmp_gt (tgt := 72) hx hb dX3_hoursUntilFall_30 (by decide) (fun c_30 => ?_) (fun c9 => absurd (nI_lt (a := 100) (by omega) (by omega)) c9)
      refine lv_aload_n hx hb dX3_hoursUntilFall_72 rfl (lv_at hl 0 rfl) ?_
      refine g_cv (rest := []) g (g_V (n := 0) (As := []) S g (m_bringBack l G (F1) o ) (by decide) (cEm G _ o) rfl (lw_V q769 q771 qs38 q4 q772) ⟨rfl, by decide +kernel, by decide +kernel, by decide +kernel⟩ rfl ⟨Nat.le_of_ble_eq_true rfl, Nat.le_of_ble_eq_true rfl⟩ hl.1 (Nat.le_of_ble_eq_true rfl) rfl ⟨Nat.zero_le _, Nat.zero_le _⟩ dX3_hoursUntilFall_73) (fun H locs g => ?_)
      refine lv_iload_n hx hb dX3_hoursUntilFall_76 rfl (lv_at hl 2 rfl) ?_
      exact e_i S hr hk0 g (by rw [hmR, ← hres]; first | rfl | simp only [hmL, c_30, ↓reduceIte]) (by rw [hmF, ← hres]; first | rfl | simp only [hmL, c_30, ↓reduceIte]) dX3_hoursUntilFall_77
    | succ n_ ih_27 =>
      intro i told F1 H locs ls hi hc hres g hl
      refine lv_iload_n hx hb dX3_hoursUntilFall_27 rfl (lv_at hl 3 rfl) ?_
      refine lv_bipush (v := 100) hx hb dX3_hoursUntilFall_28 (by decide) ?_
      refine lv_icmp_gt (tgt := 72) hx hb dX3_hoursUntilFall_30 (by decide) (fun c9 => absurd c9 (nI_nlt (a := 100) (by omega) (by omega))) (fun c_30 => ?_)
      refine lv_iload_n hx hb dX3_hoursUntilFall_33 rfl (lv_at hl 2 rfl) ?_
      refine lv_iconst (v := (-1)) hx hb dX3_hoursUntilFall_34 (by decide) ?_
      refine lv_icmp_ne (tgt := 72) hx hb dX3_hoursUntilFall_35 (by decide) (fun c_35 => ?_) (fun c_35 => ?_)
      · refine lv_aload_n hx hb dX3_hoursUntilFall_72 rfl (lv_at hl 0 rfl) ?_
        refine g_cv (rest := []) g (g_V (n := 0) (As := []) S g (m_bringBack l G (F1) o ) (by decide) (cEm G _ o) rfl (lw_V q769 q771 qs38 q4 q772) ⟨rfl, by decide +kernel, by decide +kernel, by decide +kernel⟩ rfl ⟨Nat.le_of_ble_eq_true rfl, Nat.le_of_ble_eq_true rfl⟩ hl.1 (Nat.le_of_ble_eq_true rfl) rfl ⟨Nat.zero_le _, Nat.zero_le _⟩ dX3_hoursUntilFall_73) (fun H locs g => ?_)
        refine lv_iload_n hx hb dX3_hoursUntilFall_76 rfl (lv_at hl 2 rfl) ?_
        exact e_i S hr hk0 g (by rw [hmR, ← hres]; first | rfl | simp only [hmL, c_30, c_35, ↓reduceIte]) (by rw [hmF, ← hres]; first | rfl | simp only [hmL, c_30, c_35, ↓reduceIte]) dX3_hoursUntilFall_77
      · refine lv_aload_n hx hb dX3_hoursUntilFall_38 rfl (lv_at hl 0 rfl) ?_
        refine g_ci (rest := []) g (g_V (n := 0) (As := []) S g (m_hourOn l G (F1) o n (h + i) hc hn8 (by omega)) (by decide) (cEm G _ o) rfl (lw_V q618 q620 qs24 q4 q621) ⟨rfl, by decide +kernel, by decide +kernel, by decide +kernel⟩ rfl ⟨Nat.le_of_ble_eq_true rfl, Nat.le_of_ble_eq_true rfl⟩ hl.1 (Nat.le_of_ble_eq_true rfl) rfl ⟨Nat.zero_le _, Nat.zero_le _⟩ dX3_hoursUntilFall_39) (fun H locs g => ?_)
        refine lv_pop hx hb dX3_hoursUntilFall_42 rfl ?_
        refine lv_aload_n hx hb dX3_hoursUntilFall_43 rfl (lv_at hl 0 rfl) ?_
        refine gMr (k := 0) S g 6 (by decide) q550 dX3_hoursUntilFall_44 ?_
        refine lv_bipush (v := 21) hx hb dX3_hoursUntilFall_47 (by decide) ?_
        refine lv_iload_n hx hb dX3_hoursUntilFall_49 rfl (lv_at hl 1 rfl) ?_
        refine lv_iadd hx hb dX3_hoursUntilFall_50 ?_
        refine gAn (k := 25) S g (Or.inl rfl) (21 + j) (nI_add 21 j) (by omega) dX3_hoursUntilFall_51 ?_
        refine lv_aload_n hx hb dX3_hoursUntilFall_52 rfl (lv_at hl 0 rfl) ?_
        refine gMr (k := 0) S g 7 (by decide) q551 dX3_hoursUntilFall_53 ?_
        refine lv_bipush (v := 21) hx hb dX3_hoursUntilFall_56 (by decide) ?_
        refine lv_iload_n hx hb dX3_hoursUntilFall_58 rfl (lv_at hl 1 rfl) ?_
        refine lv_iadd hx hb dX3_hoursUntilFall_59 ?_
        refine gAn (k := 26) S g (Or.inr rfl) (21 + j) (nI_add 21 j) (by omega) dX3_hoursUntilFall_60 ?_
        refine lv_icmp_le (tgt := 66) hx hb dX3_hoursUntilFall_61 (by decide) (fun c_61 => ?_) (fun c_61 => ?_)
        · refine lv_iinc (v := nI (i + 1 + 1)) (lv' := [(3, .int (nI (i + 1 + 1))), (0, .ref (gA G 21)), (1, .int (nI j)), (2, .int told)]) hx hb dX3_hoursUntilFall_66 hl (k := 3) rfl (nI_1 (i + 1)) (by decide) rfl (fun ls hl => ?_)
          refine lv_goto (tgt := 27) hx hb dX3_hoursUntilFall_69 (by decide) ?_
          exact ih_27 (i + 1) _ _ _ _ _ (by omega) (okM_ho hc) (by rw [← hres]; simp only [hmL, c_30, c_35, c_61, ↓reduceIte]) g (lv_sub hl [1, 2, 3, 0] rfl)
        · refine lv_iload_n hx hb dX3_hoursUntilFall_64 rfl (lv_at hl 3 rfl) ?_
          refine lv_istore_n (lv' := [(2, .int (nI (i + 1))), (0, .ref (gA G 21)), (1, .int (nI j)), (3, .int (nI (i + 1)))]) hx hb dX3_hoursUntilFall_65 rfl hl (by decide) rfl (fun ls hl => ?_)
          refine lv_iinc (v := nI (i + 1 + 1)) (lv' := [(3, .int (nI (i + 1 + 1))), (2, .int (nI (i + 1))), (0, .ref (gA G 21)), (1, .int (nI j))]) hx hb dX3_hoursUntilFall_66 hl (k := 3) rfl (nI_1 (i + 1)) (by decide) rfl (fun ls hl => ?_)
          refine lv_goto (tgt := 27) hx hb dX3_hoursUntilFall_69 (by decide) ?_
          exact ih_27 (i + 1) _ _ _ _ _ (by omega) (okM_ho hc) (by rw [← hres]; simp only [hmL, c_30, c_35, c_61, ↓reduceIte]) g (lv_sub hl [2, 3, 1, 0] rfl)
  exact loop27 100 0 (-1) _ _ _ _ rfl (okM_kp (okM_th hok 0)) rfl g (lv_sub hl [2, 3, 1, 0] rfl)
set_option maxHeartbeats 4000000 in
set_option maxRecDepth 100000 in
theorem m_next (l : Launch) (G : gT) (F : Fs) (o : Int64) (n : Nat) (h : Nat) (hok : okM F n h) (hn8 : n ≤ 8) (hh2 : h < 2 ^ 28) : MI l yX3_next cX3_next 4 (some .int) 8 168 [.ref (gA G 21)] G (F) o (nmF F n h) (nmR F n h) := by
  refine mk_G (own := "ShadowPoolModel") (Qs := (fun sz => QI G (nmF F n h) o (nmR F n h) sz)) (by decide +kernel) rfl (Nat.le_of_ble_eq_true rfl) ?_
  intro p e s m args below meth c ls hr hk0 hnm S g hl
  have hl : lv_has ls 4 [(0, .ref (gA G 21))] := hl
  have hx := S.1
  have hb := S.2.1
  refine lv_aload_n hx hb dX3_next_0 rfl (lv_at hl 0 rfl) ?_
  refine g_cv (rest := []) g (g_V (n := 0) (As := []) S g (m_keep l G (F) o ) (by decide) (cEm G _ o) rfl (lw_V q762 q764 qs37 q4 q765) ⟨rfl, by decide +kernel, by decide +kernel, by decide +kernel⟩ rfl ⟨Nat.le_of_ble_eq_true rfl, Nat.le_of_ble_eq_true rfl⟩ hl.1 (Nat.le_of_ble_eq_true rfl) rfl ⟨Nat.zero_le _, Nat.zero_le _⟩ dX3_next_1) (fun H locs g => ?_)
  refine lv_iconst (v := (-1)) hx hb dX3_next_4 (by decide) ?_
  refine lv_istore_n (lv' := [(1, .int (-1)), (0, .ref (gA G 21))]) hx hb dX3_next_5 rfl hl (by decide) rfl (fun ls hl => ?_)
  refine lv_iconst (v := 0) hx hb dX3_next_6 (by decide) ?_
  refine lv_istore_n (lv' := [(2, .int 0), (1, .int (-1)), (0, .ref (gA G 21))]) hx hb dX3_next_7 rfl hl (by decide) rfl (fun ls hl => ?_)
  have loop8 : ∀ (n_ : Nat) (i : Nat) (told : Int32) (F1 : Fs) (H : Heap) (locs : List Loc) (ls : Array Slot) (hi : i + n_ = 100) (hc : okM F1 n (h + i)) (hres : nmL n h n_ i told F1 = nmL n h 100 0 (-1) (kpF F)), GB G (F1) o [] [] s H locs → lv_has ls 4 [(0, .ref (gA G 21)), (1, .int told), (2, .int (nI i))] → W p l e (rmG 8 168) s m args below meth c H locs 0 0 (MQ below (QI G (nmF F n h) o (nmR F n h) s.heap.size) args s 0 0 (GA G s.heap.size)) (F0 m 8 ls []) := by
    intro n_
    induction n_ with
    | zero =>
      intro i told F1 H locs ls hi hc hres g hl
      refine lv_iload_n hx hb dX3_next_8 rfl (lv_at hl 2 rfl) ?_
      refine lv_bipush (v := 100) hx hb dX3_next_9 (by decide) ?_
      refine lv_icmp_ge (tgt := 75) hx hb dX3_next_11 (by decide) (fun c_11 => ?_) (fun c9 => absurd (nI_le (a := 100) (by omega) (by omega)) c9)
      refine lv_aload_n hx hb dX3_next_75 rfl (lv_at hl 0 rfl) ?_
      refine g_cv (rest := []) g (g_V (n := 0) (As := []) S g (m_bringBack l G (F1) o ) (by decide) (cEm G _ o) rfl (lw_V q769 q771 qs38 q4 q772) ⟨rfl, by decide +kernel, by decide +kernel, by decide +kernel⟩ rfl ⟨Nat.le_of_ble_eq_true rfl, Nat.le_of_ble_eq_true rfl⟩ hl.1 (Nat.le_of_ble_eq_true rfl) rfl ⟨Nat.zero_le _, Nat.zero_le _⟩ dX3_next_76) (fun H locs g => ?_)
      refine lv_iload_n hx hb dX3_next_79 rfl (lv_at hl 1 rfl) ?_
      exact e_i S hr hk0 g (by rw [nmR, ← hres]; first | rfl | simp only [nmL, c_11, ↓reduceIte]) (by rw [nmF, ← hres]; first | rfl | simp only [nmL, c_11, ↓reduceIte]) dX3_next_80
    | succ n_ ih_8 =>
      intro i told F1 H locs ls hi hc hres g hl
      refine lv_iload_n hx hb dX3_next_8 rfl (lv_at hl 2 rfl) ?_
      refine lv_bipush (v := 100) hx hb dX3_next_9 (by decide) ?_
      refine lv_icmp_ge (tgt := 75) hx hb dX3_next_11 (by decide) (fun c9 => absurd c9 (nI_ge (b := 100) (by omega) (by omega))) (fun c_11 => ?_)
      refine lv_iload_n hx hb dX3_next_14 rfl (lv_at hl 1 rfl) ?_
      refine lv_iconst (v := (-1)) hx hb dX3_next_15 (by decide) ?_
      refine lv_icmp_ne (tgt := 75) hx hb dX3_next_16 (by decide) (fun c_16 => ?_) (fun c_16 => ?_)
      · refine lv_aload_n hx hb dX3_next_75 rfl (lv_at hl 0 rfl) ?_
        refine g_cv (rest := []) g (g_V (n := 0) (As := []) S g (m_bringBack l G (F1) o ) (by decide) (cEm G _ o) rfl (lw_V q769 q771 qs38 q4 q772) ⟨rfl, by decide +kernel, by decide +kernel, by decide +kernel⟩ rfl ⟨Nat.le_of_ble_eq_true rfl, Nat.le_of_ble_eq_true rfl⟩ hl.1 (Nat.le_of_ble_eq_true rfl) rfl ⟨Nat.zero_le _, Nat.zero_le _⟩ dX3_next_76) (fun H locs g => ?_)
        refine lv_iload_n hx hb dX3_next_79 rfl (lv_at hl 1 rfl) ?_
        exact e_i S hr hk0 g (by rw [nmR, ← hres]; first | rfl | simp only [nmL, c_11, c_16, ↓reduceIte]) (by rw [nmF, ← hres]; first | rfl | simp only [nmL, c_11, c_16, ↓reduceIte]) dX3_next_80
      · refine lv_aload_n hx hb dX3_next_19 rfl (lv_at hl 0 rfl) ?_
        refine g_ci (rest := []) g (g_V (n := 0) (As := []) S g (m_hourOn l G (F1) o n (h + i) hc hn8 (by omega)) (by decide) (cEm G _ o) rfl (lw_V q618 q620 qs24 q4 q621) ⟨rfl, by decide +kernel, by decide +kernel, by decide +kernel⟩ rfl ⟨Nat.le_of_ble_eq_true rfl, Nat.le_of_ble_eq_true rfl⟩ hl.1 (Nat.le_of_ble_eq_true rfl) rfl ⟨Nat.zero_le _, Nat.zero_le _⟩ dX3_next_20) (fun H locs g => ?_)
        refine lv_if_ne (tgt := 29) hx hb dX3_next_23 (by decide) (fun c_23 => ?_) (fun c_23 => ?_)
        · refine lv_aload_n hx hb dX3_next_29 rfl (lv_at hl 0 rfl) ?_
          refine gM (k := 0) S g 1 (by decide) q545 dX3_next_30 ?_
          rw [show ((hoF F1 n (h + i)) 21 1 : Int32) = nI n from (okM_ho hc).1]
          refine lv_iconst (v := 1) hx hb dX3_next_33 (by decide) ?_
          refine lv_isub hx hb dX3_next_34 ?_
          refine lv_istore_n (lv' := [(3, .int ((nI n) - (1))), (0, .ref (gA G 21)), (1, .int told), (2, .int (nI i))]) hx hb dX3_next_35 rfl hl (by decide) rfl (fun ls hl => ?_)
          have loop36 : ∀ (n_ : Nat) (w : Int32) (told2 : Int32) (H : Heap) (locs : List Loc) (ls : Array Slot) (hm : n_ ≤ n) (hw : w = nI n_ - 1) (hin : nwL (hoF F1 n (h + i)) n_ told2 = nwL (hoF F1 n (h + i)) n told), GB G (hoF F1 n (h + i)) o [] [] s H locs → lv_has ls 4 [(0, .ref (gA G 21)), (1, .int told2), (2, .int (nI i)), (3, .int w)] → W p l e (rmG 8 168) s m args below meth c H locs 0 0 (MQ below (QI G (nmF F n h) o (nmR F n h) s.heap.size) args s 0 0 (GA G s.heap.size)) (F0 m 36 ls []) := by
            intro n_
            induction n_ with
            | zero =>
              intro w told2 H locs ls hm hw hin g hl
              have hin : told2 = nwL (hoF F1 n (h + i)) n told := hin
              refine lv_iload_n hx hb dX3_next_36 rfl (lv_at hl 3 rfl) ?_
              refine lv_if_lt (tgt := 69) hx hb dX3_next_37 (by decide) (fun c_37 => ?_) (fun c9 => absurd (by rw [hw]; decide) c9)
              refine lv_iinc (v := nI (i + 1)) (lv' := [(2, .int (nI (i + 1))), (0, .ref (gA G 21)), (1, .int told2), (3, .int w)]) hx hb dX3_next_69 hl (k := 2) rfl (nI_1 i) (by decide) rfl (fun ls hl => ?_)
              refine lv_goto (tgt := 8) hx hb dX3_next_72 (by decide) ?_
              exact ih_8 (i + 1) _ _ _ _ _ (by omega) (okM_ho hc) (by rw [← hres]; first | (simp only [nmL, c_37, ↓reduceIte]; done) | (simp only [nmL, hin, c_16, c_23, ↓reduceIte]; done)) g (lv_sub hl [1, 2, 0] rfl)
            | succ n_ ih_36 =>
              intro w told2 H locs ls hm hw hin g hl
              have hw : w = nI n_ := by rw [hw]; exact nI_pred n_
              refine lv_iload_n hx hb dX3_next_36 rfl (lv_at hl 3 rfl) ?_
              refine lv_if_lt (tgt := 69) hx hb dX3_next_37 (by decide) (fun c9 => absurd c9 (by rw [hw]; exact nI_pos (by omega))) (fun c_37 => ?_)
              refine lv_aload_n hx hb dX3_next_40 rfl (lv_at hl 0 rfl) ?_
              refine gMr (k := 0) S g 6 (by decide) q550 dX3_next_41 ?_
              refine lv_bipush (v := 21) hx hb dX3_next_44 (by decide) ?_
              refine lv_iload_n hx hb dX3_next_46 rfl (lv_at hl 3 rfl) ?_
              refine lv_iadd hx hb dX3_next_47 ?_
              refine gAn (k := 25) S g (Or.inl rfl) (21 + n_) (by rw [hw]; exact nI_add 21 n_) (by omega) dX3_next_48 ?_
              refine lv_aload_n hx hb dX3_next_49 rfl (lv_at hl 0 rfl) ?_
              refine gMr (k := 0) S g 7 (by decide) q551 dX3_next_50 ?_
              refine lv_bipush (v := 21) hx hb dX3_next_53 (by decide) ?_
              refine lv_iload_n hx hb dX3_next_55 rfl (lv_at hl 3 rfl) ?_
              refine lv_iadd hx hb dX3_next_56 ?_
              refine gAn (k := 26) S g (Or.inr rfl) (21 + n_) (by rw [hw]; exact nI_add 21 n_) (by omega) dX3_next_57 ?_
              refine lv_icmp_le (tgt := 63) hx hb dX3_next_58 (by decide) (fun c_58 => ?_) (fun c_58 => ?_)
              · refine lv_iinc (v := w + -1) (lv' := [(3, .int (w + -1)), (0, .ref (gA G 21)), (1, .int told2), (2, .int (nI i))]) hx hb dX3_next_63 hl (k := 3) rfl rfl (by decide) rfl (fun ls hl => ?_)
                refine lv_goto (tgt := 36) hx hb dX3_next_66 (by decide) ?_
                exact ih_36 (w + -1) _ _ _ _ (by omega) (by rw [hw, Int32.sub_eq_add_neg]) (by rw [← hin]; simp only [nwL, hw, c_37, c_58, ↓reduceIte]) g (lv_sub hl [1, 2, 3, 0] rfl)
              · refine lv_iload_n hx hb dX3_next_61 rfl (lv_at hl 3 rfl) ?_
                refine lv_istore_n (lv' := [(1, .int w), (0, .ref (gA G 21)), (2, .int (nI i)), (3, .int w)]) hx hb dX3_next_62 rfl hl (by decide) rfl (fun ls hl => ?_)
                refine lv_iinc (v := w + -1) (lv' := [(3, .int (w + -1)), (1, .int w), (0, .ref (gA G 21)), (2, .int (nI i))]) hx hb dX3_next_63 hl (k := 3) rfl rfl (by decide) rfl (fun ls hl => ?_)
                refine lv_goto (tgt := 36) hx hb dX3_next_66 (by decide) ?_
                exact ih_36 (w + -1) _ _ _ _ (by omega) (by rw [hw, Int32.sub_eq_add_neg]) (by rw [← hin]; simp only [nwL, hw, c_37, c_58, ↓reduceIte]) g (lv_sub hl [2, 1, 3, 0] rfl)
          exact loop36 n (nI n - 1) told _ _ _ (Nat.le_refl n) rfl rfl g (lv_sub hl [1, 2, 3, 0] rfl)
        · refine lv_goto (tgt := 69) hx hb dX3_next_26 (by decide) ?_
          refine lv_iinc (v := nI (i + 1)) (lv' := [(2, .int (nI (i + 1))), (0, .ref (gA G 21)), (1, .int told)]) hx hb dX3_next_69 hl (k := 2) rfl (nI_1 i) (by decide) rfl (fun ls hl => ?_)
          refine lv_goto (tgt := 8) hx hb dX3_next_72 (by decide) ?_
          exact ih_8 (i + 1) _ _ _ _ _ (by omega) (okM_ho hc) (by rw [← hres]; first | (simp only [nmL, c_11, c_16, c_23, ↓reduceIte]; done) | (simp only [nmL, hin, c_16, c_23, ↓reduceIte]; done)) g (lv_sub hl [1, 2, 0] rfl)
  exact loop8 100 0 (-1) _ _ _ _ rfl (okM_kp hok) rfl g (lv_sub hl [2, 1, 0] rfl)
set_option maxHeartbeats 4000000 in
set_option maxRecDepth 100000 in
theorem m_nextToFall (l : Launch) (G : gT) (F : Fs) (o : Int64) (n : Nat) (h : Nat) (hok : okM F n h) (hn8 : n ≤ 8) (hh2 : h < 2 ^ 28) : MI l yX3_nextToFall cX3_nextToFall 1 (some .int) 9 191 [.ref (gA G 21)] G (F) o (th0 (nmF F n h) 0) (nmR F n h) := by
  refine mk_G (own := "ShadowPoolModel") (Qs := (fun sz => QI G (th0 (nmF F n h) 0) o (nmR F n h) sz)) (by decide +kernel) rfl (Nat.le_of_ble_eq_true rfl) ?_
  intro p e s m args below meth c ls hr hk0 hnm S g hl
  have hl : lv_has ls 1 [(0, .ref (gA G 21))] := hl
  have hx := S.1
  have hb := S.2.1
  refine lv_aload_n hx hb dX3_nextToFall_0 rfl (lv_at hl 0 rfl) ?_
  refine lv_aload_n hx hb dX3_nextToFall_1 rfl (lv_at hl 0 rfl) ?_
  refine g_ci (rest := [.ref (gA G 21)]) g (g_V (n := 0) (As := []) S g (m_next l G (F) o n h hok hn8 hh2) (by decide) (cEm G _ o) rfl (lw_V q777 q779 qs39 q4 q780) ⟨rfl, by decide +kernel, by decide +kernel, by decide +kernel⟩ rfl ⟨Nat.le_of_ble_eq_true rfl, Nat.le_of_ble_eq_true rfl⟩ hl.1 (Nat.le_of_ble_eq_true rfl) rfl ⟨Nat.zero_le _, Nat.zero_le _⟩ dX3_nextToFall_2) (fun H locs g => ?_)
  refine g_ci (rest := []) g (g_V (n := 1) (As := [.int (nmR F n h)]) S g (m_ok l G (nmF F n h) o (nmR F n h)) (by decide) (cEm G _ o) rfl (lw_V q670 q672 qs35 q4 q673) ⟨rfl, by decide +kernel, by decide +kernel, by decide +kernel⟩ rfl ⟨Nat.le_of_ble_eq_true rfl, Nat.le_of_ble_eq_true rfl⟩ hl.1 (Nat.le_of_ble_eq_true rfl) rfl ⟨Nat.zero_le _, Nat.zero_le _⟩ dX3_nextToFall_5) (fun H locs g => ?_)
  exact e_i S hr hk0 g rfl rfl dX3_nextToFall_8
set_option maxHeartbeats 4000000 in
set_option maxRecDepth 100000 in
theorem m_hoursUntilRuin (l : Launch) (G : gT) (F : Fs) (o : Int64) (n : Nat) (h : Nat) (hok : okM F n h) (hn8 : n ≤ 8) (hh2 : h < 2 ^ 28) : MI l yX3_hoursUntilRuin cX3_hoursUntilRuin 2 (some .int) 8 168 [.ref (gA G 21)] G (F) o (brF (rmL n h 101 0 (kpF (th0 F 0))).2) ((rmL n h 101 0 (kpF (th0 F 0))).1) := by
  refine mk_G (own := "ShadowPoolModel") (Qs := (fun sz => QI G (brF (rmL n h 101 0 (kpF (th0 F 0))).2) o ((rmL n h 101 0 (kpF (th0 F 0))).1) sz)) (by decide +kernel) rfl (Nat.le_of_ble_eq_true rfl) ?_
  intro p e s m args below meth c ls hr hk0 hnm S g hl
  have hl : lv_has ls 2 [(0, .ref (gA G 21))] := hl
  have hx := S.1
  have hb := S.2.1
  refine lv_aload_n hx hb dX3_hoursUntilRuin_0 rfl (lv_at hl 0 rfl) ?_
  refine lv_iconst (v := 0) hx hb dX3_hoursUntilRuin_1 (by decide) ?_
  refine gMp (k := 0) S g 0 (by decide) q544 dX3_hoursUntilRuin_2 (fun H locs g => ?_)
  rw [show up2 (F) (21) 0 (0) = th0 F 0 from rfl] at g
  refine lv_aload_n hx hb dX3_hoursUntilRuin_5 rfl (lv_at hl 0 rfl) ?_
  refine g_cv (rest := []) g (g_V (n := 0) (As := []) S g (m_keep l G (th0 F 0) o ) (by decide) (cEm G _ o) rfl (lw_V q762 q764 qs37 q4 q765) ⟨rfl, by decide +kernel, by decide +kernel, by decide +kernel⟩ rfl ⟨Nat.le_of_ble_eq_true rfl, Nat.le_of_ble_eq_true rfl⟩ hl.1 (Nat.le_of_ble_eq_true rfl) rfl ⟨Nat.zero_le _, Nat.zero_le _⟩ dX3_hoursUntilRuin_6) (fun H locs g => ?_)
  refine lv_iconst (v := 0) hx hb dX3_hoursUntilRuin_9 (by decide) ?_
  refine lv_istore_n (lv' := [(1, .int 0), (0, .ref (gA G 21))]) hx hb dX3_hoursUntilRuin_10 rfl hl (by decide) rfl (fun ls hl => ?_)
  have loop11 : ∀ (n_ : Nat) (i : Nat) (F1 : Fs) (H : Heap) (locs : List Loc) (ls : Array Slot) (hi : i + n_ = 101) (hc : okM F1 n (h + i)) (hres : rmL n h n_ i F1 = rmL n h 101 0 (kpF (th0 F 0))), GB G (F1) o [] [] s H locs → lv_has ls 2 [(0, .ref (gA G 21)), (1, .int (nI i))] → W p l e (rmG 8 168) s m args below meth c H locs 0 0 (MQ below (QI G (brF (rmL n h 101 0 (kpF (th0 F 0))).2) o ((rmL n h 101 0 (kpF (th0 F 0))).1) s.heap.size) args s 0 0 (GA G s.heap.size)) (F0 m 11 ls []) := by
    intro n_
    induction n_ with
    | zero =>
      intro i F1 H locs ls hi hc hres g hl
      refine lv_iload_n hx hb dX3_hoursUntilRuin_11 rfl (lv_at hl 1 rfl) ?_
      refine lv_bipush (v := 100) hx hb dX3_hoursUntilRuin_12 (by decide) ?_
      refine lv_icmp_gt (tgt := 37) hx hb dX3_hoursUntilRuin_14 (by decide) (fun c_14 => ?_) (fun c9 => absurd (nI_lt (a := 100) (by omega) (by omega)) c9)
      refine lv_aload_n hx hb dX3_hoursUntilRuin_37 rfl (lv_at hl 0 rfl) ?_
      refine g_cv (rest := []) g (g_V (n := 0) (As := []) S g (m_bringBack l G (F1) o ) (by decide) (cEm G _ o) rfl (lw_V q769 q771 qs38 q4 q772) ⟨rfl, by decide +kernel, by decide +kernel, by decide +kernel⟩ rfl ⟨Nat.le_of_ble_eq_true rfl, Nat.le_of_ble_eq_true rfl⟩ hl.1 (Nat.le_of_ble_eq_true rfl) rfl ⟨Nat.zero_le _, Nat.zero_le _⟩ dX3_hoursUntilRuin_38) (fun H locs g => ?_)
      refine lv_iload_n hx hb dX3_hoursUntilRuin_41 rfl (lv_at hl 1 rfl) ?_
      refine lv_bipush (v := 100) hx hb dX3_hoursUntilRuin_42 (by decide) ?_
      refine lv_icmp_le (tgt := 51) hx hb dX3_hoursUntilRuin_44 (by decide) (fun c9 => absurd c9 (nI_nle2 (b := 100) (by omega) (by omega))) (fun c_44 => ?_)
      refine lv_iconst (v := (-1)) hx hb dX3_hoursUntilRuin_47 (by decide) ?_
      refine lv_goto (tgt := 52) hx hb dX3_hoursUntilRuin_48 (by decide) ?_
      exact e_i S hr hk0 g (by rw [← hres]; first | rfl | simp only [rmL, c_14, c_44, ↓reduceIte]) (by rw [← hres]; first | rfl | simp only [rmL, c_14, c_44, ↓reduceIte]) dX3_hoursUntilRuin_52
    | succ n_ ih_11 =>
      intro i F1 H locs ls hi hc hres g hl
      refine lv_iload_n hx hb dX3_hoursUntilRuin_11 rfl (lv_at hl 1 rfl) ?_
      refine lv_bipush (v := 100) hx hb dX3_hoursUntilRuin_12 (by decide) ?_
      refine lv_icmp_gt (tgt := 37) hx hb dX3_hoursUntilRuin_14 (by decide) (fun c9 => absurd c9 (nI_nlt (a := 100) (by omega) (by omega))) (fun c_14 => ?_)
      refine lv_aload_n hx hb dX3_hoursUntilRuin_17 rfl (lv_at hl 0 rfl) ?_
      refine gMr (k := 0) S g 6 (by decide) q550 dX3_hoursUntilRuin_18 ?_
      refine lv_iconst (v := 1) hx hb dX3_hoursUntilRuin_21 (by decide) ?_
      refine gAn (k := 25) S g (Or.inl rfl) (1) rfl (by decide) dX3_hoursUntilRuin_22 ?_
      refine lv_if_lt (tgt := 37) hx hb dX3_hoursUntilRuin_23 (by decide) (fun c_23 => ?_) (fun c_23 => ?_)
      · refine lv_aload_n hx hb dX3_hoursUntilRuin_37 rfl (lv_at hl 0 rfl) ?_
        refine g_cv (rest := []) g (g_V (n := 0) (As := []) S g (m_bringBack l G (F1) o ) (by decide) (cEm G _ o) rfl (lw_V q769 q771 qs38 q4 q772) ⟨rfl, by decide +kernel, by decide +kernel, by decide +kernel⟩ rfl ⟨Nat.le_of_ble_eq_true rfl, Nat.le_of_ble_eq_true rfl⟩ hl.1 (Nat.le_of_ble_eq_true rfl) rfl ⟨Nat.zero_le _, Nat.zero_le _⟩ dX3_hoursUntilRuin_38) (fun H locs g => ?_)
        refine lv_iload_n hx hb dX3_hoursUntilRuin_41 rfl (lv_at hl 1 rfl) ?_
        refine lv_bipush (v := 100) hx hb dX3_hoursUntilRuin_42 (by decide) ?_
        refine lv_icmp_le (tgt := 51) hx hb dX3_hoursUntilRuin_44 (by decide) (fun c_44 => ?_) (fun c9 => absurd (nI_le (b := 100) (by omega) (by omega)) c9)
        refine lv_iload_n hx hb dX3_hoursUntilRuin_51 rfl (lv_at hl 1 rfl) ?_
        exact e_i S hr hk0 g (by rw [← hres]; first | rfl | simp only [rmL, c_14, c_23, c_44, ↓reduceIte]) (by rw [← hres]; first | rfl | simp only [rmL, c_14, c_23, c_44, ↓reduceIte]) dX3_hoursUntilRuin_52
      · refine lv_aload_n hx hb dX3_hoursUntilRuin_26 rfl (lv_at hl 0 rfl) ?_
        refine g_ci (rest := []) g (g_V (n := 0) (As := []) S g (m_hourOn l G (F1) o n (h + i) hc hn8 (by omega)) (by decide) (cEm G _ o) rfl (lw_V q618 q620 qs24 q4 q621) ⟨rfl, by decide +kernel, by decide +kernel, by decide +kernel⟩ rfl ⟨Nat.le_of_ble_eq_true rfl, Nat.le_of_ble_eq_true rfl⟩ hl.1 (Nat.le_of_ble_eq_true rfl) rfl ⟨Nat.zero_le _, Nat.zero_le _⟩ dX3_hoursUntilRuin_27) (fun H locs g => ?_)
        refine lv_pop hx hb dX3_hoursUntilRuin_30 rfl ?_
        refine lv_iinc (v := nI (i + 1)) (lv' := [(1, .int (nI (i + 1))), (0, .ref (gA G 21))]) hx hb dX3_hoursUntilRuin_31 hl (k := 1) rfl (nI_1 i) (by decide) rfl (fun ls hl => ?_)
        refine lv_goto (tgt := 11) hx hb dX3_hoursUntilRuin_34 (by decide) ?_
        exact ih_11 (i + 1) _ _ _ _ (by omega) (okM_ho hc) (by rw [← hres]; simp only [rmL, c_14, c_23, ↓reduceIte]) g (lv_sub hl [1, 0] rfl)
  exact loop11 101 0 _ _ _ _ rfl (okM_kp (okM_th hok 0)) rfl g (lv_sub hl [1, 0] rfl)
set_option maxHeartbeats 4000000 in
set_option maxRecDepth 100000 in
theorem m_best (l : Launch) (G : gT) (F : Fs) (o : Int64) (n : Nat) (h : Nat) (hok : okM F n h) (hn8 : n ≤ 8) (hh2 : h < 2 ^ 28) : MI l yX3_best cX3_best 5 (some .int) 10 213 [.ref (gA G 21)] G (F) o ((bmF F n h).2) ((bmF F n h).1) := by
  refine mk_G (own := "ShadowPoolModel") (Qs := (fun sz => QI G ((bmF F n h).2) o ((bmF F n h).1) sz)) (by decide +kernel) rfl (Nat.le_of_ble_eq_true rfl) ?_
  intro p e s m args below meth c ls hr hk0 hnm S g hl
  have hl : lv_has ls 5 [(0, .ref (gA G 21))] := hl
  have hx := S.1
  have hb := S.2.1
  refine lv_aload_n hx hb dX3_best_0 rfl (lv_at hl 0 rfl) ?_
  refine g_cv (rest := []) g (g_V (n := 0) (As := []) S g (m_keep l G (F) o ) (by decide) (cEm G _ o) rfl (lw_V q762 q764 qs37 q4 q765) ⟨rfl, by decide +kernel, by decide +kernel, by decide +kernel⟩ rfl ⟨Nat.le_of_ble_eq_true rfl, Nat.le_of_ble_eq_true rfl⟩ hl.1 (Nat.le_of_ble_eq_true rfl) rfl ⟨Nat.zero_le _, Nat.zero_le _⟩ dX3_best_1) (fun H locs g => ?_)
  refine lv_iconst (v := 0) hx hb dX3_best_4 (by decide) ?_
  refine lv_istore_n (lv' := [(1, .int 0), (0, .ref (gA G 21))]) hx hb dX3_best_5 rfl hl (by decide) rfl (fun ls hl => ?_)
  refine lv_iconst (v := 0) hx hb dX3_best_6 (by decide) ?_
  refine lv_istore_n (lv' := [(2, .int 0), (1, .int 0), (0, .ref (gA G 21))]) hx hb dX3_best_7 rfl hl (by decide) rfl (fun ls hl => ?_)
  refine lv_iconst (v := 0) hx hb dX3_best_8 (by decide) ?_
  refine lv_istore_n (lv' := [(3, .int 0), (2, .int 0), (1, .int 0), (0, .ref (gA G 21))]) hx hb dX3_best_9 rfl hl (by decide) rfl (fun ls hl => ?_)
  have loop10 : ∀ (n_ : Nat) (i : Nat) (best : Int32) (most : Int32) (F1 : Fs) (H : Heap) (locs : List Loc) (ls : Array Slot) (hi : i + n_ = 6) (hc : okM F1 n h ∧ F1 26 0 = nI h) (hres : bmL n h n_ i best most F1 = bmF F n h), GB G (F1) o [] [] s H locs → lv_has ls 5 [(0, .ref (gA G 21)), (1, .int best), (2, .int most), (3, .int (nI (20 * i)))] → W p l e (rmG 10 213) s m args below meth c H locs 0 0 (MQ below (QI G ((bmF F n h).2) o ((bmF F n h).1) s.heap.size) args s 0 0 (GA G s.heap.size)) (F0 m 10 ls []) := by
    intro n_
    induction n_ with
    | zero =>
      intro i best most F1 H locs ls hi hc hres g hl
      refine lv_iload_n hx hb dX3_best_10 rfl (lv_at hl 3 rfl) ?_
      refine lv_bipush (v := 100) hx hb dX3_best_11 (by decide) ?_
      refine lv_icmp_gt (tgt := 55) hx hb dX3_best_13 (by decide) (fun c_13 => ?_) (fun c9 => absurd (nI_lt (a := 100) (by omega) (by omega)) c9)
      refine lv_iload_n hx hb dX3_best_55 rfl (lv_at hl 1 rfl) ?_
      exact e_i S hr hk0 g (by rw [← hres]; rfl) (by rw [← hres]; rfl) dX3_best_56
    | succ n_ ih_10 =>
      intro i best most F1 H locs ls hi hc hres g hl
      refine lv_iload_n hx hb dX3_best_10 rfl (lv_at hl 3 rfl) ?_
      refine lv_bipush (v := 100) hx hb dX3_best_11 (by decide) ?_
      refine lv_icmp_gt (tgt := 55) hx hb dX3_best_13 (by decide) (fun c9 => absurd c9 (nI_nlt (a := 100) (by omega) (by omega))) (fun c_13 => ?_)
      refine lv_aload_n hx hb dX3_best_16 rfl (lv_at hl 0 rfl) ?_
      refine gMr (k := 0) S g 6 (by decide) q550 dX3_best_17 ?_
      refine lv_iconst (v := 3) hx hb dX3_best_20 (by decide) ?_
      refine lv_iload_n hx hb dX3_best_21 rfl (lv_at hl 3 rfl) ?_
      refine gAns (k := 25) S g (Or.inl rfl) (3) rfl (by decide) dX3_best_22 (fun H locs g => ?_)
      rw [show up2 (F1) (25) (3) (nI (20 * i)) = bm1 F1 i from rfl] at g
      refine lv_aload_n hx hb dX3_best_23 rfl (lv_at hl 0 rfl) ?_
      refine lv_bipush (v := 48) hx hb dX3_best_24 (by decide) ?_
      refine g_ci (rest := []) g (g_V (n := 1) (As := [.int 48]) S g (m_fundBehind l G (bm1 F1 i) o n h 48 (by refine ⟨?_, ?_⟩ <;> simp only [bm1, up2_at] <;> first | exact hc.1.1 | exact hc.1.2) hn8 (by omega)) (by decide) (cEm G _ o) rfl (lw_V q785 q787 qs40 q4 q788) ⟨rfl, by decide +kernel, by decide +kernel, by decide +kernel⟩ rfl ⟨Nat.le_of_ble_eq_true rfl, Nat.le_of_ble_eq_true rfl⟩ hl.1 (Nat.le_of_ble_eq_true rfl) rfl ⟨Nat.zero_le _, Nat.zero_le _⟩ dX3_best_26) (fun H locs g => ?_)
      refine lv_istore (lv' := [(4, .int (fdR (bm1 F1 i) n h 48)), (0, .ref (gA G 21)), (1, .int best), (2, .int most), (3, .int (nI (20 * i)))]) hx hb dX3_best_29 hl (by decide) rfl (fun ls hl => ?_)
      refine lv_iload_n hx hb dX3_best_31 rfl (lv_at hl 4 rfl) ?_
      refine lv_if_le (tgt := 44) hx hb dX3_best_32 (by decide) (fun c_32 => ?_) (fun c_32 => ?_)
      · refine lv_iload_n hx hb dX3_best_44 rfl (lv_at hl 4 rfl) ?_
        refine lv_istore_n (lv' := [(1, .int (nI (20 * i))), (4, .int (fdR (bm1 F1 i) n h 48)), (0, .ref (gA G 21)), (2, .int most), (3, .int (nI (20 * i)))]) hx hb dX3_best_45 rfl hl (by decide) rfl (fun ls hl => ?_)
        refine lv_iload hx hb dX3_best_46 (lv_at hl 1 rfl) ?_
        refine lv_istore_n (lv' := [(2, .int (fdR (bm1 F1 i) n h 48)), (1, .int (nI (20 * i))), (4, .int (fdR (bm1 F1 i) n h 48)), (0, .ref (gA G 21)), (3, .int (nI (20 * i)))]) hx hb dX3_best_48 rfl hl (by decide) rfl (fun ls hl => ?_)
        refine lv_iinc (v := nI (20 * (i + 1))) (lv' := [(3, .int (nI (20 * (i + 1)))), (2, .int (fdR (bm1 F1 i) n h 48)), (1, .int (nI (20 * i))), (4, .int (fdR (bm1 F1 i) n h 48)), (0, .ref (gA G 21))]) hx hb dX3_best_49 hl (k := 4) rfl (nI_add (20 * i) 20) (by decide) rfl (fun ls hl => ?_)
        refine lv_goto (tgt := 10) hx hb dX3_best_52 (by decide) ?_
        exact ih_10 (i + 1) _ _ _ _ _ _ (by omega) (okM_fd (by refine ⟨?_, ?_⟩ <;> simp only [bm1, up2_at] <;> first | exact hc.1.1 | exact hc.1.2) (by simp only [bm1, up2_at]; exact hc.2)) (by rw [← hres]; simp only [bmL, c_13, c_32, ↓reduceIte]) g (lv_sub hl [4, 2, 1, 0] rfl)
      · refine lv_iload hx hb dX3_best_35 (lv_at hl 0 rfl) ?_
        refine lv_iload_n hx hb dX3_best_37 rfl (lv_at hl 3 rfl) ?_
        refine lv_icmp_gt (tgt := 44) hx hb dX3_best_38 (by decide) (fun c_38 => ?_) (fun c_38 => ?_)
        · refine lv_iload_n hx hb dX3_best_44 rfl (lv_at hl 4 rfl) ?_
          refine lv_istore_n (lv' := [(1, .int (nI (20 * i))), (4, .int (fdR (bm1 F1 i) n h 48)), (0, .ref (gA G 21)), (2, .int most), (3, .int (nI (20 * i)))]) hx hb dX3_best_45 rfl hl (by decide) rfl (fun ls hl => ?_)
          refine lv_iload hx hb dX3_best_46 (lv_at hl 1 rfl) ?_
          refine lv_istore_n (lv' := [(2, .int (fdR (bm1 F1 i) n h 48)), (1, .int (nI (20 * i))), (4, .int (fdR (bm1 F1 i) n h 48)), (0, .ref (gA G 21)), (3, .int (nI (20 * i)))]) hx hb dX3_best_48 rfl hl (by decide) rfl (fun ls hl => ?_)
          refine lv_iinc (v := nI (20 * (i + 1))) (lv' := [(3, .int (nI (20 * (i + 1)))), (2, .int (fdR (bm1 F1 i) n h 48)), (1, .int (nI (20 * i))), (4, .int (fdR (bm1 F1 i) n h 48)), (0, .ref (gA G 21))]) hx hb dX3_best_49 hl (k := 4) rfl (nI_add (20 * i) 20) (by decide) rfl (fun ls hl => ?_)
          refine lv_goto (tgt := 10) hx hb dX3_best_52 (by decide) ?_
          exact ih_10 (i + 1) _ _ _ _ _ _ (by omega) (okM_fd (by refine ⟨?_, ?_⟩ <;> simp only [bm1, up2_at] <;> first | exact hc.1.1 | exact hc.1.2) (by simp only [bm1, up2_at]; exact hc.2)) (by rw [← hres]; simp only [bmL, c_13, c_32, c_38, ↓reduceIte]) g (lv_sub hl [4, 2, 1, 0] rfl)
        · refine lv_goto (tgt := 49) hx hb dX3_best_41 (by decide) ?_
          refine lv_iinc (v := nI (20 * (i + 1))) (lv' := [(3, .int (nI (20 * (i + 1)))), (4, .int (fdR (bm1 F1 i) n h 48)), (0, .ref (gA G 21)), (1, .int best), (2, .int most)]) hx hb dX3_best_49 hl (k := 4) rfl (nI_add (20 * i) 20) (by decide) rfl (fun ls hl => ?_)
          refine lv_goto (tgt := 10) hx hb dX3_best_52 (by decide) ?_
          exact ih_10 (i + 1) _ _ _ _ _ _ (by omega) (okM_fd (by refine ⟨?_, ?_⟩ <;> simp only [bm1, up2_at] <;> first | exact hc.1.1 | exact hc.1.2) (by simp only [bm1, up2_at]; exact hc.2)) (by rw [← hres]; simp only [bmL, c_13, c_32, c_38, ↓reduceIte]) g (lv_sub hl [2, 3, 4, 0] rfl)
  exact loop10 6 0 0 0 _ _ _ _ rfl ⟨okM_kp hok, (by rw [kpF_in F (by decide)]; exact hok.2)⟩ rfl g (lv_sub hl [3, 2, 1, 0] rfl)
set_option maxHeartbeats 4000000 in
set_option maxRecDepth 100000 in
theorem m_bestLimit (l : Launch) (G : gT) (F : Fs) (o : Int64) (n : Nat) (h : Nat) (hok : okM F n h) (hn8 : n ≤ 8) (hh2 : h < 2 ^ 28) : MI l yX3_bestLimit cX3_bestLimit 1 (some .int) 11 237 [.ref (gA G 21)] G (F) o (th0 (bmF F n h).2 0) ((bmF F n h).1) := by
  refine mk_G (own := "ShadowPoolModel") (Qs := (fun sz => QI G (th0 (bmF F n h).2 0) o ((bmF F n h).1) sz)) (by decide +kernel) rfl (Nat.le_of_ble_eq_true rfl) ?_
  intro p e s m args below meth c ls hr hk0 hnm S g hl
  have hl : lv_has ls 1 [(0, .ref (gA G 21))] := hl
  have hx := S.1
  have hb := S.2.1
  refine lv_aload_n hx hb dX3_bestLimit_0 rfl (lv_at hl 0 rfl) ?_
  refine lv_aload_n hx hb dX3_bestLimit_1 rfl (lv_at hl 0 rfl) ?_
  refine g_ci (rest := [.ref (gA G 21)]) g (g_V (n := 0) (As := []) S g (m_best l G (F) o n h hok hn8 hh2) (by decide) (cEm G _ o) rfl (lw_V q797 q799 qs41 q4 q800) ⟨rfl, by decide +kernel, by decide +kernel, by decide +kernel⟩ rfl ⟨Nat.le_of_ble_eq_true rfl, Nat.le_of_ble_eq_true rfl⟩ hl.1 (Nat.le_of_ble_eq_true rfl) rfl ⟨Nat.zero_le _, Nat.zero_le _⟩ dX3_bestLimit_2) (fun H locs g => ?_)
  refine g_ci (rest := []) g (g_V (n := 1) (As := [.int ((bmF F n h).1)]) S g (m_ok l G ((bmF F n h).2) o ((bmF F n h).1)) (by decide) (cEm G _ o) rfl (lw_V q670 q672 qs35 q4 q673) ⟨rfl, by decide +kernel, by decide +kernel, by decide +kernel⟩ rfl ⟨Nat.le_of_ble_eq_true rfl, Nat.le_of_ble_eq_true rfl⟩ hl.1 (Nat.le_of_ble_eq_true rfl) rfl ⟨Nat.zero_le _, Nat.zero_le _⟩ dX3_bestLimit_5) (fun H locs g => ?_)
  exact e_i S hr hk0 g rfl rfl dX3_bestLimit_8
set_option maxHeartbeats 4000000 in
set_option maxRecDepth 100000 in
theorem m_fair (l : Launch) (G : gT) (F : Fs) (o : Int64) (n : Nat) (h : Nat) (hok : okM F n h) (hn8 : n ≤ 8) (hh2 : h < 2 ^ 28) : MI l yX3_fair cX3_fair 2 (some .int) 10 213 [.ref (gA G 21)] G (F) o ((amF F n h).2) ((amF F n h).1) := by
  refine mk_G (own := "ShadowPoolModel") (Qs := (fun sz => QI G ((amF F n h).2) o ((amF F n h).1) sz)) (by decide +kernel) rfl (Nat.le_of_ble_eq_true rfl) ?_
  intro p e s m args below meth c ls hr hk0 hnm S g hl
  have hl : lv_has ls 2 [(0, .ref (gA G 21))] := hl
  have hx := S.1
  have hb := S.2.1
  refine lv_aload_n hx hb dX3_fair_0 rfl (lv_at hl 0 rfl) ?_
  refine g_cv (rest := []) g (g_V (n := 0) (As := []) S g (m_keep l G (F) o ) (by decide) (cEm G _ o) rfl (lw_V q762 q764 qs37 q4 q765) ⟨rfl, by decide +kernel, by decide +kernel, by decide +kernel⟩ rfl ⟨Nat.le_of_ble_eq_true rfl, Nat.le_of_ble_eq_true rfl⟩ hl.1 (Nat.le_of_ble_eq_true rfl) rfl ⟨Nat.zero_le _, Nat.zero_le _⟩ dX3_fair_1) (fun H locs g => ?_)
  refine lv_iconst (v := 0) hx hb dX3_fair_4 (by decide) ?_
  refine lv_istore_n (lv' := [(1, .int 0), (0, .ref (gA G 21))]) hx hb dX3_fair_5 rfl hl (by decide) rfl (fun ls hl => ?_)
  have loop6 : ∀ (n_ : Nat) (i : Nat) (F1 : Fs) (H : Heap) (locs : List Loc) (ls : Array Slot) (hi : i + n_ = 10) (hc : okM F1 n h ∧ F1 26 0 = nI h) (hres : amL n h n_ i F1 = amF F n h), GB G (F1) o [] [] s H locs → lv_has ls 2 [(0, .ref (gA G 21)), (1, .int (nI i))] → W p l e (rmG 10 213) s m args below meth c H locs 0 0 (MQ below (QI G ((amF F n h).2) o ((amF F n h).1) s.heap.size) args s 0 0 (GA G s.heap.size)) (F0 m 6 ls []) := by
    intro n_
    induction n_ with
    | zero =>
      intro i F1 H locs ls hi hc hres g hl
      refine lv_iload_n hx hb dX3_fair_6 rfl (lv_at hl 1 rfl) ?_
      refine lv_bipush (v := 10) hx hb dX3_fair_7 (by decide) ?_
      refine lv_icmp_ge (tgt := 42) hx hb dX3_fair_9 (by decide) (fun c_9 => ?_) (fun c9 => absurd (nI_le (a := 10) (by omega) (by omega)) c9)
      refine lv_iconst (v := (-1)) hx hb dX3_fair_42 (by decide) ?_
      exact e_i S hr hk0 g (by rw [← hres]; rfl) (by rw [← hres]; rfl) dX3_fair_43
    | succ n_ ih_6 =>
      intro i F1 H locs ls hi hc hres g hl
      refine lv_iload_n hx hb dX3_fair_6 rfl (lv_at hl 1 rfl) ?_
      refine lv_bipush (v := 10) hx hb dX3_fair_7 (by decide) ?_
      refine lv_icmp_ge (tgt := 42) hx hb dX3_fair_9 (by decide) (fun c9 => absurd c9 (nI_ge (b := 10) (by omega) (by omega))) (fun c_9 => ?_)
      refine lv_aload_n hx hb dX3_fair_12 rfl (lv_at hl 0 rfl) ?_
      refine gMr (k := 0) S g 6 (by decide) q550 dX3_fair_13 ?_
      refine lv_iconst (v := 2) hx hb dX3_fair_16 (by decide) ?_
      refine lv_iload_n hx hb dX3_fair_17 rfl (lv_at hl 1 rfl) ?_
      refine gAns (k := 25) S g (Or.inl rfl) (2) rfl (by decide) dX3_fair_18 (fun H locs g => ?_)
      rw [show up2 (F1) (25) (2) (nI i) = am1 F1 i from rfl] at g
      refine lv_aload_n hx hb dX3_fair_19 rfl (lv_at hl 0 rfl) ?_
      refine lv_bipush (v := 48) hx hb dX3_fair_20 (by decide) ?_
      refine g_ci (rest := []) g (g_V (n := 1) (As := [.int 48]) S g (m_fundBehind l G (am1 F1 i) o n h 48 (by refine ⟨?_, ?_⟩ <;> simp only [am1, up2_at] <;> first | exact hc.1.1 | exact hc.1.2) hn8 (by omega)) (by decide) (cEm G _ o) rfl (lw_V q785 q787 qs40 q4 q788) ⟨rfl, by decide +kernel, by decide +kernel, by decide +kernel⟩ rfl ⟨Nat.le_of_ble_eq_true rfl, Nat.le_of_ble_eq_true rfl⟩ hl.1 (Nat.le_of_ble_eq_true rfl) rfl ⟨Nat.zero_le _, Nat.zero_le _⟩ dX3_fair_22) (fun H locs g => ?_)
      refine lv_aload_n hx hb dX3_fair_25 rfl (lv_at hl 0 rfl) ?_
      refine gMr (k := 0) S g 7 (by decide) q551 dX3_fair_26 ?_
      refine lv_iconst (v := 1) hx hb dX3_fair_29 (by decide) ?_
      refine gAn (k := 26) S g (Or.inr rfl) (1) rfl (by decide) dX3_fair_30 ?_
      refine lv_icmp_lt (tgt := 36) hx hb dX3_fair_31 (by decide) (fun c_31 => ?_) (fun c_31 => ?_)
      · refine lv_iinc (v := nI (i + 1)) (lv' := [(1, .int (nI (i + 1))), (0, .ref (gA G 21))]) hx hb dX3_fair_36 hl (k := 1) rfl (nI_1 i) (by decide) rfl (fun ls hl => ?_)
        refine lv_goto (tgt := 6) hx hb dX3_fair_39 (by decide) ?_
        exact ih_6 (i + 1) _ _ _ _ (by omega) (okM_fd (by refine ⟨?_, ?_⟩ <;> simp only [am1, up2_at] <;> first | exact hc.1.1 | exact hc.1.2) (by simp only [am1, up2_at]; exact hc.2)) (by rw [← hres]; simp only [amL, c_9, c_31, ↓reduceIte]) g (lv_sub hl [1, 0] rfl)
      · refine lv_iload_n hx hb dX3_fair_34 rfl (lv_at hl 1 rfl) ?_
        exact e_i S hr hk0 g (by rw [← hres]; simp only [amL, c_9, c_31, ↓reduceIte]) (by rw [← hres]; simp only [amL, c_9, c_31, ↓reduceIte]) dX3_fair_35
  exact loop6 10 0 _ _ _ _ rfl ⟨okM_kp hok, (by rw [kpF_in F (by decide)]; exact hok.2)⟩ rfl g (lv_sub hl [1, 0] rfl)
set_option maxHeartbeats 4000000 in
set_option maxRecDepth 100000 in
theorem m_fairRate (l : Launch) (G : gT) (F : Fs) (o : Int64) (n : Nat) (h : Nat) (hok : okM F n h) (hn8 : n ≤ 8) (hh2 : h < 2 ^ 28) : MI l yX3_fairRate cX3_fairRate 1 (some .int) 11 234 [.ref (gA G 21)] G (F) o (th0 (amF F n h).2 0) ((amF F n h).1) := by
  refine mk_G (own := "ShadowPoolModel") (Qs := (fun sz => QI G (th0 (amF F n h).2 0) o ((amF F n h).1) sz)) (by decide +kernel) rfl (Nat.le_of_ble_eq_true rfl) ?_
  intro p e s m args below meth c ls hr hk0 hnm S g hl
  have hl : lv_has ls 1 [(0, .ref (gA G 21))] := hl
  have hx := S.1
  have hb := S.2.1
  refine lv_aload_n hx hb dX3_fairRate_0 rfl (lv_at hl 0 rfl) ?_
  refine lv_aload_n hx hb dX3_fairRate_1 rfl (lv_at hl 0 rfl) ?_
  refine g_ci (rest := [.ref (gA G 21)]) g (g_V (n := 0) (As := []) S g (m_fair l G (F) o n h hok hn8 hh2) (by decide) (cEm G _ o) rfl (lw_V q805 q807 qs42 q4 q808) ⟨rfl, by decide +kernel, by decide +kernel, by decide +kernel⟩ rfl ⟨Nat.le_of_ble_eq_true rfl, Nat.le_of_ble_eq_true rfl⟩ hl.1 (Nat.le_of_ble_eq_true rfl) rfl ⟨Nat.zero_le _, Nat.zero_le _⟩ dX3_fairRate_2) (fun H locs g => ?_)
  refine g_ci (rest := []) g (g_V (n := 1) (As := [.int ((amF F n h).1)]) S g (m_ok l G ((amF F n h).2) o ((amF F n h).1)) (by decide) (cEm G _ o) rfl (lw_V q670 q672 qs35 q4 q673) ⟨rfl, by decide +kernel, by decide +kernel, by decide +kernel⟩ rfl ⟨Nat.le_of_ble_eq_true rfl, Nat.le_of_ble_eq_true rfl⟩ hl.1 (Nat.le_of_ble_eq_true rfl) rfl ⟨Nat.zero_le _, Nat.zero_le _⟩ dX3_fairRate_5) (fun H locs g => ?_)
  exact e_i S hr hk0 g rfl rfl dX3_fairRate_8
set_option maxHeartbeats 4000000 in
set_option maxRecDepth 100000 in
theorem m_meanShadow (l : Launch) (G : gT) (F : Fs) (o : Int64) (n : Nat) (h : Nat) (hok : okM F n h) (hn8 : n ≤ 8) (hh2 : h < 2 ^ 28) (hnan : ¬ nI n = 0 → vf_n64 (FP.ddiv (FP.i2d (tmL (th0 F 0) (suH h) n 0 0)) (FP.i2d (nI n)))) : MD l yX3_meanShadow cX3_meanShadow 3 2 41 [.ref (gA G 21)] G (F) o (th0 F 0) (tmD (th0 F 0) n h) := by
  refine mk_G (own := "ShadowPoolModel") (Qs := (fun sz => QD G (th0 F 0) o (tmD (th0 F 0) n h) sz)) (by decide +kernel) rfl (Nat.le_of_ble_eq_true rfl) ?_
  intro p e s m args below meth c ls hr hk0 hnm S g hl
  have hl : lv_has ls 3 [(0, .ref (gA G 21))] := hl
  have hx := S.1
  have hb := S.2.1
  refine lv_aload_n hx hb dX3_meanShadow_0 rfl (lv_at hl 0 rfl) ?_
  refine lv_iconst (v := 0) hx hb dX3_meanShadow_1 (by decide) ?_
  refine gMp (k := 0) S g 0 (by decide) q544 dX3_meanShadow_2 (fun H locs g => ?_)
  rw [show up2 (F) (21) 0 (0) = th0 F 0 from rfl] at g
  refine lv_iconst (v := 0) hx hb dX3_meanShadow_5 (by decide) ?_
  refine lv_istore_n (lv' := [(1, .int 0), (0, .ref (gA G 21))]) hx hb dX3_meanShadow_6 rfl hl (by decide) rfl (fun ls hl => ?_)
  refine lv_iconst (v := 0) hx hb dX3_meanShadow_7 (by decide) ?_
  refine lv_istore_n (lv' := [(2, .int 0), (1, .int 0), (0, .ref (gA G 21))]) hx hb dX3_meanShadow_8 rfl hl (by decide) rfl (fun ls hl => ?_)
  have loop9 : ∀ (n_ : Nat) (i : Nat) (acc : Int32) (H : Heap) (locs : List Loc) (ls : Array Slot) (hi : i + n_ = n) (hres : tmL (th0 F 0) (suH h) n_ i acc = tmL (th0 F 0) (suH h) n 0 0), GB G (th0 F 0) o [] [] s H locs → lv_has ls 3 [(0, .ref (gA G 21)), (1, .int acc), (2, .int (nI i))] → W p l e (rmG 2 41) s m args below meth c H locs 0 0 (MQ below (QD G (th0 F 0) o (tmD (th0 F 0) n h) s.heap.size) args s 0 0 (GA G s.heap.size)) (F0 m 9 ls []) := by
    intro n_
    induction n_ with
    | zero =>
      intro i acc H locs ls hi hres g hl
      have hres : acc = tmL (th0 F 0) (suH h) n 0 0 := hres
      refine lv_iload_n hx hb dX3_meanShadow_9 rfl (lv_at hl 2 rfl) ?_
      refine lv_aload_n hx hb dX3_meanShadow_10 rfl (lv_at hl 0 rfl) ?_
      refine gM (k := 0) S g 1 (by decide) q545 dX3_meanShadow_11 ?_
      rw [show ((th0 F 0) 21 1 : Int32) = nI n from (okM_th hok 0).1]
      refine lv_icmp_ge (tgt := 31) hx hb dX3_meanShadow_14 (by decide) (fun c_14 => ?_) (fun c9 => absurd (nI_le (by omega) (by omega)) c9)
      refine lv_aload_n hx hb dX3_meanShadow_31 rfl (lv_at hl 0 rfl) ?_
      refine gM (k := 0) S g 1 (by decide) q545 dX3_meanShadow_32 ?_
      rw [show ((th0 F 0) 21 1 : Int32) = nI n from (okM_th hok 0).1]
      refine lv_if_ne (tgt := 42) hx hb dX3_meanShadow_35 (by decide) (fun c_35 => ?_) (fun c_35 => ?_)
      · refine lv_iload_n hx hb dX3_meanShadow_42 rfl (lv_at hl 1 rfl) ?_
        refine lv_i2d hx hb dX3_meanShadow_43 ?_
        refine lv_aload_n hx hb dX3_meanShadow_44 rfl (lv_at hl 0 rfl) ?_
        refine gM (k := 0) S g 1 (by decide) q545 dX3_meanShadow_45 ?_
        rw [show ((th0 F 0) 21 1 : Int32) = nI n from (okM_th hok 0).1]
        refine lv_i2d hx hb dX3_meanShadow_48 ?_
        refine lv_ddiv hx hb dX3_meanShadow_49 (by rw [hres]; exact hnan c_35) ?_
        exact e_d S hr hk0 g (by simp only [tmD, ← hres, c_14, c_35, ↓reduceIte]) rfl dX3_meanShadow_50
      · refine lv_dconst0 hx hb dX3_meanShadow_38 ?_
        refine lv_goto (tgt := 50) hx hb dX3_meanShadow_39 (by decide) ?_
        exact e_d S hr hk0 g (by simp only [tmD, ← hres, c_14, c_35, ↓reduceIte]) rfl dX3_meanShadow_50
    | succ n_ ih_9 =>
      intro i acc H locs ls hi hres g hl
      refine lv_iload_n hx hb dX3_meanShadow_9 rfl (lv_at hl 2 rfl) ?_
      refine lv_aload_n hx hb dX3_meanShadow_10 rfl (lv_at hl 0 rfl) ?_
      refine gM (k := 0) S g 1 (by decide) q545 dX3_meanShadow_11 ?_
      rw [show ((th0 F 0) 21 1 : Int32) = nI n from (okM_th hok 0).1]
      refine lv_icmp_ge (tgt := 31) hx hb dX3_meanShadow_14 (by decide) (fun c9 => absurd c9 (nI_ge (by omega) (by omega))) (fun c_14 => ?_)
      refine lv_iload_n hx hb dX3_meanShadow_17 rfl (lv_at hl 1 rfl) ?_
      refine lv_aload_n hx hb dX3_meanShadow_18 rfl (lv_at hl 0 rfl) ?_
      refine lv_iload_n hx hb dX3_meanShadow_19 rfl (lv_at hl 2 rfl) ?_
      refine g_ci (rest := [.int acc]) g (g_V (n := 1) (As := [.int (nI i)]) S g (m_shadow l G (th0 F 0) o i h (by omega) (okM_th hok 0).2 (by omega)) (by decide) (cEm G _ o) rfl (lw_V q647 q649 qs31 q4 q650) ⟨rfl, by decide +kernel, by decide +kernel, by decide +kernel⟩ rfl ⟨Nat.le_of_ble_eq_true rfl, Nat.le_of_ble_eq_true rfl⟩ hl.1 (Nat.le_of_ble_eq_true rfl) rfl ⟨Nat.zero_le _, Nat.zero_le _⟩ dX3_meanShadow_20) (fun H locs g => ?_)
      refine lv_iadd hx hb dX3_meanShadow_23 ?_
      refine lv_istore_n (lv' := [(1, .int ((acc) + (shI ((th0 F 0) 22 i) (suH h)))), (0, .ref (gA G 21)), (2, .int (nI i))]) hx hb dX3_meanShadow_24 rfl hl (by decide) rfl (fun ls hl => ?_)
      refine lv_iinc (v := nI (i + 1)) (lv' := [(2, .int (nI (i + 1))), (1, .int ((acc) + (shI ((th0 F 0) 22 i) (suH h)))), (0, .ref (gA G 21))]) hx hb dX3_meanShadow_25 hl (k := 2) rfl (nI_1 i) (by decide) rfl (fun ls hl => ?_)
      refine lv_goto (tgt := 9) hx hb dX3_meanShadow_28 (by decide) ?_
      exact ih_9 (i + 1) _ _ _ _ (by omega) (by simpa only [tmL, c_14, ↓reduceIte] using hres) g (lv_sub hl [2, 1, 0] rfl)
  exact loop9 n 0 0 _ _ _ (by omega) rfl g (lv_sub hl [2, 1, 0] rfl)
set_option maxHeartbeats 4000000 in
set_option maxRecDepth 100000 in
theorem m_longestShadow (l : Launch) (G : gT) (F : Fs) (o : Int64) (n : Nat) (h : Nat) (hok : okM F n h) (hn8 : n ≤ 8) (hh2 : h < 2 ^ 28) : MI l yX3_longestShadow cX3_longestShadow 3 (some .int) 2 41 [.ref (gA G 21)] G (F) o (th0 F 0) (lmL (th0 F 0) (suH h) n 0 0) := by
  refine mk_G (own := "ShadowPoolModel") (Qs := (fun sz => QI G (th0 F 0) o (lmL (th0 F 0) (suH h) n 0 0) sz)) (by decide +kernel) rfl (Nat.le_of_ble_eq_true rfl) ?_
  intro p e s m args below meth c ls hr hk0 hnm S g hl
  have hl : lv_has ls 3 [(0, .ref (gA G 21))] := hl
  have hx := S.1
  have hb := S.2.1
  refine lv_aload_n hx hb dX3_longestShadow_0 rfl (lv_at hl 0 rfl) ?_
  refine lv_iconst (v := 0) hx hb dX3_longestShadow_1 (by decide) ?_
  refine gMp (k := 0) S g 0 (by decide) q544 dX3_longestShadow_2 (fun H locs g => ?_)
  rw [show up2 (F) (21) 0 (0) = th0 F 0 from rfl] at g
  refine lv_iconst (v := (-1)) hx hb dX3_longestShadow_5 (by decide) ?_
  refine lv_istore_n (lv' := [(1, .int (-1)), (0, .ref (gA G 21))]) hx hb dX3_longestShadow_6 rfl hl (by decide) rfl (fun ls hl => ?_)
  refine lv_iconst (v := 0) hx hb dX3_longestShadow_7 (by decide) ?_
  refine lv_istore_n (lv' := [(2, .int 0), (1, .int (-1)), (0, .ref (gA G 21))]) hx hb dX3_longestShadow_8 rfl hl (by decide) rfl (fun ls hl => ?_)
  have loop9 : ∀ (n_ : Nat) (i : Nat) (b : Nat) (best : Int32) (H : Heap) (locs : List Loc) (ls : Array Slot) (hi : i + n_ = n) (hb8 : b < 8) (hbst : best = bst i b) (hres : lmL (th0 F 0) (suH h) n_ i b = lmL (th0 F 0) (suH h) n 0 0), GB G (th0 F 0) o [] [] s H locs → lv_has ls 3 [(0, .ref (gA G 21)), (1, .int best), (2, .int (nI i))] → W p l e (rmG 2 41) s m args below meth c H locs 0 0 (MQ below (QI G (th0 F 0) o (lmL (th0 F 0) (suH h) n 0 0) s.heap.size) args s 0 0 (GA G s.heap.size)) (F0 m 9 ls []) := by
    intro n_
    induction n_ with
    | zero =>
      intro i b best H locs ls hi hb8 hbst hres g hl
      refine lv_iload_n hx hb dX3_longestShadow_9 rfl (lv_at hl 2 rfl) ?_
      refine lv_aload_n hx hb dX3_longestShadow_10 rfl (lv_at hl 0 rfl) ?_
      refine gM (k := 0) S g 1 (by decide) q545 dX3_longestShadow_11 ?_
      rw [show ((th0 F 0) 21 1 : Int32) = nI n from (okM_th hok 0).1]
      refine lv_icmp_ge (tgt := 43) hx hb dX3_longestShadow_14 (by decide) (fun c_14 => ?_) (fun c9 => absurd (nI_le (by omega) (by omega)) c9)
      refine lv_iload_n hx hb dX3_longestShadow_43 rfl (lv_at hl 1 rfl) ?_
      exact e_i S hr hk0 g (hbst.trans hres) rfl dX3_longestShadow_44
    | succ n_ ih_9 =>
      intro i b best H locs ls hi hb8 hbst hres g hl
      refine lv_iload_n hx hb dX3_longestShadow_9 rfl (lv_at hl 2 rfl) ?_
      refine lv_aload_n hx hb dX3_longestShadow_10 rfl (lv_at hl 0 rfl) ?_
      refine gM (k := 0) S g 1 (by decide) q545 dX3_longestShadow_11 ?_
      rw [show ((th0 F 0) 21 1 : Int32) = nI n from (okM_th hok 0).1]
      refine lv_icmp_ge (tgt := 43) hx hb dX3_longestShadow_14 (by decide) (fun c9 => absurd c9 (nI_ge (by omega) (by omega))) (fun c_14 => ?_)
      refine lv_iload_n hx hb dX3_longestShadow_17 rfl (lv_at hl 1 rfl) ?_
      refine lv_iconst (v := (-1)) hx hb dX3_longestShadow_18 (by decide) ?_
      refine lv_icmp_eq (tgt := 35) hx hb dX3_longestShadow_19 (by decide) (fun c_19 => ?_) (fun c_19 => ?_)
      · refine lv_iload_n hx hb dX3_longestShadow_35 rfl (lv_at hl 2 rfl) ?_
        refine lv_istore_n (lv' := [(1, .int (nI i)), (0, .ref (gA G 21)), (2, .int (nI i))]) hx hb dX3_longestShadow_36 rfl hl (by decide) rfl (fun ls hl => ?_)
        refine lv_iinc (v := nI (i + 1)) (lv' := [(2, .int (nI (i + 1))), (1, .int (nI i)), (0, .ref (gA G 21))]) hx hb dX3_longestShadow_37 hl (k := 2) rfl (nI_1 i) (by decide) rfl (fun ls hl => ?_)
        refine lv_goto (tgt := 9) hx hb dX3_longestShadow_40 (by decide) ?_
        exact ih_9 (i + 1) i (nI i) _ _ _ (by omega) (by omega) (show nI i = bst (i + 1) i from (if_neg (by omega)).symm) (by rw [← hres]; simp only [lmL, ← hbst, c_14, c_19, ↓reduceIte]) g (lv_sub hl [2, 1, 0] rfl)
      · refine lv_aload_n hx hb dX3_longestShadow_22 rfl (lv_at hl 0 rfl) ?_
        refine lv_iload_n hx hb dX3_longestShadow_23 rfl (lv_at hl 2 rfl) ?_
        refine g_ci (rest := []) g (g_V (n := 1) (As := [.int (nI i)]) S g (m_shadow l G (th0 F 0) o i h (by omega) (okM_th hok 0).2 (by omega)) (by decide) (cEm G _ o) rfl (lw_V q647 q649 qs31 q4 q650) ⟨rfl, by decide +kernel, by decide +kernel, by decide +kernel⟩ rfl ⟨Nat.le_of_ble_eq_true rfl, Nat.le_of_ble_eq_true rfl⟩ hl.1 (Nat.le_of_ble_eq_true rfl) rfl ⟨Nat.zero_le _, Nat.zero_le _⟩ dX3_longestShadow_24) (fun H locs g => ?_)
        refine lv_aload_n hx hb dX3_longestShadow_27 rfl (lv_at hl 0 rfl) ?_
        refine lv_iload_n hx hb dX3_longestShadow_28 rfl (lv_at hl 1 rfl) ?_
        rw [show (best : Int32) = nI b from hbst.trans (bst_ne (fun q => c_19 (hbst.trans q)))]
        refine g_ci (rest := [.int (shI ((th0 F 0) 22 i) (suH h))]) g (g_V (n := 1) (As := [.int (nI b)]) S g (m_shadow l G ((th0 F 0)) o b h hb8 (okM_th hok 0).2 (by omega)) (by decide) (cEm G _ o) rfl (lw_V q647 q649 qs31 q4 q650) ⟨rfl, by decide +kernel, by decide +kernel, by decide +kernel⟩ rfl ⟨Nat.le_of_ble_eq_true rfl, Nat.le_of_ble_eq_true rfl⟩ hl.1 (Nat.le_of_ble_eq_true rfl) rfl ⟨Nat.zero_le _, Nat.zero_le _⟩ dX3_longestShadow_29) (fun H locs g => ?_)
        refine lv_icmp_le (tgt := 37) hx hb dX3_longestShadow_32 (by decide) (fun c_32 => ?_) (fun c_32 => ?_)
        · refine lv_iinc (v := nI (i + 1)) (lv' := [(2, .int (nI (i + 1))), (0, .ref (gA G 21)), (1, .int best)]) hx hb dX3_longestShadow_37 hl (k := 2) rfl (nI_1 i) (by decide) rfl (fun ls hl => ?_)
          refine lv_goto (tgt := 9) hx hb dX3_longestShadow_40 (by decide) ?_
          exact ih_9 (i + 1) b best _ _ _ (by omega) hb8 (by rw [show bst (i + 1) b = nI b from if_neg (by omega)]; exact hbst.trans (bst_ne (fun q => c_19 (hbst.trans q)))) (by rw [← hres]; simp only [lmL, ← hbst, c_14, c_19, c_32, ↓reduceIte]) g (lv_sub hl [1, 2, 0] rfl)
        · refine lv_iload_n hx hb dX3_longestShadow_35 rfl (lv_at hl 2 rfl) ?_
          refine lv_istore_n (lv' := [(1, .int (nI i)), (0, .ref (gA G 21)), (2, .int (nI i))]) hx hb dX3_longestShadow_36 rfl hl (by decide) rfl (fun ls hl => ?_)
          refine lv_iinc (v := nI (i + 1)) (lv' := [(2, .int (nI (i + 1))), (1, .int (nI i)), (0, .ref (gA G 21))]) hx hb dX3_longestShadow_37 hl (k := 2) rfl (nI_1 i) (by decide) rfl (fun ls hl => ?_)
          refine lv_goto (tgt := 9) hx hb dX3_longestShadow_40 (by decide) ?_
          exact ih_9 (i + 1) i (nI i) _ _ _ (by omega) (by omega) (show nI i = bst (i + 1) i from (if_neg (by omega)).symm) (by rw [← hres]; simp only [lmL, ← hbst, c_14, c_19, c_32, ↓reduceIte]) g (lv_sub hl [2, 1, 0] rfl)
  exact loop9 n 0 0 (-1) _ _ _ (by omega) (by decide) rfl rfl g (lv_sub hl [2, 1, 0] rfl)
