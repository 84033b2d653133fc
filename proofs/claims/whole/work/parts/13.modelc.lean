set_option maxHeartbeats 4000000 in
set_option maxRecDepth 100000 in
theorem m_thrown (l : Launch) (G : gT) (F : Fs) (o : Int64) : MI l yX3_thrown cX3_thrown 1 (some .int) 0 0 [.ref (gA G 21)] G (F) o (F) (F 21 0) := by
  refine mk_G (own := "ShadowPoolModel") (Qs := (fun sz => QI G (F) o (F 21 0) sz)) (by decide +kernel) rfl (Nat.le_of_ble_eq_true rfl) ?_
  intro p e s m args below meth c ls hr hk0 hnm S g hl
  have hl : lv_has ls 1 [(0, .ref (gA G 21))] := hl
  have hx := S.1
  have hb := S.2.1
  refine lv_aload_n hx hb dX3_thrown_0 rfl (lv_at hl 0 rfl) ?_
  refine gM (k := 0) S g 0 (by decide) q544 dX3_thrown_1 ?_
  exact e_i S hr hk0 g rfl rfl dX3_thrown_4
set_option maxHeartbeats 4000000 in
set_option maxRecDepth 100000 in
theorem m_no (l : Launch) (G : gT) (F : Fs) (o : Int64) (x : Int32) : MI l yX3_no cX3_no 2 (some .int) 0 0 [.ref (gA G 21), .int x] G (F) o (th0 F x) (0) := by
  refine mk_G (own := "ShadowPoolModel") (Qs := (fun sz => QI G (th0 F x) o (0) sz)) (by decide +kernel) rfl (Nat.le_of_ble_eq_true rfl) ?_
  intro p e s m args below meth c ls hr hk0 hnm S g hl
  have hl : lv_has ls 2 [(0, .ref (gA G 21)), (1, .int x)] := hl
  have hx := S.1
  have hb := S.2.1
  refine lv_aload_n hx hb dX3_no_0 rfl (lv_at hl 0 rfl) ?_
  refine lv_iload_n hx hb dX3_no_1 rfl (lv_at hl 1 rfl) ?_
  refine gMp (k := 0) S g 0 (by decide) q544 dX3_no_2 (fun H locs g => ?_)
  refine lv_iconst (v := 0) hx hb dX3_no_5 (by decide) ?_
  exact e_i S hr hk0 g rfl rfl dX3_no_6
set_option maxHeartbeats 4000000 in
set_option maxRecDepth 100000 in
theorem m_ok (l : Launch) (G : gT) (F : Fs) (o : Int64) (x : Int32) : MI l yX3_ok cX3_ok 2 (some .int) 0 0 [.ref (gA G 21), .int x] G (F) o (th0 F 0) (x) := by
  refine mk_G (own := "ShadowPoolModel") (Qs := (fun sz => QI G (th0 F 0) o (x) sz)) (by decide +kernel) rfl (Nat.le_of_ble_eq_true rfl) ?_
  intro p e s m args below meth c ls hr hk0 hnm S g hl
  have hl : lv_has ls 2 [(0, .ref (gA G 21)), (1, .int x)] := hl
  have hx := S.1
  have hb := S.2.1
  refine lv_aload_n hx hb dX3_ok_0 rfl (lv_at hl 0 rfl) ?_
  refine lv_iconst (v := 0) hx hb dX3_ok_1 (by decide) ?_
  refine gMp (k := 0) S g 0 (by decide) q544 dX3_ok_2 (fun H locs g => ?_)
  refine lv_iload_n hx hb dX3_ok_5 rfl (lv_at hl 1 rfl) ?_
  exact e_i S hr hk0 g rfl rfl dX3_ok_6
set_option maxHeartbeats 4000000 in
set_option maxRecDepth 100000 in
theorem m_isFrom (l : Launch) (G : gT) (F : Fs) (o : Int64) (v : Int32) (lo : Int32) (hi : Int32) : MI l yX3_isFrom cX3_isFrom 3 (some .boolean) 0 0 [.int v, .int lo, .int hi] G (F) o (F) (inR v lo hi) := by
  refine mk_G (own := "ShadowPoolModel") (Qs := (fun sz => QI G (F) o (inR v lo hi) sz)) (by decide +kernel) rfl (Nat.le_of_ble_eq_true rfl) ?_
  intro p e s m args below meth c ls hr hk0 hnm S g hl
  have hl : lv_has ls 3 [(0, .int v), (1, .int lo), (2, .int hi)] := hl
  have hx := S.1
  have hb := S.2.1
  refine lv_iload_n hx hb dX3_isFrom_0 rfl (lv_at hl 0 rfl) ?_
  refine lv_iload_n hx hb dX3_isFrom_1 rfl (lv_at hl 1 rfl) ?_
  refine lv_icmp_lt (tgt := 14) hx hb dX3_isFrom_2 (by decide) (fun c_2 => ?_) (fun c_2 => ?_)
  · refine lv_iconst (v := 0) hx hb dX3_isFrom_14 (by decide) ?_
    exact e_z S hr hk0 g (by first | rfl | decide) (by first | rfl | (simp only [inR, c_2, ↓reduceIte]; done) | (simp [inR, c_2, ↓reduceIte]; done)) (by first | rfl | (simp only [inR, c_2, ↓reduceIte]; done)) dX3_isFrom_15
  · refine lv_iload_n hx hb dX3_isFrom_5 rfl (lv_at hl 0 rfl) ?_
    refine lv_iload_n hx hb dX3_isFrom_6 rfl (lv_at hl 2 rfl) ?_
    refine lv_icmp_gt (tgt := 14) hx hb dX3_isFrom_7 (by decide) (fun c_7 => ?_) (fun c_7 => ?_)
    · refine lv_iconst (v := 0) hx hb dX3_isFrom_14 (by decide) ?_
      exact e_z S hr hk0 g (by first | rfl | decide) (by first | rfl | (simp only [inR, c_2, c_7, ↓reduceIte]; done) | (simp [inR, c_2, c_7, ↓reduceIte]; done)) (by first | rfl | (simp only [inR, c_2, c_7, ↓reduceIte]; done)) dX3_isFrom_15
    · refine lv_iconst (v := 1) hx hb dX3_isFrom_10 (by decide) ?_
      refine lv_goto (tgt := 15) hx hb dX3_isFrom_11 (by decide) ?_
      exact e_z S hr hk0 g (by first | rfl | decide) (by first | rfl | (simp only [inR, c_2, c_7, ↓reduceIte]; done) | (simp [inR, c_2, c_7, ↓reduceIte]; done)) (by first | rfl | (simp only [inR, c_2, c_7, ↓reduceIte]; done)) dX3_isFrom_15
set_option maxHeartbeats 4000000 in
set_option maxRecDepth 100000 in
theorem m_isWalker (l : Launch) (G : gT) (F : Fs) (o : Int64) (x : Int32) (n : Nat) (hn : F 21 1 = nI n) : MI l yX3_isWalker cX3_isWalker 2 (some .boolean) 1 22 [.ref (gA G 21), .int x] G (F) o (F) (inR x 0 (nI n - 1)) := by
  refine mk_G (own := "ShadowPoolModel") (Qs := (fun sz => QI G (F) o (inR x 0 (nI n - 1)) sz)) (by decide +kernel) rfl (Nat.le_of_ble_eq_true rfl) ?_
  intro p e s m args below meth c ls hr hk0 hnm S g hl
  have hl : lv_has ls 2 [(0, .ref (gA G 21)), (1, .int x)] := hl
  have hx := S.1
  have hb := S.2.1
  refine lv_iload_n hx hb dX3_isWalker_0 rfl (lv_at hl 1 rfl) ?_
  refine lv_iconst (v := 0) hx hb dX3_isWalker_1 (by decide) ?_
  refine lv_aload_n hx hb dX3_isWalker_2 rfl (lv_at hl 0 rfl) ?_
  refine gM (k := 0) S g 1 (by decide) q545 dX3_isWalker_3 ?_
  rw [show (F 21 1 : Int32) = nI n from hn]
  refine lv_iconst (v := 1) hx hb dX3_isWalker_6 (by decide) ?_
  refine lv_isub hx hb dX3_isWalker_7 ?_
  refine g_ci (rest := []) g (g_S (n := 3) (As := [.int x, .int 0, .int ((nI n) - (1))]) S g (m_isFrom l G (F) o x 0 (nI n - 1)) (lw_S q579 q580 q4 q581) ⟨by decide +kernel, by decide +kernel, by decide +kernel⟩ rfl ⟨Nat.le_of_ble_eq_true rfl, Nat.le_of_ble_eq_true rfl⟩ hl.1 (Nat.le_of_ble_eq_true rfl) rfl ⟨Nat.zero_le _, Nat.zero_le _⟩ dX3_isWalker_8) (fun H locs g => ?_)
  exact e_z S hr hk0 g (z01 (inR01 _ _ _)) rfl rfl dX3_isWalker_11
set_option maxHeartbeats 4000000 in
set_option maxRecDepth 100000 in
theorem m_keep (l : Launch) (G : gT) (F : Fs) (o : Int64) : MV l yX3_keep cX3_keep 1 1 60 [.ref (gA G 21)] G (F) o (kpF F) := by
  refine mk_G (own := "ShadowPoolModel") (Qs := (fun sz => QV G (kpF F) o sz)) (by decide +kernel) rfl (Nat.le_of_ble_eq_true rfl) ?_
  intro p e s m args below meth c ls hr hk0 hnm S g hl
  have hl : lv_has ls 1 [(0, .ref (gA G 21))] := hl
  have hx := S.1
  have hb := S.2.1
  refine lv_aload_n hx hb dX3_keep_0 rfl (lv_at hl 0 rfl) ?_
  refine gMr (k := 0) S g 6 (by decide) q550 dX3_keep_1 ?_
  refine lv_iconst (v := 0) hx hb dX3_keep_4 (by decide) ?_
  refine lv_aload_n hx hb dX3_keep_5 rfl (lv_at hl 0 rfl) ?_
  refine gMr (k := 0) S g 7 (by decide) q551 dX3_keep_6 ?_
  refine lv_iconst (v := 0) hx hb dX3_keep_9 (by decide) ?_
  refine lv_bipush (v := 29) hx hb dX3_keep_10 (by decide) ?_
  refine g_copy (k := 25) (k2 := 26) S g hl.1 (Or.inl rfl) (Or.inr rfl) q766 q768 q767 q12 (Nat.le_of_ble_eq_true rfl) (Nat.le_of_ble_eq_true rfl) dX3_keep_12 (fun H locs g => ?_)
  exact e_v S hr hk0 g rfl dX3_keep_15
set_option maxHeartbeats 4000000 in
set_option maxRecDepth 100000 in
theorem m_bringBack (l : Launch) (G : gT) (F : Fs) (o : Int64) : MV l yX3_bringBack cX3_bringBack 1 1 60 [.ref (gA G 21)] G (F) o (brF F) := by
  refine mk_G (own := "ShadowPoolModel") (Qs := (fun sz => QV G (brF F) o sz)) (by decide +kernel) rfl (Nat.le_of_ble_eq_true rfl) ?_
  intro p e s m args below meth c ls hr hk0 hnm S g hl
  have hl : lv_has ls 1 [(0, .ref (gA G 21))] := hl
  have hx := S.1
  have hb := S.2.1
  refine lv_aload_n hx hb dX3_bringBack_0 rfl (lv_at hl 0 rfl) ?_
  refine gMr (k := 0) S g 7 (by decide) q551 dX3_bringBack_1 ?_
  refine lv_iconst (v := 0) hx hb dX3_bringBack_4 (by decide) ?_
  refine lv_aload_n hx hb dX3_bringBack_5 rfl (lv_at hl 0 rfl) ?_
  refine gMr (k := 0) S g 6 (by decide) q550 dX3_bringBack_6 ?_
  refine lv_iconst (v := 0) hx hb dX3_bringBack_9 (by decide) ?_
  refine lv_bipush (v := 29) hx hb dX3_bringBack_10 (by decide) ?_
  refine g_copy (k := 26) (k2 := 25) S g hl.1 (Or.inr rfl) (Or.inl rfl) q766 q768 q767 q12 (Nat.le_of_ble_eq_true rfl) (Nat.le_of_ble_eq_true rfl) dX3_bringBack_12 (fun H locs g => ?_)
  exact e_v S hr hk0 g rfl dX3_bringBack_15
set_option maxHeartbeats 4000000 in
set_option maxRecDepth 100000 in
theorem m_sunNow (l : Launch) (G : gT) (F : Fs) (o : Int64) (h : Nat) (hh : F 25 0 = nI h) (hh2 : h < 2 ^ 29) : MI l yX3_sunNow cX3_sunNow 1 (some .int) 0 0 [.ref (gA G 21)] G (F) o (F) (suH h) := by
  refine mk_G (own := "ShadowPoolModel") (Qs := (fun sz => QI G (F) o (suH h) sz)) (by decide +kernel) rfl (Nat.le_of_ble_eq_true rfl) ?_
  intro p e s m args below meth c ls hr hk0 hnm S g hl
  have hl : lv_has ls 1 [(0, .ref (gA G 21))] := hl
  have hx := S.1
  have hb := S.2.1
  obtain ⟨t9, hZ9, hT9⟩ := g.2.2.2.2.2.1
  refine va_gets hx hb hZ9 g.2.2.2.1 S.2.2.2.1 (S.2.2.2.2 _ q655) (fun x h => h) dX3_sunNow_0 ?_
  refine lv_aload_n hx hb dX3_sunNow_3 rfl (lv_at hl 0 rfl) ?_
  refine gMr (k := 0) S g 6 (by decide) q550 dX3_sunNow_4 ?_
  refine lv_iconst (v := 0) hx hb dX3_sunNow_7 (by decide) ?_
  refine gAn (k := 25) S g (Or.inl rfl) (0) rfl (by decide) dX3_sunNow_8 ?_
  rw [show (F 25 0 : Int32) = nI h from hh]
  refine lv_bipush (v := 12) hx hb dX3_sunNow_9 (by decide) ?_
  refine lv_irem hx hb dX3_sunNow_11 (by decide) ?_
  rw [show ((nI h) - (nI h) / (12) * (12) : Int32) = nI (h % 12) from pk_rem (d := 12) (by omega) (by omega) (by omega)]
  refine va_ti hx hb hT9 g.2.2.2.1 (v := .int (sunT (h % 12))) (vp_in_nI (Nat.mod_lt _ (by decide)) (by decide)) (by rw [nI_clamp (by omega)]) dX3_sunNow_12 ?_
  exact e_i S hr hk0 g (sunT_eq h) rfl dX3_sunNow_13
set_option maxHeartbeats 4000000 in
set_option maxRecDepth 100000 in
theorem m_noon (l : Launch) (G : gT) (F : Fs) (o : Int64) (h : Nat) (hh : F 25 0 = nI h) (hh2 : h < 2 ^ 29) : MI l yX3_noon cX3_noon 1 (some .boolean) 0 0 [.ref (gA G 21)] G (F) o (F) (noM h) := by
  refine mk_G (own := "ShadowPoolModel") (Qs := (fun sz => QI G (F) o (noM h) sz)) (by decide +kernel) rfl (Nat.le_of_ble_eq_true rfl) ?_
  intro p e s m args below meth c ls hr hk0 hnm S g hl
  have hl : lv_has ls 1 [(0, .ref (gA G 21))] := hl
  have hx := S.1
  have hb := S.2.1
  refine lv_aload_n hx hb dX3_noon_0 rfl (lv_at hl 0 rfl) ?_
  refine gMr (k := 0) S g 6 (by decide) q550 dX3_noon_1 ?_
  refine lv_iconst (v := 0) hx hb dX3_noon_4 (by decide) ?_
  refine gAn (k := 25) S g (Or.inl rfl) (0) rfl (by decide) dX3_noon_5 ?_
  rw [show (F 25 0 : Int32) = nI h from hh]
  refine lv_bipush (v := 12) hx hb dX3_noon_6 (by decide) ?_
  refine lv_irem hx hb dX3_noon_8 (by decide) ?_
  rw [show ((nI h) - (nI h) / (12) * (12) : Int32) = nI (h % 12) from pk_rem (d := 12) (by omega) (by omega) (by omega)]
  refine lv_iconst (v := 5) hx hb dX3_noon_9 (by decide) ?_
  refine lv_icmp_eq (tgt := 27) hx hb dX3_noon_10 (by decide) (fun c_10 => ?_) (fun c_10 => ?_)
  · refine lv_iconst (v := 1) hx hb dX3_noon_27 (by decide) ?_
    refine lv_goto (tgt := 32) hx hb dX3_noon_28 (by decide) ?_
    exact e_z S hr hk0 g (by first | rfl | decide) (by first | rfl | (simp only [noM, c_10, ↓reduceIte]; done) | (simp [noM, c_10, ↓reduceIte]; done)) (by first | rfl | (simp only [noM, c_10, ↓reduceIte]; done)) dX3_noon_32
  · refine lv_aload_n hx hb dX3_noon_13 rfl (lv_at hl 0 rfl) ?_
    refine gMr (k := 0) S g 6 (by decide) q550 dX3_noon_14 ?_
    refine lv_iconst (v := 0) hx hb dX3_noon_17 (by decide) ?_
    refine gAn (k := 25) S g (Or.inl rfl) (0) rfl (by decide) dX3_noon_18 ?_
    rw [show (F 25 0 : Int32) = nI h from hh]
    refine lv_bipush (v := 12) hx hb dX3_noon_19 (by decide) ?_
    refine lv_irem hx hb dX3_noon_21 (by decide) ?_
    rw [show ((nI h) - (nI h) / (12) * (12) : Int32) = nI (h % 12) from pk_rem (d := 12) (by omega) (by omega) (by omega)]
    refine lv_bipush (v := 6) hx hb dX3_noon_22 (by decide) ?_
    refine lv_icmp_ne (tgt := 31) hx hb dX3_noon_24 (by decide) (fun c_24 => ?_) (fun c_24 => ?_)
    · refine lv_iconst (v := 0) hx hb dX3_noon_31 (by decide) ?_
      exact e_z S hr hk0 g (by first | rfl | decide) (by first | rfl | (simp only [noM, c_10, c_24, ↓reduceIte]; done) | (simp [noM, c_10, c_24, ↓reduceIte]; done)) (by first | rfl | (simp only [noM, c_10, c_24, ↓reduceIte]; done)) dX3_noon_32
    · refine lv_iconst (v := 1) hx hb dX3_noon_27 (by decide) ?_
      refine lv_goto (tgt := 32) hx hb dX3_noon_28 (by decide) ?_
      exact e_z S hr hk0 g (by first | rfl | decide) (by first | rfl | (simp only [noM, c_10, c_24, ↓reduceIte]; done) | (simp [noM, c_10, c_24, ↓reduceIte]; done)) (by first | rfl | (simp only [noM, c_10, c_24, ↓reduceIte]; done)) dX3_noon_32
set_option maxHeartbeats 4000000 in
set_option maxRecDepth 100000 in
theorem m_shadow (l : Launch) (G : gT) (F : Fs) (o : Int64) (j : Nat) (h : Nat) (hj : j < 8) (hh : F 25 0 = nI h) (hh2 : h < 2 ^ 29) : MI l yX3_shadow cX3_shadow 2 (some .int) 1 20 [.ref (gA G 21), .int (nI j)] G (F) o (F) (shI (F 22 j) (suH h)) := by
  refine mk_G (own := "ShadowPoolModel") (Qs := (fun sz => QI G (F) o (shI (F 22 j) (suH h)) sz)) (by decide +kernel) rfl (Nat.le_of_ble_eq_true rfl) ?_
  intro p e s m args below meth c ls hr hk0 hnm S g hl
  have hl : lv_has ls 2 [(0, .ref (gA G 21)), (1, .int (nI j))] := hl
  have hx := S.1
  have hb := S.2.1
  refine lv_bipush (v := 6) hx hb dX3_shadow_0 (by decide) ?_
  refine lv_aload_n hx hb dX3_shadow_2 rfl (lv_at hl 0 rfl) ?_
  refine gMr (k := 0) S g 3 (by decide) q547 dX3_shadow_3 ?_
  refine lv_iload_n hx hb dX3_shadow_6 rfl (lv_at hl 1 rfl) ?_
  refine gAi (k := 22) S g (Or.inl rfl) (j) rfl (by omega) dX3_shadow_7 ?_
  refine lv_imul hx hb dX3_shadow_8 ?_
  refine lv_aload_n hx hb dX3_shadow_9 rfl (lv_at hl 0 rfl) ?_
  refine g_ci (rest := [.int ((6) * (F 22 j))]) g (g_V (n := 0) (As := []) S g (m_sunNow l G (F) o h hh hh2) (by decide) (cEm G _ o) rfl (lw_V q651 q653 qs32 q4 q654) ⟨rfl, by decide +kernel, by decide +kernel, by decide +kernel⟩ rfl ⟨Nat.le_of_ble_eq_true rfl, Nat.le_of_ble_eq_true rfl⟩ hl.1 (Nat.le_of_ble_eq_true rfl) rfl ⟨Nat.zero_le _, Nat.zero_le _⟩ dX3_shadow_10) (fun H locs g => ?_)
  refine lv_idiv hx hb dX3_shadow_13 (ne0_pos (sun_pos h)) ?_
  exact e_i S hr hk0 g rfl rfl dX3_shadow_14
set_option maxHeartbeats 4000000 in
set_option maxRecDepth 100000 in
theorem m_cost (l : Launch) (G : gT) (F : Fs) (o : Int64) (j : Nat) (h : Nat) (hj : j < 8) (hh : F 25 0 = nI h) (hh2 : h < 2 ^ 29) : MI l yX3_cost cX3_cost 2 (some .int) 2 41 [.ref (gA G 21), .int (nI j)] G (F) o (F) (coM F j h) := by
  refine mk_G (own := "ShadowPoolModel") (Qs := (fun sz => QI G (F) o (coM F j h) sz)) (by decide +kernel) rfl (Nat.le_of_ble_eq_true rfl) ?_
  intro p e s m args below meth c ls hr hk0 hnm S g hl
  have hl : lv_has ls 2 [(0, .ref (gA G 21)), (1, .int (nI j))] := hl
  have hx := S.1
  have hb := S.2.1
  refine lv_iconst (v := 0) hx hb dX3_cost_0 (by decide) ?_
  refine lv_aload_n hx hb dX3_cost_1 rfl (lv_at hl 0 rfl) ?_
  refine lv_iload_n hx hb dX3_cost_2 rfl (lv_at hl 1 rfl) ?_
  refine g_ci (rest := [.int 0]) g (g_V (n := 1) (As := [.int (nI j)]) S g (m_shadow l G (F) o j h hj hh hh2) (by decide) (cEm G _ o) rfl (lw_V q647 q649 qs31 q4 q650) ⟨rfl, by decide +kernel, by decide +kernel, by decide +kernel⟩ rfl ⟨Nat.le_of_ble_eq_true rfl, Nat.le_of_ble_eq_true rfl⟩ hl.1 (Nat.le_of_ble_eq_true rfl) rfl ⟨Nat.zero_le _, Nat.zero_le _⟩ dX3_cost_3) (fun H locs g => ?_)
  refine lv_iconst (v := 2) hx hb dX3_cost_6 (by decide) ?_
  refine lv_aload_n hx hb dX3_cost_7 rfl (lv_at hl 0 rfl) ?_
  refine gMr (k := 0) S g 6 (by decide) q550 dX3_cost_8 ?_
  refine lv_iconst (v := 5) hx hb dX3_cost_11 (by decide) ?_
  refine lv_iload_n hx hb dX3_cost_12 rfl (lv_at hl 1 rfl) ?_
  refine lv_iadd hx hb dX3_cost_13 ?_
  refine gAn (k := 25) S g (Or.inl rfl) (5 + j) (nI_add 5 j) (by omega) dX3_cost_14 ?_
  refine lv_imul hx hb dX3_cost_15 ?_
  refine lv_isub hx hb dX3_cost_16 ?_
  refine g_max S hl.1 q634 qMaxS q11 qMax (Nat.le_of_ble_eq_true rfl) (Nat.le_of_ble_eq_true rfl) (Nat.zero_le _) (Nat.zero_le _) dX3_cost_17 ?_
  exact e_i S hr hk0 g rfl rfl dX3_cost_20
set_option maxHeartbeats 4000000 in
set_option maxRecDepth 100000 in
theorem m_own (l : Launch) (G : gT) (F : Fs) (o : Int64) (j : Nat) (h : Nat) (hj : j < 8) (hh : F 25 0 = nI h) (hh2 : h < 2 ^ 29) : MI l yX3_own cX3_own 2 (some .int) 3 62 [.ref (gA G 21), .int (nI j)] G (F) o (F) (owM F j h) := by
  refine mk_G (own := "ShadowPoolModel") (Qs := (fun sz => QI G (F) o (owM F j h) sz)) (by decide +kernel) rfl (Nat.le_of_ble_eq_true rfl) ?_
  intro p e s m args below meth c ls hr hk0 hnm S g hl
  have hl : lv_has ls 2 [(0, .ref (gA G 21)), (1, .int (nI j))] := hl
  have hx := S.1
  have hb := S.2.1
  refine lv_aload_n hx hb dX3_own_0 rfl (lv_at hl 0 rfl) ?_
  refine gMr (k := 0) S g 5 (by decide) q549 dX3_own_1 ?_
  refine lv_iload_n hx hb dX3_own_4 rfl (lv_at hl 1 rfl) ?_
  refine g_zald S g (j) rfl (by omega) dX3_own_5 ?_
  refine lv_if_eq (tgt := 33) hx hb dX3_own_6 (by decide) (fun c_6 => ?_) (fun c_6 => ?_)
  · refine lv_aload_n hx hb dX3_own_33 rfl (lv_at hl 0 rfl) ?_
    refine lv_iload_n hx hb dX3_own_34 rfl (lv_at hl 1 rfl) ?_
    refine g_ci (rest := []) g (g_V (n := 1) (As := [.int (nI j)]) S g (m_cost l G (F) o j h hj hh hh2) (by decide) (cEm G _ o) rfl (lw_V q643 q645 qs30 q4 q646) ⟨rfl, by decide +kernel, by decide +kernel, by decide +kernel⟩ rfl ⟨Nat.le_of_ble_eq_true rfl, Nat.le_of_ble_eq_true rfl⟩ hl.1 (Nat.le_of_ble_eq_true rfl) rfl ⟨Nat.zero_le _, Nat.zero_le _⟩ dX3_own_35) (fun H locs g => ?_)
    exact e_i S hr hk0 g (by first | rfl | (simp only [owM, owI, c_6, ↓reduceIte]; done) | (simp [owM, owI, c_6, ↓reduceIte]; done)) (by first | rfl | (simp only [owM, owI, c_6, ↓reduceIte]; done)) dX3_own_38
  · refine lv_aload_n hx hb dX3_own_9 rfl (lv_at hl 0 rfl) ?_
    refine lv_iload_n hx hb dX3_own_10 rfl (lv_at hl 1 rfl) ?_
    refine g_ci (rest := []) g (g_V (n := 1) (As := [.int (nI j)]) S g (m_cost l G (F) o j h hj hh hh2) (by decide) (cEm G _ o) rfl (lw_V q643 q645 qs30 q4 q646) ⟨rfl, by decide +kernel, by decide +kernel, by decide +kernel⟩ rfl ⟨Nat.le_of_ble_eq_true rfl, Nat.le_of_ble_eq_true rfl⟩ hl.1 (Nat.le_of_ble_eq_true rfl) rfl ⟨Nat.zero_le _, Nat.zero_le _⟩ dX3_own_11) (fun H locs g => ?_)
    refine lv_aload_n hx hb dX3_own_14 rfl (lv_at hl 0 rfl) ?_
    refine g_ci (rest := [.int (coM F j h)]) g (g_V (n := 0) (As := []) S g (m_noon l G (F) o h hh hh2) (by decide) (cEm G _ o) rfl (lw_V q630 q632 qs27 q4 q633) ⟨rfl, by decide +kernel, by decide +kernel, by decide +kernel⟩ rfl ⟨Nat.le_of_ble_eq_true rfl, Nat.le_of_ble_eq_true rfl⟩ hl.1 (Nat.le_of_ble_eq_true rfl) rfl ⟨Nat.zero_le _, Nat.zero_le _⟩ dX3_own_15) (fun H locs g => ?_)
    refine lv_if_eq (tgt := 26) hx hb dX3_own_18 (by decide) (fun c_18 => ?_) (fun c_18 => ?_)
    · refine lv_iconst (v := 3) hx hb dX3_own_26 (by decide) ?_
      refine g_min S hl.1 q661 qMinS q11 qMin (Nat.le_of_ble_eq_true rfl) (Nat.le_of_ble_eq_true rfl) (Nat.zero_le _) (Nat.zero_le _) dX3_own_27 ?_
      refine lv_goto (tgt := 38) hx hb dX3_own_30 (by decide) ?_
      exact e_i S hr hk0 g (by first | rfl | (simp only [owM, owI, c_6, c_18, ↓reduceIte]; done) | (simp [owM, owI, c_6, c_18, ↓reduceIte]; done)) (by first | rfl | (simp only [owM, owI, c_6, c_18, ↓reduceIte]; done)) dX3_own_38
    · refine lv_bipush (v := 6) hx hb dX3_own_21 (by decide) ?_
      refine lv_goto (tgt := 27) hx hb dX3_own_23 (by decide) ?_
      refine g_min S hl.1 q661 qMinS q11 qMin (Nat.le_of_ble_eq_true rfl) (Nat.le_of_ble_eq_true rfl) (Nat.zero_le _) (Nat.zero_le _) dX3_own_27 ?_
      refine lv_goto (tgt := 38) hx hb dX3_own_30 (by decide) ?_
      exact e_i S hr hk0 g (by first | rfl | (simp only [owM, owI, c_6, c_18, ↓reduceIte]; done) | (simp [owM, owI, c_6, c_18, ↓reduceIte]; done)) (by first | rfl | (simp only [owM, owI, c_6, c_18, ↓reduceIte]; done)) dX3_own_38
set_option maxHeartbeats 4000000 in
set_option maxRecDepth 100000 in
theorem m_reinsured (l : Launch) (G : gT) (F : Fs) (o : Int64) (j : Nat) (h : Nat) (hj : j < 8) (hh : F 25 0 = nI h) (hh2 : h < 2 ^ 29) : MI l yX3_reinsured cX3_reinsured 2 (some .int) 4 83 [.ref (gA G 21), .int (nI j)] G (F) o (F) (reM F j h) := by
  refine mk_G (own := "ShadowPoolModel") (Qs := (fun sz => QI G (F) o (reM F j h) sz)) (by decide +kernel) rfl (Nat.le_of_ble_eq_true rfl) ?_
  intro p e s m args below meth c ls hr hk0 hnm S g hl
  have hl : lv_has ls 2 [(0, .ref (gA G 21)), (1, .int (nI j))] := hl
  have hx := S.1
  have hb := S.2.1
  refine lv_aload_n hx hb dX3_reinsured_0 rfl (lv_at hl 0 rfl) ?_
  refine gMr (k := 0) S g 6 (by decide) q550 dX3_reinsured_1 ?_
  refine lv_iconst (v := 3) hx hb dX3_reinsured_4 (by decide) ?_
  refine gAn (k := 25) S g (Or.inl rfl) (3) rfl (by decide) dX3_reinsured_5 ?_
  refine lv_iconst (v := 0) hx hb dX3_reinsured_6 (by decide) ?_
  refine lv_aload_n hx hb dX3_reinsured_7 rfl (lv_at hl 0 rfl) ?_
  refine lv_iload_n hx hb dX3_reinsured_8 rfl (lv_at hl 1 rfl) ?_
  refine g_ci (rest := [.int 0, .int (F 25 3)]) g (g_V (n := 1) (As := [.int (nI j)]) S g (m_cost l G (F) o j h hj hh hh2) (by decide) (cEm G _ o) rfl (lw_V q643 q645 qs30 q4 q646) ⟨rfl, by decide +kernel, by decide +kernel, by decide +kernel⟩ rfl ⟨Nat.le_of_ble_eq_true rfl, Nat.le_of_ble_eq_true rfl⟩ hl.1 (Nat.le_of_ble_eq_true rfl) rfl ⟨Nat.zero_le _, Nat.zero_le _⟩ dX3_reinsured_9) (fun H locs g => ?_)
  refine lv_aload_n hx hb dX3_reinsured_12 rfl (lv_at hl 0 rfl) ?_
  refine lv_iload_n hx hb dX3_reinsured_13 rfl (lv_at hl 1 rfl) ?_
  refine g_ci (rest := [.int (coM F j h), .int 0, .int (F 25 3)]) g (g_V (n := 1) (As := [.int (nI j)]) S g (m_own l G (F) o j h hj hh hh2) (by decide) (cEm G _ o) rfl (lw_V q657 q659 qs33 q4 q660) ⟨rfl, by decide +kernel, by decide +kernel, by decide +kernel⟩ rfl ⟨Nat.le_of_ble_eq_true rfl, Nat.le_of_ble_eq_true rfl⟩ hl.1 (Nat.le_of_ble_eq_true rfl) rfl ⟨Nat.zero_le _, Nat.zero_le _⟩ dX3_reinsured_14) (fun H locs g => ?_)
  refine lv_isub hx hb dX3_reinsured_17 ?_
  refine lv_aload_n hx hb dX3_reinsured_18 rfl (lv_at hl 0 rfl) ?_
  refine gM (k := 0) S g 2 (by decide) q546 dX3_reinsured_19 ?_
  refine lv_isub hx hb dX3_reinsured_22 ?_
  refine g_max S hl.1 q634 qMaxS q11 qMax (Nat.le_of_ble_eq_true rfl) (Nat.le_of_ble_eq_true rfl) (Nat.zero_le _) (Nat.zero_le _) dX3_reinsured_23 ?_
  refine g_min S hl.1 q661 qMinS q11 qMin (Nat.le_of_ble_eq_true rfl) (Nat.le_of_ble_eq_true rfl) (Nat.zero_le _) (Nat.zero_le _) dX3_reinsured_26 ?_
  exact e_i S hr hk0 g rfl rfl dX3_reinsured_29
set_option maxHeartbeats 4000000 in
set_option maxRecDepth 100000 in
theorem m_pooled (l : Launch) (G : gT) (F : Fs) (o : Int64) (j : Nat) (h : Nat) (hj : j < 8) (hh : F 25 0 = nI h) (hh2 : h < 2 ^ 29) : MI l yX3_pooled cX3_pooled 2 (some .int) 5 104 [.ref (gA G 21), .int (nI j)] G (F) o (F) (poM F j h) := by
  refine mk_G (own := "ShadowPoolModel") (Qs := (fun sz => QI G (F) o (poM F j h) sz)) (by decide +kernel) rfl (Nat.le_of_ble_eq_true rfl) ?_
  intro p e s m args below meth c ls hr hk0 hnm S g hl
  have hl : lv_has ls 2 [(0, .ref (gA G 21)), (1, .int (nI j))] := hl
  have hx := S.1
  have hb := S.2.1
  refine lv_aload_n hx hb dX3_pooled_0 rfl (lv_at hl 0 rfl) ?_
  refine lv_iload_n hx hb dX3_pooled_1 rfl (lv_at hl 1 rfl) ?_
  refine g_ci (rest := []) g (g_V (n := 1) (As := [.int (nI j)]) S g (m_cost l G (F) o j h hj hh hh2) (by decide) (cEm G _ o) rfl (lw_V q643 q645 qs30 q4 q646) ⟨rfl, by decide +kernel, by decide +kernel, by decide +kernel⟩ rfl ⟨Nat.le_of_ble_eq_true rfl, Nat.le_of_ble_eq_true rfl⟩ hl.1 (Nat.le_of_ble_eq_true rfl) rfl ⟨Nat.zero_le _, Nat.zero_le _⟩ dX3_pooled_2) (fun H locs g => ?_)
  refine lv_aload_n hx hb dX3_pooled_5 rfl (lv_at hl 0 rfl) ?_
  refine lv_iload_n hx hb dX3_pooled_6 rfl (lv_at hl 1 rfl) ?_
  refine g_ci (rest := [.int (coM F j h)]) g (g_V (n := 1) (As := [.int (nI j)]) S g (m_own l G (F) o j h hj hh hh2) (by decide) (cEm G _ o) rfl (lw_V q657 q659 qs33 q4 q660) ⟨rfl, by decide +kernel, by decide +kernel, by decide +kernel⟩ rfl ⟨Nat.le_of_ble_eq_true rfl, Nat.le_of_ble_eq_true rfl⟩ hl.1 (Nat.le_of_ble_eq_true rfl) rfl ⟨Nat.zero_le _, Nat.zero_le _⟩ dX3_pooled_7) (fun H locs g => ?_)
  refine lv_isub hx hb dX3_pooled_10 ?_
  refine lv_aload_n hx hb dX3_pooled_11 rfl (lv_at hl 0 rfl) ?_
  refine lv_iload_n hx hb dX3_pooled_12 rfl (lv_at hl 1 rfl) ?_
  refine g_ci (rest := [.int ((coM F j h) - (owM F j h))]) g (g_V (n := 1) (As := [.int (nI j)]) S g (m_reinsured l G (F) o j h hj hh hh2) (by decide) (cEm G _ o) rfl (lw_V q662 q664 qs34 q4 q665) ⟨rfl, by decide +kernel, by decide +kernel, by decide +kernel⟩ rfl ⟨Nat.le_of_ble_eq_true rfl, Nat.le_of_ble_eq_true rfl⟩ hl.1 (Nat.le_of_ble_eq_true rfl) rfl ⟨Nat.zero_le _, Nat.zero_le _⟩ dX3_pooled_13) (fun H locs g => ?_)
  refine lv_isub hx hb dX3_pooled_16 ?_
  exact e_i S hr hk0 g rfl rfl dX3_pooled_17
set_option maxHeartbeats 4000000 in
set_option maxRecDepth 100000 in
theorem m_in (l : Launch) (G : gT) (F : Fs) (o : Int64) (n : Nat) (hn : F 21 1 = nI n) (hn8 : n ≤ 8) : MI l yX3_in cX3_in 3 (some .int) 0 0 [.ref (gA G 21)] G (F) o (F) (inL F n 0 0) := by
  refine mk_G (own := "ShadowPoolModel") (Qs := (fun sz => QI G (F) o (inL F n 0 0) sz)) (by decide +kernel) rfl (Nat.le_of_ble_eq_true rfl) ?_
  intro p e s m args below meth c ls hr hk0 hnm S g hl
  have hl : lv_has ls 3 [(0, .ref (gA G 21))] := hl
  have hx := S.1
  have hb := S.2.1
  refine lv_iconst (v := 0) hx hb dX3_in_0 (by decide) ?_
  refine lv_istore_n (lv' := [(1, .int 0), (0, .ref (gA G 21))]) hx hb dX3_in_1 rfl hl (by decide) rfl (fun ls hl => ?_)
  refine lv_iconst (v := 0) hx hb dX3_in_2 (by decide) ?_
  refine lv_istore_n (lv' := [(2, .int 0), (1, .int 0), (0, .ref (gA G 21))]) hx hb dX3_in_3 rfl hl (by decide) rfl (fun ls hl => ?_)
  have loop4 : ∀ (n_ : Nat) (i : Nat) (acc : Int32) (H : Heap) (locs : List Loc) (ls : Array Slot) (hi : i + n_ = n) (hres : inL F n_ i acc = inL F n 0 0), GB G (F) o [] [] s H locs → lv_has ls 3 [(0, .ref (gA G 21)), (1, .int acc), (2, .int (nI i))] → W p l e (rmG 0 0) s m args below meth c H locs 0 0 (MQ below (QI G (F) o (inL F n 0 0) s.heap.size) args s 0 0 (GA G s.heap.size)) (F0 m 4 ls []) := by
    intro n_
    induction n_ with
    | zero =>
      intro i acc H locs ls hi hres g hl
      refine lv_iload_n hx hb dX3_in_4 rfl (lv_at hl 2 rfl) ?_
      refine lv_aload_n hx hb dX3_in_5 rfl (lv_at hl 0 rfl) ?_
      refine gM (k := 0) S g 1 (by decide) q545 dX3_in_6 ?_
      rw [show (F 21 1 : Int32) = nI n from hn]
      refine lv_icmp_ge (tgt := 35) hx hb dX3_in_9 (by decide) (fun c_9 => ?_) (fun c9 => absurd (nI_le (by omega) (by omega)) c9)
      refine lv_iload_n hx hb dX3_in_35 rfl (lv_at hl 1 rfl) ?_
      exact e_i S hr hk0 g hres rfl dX3_in_36
    | succ n_ ih_4 =>
      intro i acc H locs ls hi hres g hl
      refine lv_iload_n hx hb dX3_in_4 rfl (lv_at hl 2 rfl) ?_
      refine lv_aload_n hx hb dX3_in_5 rfl (lv_at hl 0 rfl) ?_
      refine gM (k := 0) S g 1 (by decide) q545 dX3_in_6 ?_
      rw [show (F 21 1 : Int32) = nI n from hn]
      refine lv_icmp_ge (tgt := 35) hx hb dX3_in_9 (by decide) (fun c9 => absurd c9 (nI_ge (by omega) (by omega))) (fun c_9 => ?_)
      refine lv_iload_n hx hb dX3_in_12 rfl (lv_at hl 1 rfl) ?_
      refine lv_aload_n hx hb dX3_in_13 rfl (lv_at hl 0 rfl) ?_
      refine gMr (k := 0) S g 5 (by decide) q549 dX3_in_14 ?_
      refine lv_iload_n hx hb dX3_in_17 rfl (lv_at hl 2 rfl) ?_
      refine g_zald S g (i) rfl (by omega) dX3_in_18 ?_
      refine lv_if_eq (tgt := 26) hx hb dX3_in_19 (by decide) (fun c_19 => ?_) (fun c_19 => ?_)
      · refine lv_iconst (v := 0) hx hb dX3_in_26 (by decide) ?_
        refine lv_iadd hx hb dX3_in_27 ?_
        refine lv_istore_n (lv' := [(1, .int ((acc) + (0))), (0, .ref (gA G 21)), (2, .int (nI i))]) hx hb dX3_in_28 rfl hl (by decide) rfl (fun ls hl => ?_)
        refine lv_iinc (v := nI (i + 1)) (lv' := [(2, .int (nI (i + 1))), (1, .int ((acc) + (0))), (0, .ref (gA G 21))]) hx hb dX3_in_29 hl (k := 2) rfl (nI_1 i) (by decide) rfl (fun ls hl => ?_)
        refine lv_goto (tgt := 4) hx hb dX3_in_32 (by decide) ?_
        exact ih_4 (i + 1) _ _ _ _ (by omega) (by simpa only [inL, c_9, c_19, ↓reduceIte] using hres) g (lv_sub hl [2, 1, 0] rfl)
      · refine lv_iconst (v := 1) hx hb dX3_in_22 (by decide) ?_
        refine lv_goto (tgt := 27) hx hb dX3_in_23 (by decide) ?_
        refine lv_iadd hx hb dX3_in_27 ?_
        refine lv_istore_n (lv' := [(1, .int ((acc) + (1))), (0, .ref (gA G 21)), (2, .int (nI i))]) hx hb dX3_in_28 rfl hl (by decide) rfl (fun ls hl => ?_)
        refine lv_iinc (v := nI (i + 1)) (lv' := [(2, .int (nI (i + 1))), (1, .int ((acc) + (1))), (0, .ref (gA G 21))]) hx hb dX3_in_29 hl (k := 2) rfl (nI_1 i) (by decide) rfl (fun ls hl => ?_)
        refine lv_goto (tgt := 4) hx hb dX3_in_32 (by decide) ?_
        exact ih_4 (i + 1) _ _ _ _ (by omega) (by simpa only [inL, c_9, c_19, ↓reduceIte] using hres) g (lv_sub hl [2, 1, 0] rfl)
  exact loop4 n 0 0 _ _ _ (by omega) rfl g (lv_sub hl [2, 1, 0] rfl)
set_option maxHeartbeats 4000000 in
set_option maxRecDepth 100000 in
theorem m_pay (l : Launch) (G : gT) (F : Fs) (o : Int64) (n : Nat) (hn : F 21 1 = nI n) (hn8 : n ≤ 8) : MV l yX3_pay cX3_pay 2 1 22 [.ref (gA G 21)] G (F) o (pmF F n) := by
  refine mk_G (own := "ShadowPoolModel") (Qs := (fun sz => QV G (pmF F n) o sz)) (by decide +kernel) rfl (Nat.le_of_ble_eq_true rfl) ?_
  intro p e s m args below meth c ls hr hk0 hnm S g hl
  have hl : lv_has ls 2 [(0, .ref (gA G 21))] := hl
  have hx := S.1
  have hb := S.2.1
  refine lv_aload_n hx hb dX3_pay_0 rfl (lv_at hl 0 rfl) ?_
  refine gMr (k := 0) S g 6 (by decide) q550 dX3_pay_1 ?_
  refine lv_iconst (v := 1) hx hb dX3_pay_4 (by decide) ?_
  refine lv_dup2_11 hx hb dX3_pay_5 rfl rfl ?_
  refine gAn (k := 25) S g (Or.inl rfl) (1) rfl (by decide) dX3_pay_6 ?_
  refine lv_aload_n hx hb dX3_pay_7 rfl (lv_at hl 0 rfl) ?_
  refine gMr (k := 0) S g 6 (by decide) q550 dX3_pay_8 ?_
  refine lv_iconst (v := 2) hx hb dX3_pay_11 (by decide) ?_
  refine gAn (k := 25) S g (Or.inl rfl) (2) rfl (by decide) dX3_pay_12 ?_
  refine lv_aload_n hx hb dX3_pay_13 rfl (lv_at hl 0 rfl) ?_
  refine g_ci (rest := [.int (F 25 2), .int (F 25 1), .int 1, .ref (gA G 25)]) g (g_V (n := 0) (As := []) S g (m_in l G (F) o n hn hn8) (by decide) (cEm G _ o) rfl (lw_V q626 q628 qs26 q4 q629) ⟨rfl, by decide +kernel, by decide +kernel, by decide +kernel⟩ rfl ⟨Nat.le_of_ble_eq_true rfl, Nat.le_of_ble_eq_true rfl⟩ hl.1 (Nat.le_of_ble_eq_true rfl) rfl ⟨Nat.zero_le _, Nat.zero_le _⟩ dX3_pay_14) (fun H locs g => ?_)
  refine lv_imul hx hb dX3_pay_17 ?_
  refine lv_iadd hx hb dX3_pay_18 ?_
  refine gAns (k := 25) S g (Or.inl rfl) (1) rfl (by decide) dX3_pay_19 (fun H locs g => ?_)
  rw [show up2 (F) (25) (1) ((F 25 1) + ((F 25 2) * (inL F n 0 0))) = pm1 F n from rfl] at g
  refine lv_aload_n hx hb dX3_pay_20 rfl (lv_at hl 0 rfl) ?_
  refine gMr (k := 0) S g 6 (by decide) q550 dX3_pay_21 ?_
  refine lv_iconst (v := 3) hx hb dX3_pay_24 (by decide) ?_
  refine gAn (k := 25) S g (Or.inl rfl) (3) rfl (by decide) dX3_pay_25 ?_
  refine lv_if_ne (tgt := 30) hx hb dX3_pay_26 (by decide) (fun c_26 => ?_) (fun c_26 => ?_)
  · refine lv_aload_n hx hb dX3_pay_30 rfl (lv_at hl 0 rfl) ?_
    refine gMr (k := 0) S g 6 (by decide) q550 dX3_pay_31 ?_
    refine lv_iconst (v := 3) hx hb dX3_pay_34 (by decide) ?_
    refine gAn (k := 25) S g (Or.inl rfl) (3) rfl (by decide) dX3_pay_35 ?_
    refine lv_bipush (v := 20) hx hb dX3_pay_36 (by decide) ?_
    refine lv_idiv hx hb dX3_pay_38 (by decide) ?_
    refine lv_iconst (v := 1) hx hb dX3_pay_39 (by decide) ?_
    refine lv_iadd hx hb dX3_pay_40 ?_
    refine lv_istore_n (lv' := [(1, .int ((((pm1 F n) 25 3) / (20)) + (1))), (0, .ref (gA G 21))]) hx hb dX3_pay_41 rfl hl (by decide) rfl (fun ls hl => ?_)
    refine lv_aload_n hx hb dX3_pay_42 rfl (lv_at hl 1 rfl) ?_
    refine gMr (k := 0) S g 6 (by decide) q550 dX3_pay_43 ?_
    refine lv_iconst (v := 1) hx hb dX3_pay_46 (by decide) ?_
    refine lv_dup2_11 hx hb dX3_pay_47 rfl rfl ?_
    refine gAn (k := 25) S g (Or.inl rfl) (1) rfl (by decide) dX3_pay_48 ?_
    refine lv_iload_n hx hb dX3_pay_49 rfl (lv_at hl 0 rfl) ?_
    refine lv_isub hx hb dX3_pay_50 ?_
    refine gAns (k := 25) S g (Or.inl rfl) (1) rfl (by decide) dX3_pay_51 (fun H locs g => ?_)
    rw [show up2 (pm1 F n) (25) (1) (((pm1 F n) 25 1) - ((((pm1 F n) 25 3) / (20)) + (1))) = pm2 F n from rfl] at g
    refine lv_aload_n hx hb dX3_pay_52 rfl (lv_at hl 1 rfl) ?_
    refine gMr (k := 0) S g 6 (by decide) q550 dX3_pay_53 ?_
    refine lv_iconst (v := 4) hx hb dX3_pay_56 (by decide) ?_
    refine lv_dup2_11 hx hb dX3_pay_57 rfl rfl ?_
    refine gAn (k := 25) S g (Or.inl rfl) (4) rfl (by decide) dX3_pay_58 ?_
    refine lv_iload_n hx hb dX3_pay_59 rfl (lv_at hl 0 rfl) ?_
    refine lv_isub hx hb dX3_pay_60 ?_
    refine gAns (k := 25) S g (Or.inl rfl) (4) rfl (by decide) dX3_pay_61 (fun H locs g => ?_)
    rw [show up2 (pm2 F n) (25) (4) (((pm2 F n) 25 4) - ((((pm1 F n) 25 3) / (20)) + (1))) = pm3 F n from rfl] at g
    exact e_v S hr hk0 g (by first | rfl | (simp only [pmF, c_26, ↓reduceIte]; done)) dX3_pay_62
  · exact e_v S hr hk0 g (by first | rfl | (simp only [pmF, c_26, ↓reduceIte]; done)) dX3_pay_29
set_option maxHeartbeats 4000000 in
set_option maxRecDepth 100000 in
theorem m_fall (l : Launch) (G : gT) (F : Fs) (o : Int64) (j : Nat) (h : Nat) (hj : j < 8) (hh : F 25 0 = nI h) (hh2 : h < 2 ^ 29) : MV l yX3_fall cX3_fall 2 6 125 [.ref (gA G 21), .int (nI j)] G (F) o (flmF F j h) := by
  refine mk_G (own := "ShadowPoolModel") (Qs := (fun sz => QV G (flmF F j h) o sz)) (by decide +kernel) rfl (Nat.le_of_ble_eq_true rfl) ?_
  intro p e s m args below meth c ls hr hk0 hnm S g hl
  have hl : lv_has ls 2 [(0, .ref (gA G 21)), (1, .int (nI j))] := hl
  have hx := S.1
  have hb := S.2.1
  refine lv_aload_n hx hb dX3_fall_0 rfl (lv_at hl 0 rfl) ?_
  refine gMr (k := 0) S g 6 (by decide) q550 dX3_fall_1 ?_
  refine lv_iconst (v := 1) hx hb dX3_fall_4 (by decide) ?_
  refine lv_dup2_11 hx hb dX3_fall_5 rfl rfl ?_
  refine gAn (k := 25) S g (Or.inl rfl) (1) rfl (by decide) dX3_fall_6 ?_
  refine lv_aload_n hx hb dX3_fall_7 rfl (lv_at hl 0 rfl) ?_
  refine lv_iload_n hx hb dX3_fall_8 rfl (lv_at hl 1 rfl) ?_
  refine g_ci (rest := [.int (F 25 1), .int 1, .ref (gA G 25)]) g (g_V (n := 1) (As := [.int (nI j)]) S g (m_pooled l G (F) o j h hj hh hh2) (by decide) (cEm G _ o) rfl (lw_V q639 q641 qs29 q4 q642) ⟨rfl, by decide +kernel, by decide +kernel, by decide +kernel⟩ rfl ⟨Nat.le_of_ble_eq_true rfl, Nat.le_of_ble_eq_true rfl⟩ hl.1 (Nat.le_of_ble_eq_true rfl) rfl ⟨Nat.zero_le _, Nat.zero_le _⟩ dX3_fall_9) (fun H locs g => ?_)
  refine lv_isub hx hb dX3_fall_12 ?_
  refine gAns (k := 25) S g (Or.inl rfl) (1) rfl (by decide) dX3_fall_13 (fun H locs g => ?_)
  rw [show up2 (F) (25) (1) ((F 25 1) - (poM F j h)) = flm1 F j h from rfl] at g
  refine lv_aload_n hx hb dX3_fall_14 rfl (lv_at hl 0 rfl) ?_
  refine gMr (k := 0) S g 6 (by decide) q550 dX3_fall_15 ?_
  refine lv_iconst (v := 4) hx hb dX3_fall_18 (by decide) ?_
  refine lv_dup2_11 hx hb dX3_fall_19 rfl rfl ?_
  refine gAn (k := 25) S g (Or.inl rfl) (4) rfl (by decide) dX3_fall_20 ?_
  refine lv_aload_n hx hb dX3_fall_21 rfl (lv_at hl 0 rfl) ?_
  refine lv_iload_n hx hb dX3_fall_22 rfl (lv_at hl 1 rfl) ?_
  refine g_ci (rest := [.int ((flm1 F j h) 25 4), .int 4, .ref (gA G 25)]) g (g_V (n := 1) (As := [.int (nI j)]) S g (m_reinsured l G (flm1 F j h) o j h hj (by rw [flm1, up2_ne _ _ (by decide)]; exact hh) hh2) (by decide) (cEm G _ o) rfl (lw_V q662 q664 qs34 q4 q665) ⟨rfl, by decide +kernel, by decide +kernel, by decide +kernel⟩ rfl ⟨Nat.le_of_ble_eq_true rfl, Nat.le_of_ble_eq_true rfl⟩ hl.1 (Nat.le_of_ble_eq_true rfl) rfl ⟨Nat.zero_le _, Nat.zero_le _⟩ dX3_fall_23) (fun H locs g => ?_)
  refine lv_iadd hx hb dX3_fall_26 ?_
  refine gAns (k := 25) S g (Or.inl rfl) (4) rfl (by decide) dX3_fall_27 (fun H locs g => ?_)
  rw [show up2 ((flm1 F j h)) (25) (4) (((flm1 F j h) 25 4) + (reM (flm1 F j h) j h)) = flm2 F j h from rfl] at g
  refine lv_aload_n hx hb dX3_fall_28 rfl (lv_at hl 0 rfl) ?_
  refine gMr (k := 0) S g 6 (by decide) q550 dX3_fall_29 ?_
  refine lv_iconst (v := 5) hx hb dX3_fall_32 (by decide) ?_
  refine lv_iload_n hx hb dX3_fall_33 rfl (lv_at hl 1 rfl) ?_
  refine lv_iadd hx hb dX3_fall_34 ?_
  refine lv_iconst (v := 0) hx hb dX3_fall_35 (by decide) ?_
  refine lv_aload_n hx hb dX3_fall_36 rfl (lv_at hl 0 rfl) ?_
  refine gMr (k := 0) S g 6 (by decide) q550 dX3_fall_37 ?_
  refine lv_iconst (v := 5) hx hb dX3_fall_40 (by decide) ?_
  refine lv_iload_n hx hb dX3_fall_41 rfl (lv_at hl 1 rfl) ?_
  refine lv_iadd hx hb dX3_fall_42 ?_
  refine gAn (k := 25) S g (Or.inl rfl) (5 + j) (nI_add 5 j) (by omega) dX3_fall_43 ?_
  refine lv_iconst (v := 1) hx hb dX3_fall_44 (by decide) ?_
  refine lv_isub hx hb dX3_fall_45 ?_
  refine g_max S hl.1 q634 qMaxS q11 qMax (Nat.le_of_ble_eq_true rfl) (Nat.le_of_ble_eq_true rfl) (Nat.zero_le _) (Nat.zero_le _) dX3_fall_46 ?_
  refine gAns (k := 25) S g (Or.inl rfl) (5 + j) (nI_add 5 j) (by omega) dX3_fall_49 (fun H locs g => ?_)
  rw [show up2 (flm2 F j h) (25) (5 + j) (if (0) < (((flm2 F j h) 25 (5 + j)) - (1)) then (((flm2 F j h) 25 (5 + j)) - (1)) else (0)) = flm3 F j h from rfl] at g
  refine lv_aload_n hx hb dX3_fall_50 rfl (lv_at hl 0 rfl) ?_
  refine gMr (k := 0) S g 6 (by decide) q550 dX3_fall_51 ?_
  refine lv_bipush (v := 13) hx hb dX3_fall_54 (by decide) ?_
  refine lv_iload_n hx hb dX3_fall_56 rfl (lv_at hl 1 rfl) ?_
  refine lv_iadd hx hb dX3_fall_57 ?_
  refine lv_iconst (v := 0) hx hb dX3_fall_58 (by decide) ?_
  refine gAns (k := 25) S g (Or.inl rfl) (13 + j) (nI_add 13 j) (by omega) dX3_fall_59 (fun H locs g => ?_)
  rw [show up2 (flm3 F j h) (25) (13 + j) (0) = flm4 F j h from rfl] at g
  refine lv_aload_n hx hb dX3_fall_60 rfl (lv_at hl 0 rfl) ?_
  refine gMr (k := 0) S g 6 (by decide) q550 dX3_fall_61 ?_
  refine lv_bipush (v := 21) hx hb dX3_fall_64 (by decide) ?_
  refine lv_iload_n hx hb dX3_fall_66 rfl (lv_at hl 1 rfl) ?_
  refine lv_iadd hx hb dX3_fall_67 ?_
  refine lv_dup2_11 hx hb dX3_fall_68 rfl rfl ?_
  refine gAn (k := 25) S g (Or.inl rfl) (21 + j) (nI_add 21 j) (by omega) dX3_fall_69 ?_
  refine lv_iconst (v := 1) hx hb dX3_fall_70 (by decide) ?_
  refine lv_iadd hx hb dX3_fall_71 ?_
  refine gAns (k := 25) S g (Or.inl rfl) (21 + j) (nI_add 21 j) (by omega) dX3_fall_72 (fun H locs g => ?_)
  exact e_v S hr hk0 g rfl dX3_fall_73
set_option maxHeartbeats 4000000 in
set_option maxRecDepth 100000 in
theorem m_hourOn (l : Launch) (G : gT) (F : Fs) (o : Int64) (n : Nat) (h : Nat) (hok : okM F n h) (hn8 : n ≤ 8) (hh2 : h < 2 ^ 29) : MI l yX3_hourOn cX3_hourOn 3 (some .int) 7 146 [.ref (gA G 21)] G (F) o (hoF F n h) (hoR F n h) := by
  refine mk_G (own := "ShadowPoolModel") (Qs := (fun sz => QI G (hoF F n h) o (hoR F n h) sz)) (by decide +kernel) rfl (Nat.le_of_ble_eq_true rfl) ?_
  intro p e s m args below meth c ls hr hk0 hnm S g hl
  have hl : lv_has ls 3 [(0, .ref (gA G 21))] := hl
  have hx := S.1
  have hb := S.2.1
  refine lv_aload_n hx hb dX3_hourOn_0 rfl (lv_at hl 0 rfl) ?_
  refine gMr (k := 0) S g 6 (by decide) q550 dX3_hourOn_1 ?_
  refine lv_iconst (v := 0) hx hb dX3_hourOn_4 (by decide) ?_
  refine gAn (k := 25) S g (Or.inl rfl) (0) rfl (by decide) dX3_hourOn_5 ?_
  rw [show (F 25 0 : Int32) = nI h from hok.2]
  refine lv_bipush (v := 12) hx hb dX3_hourOn_6 (by decide) ?_
  refine lv_irem hx hb dX3_hourOn_8 (by decide) ?_
  rw [show ((nI h) - (nI h) / (12) * (12) : Int32) = nI (h % 12) from pk_rem (d := 12) (by omega) (by omega) (by omega)]
  refine lv_if_ne (tgt := 16) hx hb dX3_hourOn_9 (by decide) (fun c_9 => ?_) (fun c_9 => ?_)
  · refine lv_iconst (v := 0) hx hb dX3_hourOn_16 (by decide) ?_
    refine lv_istore_n (lv' := [(1, .int 0), (0, .ref (gA G 21))]) hx hb dX3_hourOn_17 rfl hl (by decide) rfl (fun ls hl => ?_)
    refine lv_iconst (v := 0) hx hb dX3_hourOn_18 (by decide) ?_
    refine lv_istore_n (lv' := [(2, .int 0), (1, .int 0), (0, .ref (gA G 21))]) hx hb dX3_hourOn_19 rfl hl (by decide) rfl (fun ls hl => ?_)
    have loop20 : ∀ (n_ : Nat) (i : Nat) (acc : Int32) (F1 : Fs) (H : Heap) (locs : List Loc) (ls : Array Slot) (hi : i + n_ = n) (hc : F1 21 1 = nI n) (hd : F1 25 0 = nI h) (hres : hoL h n_ i acc F1 = ho0 F n h), GB G (F1) o [] [] s H locs → lv_has ls 3 [(0, .ref (gA G 21)), (1, .int acc), (2, .int (nI i))] → W p l e (rmG 7 146) s m args below meth c H locs 0 0 (MQ below (QI G (hoF F n h) o (hoR F n h) s.heap.size) args s 0 0 (GA G s.heap.size)) (F0 m 20 ls []) := by
      intro n_
      induction n_ with
      | zero =>
        intro i acc F1 H locs ls hi hc hd hres g hl
        refine lv_iload_n hx hb dX3_hourOn_20 rfl (lv_at hl 2 rfl) ?_
        refine lv_aload_n hx hb dX3_hourOn_21 rfl (lv_at hl 0 rfl) ?_
        refine gM (k := 0) S g 1 (by decide) q545 dX3_hourOn_22 ?_
        rw [show (F1 21 1 : Int32) = nI n from hc]
        refine lv_icmp_ge (tgt := 110) hx hb dX3_hourOn_25 (by decide) (fun c_25 => ?_) (fun c9 => absurd (nI_le (by omega) (by omega)) c9)
        refine lv_aload_n hx hb dX3_hourOn_110 rfl (lv_at hl 0 rfl) ?_
        refine gMr (k := 0) S g 6 (by decide) q550 dX3_hourOn_111 ?_
        refine lv_iconst (v := 0) hx hb dX3_hourOn_114 (by decide) ?_
        refine lv_dup2_11 hx hb dX3_hourOn_115 rfl rfl ?_
        refine gAn (k := 25) S g (Or.inl rfl) (0) rfl (by decide) dX3_hourOn_116 ?_
        refine lv_iconst (v := 1) hx hb dX3_hourOn_117 (by decide) ?_
        refine lv_iadd hx hb dX3_hourOn_118 ?_
        refine gAns (k := 25) S g (Or.inl rfl) (0) rfl (by decide) dX3_hourOn_119 (fun H locs g => ?_)
        refine lv_iload_n hx hb dX3_hourOn_120 rfl (lv_at hl 1 rfl) ?_
        exact e_i S hr hk0 g (by rw [show hoR F n h = (ho0 F n h).1 from rfl, ← hres]; rfl) (by rw [show hoF F n h = up2 (ho0 F n h).2 25 0 ((ho0 F n h).2 25 0 + 1) from rfl, ← hres]; rfl) dX3_hourOn_121
      | succ n_ ih_20 =>
        intro i acc F1 H locs ls hi hc hd hres g hl
        refine lv_iload_n hx hb dX3_hourOn_20 rfl (lv_at hl 2 rfl) ?_
        refine lv_aload_n hx hb dX3_hourOn_21 rfl (lv_at hl 0 rfl) ?_
        refine gM (k := 0) S g 1 (by decide) q545 dX3_hourOn_22 ?_
        rw [show (F1 21 1 : Int32) = nI n from hc]
        refine lv_icmp_ge (tgt := 110) hx hb dX3_hourOn_25 (by decide) (fun c9 => absurd c9 (nI_ge (by omega) (by omega))) (fun c_25 => ?_)
        refine lv_aload_n hx hb dX3_hourOn_28 rfl (lv_at hl 0 rfl) ?_
        refine gMr (k := 0) S g 6 (by decide) q550 dX3_hourOn_29 ?_
        refine lv_bipush (v := 13) hx hb dX3_hourOn_32 (by decide) ?_
        refine lv_iload_n hx hb dX3_hourOn_34 rfl (lv_at hl 2 rfl) ?_
        refine lv_iadd hx hb dX3_hourOn_35 ?_
        refine lv_iconst (v := 0) hx hb dX3_hourOn_36 (by decide) ?_
        refine lv_aload_n hx hb dX3_hourOn_37 rfl (lv_at hl 0 rfl) ?_
        refine gMr (k := 0) S g 6 (by decide) q550 dX3_hourOn_38 ?_
        refine lv_bipush (v := 13) hx hb dX3_hourOn_41 (by decide) ?_
        refine lv_iload_n hx hb dX3_hourOn_43 rfl (lv_at hl 2 rfl) ?_
        refine lv_iadd hx hb dX3_hourOn_44 ?_
        refine gAn (k := 25) S g (Or.inl rfl) (13 + i) (nI_add 13 i) (by omega) dX3_hourOn_45 ?_
        refine lv_aload_n hx hb dX3_hourOn_46 rfl (lv_at hl 0 rfl) ?_
        refine gMr (k := 0) S g 3 (by decide) q547 dX3_hourOn_47 ?_
        refine lv_iload_n hx hb dX3_hourOn_50 rfl (lv_at hl 2 rfl) ?_
        refine gAi (k := 22) S g (Or.inl rfl) (i) rfl (by omega) dX3_hourOn_51 ?_
        refine lv_iconst (v := 5) hx hb dX3_hourOn_52 (by decide) ?_
        refine lv_idiv hx hb dX3_hourOn_53 (by decide) ?_
        refine lv_iadd hx hb dX3_hourOn_54 ?_
        refine lv_aload_n hx hb dX3_hourOn_55 rfl (lv_at hl 0 rfl) ?_
        refine g_ci (rest := [.int ((F1 25 (13 + i)) + ((F1 22 i) / (5))), .int 0, .int ((13) + (nI i)), .ref (gA G 25)]) g (g_V (n := 0) (As := []) S g (m_noon l G (F1) o h hd hh2) (by decide) (cEm G _ o) rfl (lw_V q630 q632 qs27 q4 q633) ⟨rfl, by decide +kernel, by decide +kernel, by decide +kernel⟩ rfl ⟨Nat.le_of_ble_eq_true rfl, Nat.le_of_ble_eq_true rfl⟩ hl.1 (Nat.le_of_ble_eq_true rfl) rfl ⟨Nat.zero_le _, Nat.zero_le _⟩ dX3_hourOn_56) (fun H locs g => ?_)
        refine lv_if_eq (tgt := 66) hx hb dX3_hourOn_59 (by decide) (fun c_59 => ?_) (fun c_59 => ?_)
        · refine lv_iconst (v := 1) hx hb dX3_hourOn_66 (by decide) ?_
          refine lv_iadd hx hb dX3_hourOn_67 ?_
          refine lv_aload_n hx hb dX3_hourOn_68 rfl (lv_at hl 0 rfl) ?_
          refine gMr (k := 0) S g 4 (by decide) q548 dX3_hourOn_69 ?_
          refine lv_iload_n hx hb dX3_hourOn_72 rfl (lv_at hl 2 rfl) ?_
          refine gAi (k := 23) S g (Or.inr rfl) (i) rfl (by omega) dX3_hourOn_73 ?_
          refine lv_isub hx hb dX3_hourOn_74 ?_
          refine g_max S hl.1 q634 qMaxS q11 qMax (Nat.le_of_ble_eq_true rfl) (Nat.le_of_ble_eq_true rfl) (Nat.zero_le _) (Nat.zero_le _) dX3_hourOn_75 ?_
          refine gAns (k := 25) S g (Or.inl rfl) (13 + i) (nI_add 13 i) (by omega) dX3_hourOn_78 (fun H locs g => ?_)
          rw [show up2 (F1) (25) (13 + i) (if (0) < ((((F1 25 (13 + i)) + ((F1 22 i) / (5))) + (1)) - (F1 23 i)) then ((((F1 25 (13 + i)) + ((F1 22 i) / (5))) + (1)) - (F1 23 i)) else (0)) = hw1 F1 i h from (by simp only [hw1, wmI, mx0, c_25, c_59, ↓reduceIte])] at g
          refine lv_aload_n hx hb dX3_hourOn_79 rfl (lv_at hl 0 rfl) ?_
          refine gMr (k := 0) S g 6 (by decide) q550 dX3_hourOn_80 ?_
          refine lv_bipush (v := 13) hx hb dX3_hourOn_83 (by decide) ?_
          refine lv_iload_n hx hb dX3_hourOn_85 rfl (lv_at hl 2 rfl) ?_
          refine lv_iadd hx hb dX3_hourOn_86 ?_
          refine gAn (k := 25) S g (Or.inl rfl) (13 + i) (nI_add 13 i) (by omega) dX3_hourOn_87 ?_
          refine lv_bipush (v := 10) hx hb dX3_hourOn_88 (by decide) ?_
          refine lv_icmp_ge (tgt := 96) hx hb dX3_hourOn_90 (by decide) (fun c_90 => ?_) (fun c_90 => ?_)
          · refine lv_aload_n hx hb dX3_hourOn_96 rfl (lv_at hl 0 rfl) ?_
            refine lv_iload_n hx hb dX3_hourOn_97 rfl (lv_at hl 2 rfl) ?_
            refine g_cv (rest := []) g (g_V (n := 1) (As := [.int (nI i)]) S g (m_fall l G (hw1 F1 i h) o i h (by omega) (by rw [hw1_ne _ _ _ (by omega)]; exact hd) hh2) (by decide) (cEm G _ o) rfl (lw_V q635 q637 qs28 q4 q638) ⟨rfl, by decide +kernel, by decide +kernel, by decide +kernel⟩ rfl ⟨Nat.le_of_ble_eq_true rfl, Nat.le_of_ble_eq_true rfl⟩ hl.1 (Nat.le_of_ble_eq_true rfl) rfl ⟨Nat.zero_le _, Nat.zero_le _⟩ dX3_hourOn_98) (fun H locs g => ?_)
            refine lv_iinc (v := acc + 1) (lv' := [(1, .int (acc + 1)), (0, .ref (gA G 21)), (2, .int (nI i))]) hx hb dX3_hourOn_101 hl (k := 1) rfl rfl (by decide) rfl (fun ls hl => ?_)
            refine lv_iinc (v := nI (i + 1)) (lv' := [(2, .int (nI (i + 1))), (1, .int (acc + 1)), (0, .ref (gA G 21))]) hx hb dX3_hourOn_104 hl (k := 2) rfl (nI_1 i) (by decide) rfl (fun ls hl => ?_)
            refine lv_goto (tgt := 20) hx hb dX3_hourOn_107 (by decide) ?_
            exact ih_20 (i + 1) _ _ _ _ _ (by omega) (by first | (rw [flmF_ne _ _ _ (by omega), hw1_ne _ _ _ (by omega)]; exact hc) | (rw [hw1_ne _ _ _ (by omega)]; exact hc)) (by first | (rw [flmF_ne _ _ _ (by omega), hw1_ne _ _ _ (by omega)]; exact hd) | (rw [hw1_ne _ _ _ (by omega)]; exact hd)) (by rw [← hres]; simp only [hoL, c_25, c_59, c_90, ↓reduceIte]) g (lv_sub hl [2, 1, 0] rfl)
          · refine lv_goto (tgt := 104) hx hb dX3_hourOn_93 (by decide) ?_
            refine lv_iinc (v := nI (i + 1)) (lv' := [(2, .int (nI (i + 1))), (0, .ref (gA G 21)), (1, .int acc)]) hx hb dX3_hourOn_104 hl (k := 2) rfl (nI_1 i) (by decide) rfl (fun ls hl => ?_)
            refine lv_goto (tgt := 20) hx hb dX3_hourOn_107 (by decide) ?_
            exact ih_20 (i + 1) _ _ _ _ _ (by omega) (by first | (rw [flmF_ne _ _ _ (by omega), hw1_ne _ _ _ (by omega)]; exact hc) | (rw [hw1_ne _ _ _ (by omega)]; exact hc)) (by first | (rw [flmF_ne _ _ _ (by omega), hw1_ne _ _ _ (by omega)]; exact hd) | (rw [hw1_ne _ _ _ (by omega)]; exact hd)) (by rw [← hres]; simp only [hoL, c_25, c_59, c_90, ↓reduceIte]) g (lv_sub hl [1, 2, 0] rfl)
        · refine lv_iconst (v := 2) hx hb dX3_hourOn_62 (by decide) ?_
          refine lv_goto (tgt := 67) hx hb dX3_hourOn_63 (by decide) ?_
          refine lv_iadd hx hb dX3_hourOn_67 ?_
          refine lv_aload_n hx hb dX3_hourOn_68 rfl (lv_at hl 0 rfl) ?_
          refine gMr (k := 0) S g 4 (by decide) q548 dX3_hourOn_69 ?_
          refine lv_iload_n hx hb dX3_hourOn_72 rfl (lv_at hl 2 rfl) ?_
          refine gAi (k := 23) S g (Or.inr rfl) (i) rfl (by omega) dX3_hourOn_73 ?_
          refine lv_isub hx hb dX3_hourOn_74 ?_
          refine g_max S hl.1 q634 qMaxS q11 qMax (Nat.le_of_ble_eq_true rfl) (Nat.le_of_ble_eq_true rfl) (Nat.zero_le _) (Nat.zero_le _) dX3_hourOn_75 ?_
          refine gAns (k := 25) S g (Or.inl rfl) (13 + i) (nI_add 13 i) (by omega) dX3_hourOn_78 (fun H locs g => ?_)
          rw [show up2 (F1) (25) (13 + i) (if (0) < ((((F1 25 (13 + i)) + ((F1 22 i) / (5))) + (2)) - (F1 23 i)) then ((((F1 25 (13 + i)) + ((F1 22 i) / (5))) + (2)) - (F1 23 i)) else (0)) = hw1 F1 i h from (by simp only [hw1, wmI, mx0, c_25, c_59, ↓reduceIte])] at g
          refine lv_aload_n hx hb dX3_hourOn_79 rfl (lv_at hl 0 rfl) ?_
          refine gMr (k := 0) S g 6 (by decide) q550 dX3_hourOn_80 ?_
          refine lv_bipush (v := 13) hx hb dX3_hourOn_83 (by decide) ?_
          refine lv_iload_n hx hb dX3_hourOn_85 rfl (lv_at hl 2 rfl) ?_
          refine lv_iadd hx hb dX3_hourOn_86 ?_
          refine gAn (k := 25) S g (Or.inl rfl) (13 + i) (nI_add 13 i) (by omega) dX3_hourOn_87 ?_
          refine lv_bipush (v := 10) hx hb dX3_hourOn_88 (by decide) ?_
          refine lv_icmp_ge (tgt := 96) hx hb dX3_hourOn_90 (by decide) (fun c_90 => ?_) (fun c_90 => ?_)
          · refine lv_aload_n hx hb dX3_hourOn_96 rfl (lv_at hl 0 rfl) ?_
            refine lv_iload_n hx hb dX3_hourOn_97 rfl (lv_at hl 2 rfl) ?_
            refine g_cv (rest := []) g (g_V (n := 1) (As := [.int (nI i)]) S g (m_fall l G (hw1 F1 i h) o i h (by omega) (by rw [hw1_ne _ _ _ (by omega)]; exact hd) hh2) (by decide) (cEm G _ o) rfl (lw_V q635 q637 qs28 q4 q638) ⟨rfl, by decide +kernel, by decide +kernel, by decide +kernel⟩ rfl ⟨Nat.le_of_ble_eq_true rfl, Nat.le_of_ble_eq_true rfl⟩ hl.1 (Nat.le_of_ble_eq_true rfl) rfl ⟨Nat.zero_le _, Nat.zero_le _⟩ dX3_hourOn_98) (fun H locs g => ?_)
            refine lv_iinc (v := acc + 1) (lv' := [(1, .int (acc + 1)), (0, .ref (gA G 21)), (2, .int (nI i))]) hx hb dX3_hourOn_101 hl (k := 1) rfl rfl (by decide) rfl (fun ls hl => ?_)
            refine lv_iinc (v := nI (i + 1)) (lv' := [(2, .int (nI (i + 1))), (1, .int (acc + 1)), (0, .ref (gA G 21))]) hx hb dX3_hourOn_104 hl (k := 2) rfl (nI_1 i) (by decide) rfl (fun ls hl => ?_)
            refine lv_goto (tgt := 20) hx hb dX3_hourOn_107 (by decide) ?_
            exact ih_20 (i + 1) _ _ _ _ _ (by omega) (by first | (rw [flmF_ne _ _ _ (by omega), hw1_ne _ _ _ (by omega)]; exact hc) | (rw [hw1_ne _ _ _ (by omega)]; exact hc)) (by first | (rw [flmF_ne _ _ _ (by omega), hw1_ne _ _ _ (by omega)]; exact hd) | (rw [hw1_ne _ _ _ (by omega)]; exact hd)) (by rw [← hres]; simp only [hoL, c_25, c_59, c_90, ↓reduceIte]) g (lv_sub hl [2, 1, 0] rfl)
          · refine lv_goto (tgt := 104) hx hb dX3_hourOn_93 (by decide) ?_
            refine lv_iinc (v := nI (i + 1)) (lv' := [(2, .int (nI (i + 1))), (0, .ref (gA G 21)), (1, .int acc)]) hx hb dX3_hourOn_104 hl (k := 2) rfl (nI_1 i) (by decide) rfl (fun ls hl => ?_)
            refine lv_goto (tgt := 20) hx hb dX3_hourOn_107 (by decide) ?_
            exact ih_20 (i + 1) _ _ _ _ _ (by omega) (by first | (rw [flmF_ne _ _ _ (by omega), hw1_ne _ _ _ (by omega)]; exact hc) | (rw [hw1_ne _ _ _ (by omega)]; exact hc)) (by first | (rw [flmF_ne _ _ _ (by omega), hw1_ne _ _ _ (by omega)]; exact hd) | (rw [hw1_ne _ _ _ (by omega)]; exact hd)) (by rw [← hres]; simp only [hoL, c_25, c_59, c_90, ↓reduceIte]) g (lv_sub hl [1, 2, 0] rfl)
    exact loop20 n 0 0 _ _ _ _ (by omega) (by first | exact hok.1 | (rw [pmF_ne F n (by omega)]; exact hok.1)) (by first | exact hok.2 | (rw [pmF_ne F n (by omega)]; exact hok.2)) (by simp only [ho0, c_9, ↓reduceIte]) g (lv_sub hl [2, 1, 0] rfl)
  · refine lv_aload_n hx hb dX3_hourOn_12 rfl (lv_at hl 0 rfl) ?_
    refine g_cv (rest := []) g (g_V (n := 0) (As := []) S g (m_pay l G (F) o n hok.1 hn8) (by decide) (cEm G _ o) rfl (lw_V q622 q624 qs25 q4 q625) ⟨rfl, by decide +kernel, by decide +kernel, by decide +kernel⟩ rfl ⟨Nat.le_of_ble_eq_true rfl, Nat.le_of_ble_eq_true rfl⟩ hl.1 (Nat.le_of_ble_eq_true rfl) rfl ⟨Nat.zero_le _, Nat.zero_le _⟩ dX3_hourOn_13) (fun H locs g => ?_)
    refine lv_iconst (v := 0) hx hb dX3_hourOn_16 (by decide) ?_
    refine lv_istore_n (lv' := [(1, .int 0), (0, .ref (gA G 21))]) hx hb dX3_hourOn_17 rfl hl (by decide) rfl (fun ls hl => ?_)
    refine lv_iconst (v := 0) hx hb dX3_hourOn_18 (by decide) ?_
    refine lv_istore_n (lv' := [(2, .int 0), (1, .int 0), (0, .ref (gA G 21))]) hx hb dX3_hourOn_19 rfl hl (by decide) rfl (fun ls hl => ?_)
    have loop20 : ∀ (n_ : Nat) (i : Nat) (acc : Int32) (F1 : Fs) (H : Heap) (locs : List Loc) (ls : Array Slot) (hi : i + n_ = n) (hc : F1 21 1 = nI n) (hd : F1 25 0 = nI h) (hres : hoL h n_ i acc F1 = ho0 F n h), GB G (F1) o [] [] s H locs → lv_has ls 3 [(0, .ref (gA G 21)), (1, .int acc), (2, .int (nI i))] → W p l e (rmG 7 146) s m args below meth c H locs 0 0 (MQ below (QI G (hoF F n h) o (hoR F n h) s.heap.size) args s 0 0 (GA G s.heap.size)) (F0 m 20 ls []) := by
      intro n_
      induction n_ with
      | zero =>
        intro i acc F1 H locs ls hi hc hd hres g hl
        refine lv_iload_n hx hb dX3_hourOn_20 rfl (lv_at hl 2 rfl) ?_
        refine lv_aload_n hx hb dX3_hourOn_21 rfl (lv_at hl 0 rfl) ?_
        refine gM (k := 0) S g 1 (by decide) q545 dX3_hourOn_22 ?_
        rw [show (F1 21 1 : Int32) = nI n from hc]
        refine lv_icmp_ge (tgt := 110) hx hb dX3_hourOn_25 (by decide) (fun c_25 => ?_) (fun c9 => absurd (nI_le (by omega) (by omega)) c9)
        refine lv_aload_n hx hb dX3_hourOn_110 rfl (lv_at hl 0 rfl) ?_
        refine gMr (k := 0) S g 6 (by decide) q550 dX3_hourOn_111 ?_
        refine lv_iconst (v := 0) hx hb dX3_hourOn_114 (by decide) ?_
        refine lv_dup2_11 hx hb dX3_hourOn_115 rfl rfl ?_
        refine gAn (k := 25) S g (Or.inl rfl) (0) rfl (by decide) dX3_hourOn_116 ?_
        refine lv_iconst (v := 1) hx hb dX3_hourOn_117 (by decide) ?_
        refine lv_iadd hx hb dX3_hourOn_118 ?_
        refine gAns (k := 25) S g (Or.inl rfl) (0) rfl (by decide) dX3_hourOn_119 (fun H locs g => ?_)
        refine lv_iload_n hx hb dX3_hourOn_120 rfl (lv_at hl 1 rfl) ?_
        exact e_i S hr hk0 g (by rw [show hoR F n h = (ho0 F n h).1 from rfl, ← hres]; rfl) (by rw [show hoF F n h = up2 (ho0 F n h).2 25 0 ((ho0 F n h).2 25 0 + 1) from rfl, ← hres]; rfl) dX3_hourOn_121
      | succ n_ ih_20 =>
        intro i acc F1 H locs ls hi hc hd hres g hl
        refine lv_iload_n hx hb dX3_hourOn_20 rfl (lv_at hl 2 rfl) ?_
        refine lv_aload_n hx hb dX3_hourOn_21 rfl (lv_at hl 0 rfl) ?_
        refine gM (k := 0) S g 1 (by decide) q545 dX3_hourOn_22 ?_
        rw [show (F1 21 1 : Int32) = nI n from hc]
        refine lv_icmp_ge (tgt := 110) hx hb dX3_hourOn_25 (by decide) (fun c9 => absurd c9 (nI_ge (by omega) (by omega))) (fun c_25 => ?_)
        refine lv_aload_n hx hb dX3_hourOn_28 rfl (lv_at hl 0 rfl) ?_
        refine gMr (k := 0) S g 6 (by decide) q550 dX3_hourOn_29 ?_
        refine lv_bipush (v := 13) hx hb dX3_hourOn_32 (by decide) ?_
        refine lv_iload_n hx hb dX3_hourOn_34 rfl (lv_at hl 2 rfl) ?_
        refine lv_iadd hx hb dX3_hourOn_35 ?_
        refine lv_iconst (v := 0) hx hb dX3_hourOn_36 (by decide) ?_
        refine lv_aload_n hx hb dX3_hourOn_37 rfl (lv_at hl 0 rfl) ?_
        refine gMr (k := 0) S g 6 (by decide) q550 dX3_hourOn_38 ?_
        refine lv_bipush (v := 13) hx hb dX3_hourOn_41 (by decide) ?_
        refine lv_iload_n hx hb dX3_hourOn_43 rfl (lv_at hl 2 rfl) ?_
        refine lv_iadd hx hb dX3_hourOn_44 ?_
        refine gAn (k := 25) S g (Or.inl rfl) (13 + i) (nI_add 13 i) (by omega) dX3_hourOn_45 ?_
        refine lv_aload_n hx hb dX3_hourOn_46 rfl (lv_at hl 0 rfl) ?_
        refine gMr (k := 0) S g 3 (by decide) q547 dX3_hourOn_47 ?_
        refine lv_iload_n hx hb dX3_hourOn_50 rfl (lv_at hl 2 rfl) ?_
        refine gAi (k := 22) S g (Or.inl rfl) (i) rfl (by omega) dX3_hourOn_51 ?_
        refine lv_iconst (v := 5) hx hb dX3_hourOn_52 (by decide) ?_
        refine lv_idiv hx hb dX3_hourOn_53 (by decide) ?_
        refine lv_iadd hx hb dX3_hourOn_54 ?_
        refine lv_aload_n hx hb dX3_hourOn_55 rfl (lv_at hl 0 rfl) ?_
        refine g_ci (rest := [.int ((F1 25 (13 + i)) + ((F1 22 i) / (5))), .int 0, .int ((13) + (nI i)), .ref (gA G 25)]) g (g_V (n := 0) (As := []) S g (m_noon l G (F1) o h hd hh2) (by decide) (cEm G _ o) rfl (lw_V q630 q632 qs27 q4 q633) ⟨rfl, by decide +kernel, by decide +kernel, by decide +kernel⟩ rfl ⟨Nat.le_of_ble_eq_true rfl, Nat.le_of_ble_eq_true rfl⟩ hl.1 (Nat.le_of_ble_eq_true rfl) rfl ⟨Nat.zero_le _, Nat.zero_le _⟩ dX3_hourOn_56) (fun H locs g => ?_)
        refine lv_if_eq (tgt := 66) hx hb dX3_hourOn_59 (by decide) (fun c_59 => ?_) (fun c_59 => ?_)
        · refine lv_iconst (v := 1) hx hb dX3_hourOn_66 (by decide) ?_
          refine lv_iadd hx hb dX3_hourOn_67 ?_
          refine lv_aload_n hx hb dX3_hourOn_68 rfl (lv_at hl 0 rfl) ?_
          refine gMr (k := 0) S g 4 (by decide) q548 dX3_hourOn_69 ?_
          refine lv_iload_n hx hb dX3_hourOn_72 rfl (lv_at hl 2 rfl) ?_
          refine gAi (k := 23) S g (Or.inr rfl) (i) rfl (by omega) dX3_hourOn_73 ?_
          refine lv_isub hx hb dX3_hourOn_74 ?_
          refine g_max S hl.1 q634 qMaxS q11 qMax (Nat.le_of_ble_eq_true rfl) (Nat.le_of_ble_eq_true rfl) (Nat.zero_le _) (Nat.zero_le _) dX3_hourOn_75 ?_
          refine gAns (k := 25) S g (Or.inl rfl) (13 + i) (nI_add 13 i) (by omega) dX3_hourOn_78 (fun H locs g => ?_)
          rw [show up2 (F1) (25) (13 + i) (if (0) < ((((F1 25 (13 + i)) + ((F1 22 i) / (5))) + (1)) - (F1 23 i)) then ((((F1 25 (13 + i)) + ((F1 22 i) / (5))) + (1)) - (F1 23 i)) else (0)) = hw1 F1 i h from (by simp only [hw1, wmI, mx0, c_25, c_59, ↓reduceIte])] at g
          refine lv_aload_n hx hb dX3_hourOn_79 rfl (lv_at hl 0 rfl) ?_
          refine gMr (k := 0) S g 6 (by decide) q550 dX3_hourOn_80 ?_
          refine lv_bipush (v := 13) hx hb dX3_hourOn_83 (by decide) ?_
          refine lv_iload_n hx hb dX3_hourOn_85 rfl (lv_at hl 2 rfl) ?_
          refine lv_iadd hx hb dX3_hourOn_86 ?_
          refine gAn (k := 25) S g (Or.inl rfl) (13 + i) (nI_add 13 i) (by omega) dX3_hourOn_87 ?_
          refine lv_bipush (v := 10) hx hb dX3_hourOn_88 (by decide) ?_
          refine lv_icmp_ge (tgt := 96) hx hb dX3_hourOn_90 (by decide) (fun c_90 => ?_) (fun c_90 => ?_)
          · refine lv_aload_n hx hb dX3_hourOn_96 rfl (lv_at hl 0 rfl) ?_
            refine lv_iload_n hx hb dX3_hourOn_97 rfl (lv_at hl 2 rfl) ?_
            refine g_cv (rest := []) g (g_V (n := 1) (As := [.int (nI i)]) S g (m_fall l G (hw1 F1 i h) o i h (by omega) (by rw [hw1_ne _ _ _ (by omega)]; exact hd) hh2) (by decide) (cEm G _ o) rfl (lw_V q635 q637 qs28 q4 q638) ⟨rfl, by decide +kernel, by decide +kernel, by decide +kernel⟩ rfl ⟨Nat.le_of_ble_eq_true rfl, Nat.le_of_ble_eq_true rfl⟩ hl.1 (Nat.le_of_ble_eq_true rfl) rfl ⟨Nat.zero_le _, Nat.zero_le _⟩ dX3_hourOn_98) (fun H locs g => ?_)
            refine lv_iinc (v := acc + 1) (lv' := [(1, .int (acc + 1)), (0, .ref (gA G 21)), (2, .int (nI i))]) hx hb dX3_hourOn_101 hl (k := 1) rfl rfl (by decide) rfl (fun ls hl => ?_)
            refine lv_iinc (v := nI (i + 1)) (lv' := [(2, .int (nI (i + 1))), (1, .int (acc + 1)), (0, .ref (gA G 21))]) hx hb dX3_hourOn_104 hl (k := 2) rfl (nI_1 i) (by decide) rfl (fun ls hl => ?_)
            refine lv_goto (tgt := 20) hx hb dX3_hourOn_107 (by decide) ?_
            exact ih_20 (i + 1) _ _ _ _ _ (by omega) (by first | (rw [flmF_ne _ _ _ (by omega), hw1_ne _ _ _ (by omega)]; exact hc) | (rw [hw1_ne _ _ _ (by omega)]; exact hc)) (by first | (rw [flmF_ne _ _ _ (by omega), hw1_ne _ _ _ (by omega)]; exact hd) | (rw [hw1_ne _ _ _ (by omega)]; exact hd)) (by rw [← hres]; simp only [hoL, c_25, c_59, c_90, ↓reduceIte]) g (lv_sub hl [2, 1, 0] rfl)
          · refine lv_goto (tgt := 104) hx hb dX3_hourOn_93 (by decide) ?_
            refine lv_iinc (v := nI (i + 1)) (lv' := [(2, .int (nI (i + 1))), (0, .ref (gA G 21)), (1, .int acc)]) hx hb dX3_hourOn_104 hl (k := 2) rfl (nI_1 i) (by decide) rfl (fun ls hl => ?_)
            refine lv_goto (tgt := 20) hx hb dX3_hourOn_107 (by decide) ?_
            exact ih_20 (i + 1) _ _ _ _ _ (by omega) (by first | (rw [flmF_ne _ _ _ (by omega), hw1_ne _ _ _ (by omega)]; exact hc) | (rw [hw1_ne _ _ _ (by omega)]; exact hc)) (by first | (rw [flmF_ne _ _ _ (by omega), hw1_ne _ _ _ (by omega)]; exact hd) | (rw [hw1_ne _ _ _ (by omega)]; exact hd)) (by rw [← hres]; simp only [hoL, c_25, c_59, c_90, ↓reduceIte]) g (lv_sub hl [1, 2, 0] rfl)
        · refine lv_iconst (v := 2) hx hb dX3_hourOn_62 (by decide) ?_
          refine lv_goto (tgt := 67) hx hb dX3_hourOn_63 (by decide) ?_
          refine lv_iadd hx hb dX3_hourOn_67 ?_
          refine lv_aload_n hx hb dX3_hourOn_68 rfl (lv_at hl 0 rfl) ?_
          refine gMr (k := 0) S g 4 (by decide) q548 dX3_hourOn_69 ?_
          refine lv_iload_n hx hb dX3_hourOn_72 rfl (lv_at hl 2 rfl) ?_
          refine gAi (k := 23) S g (Or.inr rfl) (i) rfl (by omega) dX3_hourOn_73 ?_
          refine lv_isub hx hb dX3_hourOn_74 ?_
          refine g_max S hl.1 q634 qMaxS q11 qMax (Nat.le_of_ble_eq_true rfl) (Nat.le_of_ble_eq_true rfl) (Nat.zero_le _) (Nat.zero_le _) dX3_hourOn_75 ?_
          refine gAns (k := 25) S g (Or.inl rfl) (13 + i) (nI_add 13 i) (by omega) dX3_hourOn_78 (fun H locs g => ?_)
          rw [show up2 (F1) (25) (13 + i) (if (0) < ((((F1 25 (13 + i)) + ((F1 22 i) / (5))) + (2)) - (F1 23 i)) then ((((F1 25 (13 + i)) + ((F1 22 i) / (5))) + (2)) - (F1 23 i)) else (0)) = hw1 F1 i h from (by simp only [hw1, wmI, mx0, c_25, c_59, ↓reduceIte])] at g
          refine lv_aload_n hx hb dX3_hourOn_79 rfl (lv_at hl 0 rfl) ?_
          refine gMr (k := 0) S g 6 (by decide) q550 dX3_hourOn_80 ?_
          refine lv_bipush (v := 13) hx hb dX3_hourOn_83 (by decide) ?_
          refine lv_iload_n hx hb dX3_hourOn_85 rfl (lv_at hl 2 rfl) ?_
          refine lv_iadd hx hb dX3_hourOn_86 ?_
          refine gAn (k := 25) S g (Or.inl rfl) (13 + i) (nI_add 13 i) (by omega) dX3_hourOn_87 ?_
          refine lv_bipush (v := 10) hx hb dX3_hourOn_88 (by decide) ?_
          refine lv_icmp_ge (tgt := 96) hx hb dX3_hourOn_90 (by decide) (fun c_90 => ?_) (fun c_90 => ?_)
          · refine lv_aload_n hx hb dX3_hourOn_96 rfl (lv_at hl 0 rfl) ?_
            refine lv_iload_n hx hb dX3_hourOn_97 rfl (lv_at hl 2 rfl) ?_
            refine g_cv (rest := []) g (g_V (n := 1) (As := [.int (nI i)]) S g (m_fall l G (hw1 F1 i h) o i h (by omega) (by rw [hw1_ne _ _ _ (by omega)]; exact hd) hh2) (by decide) (cEm G _ o) rfl (lw_V q635 q637 qs28 q4 q638) ⟨rfl, by decide +kernel, by decide +kernel, by decide +kernel⟩ rfl ⟨Nat.le_of_ble_eq_true rfl, Nat.le_of_ble_eq_true rfl⟩ hl.1 (Nat.le_of_ble_eq_true rfl) rfl ⟨Nat.zero_le _, Nat.zero_le _⟩ dX3_hourOn_98) (fun H locs g => ?_)
            refine lv_iinc (v := acc + 1) (lv' := [(1, .int (acc + 1)), (0, .ref (gA G 21)), (2, .int (nI i))]) hx hb dX3_hourOn_101 hl (k := 1) rfl rfl (by decide) rfl (fun ls hl => ?_)
            refine lv_iinc (v := nI (i + 1)) (lv' := [(2, .int (nI (i + 1))), (1, .int (acc + 1)), (0, .ref (gA G 21))]) hx hb dX3_hourOn_104 hl (k := 2) rfl (nI_1 i) (by decide) rfl (fun ls hl => ?_)
            refine lv_goto (tgt := 20) hx hb dX3_hourOn_107 (by decide) ?_
            exact ih_20 (i + 1) _ _ _ _ _ (by omega) (by first | (rw [flmF_ne _ _ _ (by omega), hw1_ne _ _ _ (by omega)]; exact hc) | (rw [hw1_ne _ _ _ (by omega)]; exact hc)) (by first | (rw [flmF_ne _ _ _ (by omega), hw1_ne _ _ _ (by omega)]; exact hd) | (rw [hw1_ne _ _ _ (by omega)]; exact hd)) (by rw [← hres]; simp only [hoL, c_25, c_59, c_90, ↓reduceIte]) g (lv_sub hl [2, 1, 0] rfl)
          · refine lv_goto (tgt := 104) hx hb dX3_hourOn_93 (by decide) ?_
            refine lv_iinc (v := nI (i + 1)) (lv' := [(2, .int (nI (i + 1))), (0, .ref (gA G 21)), (1, .int acc)]) hx hb dX3_hourOn_104 hl (k := 2) rfl (nI_1 i) (by decide) rfl (fun ls hl => ?_)
            refine lv_goto (tgt := 20) hx hb dX3_hourOn_107 (by decide) ?_
            exact ih_20 (i + 1) _ _ _ _ _ (by omega) (by first | (rw [flmF_ne _ _ _ (by omega), hw1_ne _ _ _ (by omega)]; exact hc) | (rw [hw1_ne _ _ _ (by omega)]; exact hc)) (by first | (rw [flmF_ne _ _ _ (by omega), hw1_ne _ _ _ (by omega)]; exact hd) | (rw [hw1_ne _ _ _ (by omega)]; exact hd)) (by rw [← hres]; simp only [hoL, c_25, c_59, c_90, ↓reduceIte]) g (lv_sub hl [1, 2, 0] rfl)
    exact loop20 n 0 0 _ _ _ _ (by omega) (by first | exact hok.1 | (rw [pmF_ne F n (by omega)]; exact hok.1)) (by first | exact hok.2 | (rw [pmF_ne F n (by omega)]; exact hok.2)) (by simp only [ho0, c_9, ↓reduceIte]) g (lv_sub hl [2, 1, 0] rfl)
set_option maxHeartbeats 4000000 in
set_option maxRecDepth 100000 in
theorem m_hoursOn (l : Launch) (G : gT) (F : Fs) (o : Int64) (n : Nat) (h : Nat) (t : Nat) (hok : okM F n h) (hn8 : n ≤ 8) (hh2 : h + t < 2 ^ 29) : MI l yX3_hoursOn cX3_hoursOn 4 (some .int) 8 168 [.ref (gA G 21), .int (nI t)] G (F) o ((gmL n t h 0 F).2) ((gmL n t h 0 F).1) := by
  refine mk_G (own := "ShadowPoolModel") (Qs := (fun sz => QI G ((gmL n t h 0 F).2) o ((gmL n t h 0 F).1) sz)) (by decide +kernel) rfl (Nat.le_of_ble_eq_true rfl) ?_
  intro p e s m args below meth c ls hr hk0 hnm S g hl
  have hl : lv_has ls 4 [(0, .ref (gA G 21)), (1, .int (nI t))] := hl
  have hx := S.1
  have hb := S.2.1
  refine lv_iconst (v := 0) hx hb dX3_hoursOn_0 (by decide) ?_
  refine lv_istore_n (lv' := [(2, .int 0), (0, .ref (gA G 21)), (1, .int (nI t))]) hx hb dX3_hoursOn_1 rfl hl (by decide) rfl (fun ls hl => ?_)
  refine lv_iconst (v := 0) hx hb dX3_hoursOn_2 (by decide) ?_
  refine lv_istore_n (lv' := [(3, .int 0), (2, .int 0), (0, .ref (gA G 21)), (1, .int (nI t))]) hx hb dX3_hoursOn_3 rfl hl (by decide) rfl (fun ls hl => ?_)
  have loop4 : ∀ (n_ : Nat) (i : Nat) (acc : Int32) (F1 : Fs) (H : Heap) (locs : List Loc) (ls : Array Slot) (hi : i + n_ = t) (hc : okM F1 n (h + i)) (hres : gmL n n_ (h + i) acc F1 = gmL n t h 0 F), GB G (F1) o [] [] s H locs → lv_has ls 4 [(0, .ref (gA G 21)), (1, .int (nI t)), (2, .int acc), (3, .int (nI i))] → W p l e (rmG 8 168) s m args below meth c H locs 0 0 (MQ below (QI G ((gmL n t h 0 F).2) o ((gmL n t h 0 F).1) s.heap.size) args s 0 0 (GA G s.heap.size)) (F0 m 4 ls []) := by
    intro n_
    induction n_ with
    | zero =>
      intro i acc F1 H locs ls hi hc hres g hl
      refine lv_iload_n hx hb dX3_hoursOn_4 rfl (lv_at hl 3 rfl) ?_
      refine lv_iload_n hx hb dX3_hoursOn_5 rfl (lv_at hl 1 rfl) ?_
      refine lv_icmp_ge (tgt := 22) hx hb dX3_hoursOn_6 (by decide) (fun c_6 => ?_) (fun c9 => absurd (nI_le (by omega) (by omega)) c9)
      refine lv_iload_n hx hb dX3_hoursOn_22 rfl (lv_at hl 2 rfl) ?_
      exact e_i S hr hk0 g (by rw [← hres]; rfl) (by rw [← hres]; rfl) dX3_hoursOn_23
    | succ n_ ih_4 =>
      intro i acc F1 H locs ls hi hc hres g hl
      refine lv_iload_n hx hb dX3_hoursOn_4 rfl (lv_at hl 3 rfl) ?_
      refine lv_iload_n hx hb dX3_hoursOn_5 rfl (lv_at hl 1 rfl) ?_
      refine lv_icmp_ge (tgt := 22) hx hb dX3_hoursOn_6 (by decide) (fun c9 => absurd c9 (nI_ge (by omega) (by omega))) (fun c_6 => ?_)
      refine lv_iload_n hx hb dX3_hoursOn_9 rfl (lv_at hl 2 rfl) ?_
      refine lv_aload_n hx hb dX3_hoursOn_10 rfl (lv_at hl 0 rfl) ?_
      refine g_ci (rest := [.int acc]) g (g_V (n := 0) (As := []) S g (m_hourOn l G (F1) o n (h + i) hc hn8 (by omega)) (by decide) (cEm G _ o) rfl (lw_V q618 q620 qs24 q4 q621) ⟨rfl, by decide +kernel, by decide +kernel, by decide +kernel⟩ rfl ⟨Nat.le_of_ble_eq_true rfl, Nat.le_of_ble_eq_true rfl⟩ hl.1 (Nat.le_of_ble_eq_true rfl) rfl ⟨Nat.zero_le _, Nat.zero_le _⟩ dX3_hoursOn_11) (fun H locs g => ?_)
      refine lv_iadd hx hb dX3_hoursOn_14 ?_
      refine lv_istore_n (lv' := [(2, .int ((acc) + (hoR F1 n (h + i)))), (0, .ref (gA G 21)), (1, .int (nI t)), (3, .int (nI i))]) hx hb dX3_hoursOn_15 rfl hl (by decide) rfl (fun ls hl => ?_)
      refine lv_iinc (v := nI (i + 1)) (lv' := [(3, .int (nI (i + 1))), (2, .int ((acc) + (hoR F1 n (h + i)))), (0, .ref (gA G 21)), (1, .int (nI t))]) hx hb dX3_hoursOn_16 hl (k := 3) rfl (nI_1 i) (by decide) rfl (fun ls hl => ?_)
      refine lv_goto (tgt := 4) hx hb dX3_hoursOn_19 (by decide) ?_
      exact ih_4 (i + 1) _ _ _ _ _ (by omega) (okM_ho hc) hres g (lv_sub hl [2, 3, 1, 0] rfl)
  exact loop4 t 0 0 F _ _ _ (by omega) hok rfl g (lv_sub hl [2, 3, 1, 0] rfl)
set_option maxHeartbeats 4000000 in
set_option maxRecDepth 100000 in
theorem m_fund (l : Launch) (G : gT) (F : Fs) (o : Int64) : MI l yX3_fund cX3_fund 1 (some .int) 1 21 [.ref (gA G 21)] G (F) o (th0 F 0) (F 25 1) := by
  refine mk_G (own := "ShadowPoolModel") (Qs := (fun sz => QI G (th0 F 0) o (F 25 1) sz)) (by decide +kernel) rfl (Nat.le_of_ble_eq_true rfl) ?_
  intro p e s m args below meth c ls hr hk0 hnm S g hl
  have hl : lv_has ls 1 [(0, .ref (gA G 21))] := hl
  have hx := S.1
  have hb := S.2.1
  refine lv_aload_n hx hb dX3_fund_0 rfl (lv_at hl 0 rfl) ?_
  refine lv_aload_n hx hb dX3_fund_1 rfl (lv_at hl 0 rfl) ?_
  refine gMr (k := 0) S g 6 (by decide) q550 dX3_fund_2 ?_
  refine lv_iconst (v := 1) hx hb dX3_fund_5 (by decide) ?_
  refine gAn (k := 25) S g (Or.inl rfl) (1) rfl (by decide) dX3_fund_6 ?_
  refine g_ci (rest := []) g (g_V (n := 1) (As := [.int (F 25 1)]) S g (m_ok l G (F) o (F 25 1)) (by decide) (cEm G _ o) rfl (lw_V q670 q672 qs35 q4 q673) ⟨rfl, by decide +kernel, by decide +kernel, by decide +kernel⟩ rfl ⟨Nat.le_of_ble_eq_true rfl, Nat.le_of_ble_eq_true rfl⟩ hl.1 (Nat.le_of_ble_eq_true rfl) rfl ⟨Nat.zero_le _, Nat.zero_le _⟩ dX3_fund_7) (fun H locs g => ?_)
  exact e_i S hr hk0 g rfl rfl dX3_fund_10
set_option maxHeartbeats 4000000 in
set_option maxRecDepth 100000 in
theorem m_rate (l : Launch) (G : gT) (F : Fs) (o : Int64) : MI l yX3_rate cX3_rate 1 (some .int) 1 21 [.ref (gA G 21)] G (F) o (th0 F 0) (F 25 2) := by
  refine mk_G (own := "ShadowPoolModel") (Qs := (fun sz => QI G (th0 F 0) o (F 25 2) sz)) (by decide +kernel) rfl (Nat.le_of_ble_eq_true rfl) ?_
  intro p e s m args below meth c ls hr hk0 hnm S g hl
  have hl : lv_has ls 1 [(0, .ref (gA G 21))] := hl
  have hx := S.1
  have hb := S.2.1
  refine lv_aload_n hx hb dX3_rate_0 rfl (lv_at hl 0 rfl) ?_
  refine lv_aload_n hx hb dX3_rate_1 rfl (lv_at hl 0 rfl) ?_
  refine gMr (k := 0) S g 6 (by decide) q550 dX3_rate_2 ?_
  refine lv_iconst (v := 2) hx hb dX3_rate_5 (by decide) ?_
  refine gAn (k := 25) S g (Or.inl rfl) (2) rfl (by decide) dX3_rate_6 ?_
  refine g_ci (rest := []) g (g_V (n := 1) (As := [.int (F 25 2)]) S g (m_ok l G (F) o (F 25 2)) (by decide) (cEm G _ o) rfl (lw_V q670 q672 qs35 q4 q673) ⟨rfl, by decide +kernel, by decide +kernel, by decide +kernel⟩ rfl ⟨Nat.le_of_ble_eq_true rfl, Nat.le_of_ble_eq_true rfl⟩ hl.1 (Nat.le_of_ble_eq_true rfl) rfl ⟨Nat.zero_le _, Nat.zero_le _⟩ dX3_rate_7) (fun H locs g => ?_)
  exact e_i S hr hk0 g rfl rfl dX3_rate_10
set_option maxHeartbeats 4000000 in
set_option maxRecDepth 100000 in
theorem m_limit (l : Launch) (G : gT) (F : Fs) (o : Int64) : MI l yX3_limit cX3_limit 1 (some .int) 1 21 [.ref (gA G 21)] G (F) o (th0 F 0) (F 25 3) := by
  refine mk_G (own := "ShadowPoolModel") (Qs := (fun sz => QI G (th0 F 0) o (F 25 3) sz)) (by decide +kernel) rfl (Nat.le_of_ble_eq_true rfl) ?_
  intro p e s m args below meth c ls hr hk0 hnm S g hl
  have hl : lv_has ls 1 [(0, .ref (gA G 21))] := hl
  have hx := S.1
  have hb := S.2.1
  refine lv_aload_n hx hb dX3_limit_0 rfl (lv_at hl 0 rfl) ?_
  refine lv_aload_n hx hb dX3_limit_1 rfl (lv_at hl 0 rfl) ?_
  refine gMr (k := 0) S g 6 (by decide) q550 dX3_limit_2 ?_
  refine lv_iconst (v := 3) hx hb dX3_limit_5 (by decide) ?_
  refine gAn (k := 25) S g (Or.inl rfl) (3) rfl (by decide) dX3_limit_6 ?_
  refine g_ci (rest := []) g (g_V (n := 1) (As := [.int (F 25 3)]) S g (m_ok l G (F) o (F 25 3)) (by decide) (cEm G _ o) rfl (lw_V q670 q672 qs35 q4 q673) ⟨rfl, by decide +kernel, by decide +kernel, by decide +kernel⟩ rfl ⟨Nat.le_of_ble_eq_true rfl, Nat.le_of_ble_eq_true rfl⟩ hl.1 (Nat.le_of_ble_eq_true rfl) rfl ⟨Nat.zero_le _, Nat.zero_le _⟩ dX3_limit_7) (fun H locs g => ?_)
  exact e_i S hr hk0 g rfl rfl dX3_limit_10
set_option maxHeartbeats 4000000 in
set_option maxRecDepth 100000 in
theorem m_reinsurersLoss (l : Launch) (G : gT) (F : Fs) (o : Int64) : MI l yX3_reinsurersLoss cX3_reinsurersLoss 1 (some .int) 1 21 [.ref (gA G 21)] G (F) o (th0 F 0) (F 25 4) := by
  refine mk_G (own := "ShadowPoolModel") (Qs := (fun sz => QI G (th0 F 0) o (F 25 4) sz)) (by decide +kernel) rfl (Nat.le_of_ble_eq_true rfl) ?_
  intro p e s m args below meth c ls hr hk0 hnm S g hl
  have hl : lv_has ls 1 [(0, .ref (gA G 21))] := hl
  have hx := S.1
  have hb := S.2.1
  refine lv_aload_n hx hb dX3_reinsurersLoss_0 rfl (lv_at hl 0 rfl) ?_
  refine lv_aload_n hx hb dX3_reinsurersLoss_1 rfl (lv_at hl 0 rfl) ?_
  refine gMr (k := 0) S g 6 (by decide) q550 dX3_reinsurersLoss_2 ?_
  refine lv_iconst (v := 4) hx hb dX3_reinsurersLoss_5 (by decide) ?_
  refine gAn (k := 25) S g (Or.inl rfl) (4) rfl (by decide) dX3_reinsurersLoss_6 ?_
  refine g_ci (rest := []) g (g_V (n := 1) (As := [.int (F 25 4)]) S g (m_ok l G (F) o (F 25 4)) (by decide) (cEm G _ o) rfl (lw_V q670 q672 qs35 q4 q673) ⟨rfl, by decide +kernel, by decide +kernel, by decide +kernel⟩ rfl ⟨Nat.le_of_ble_eq_true rfl, Nat.le_of_ble_eq_true rfl⟩ hl.1 (Nat.le_of_ble_eq_true rfl) rfl ⟨Nat.zero_le _, Nat.zero_le _⟩ dX3_reinsurersLoss_7) (fun H locs g => ?_)
  exact e_i S hr hk0 g rfl rfl dX3_reinsurersLoss_10
set_option maxHeartbeats 4000000 in
set_option maxRecDepth 100000 in
theorem m_hour (l : Launch) (G : gT) (F : Fs) (o : Int64) : MI l yX3_hour cX3_hour 1 (some .int) 1 21 [.ref (gA G 21)] G (F) o (th0 F 0) (F 25 0) := by
  refine mk_G (own := "ShadowPoolModel") (Qs := (fun sz => QI G (th0 F 0) o (F 25 0) sz)) (by decide +kernel) rfl (Nat.le_of_ble_eq_true rfl) ?_
  intro p e s m args below meth c ls hr hk0 hnm S g hl
  have hl : lv_has ls 1 [(0, .ref (gA G 21))] := hl
  have hx := S.1
  have hb := S.2.1
  refine lv_aload_n hx hb dX3_hour_0 rfl (lv_at hl 0 rfl) ?_
  refine lv_aload_n hx hb dX3_hour_1 rfl (lv_at hl 0 rfl) ?_
  refine gMr (k := 0) S g 6 (by decide) q550 dX3_hour_2 ?_
  refine lv_iconst (v := 0) hx hb dX3_hour_5 (by decide) ?_
  refine gAn (k := 25) S g (Or.inl rfl) (0) rfl (by decide) dX3_hour_6 ?_
  refine g_ci (rest := []) g (g_V (n := 1) (As := [.int (F 25 0)]) S g (m_ok l G (F) o (F 25 0)) (by decide) (cEm G _ o) rfl (lw_V q670 q672 qs35 q4 q673) ⟨rfl, by decide +kernel, by decide +kernel, by decide +kernel⟩ rfl ⟨Nat.le_of_ble_eq_true rfl, Nat.le_of_ble_eq_true rfl⟩ hl.1 (Nat.le_of_ble_eq_true rfl) rfl ⟨Nat.zero_le _, Nat.zero_le _⟩ dX3_hour_7) (fun H locs g => ?_)
  exact e_i S hr hk0 g rfl rfl dX3_hour_10
set_option maxHeartbeats 4000000 in
set_option maxRecDepth 100000 in
theorem m_retention (l : Launch) (G : gT) (F : Fs) (o : Int64) : MI l yX3_retention cX3_retention 1 (some .int) 1 21 [.ref (gA G 21)] G (F) o (th0 F 0) (F 21 2) := by
  refine mk_G (own := "ShadowPoolModel") (Qs := (fun sz => QI G (th0 F 0) o (F 21 2) sz)) (by decide +kernel) rfl (Nat.le_of_ble_eq_true rfl) ?_
  intro p e s m args below meth c ls hr hk0 hnm S g hl
  have hl : lv_has ls 1 [(0, .ref (gA G 21))] := hl
  have hx := S.1
  have hb := S.2.1
  refine lv_aload_n hx hb dX3_retention_0 rfl (lv_at hl 0 rfl) ?_
  refine lv_aload_n hx hb dX3_retention_1 rfl (lv_at hl 0 rfl) ?_
  refine gM (k := 0) S g 2 (by decide) q546 dX3_retention_2 ?_
  refine g_ci (rest := []) g (g_V (n := 1) (As := [.int (F 21 2)]) S g (m_ok l G (F) o (F 21 2)) (by decide) (cEm G _ o) rfl (lw_V q670 q672 qs35 q4 q673) ⟨rfl, by decide +kernel, by decide +kernel, by decide +kernel⟩ rfl ⟨Nat.le_of_ble_eq_true rfl, Nat.le_of_ble_eq_true rfl⟩ hl.1 (Nat.le_of_ble_eq_true rfl) rfl ⟨Nat.zero_le _, Nat.zero_le _⟩ dX3_retention_5) (fun H locs g => ?_)
  exact e_i S hr hk0 g rfl rfl dX3_retention_8
set_option maxHeartbeats 4000000 in
set_option maxRecDepth 100000 in
theorem m_walkers (l : Launch) (G : gT) (F : Fs) (o : Int64) : MI l yX3_walkers cX3_walkers 1 (some .int) 1 21 [.ref (gA G 21)] G (F) o (th0 F 0) (F 21 1) := by
  refine mk_G (own := "ShadowPoolModel") (Qs := (fun sz => QI G (th0 F 0) o (F 21 1) sz)) (by decide +kernel) rfl (Nat.le_of_ble_eq_true rfl) ?_
  intro p e s m args below meth c ls hr hk0 hnm S g hl
  have hl : lv_has ls 1 [(0, .ref (gA G 21))] := hl
  have hx := S.1
  have hb := S.2.1
  refine lv_aload_n hx hb dX3_walkers_0 rfl (lv_at hl 0 rfl) ?_
  refine lv_aload_n hx hb dX3_walkers_1 rfl (lv_at hl 0 rfl) ?_
  refine gM (k := 0) S g 1 (by decide) q545 dX3_walkers_2 ?_
  refine g_ci (rest := []) g (g_V (n := 1) (As := [.int (F 21 1)]) S g (m_ok l G (F) o (F 21 1)) (by decide) (cEm G _ o) rfl (lw_V q670 q672 qs35 q4 q673) ⟨rfl, by decide +kernel, by decide +kernel, by decide +kernel⟩ rfl ⟨Nat.le_of_ble_eq_true rfl, Nat.le_of_ble_eq_true rfl⟩ hl.1 (Nat.le_of_ble_eq_true rfl) rfl ⟨Nat.zero_le _, Nat.zero_le _⟩ dX3_walkers_5) (fun H locs g => ?_)
  exact e_i S hr hk0 g rfl rfl dX3_walkers_8
set_option maxHeartbeats 4000000 in
set_option maxRecDepth 100000 in
theorem m_sun (l : Launch) (G : gT) (F : Fs) (o : Int64) (h : Nat) (hh : F 25 0 = nI h) (hh2 : h < 2 ^ 29) : MI l yX3_sun cX3_sun 1 (some .int) 1 21 [.ref (gA G 21)] G (F) o (th0 F 0) (suH h) := by
  refine mk_G (own := "ShadowPoolModel") (Qs := (fun sz => QI G (th0 F 0) o (suH h) sz)) (by decide +kernel) rfl (Nat.le_of_ble_eq_true rfl) ?_
  intro p e s m args below meth c ls hr hk0 hnm S g hl
  have hl : lv_has ls 1 [(0, .ref (gA G 21))] := hl
  have hx := S.1
  have hb := S.2.1
  refine lv_aload_n hx hb dX3_sun_0 rfl (lv_at hl 0 rfl) ?_
  refine lv_aload_n hx hb dX3_sun_1 rfl (lv_at hl 0 rfl) ?_
  refine g_ci (rest := [.ref (gA G 21)]) g (g_V (n := 0) (As := []) S g (m_sunNow l G (F) o h hh hh2) (by decide) (cEm G _ o) rfl (lw_V q651 q653 qs32 q4 q654) ⟨rfl, by decide +kernel, by decide +kernel, by decide +kernel⟩ rfl ⟨Nat.le_of_ble_eq_true rfl, Nat.le_of_ble_eq_true rfl⟩ hl.1 (Nat.le_of_ble_eq_true rfl) rfl ⟨Nat.zero_le _, Nat.zero_le _⟩ dX3_sun_2) (fun H locs g => ?_)
  refine g_ci (rest := []) g (g_V (n := 1) (As := [.int (suH h)]) S g (m_ok l G (F) o (suH h)) (by decide) (cEm G _ o) rfl (lw_V q670 q672 qs35 q4 q673) ⟨rfl, by decide +kernel, by decide +kernel, by decide +kernel⟩ rfl ⟨Nat.le_of_ble_eq_true rfl, Nat.le_of_ble_eq_true rfl⟩ hl.1 (Nat.le_of_ble_eq_true rfl) rfl ⟨Nat.zero_le _, Nat.zero_le _⟩ dX3_sun_5) (fun H locs g => ?_)
  exact e_i S hr hk0 g rfl rfl dX3_sun_8
set_option maxHeartbeats 4000000 in
set_option maxRecDepth 100000 in
theorem m_isNoon (l : Launch) (G : gT) (F : Fs) (o : Int64) (h : Nat) (hh : F 25 0 = nI h) (hh2 : h < 2 ^ 29) : MI l yX3_isNoon cX3_isNoon 1 (some .boolean) 1 20 [.ref (gA G 21)] G (F) o (th0 F 0) (noM h) := by
  refine mk_G (own := "ShadowPoolModel") (Qs := (fun sz => QI G (th0 F 0) o (noM h) sz)) (by decide +kernel) rfl (Nat.le_of_ble_eq_true rfl) ?_
  intro p e s m args below meth c ls hr hk0 hnm S g hl
  have hl : lv_has ls 1 [(0, .ref (gA G 21))] := hl
  have hx := S.1
  have hb := S.2.1
  refine lv_aload_n hx hb dX3_isNoon_0 rfl (lv_at hl 0 rfl) ?_
  refine lv_iconst (v := 0) hx hb dX3_isNoon_1 (by decide) ?_
  refine gMp (k := 0) S g 0 (by decide) q544 dX3_isNoon_2 (fun H locs g => ?_)
  rw [show up2 (F) (21) 0 (0) = th0 F 0 from rfl] at g
  refine lv_aload_n hx hb dX3_isNoon_5 rfl (lv_at hl 0 rfl) ?_
  refine g_ci (rest := []) g (g_V (n := 0) (As := []) S g (m_noon l G (th0 F 0) o h (by rw [th0, up2_ne _ _ (by decide)]; exact hh) hh2) (by decide) (cEm G _ o) rfl (lw_V q630 q632 qs27 q4 q633) ⟨rfl, by decide +kernel, by decide +kernel, by decide +kernel⟩ rfl ⟨Nat.le_of_ble_eq_true rfl, Nat.le_of_ble_eq_true rfl⟩ hl.1 (Nat.le_of_ble_eq_true rfl) rfl ⟨Nat.zero_le _, Nat.zero_le _⟩ dX3_isNoon_6) (fun H locs g => ?_)
  exact e_z S hr hk0 g (z01 (noM01 h)) rfl rfl dX3_isNoon_9
set_option maxHeartbeats 4000000 in
set_option maxRecDepth 100000 in
theorem m_hoursUntilNoon (l : Launch) (G : gT) (F : Fs) (o : Int64) (h : Nat) (hh : F 25 0 = nI h) (hh2 : h < 2 ^ 29) : MI l yX3_hoursUntilNoon cX3_hoursUntilNoon 2 (some .int) 1 21 [.ref (gA G 21)] G (F) o (th0 F 0) (huM h) := by
  refine mk_G (own := "ShadowPoolModel") (Qs := (fun sz => QI G (th0 F 0) o (huM h) sz)) (by decide +kernel) rfl (Nat.le_of_ble_eq_true rfl) ?_
  intro p e s m args below meth c ls hr hk0 hnm S g hl
  have hl : lv_has ls 2 [(0, .ref (gA G 21))] := hl
  have hx := S.1
  have hb := S.2.1
  refine lv_aload_n hx hb dX3_hoursUntilNoon_0 rfl (lv_at hl 0 rfl) ?_
  refine gMr (k := 0) S g 6 (by decide) q550 dX3_hoursUntilNoon_1 ?_
  refine lv_iconst (v := 0) hx hb dX3_hoursUntilNoon_4 (by decide) ?_
  refine gAn (k := 25) S g (Or.inl rfl) (0) rfl (by decide) dX3_hoursUntilNoon_5 ?_
  rw [show (F 25 0 : Int32) = nI h from hh]
  refine lv_bipush (v := 12) hx hb dX3_hoursUntilNoon_6 (by decide) ?_
  refine lv_irem hx hb dX3_hoursUntilNoon_8 (by decide) ?_
  rw [show ((nI h) - (nI h) / (12) * (12) : Int32) = nI (h % 12) from pk_rem (d := 12) (by omega) (by omega) (by omega)]
  refine lv_istore_n (lv' := [(1, .int (nI (h % 12))), (0, .ref (gA G 21))]) hx hb dX3_hoursUntilNoon_9 rfl hl (by decide) rfl (fun ls hl => ?_)
  refine lv_aload_n hx hb dX3_hoursUntilNoon_10 rfl (lv_at hl 1 rfl) ?_
  refine lv_iload_n hx hb dX3_hoursUntilNoon_11 rfl (lv_at hl 0 rfl) ?_
  refine lv_iconst (v := 5) hx hb dX3_hoursUntilNoon_12 (by decide) ?_
  refine lv_icmp_ge (tgt := 22) hx hb dX3_hoursUntilNoon_13 (by decide) (fun c_13 => ?_) (fun c_13 => ?_)
  · refine lv_iload_n hx hb dX3_hoursUntilNoon_22 rfl (lv_at hl 0 rfl) ?_
    refine lv_bipush (v := 7) hx hb dX3_hoursUntilNoon_23 (by decide) ?_
    refine lv_icmp_ge (tgt := 32) hx hb dX3_hoursUntilNoon_25 (by decide) (fun c_25 => ?_) (fun c_25 => ?_)
    · refine lv_bipush (v := 17) hx hb dX3_hoursUntilNoon_32 (by decide) ?_
      refine lv_iload_n hx hb dX3_hoursUntilNoon_34 rfl (lv_at hl 0 rfl) ?_
      refine lv_isub hx hb dX3_hoursUntilNoon_35 ?_
      refine g_ci (rest := []) g (g_V (n := 1) (As := [.int ((17) - (nI (h % 12)))]) S g (m_ok l G (F) o ((17) - (nI (h % 12)))) (by decide) (cEm G _ o) rfl (lw_V q670 q672 qs35 q4 q673) ⟨rfl, by decide +kernel, by decide +kernel, by decide +kernel⟩ rfl ⟨Nat.le_of_ble_eq_true rfl, Nat.le_of_ble_eq_true rfl⟩ hl.1 (Nat.le_of_ble_eq_true rfl) rfl ⟨Nat.zero_le _, Nat.zero_le _⟩ dX3_hoursUntilNoon_36) (fun H locs g => ?_)
      exact e_i S hr hk0 g (by first | rfl | (simp only [huM, c_13, c_25, ↓reduceIte]; done) | (simp [huM, c_13, c_25, ↓reduceIte]; done)) rfl dX3_hoursUntilNoon_39
    · refine lv_iconst (v := 0) hx hb dX3_hoursUntilNoon_28 (by decide) ?_
      refine lv_goto (tgt := 36) hx hb dX3_hoursUntilNoon_29 (by decide) ?_
      refine g_ci (rest := []) g (g_V (n := 1) (As := [.int 0]) S g (m_ok l G (F) o 0) (by decide) (cEm G _ o) rfl (lw_V q670 q672 qs35 q4 q673) ⟨rfl, by decide +kernel, by decide +kernel, by decide +kernel⟩ rfl ⟨Nat.le_of_ble_eq_true rfl, Nat.le_of_ble_eq_true rfl⟩ hl.1 (Nat.le_of_ble_eq_true rfl) rfl ⟨Nat.zero_le _, Nat.zero_le _⟩ dX3_hoursUntilNoon_36) (fun H locs g => ?_)
      exact e_i S hr hk0 g (by first | rfl | (simp only [huM, c_13, c_25, ↓reduceIte]; done) | (simp [huM, c_13, c_25, ↓reduceIte]; done)) rfl dX3_hoursUntilNoon_39
  · refine lv_iconst (v := 5) hx hb dX3_hoursUntilNoon_16 (by decide) ?_
    refine lv_iload_n hx hb dX3_hoursUntilNoon_17 rfl (lv_at hl 0 rfl) ?_
    refine lv_isub hx hb dX3_hoursUntilNoon_18 ?_
    refine lv_goto (tgt := 36) hx hb dX3_hoursUntilNoon_19 (by decide) ?_
    refine g_ci (rest := []) g (g_V (n := 1) (As := [.int ((5) - (nI (h % 12)))]) S g (m_ok l G (F) o ((5) - (nI (h % 12)))) (by decide) (cEm G _ o) rfl (lw_V q670 q672 qs35 q4 q673) ⟨rfl, by decide +kernel, by decide +kernel, by decide +kernel⟩ rfl ⟨Nat.le_of_ble_eq_true rfl, Nat.le_of_ble_eq_true rfl⟩ hl.1 (Nat.le_of_ble_eq_true rfl) rfl ⟨Nat.zero_le _, Nat.zero_le _⟩ dX3_hoursUntilNoon_36) (fun H locs g => ?_)
    exact e_i S hr hk0 g (by first | rfl | (simp only [huM, c_13, ↓reduceIte]; done) | (simp [huM, c_13, ↓reduceIte]; done)) rfl dX3_hoursUntilNoon_39
set_option maxHeartbeats 4000000 in
set_option maxRecDepth 100000 in
theorem m_members (l : Launch) (G : gT) (F : Fs) (o : Int64) (n : Nat) (hn : F 21 1 = nI n) (hn8 : n ≤ 8) : MI l yX3_members cX3_members 1 (some .int) 1 22 [.ref (gA G 21)] G (F) o (th0 F 0) (inL F n 0 0) := by
  refine mk_G (own := "ShadowPoolModel") (Qs := (fun sz => QI G (th0 F 0) o (inL F n 0 0) sz)) (by decide +kernel) rfl (Nat.le_of_ble_eq_true rfl) ?_
  intro p e s m args below meth c ls hr hk0 hnm S g hl
  have hl : lv_has ls 1 [(0, .ref (gA G 21))] := hl
  have hx := S.1
  have hb := S.2.1
  refine lv_aload_n hx hb dX3_members_0 rfl (lv_at hl 0 rfl) ?_
  refine lv_aload_n hx hb dX3_members_1 rfl (lv_at hl 0 rfl) ?_
  refine g_ci (rest := [.ref (gA G 21)]) g (g_V (n := 0) (As := []) S g (m_in l G (F) o n hn hn8) (by decide) (cEm G _ o) rfl (lw_V q626 q628 qs26 q4 q629) ⟨rfl, by decide +kernel, by decide +kernel, by decide +kernel⟩ rfl ⟨Nat.le_of_ble_eq_true rfl, Nat.le_of_ble_eq_true rfl⟩ hl.1 (Nat.le_of_ble_eq_true rfl) rfl ⟨Nat.zero_le _, Nat.zero_le _⟩ dX3_members_2) (fun H locs g => ?_)
  refine g_ci (rest := []) g (g_V (n := 1) (As := [.int (inL F n 0 0)]) S g (m_ok l G (F) o (inL F n 0 0)) (by decide) (cEm G _ o) rfl (lw_V q670 q672 qs35 q4 q673) ⟨rfl, by decide +kernel, by decide +kernel, by decide +kernel⟩ rfl ⟨Nat.le_of_ble_eq_true rfl, Nat.le_of_ble_eq_true rfl⟩ hl.1 (Nat.le_of_ble_eq_true rfl) rfl ⟨Nat.zero_le _, Nat.zero_le _⟩ dX3_members_5) (fun H locs g => ?_)
  exact e_i S hr hk0 g rfl rfl dX3_members_8
set_option maxHeartbeats 4000000 in
set_option maxRecDepth 100000 in
theorem m_shadowOf_ok (l : Launch) (G : gT) (F : Fs) (o : Int64) (j : Nat) (n : Nat) (h : Nat) (hn : F 21 1 = nI n) (hj : j < n) (hn8 : n ≤ 8) (hh : F 25 0 = nI h) (hh2 : h < 2 ^ 29) : MI l yX3_shadowOf cX3_shadowOf 2 (some .int) 2 43 [.ref (gA G 21), .int (nI j)] G (F) o (th0 F 0) (shI (F 22 j) (suH h)) := by
  refine mk_G (own := "ShadowPoolModel") (Qs := (fun sz => QI G (th0 F 0) o (shI (F 22 j) (suH h)) sz)) (by decide +kernel) rfl (Nat.le_of_ble_eq_true rfl) ?_
  intro p e s m args below meth c ls hr hk0 hnm S g hl
  have hl : lv_has ls 2 [(0, .ref (gA G 21)), (1, .int (nI j))] := hl
  have hx := S.1
  have hb := S.2.1
  refine lv_aload_n hx hb dX3_shadowOf_0 rfl (lv_at hl 0 rfl) ?_
  refine lv_iconst (v := 0) hx hb dX3_shadowOf_1 (by decide) ?_
  refine gMp (k := 0) S g 0 (by decide) q544 dX3_shadowOf_2 (fun H locs g => ?_)
  rw [show up2 (F) (21) 0 (0) = th0 F 0 from rfl] at g
  refine lv_aload_n hx hb dX3_shadowOf_5 rfl (lv_at hl 0 rfl) ?_
  refine lv_iload_n hx hb dX3_shadowOf_6 rfl (lv_at hl 1 rfl) ?_
  refine g_ci (rest := []) g (g_V (n := 1) (As := [.int (nI j)]) S g (m_isWalker l G (th0 F 0) o (nI j) n (by rw [th0, up2_ne _ _ (by decide)]; exact hn)) (by decide) (cEm G _ o) rfl (lw_V q590 q592 qs22 q4 q593) ⟨rfl, by decide +kernel, by decide +kernel, by decide +kernel⟩ rfl ⟨Nat.le_of_ble_eq_true rfl, Nat.le_of_ble_eq_true rfl⟩ hl.1 (Nat.le_of_ble_eq_true rfl) rfl ⟨Nat.zero_le _, Nat.zero_le _⟩ dX3_shadowOf_7) (fun H locs g => ?_)
  refine lv_if_eq (tgt := 21) hx hb dX3_shadowOf_10 (by decide) (fun c9 => absurd c9 (by rw [isW_ok hj hn8]; decide)) (fun c_10 => ?_)
  refine lv_aload_n hx hb dX3_shadowOf_13 rfl (lv_at hl 0 rfl) ?_
  refine lv_iload_n hx hb dX3_shadowOf_14 rfl (lv_at hl 1 rfl) ?_
  refine g_ci (rest := []) g (g_V (n := 1) (As := [.int (nI j)]) S g (m_shadow l G ((th0 F 0)) o j h (by omega) (by rw [th0, up2_ne _ _ (by decide)]; exact hh) hh2) (by decide) (cEm G _ o) rfl (lw_V q647 q649 qs31 q4 q650) ⟨rfl, by decide +kernel, by decide +kernel, by decide +kernel⟩ rfl ⟨Nat.le_of_ble_eq_true rfl, Nat.le_of_ble_eq_true rfl⟩ hl.1 (Nat.le_of_ble_eq_true rfl) rfl ⟨Nat.zero_le _, Nat.zero_le _⟩ dX3_shadowOf_15) (fun H locs g => ?_)
  refine lv_goto (tgt := 26) hx hb dX3_shadowOf_18 (by decide) ?_
  exact e_i S hr hk0 g rfl rfl dX3_shadowOf_26
set_option maxHeartbeats 4000000 in
set_option maxRecDepth 100000 in
theorem m_shadowOf_no (l : Launch) (G : gT) (F : Fs) (o : Int64) (x : Int32) (n : Nat) (hn : F 21 1 = nI n) (hn8 : n ≤ 8) (hxx : x < 0 ∨ nI n ≤ x) : MI l yX3_shadowOf cX3_shadowOf 2 (some .int) 2 43 [.ref (gA G 21), .int x] G (F) o (th0 F 1) (0) := by
  refine mk_G (own := "ShadowPoolModel") (Qs := (fun sz => QI G (th0 F 1) o (0) sz)) (by decide +kernel) rfl (Nat.le_of_ble_eq_true rfl) ?_
  intro p e s m args below meth c ls hr hk0 hnm S g hl
  have hl : lv_has ls 2 [(0, .ref (gA G 21)), (1, .int x)] := hl
  have hx := S.1
  have hb := S.2.1
  refine lv_aload_n hx hb dX3_shadowOf_0 rfl (lv_at hl 0 rfl) ?_
  refine lv_iconst (v := 0) hx hb dX3_shadowOf_1 (by decide) ?_
  refine gMp (k := 0) S g 0 (by decide) q544 dX3_shadowOf_2 (fun H locs g => ?_)
  rw [show up2 (F) (21) 0 (0) = th0 F 0 from rfl] at g
  refine lv_aload_n hx hb dX3_shadowOf_5 rfl (lv_at hl 0 rfl) ?_
  refine lv_iload_n hx hb dX3_shadowOf_6 rfl (lv_at hl 1 rfl) ?_
  refine g_ci (rest := []) g (g_V (n := 1) (As := [.int x]) S g (m_isWalker l G (th0 F 0) o x n (by rw [th0, up2_ne _ _ (by decide)]; exact hn)) (by decide) (cEm G _ o) rfl (lw_V q590 q592 qs22 q4 q593) ⟨rfl, by decide +kernel, by decide +kernel, by decide +kernel⟩ rfl ⟨Nat.le_of_ble_eq_true rfl, Nat.le_of_ble_eq_true rfl⟩ hl.1 (Nat.le_of_ble_eq_true rfl) rfl ⟨Nat.zero_le _, Nat.zero_le _⟩ dX3_shadowOf_7) (fun H locs g => ?_)
  refine lv_if_eq (tgt := 21) hx hb dX3_shadowOf_10 (by decide) (fun c_10 => ?_) (fun c9 => absurd (isW_no hn8 hxx) c9)
  refine lv_aload_n hx hb dX3_shadowOf_21 rfl (lv_at hl 0 rfl) ?_
  refine lv_iconst (v := 1) hx hb dX3_shadowOf_22 (by decide) ?_
  refine g_ci (rest := []) g (g_V (n := 1) (As := [.int 1]) S g (m_no l G ((th0 F 0)) o 1) (by decide) (cEm G _ o) rfl (lw_V q582 q584 qs21 q4 q585) ⟨rfl, by decide +kernel, by decide +kernel, by decide +kernel⟩ rfl ⟨Nat.le_of_ble_eq_true rfl, Nat.le_of_ble_eq_true rfl⟩ hl.1 (Nat.le_of_ble_eq_true rfl) rfl ⟨Nat.zero_le _, Nat.zero_le _⟩ dX3_shadowOf_23) (fun H locs g => ?_)
  exact e_i S hr hk0 g rfl (by funext a b; simp only [th0, up2_at]; split <;> rfl) dX3_shadowOf_26
set_option maxHeartbeats 4000000 in
set_option maxRecDepth 100000 in
theorem m_costOf_ok (l : Launch) (G : gT) (F : Fs) (o : Int64) (j : Nat) (n : Nat) (h : Nat) (hn : F 21 1 = nI n) (hj : j < n) (hn8 : n ≤ 8) (hh : F 25 0 = nI h) (hh2 : h < 2 ^ 29) : MI l yX3_costOf cX3_costOf 2 (some .int) 3 62 [.ref (gA G 21), .int (nI j)] G (F) o (th0 F 0) (coM F j h) := by
  refine mk_G (own := "ShadowPoolModel") (Qs := (fun sz => QI G (th0 F 0) o (coM F j h) sz)) (by decide +kernel) rfl (Nat.le_of_ble_eq_true rfl) ?_
  intro p e s m args below meth c ls hr hk0 hnm S g hl
  have hl : lv_has ls 2 [(0, .ref (gA G 21)), (1, .int (nI j))] := hl
  have hx := S.1
  have hb := S.2.1
  refine lv_aload_n hx hb dX3_costOf_0 rfl (lv_at hl 0 rfl) ?_
  refine lv_iconst (v := 0) hx hb dX3_costOf_1 (by decide) ?_
  refine gMp (k := 0) S g 0 (by decide) q544 dX3_costOf_2 (fun H locs g => ?_)
  rw [show up2 (F) (21) 0 (0) = th0 F 0 from rfl] at g
  refine lv_aload_n hx hb dX3_costOf_5 rfl (lv_at hl 0 rfl) ?_
  refine lv_iload_n hx hb dX3_costOf_6 rfl (lv_at hl 1 rfl) ?_
  refine g_ci (rest := []) g (g_V (n := 1) (As := [.int (nI j)]) S g (m_isWalker l G (th0 F 0) o (nI j) n (by rw [th0, up2_ne _ _ (by decide)]; exact hn)) (by decide) (cEm G _ o) rfl (lw_V q590 q592 qs22 q4 q593) ⟨rfl, by decide +kernel, by decide +kernel, by decide +kernel⟩ rfl ⟨Nat.le_of_ble_eq_true rfl, Nat.le_of_ble_eq_true rfl⟩ hl.1 (Nat.le_of_ble_eq_true rfl) rfl ⟨Nat.zero_le _, Nat.zero_le _⟩ dX3_costOf_7) (fun H locs g => ?_)
  refine lv_if_eq (tgt := 21) hx hb dX3_costOf_10 (by decide) (fun c9 => absurd c9 (by rw [isW_ok hj hn8]; decide)) (fun c_10 => ?_)
  refine lv_aload_n hx hb dX3_costOf_13 rfl (lv_at hl 0 rfl) ?_
  refine lv_iload_n hx hb dX3_costOf_14 rfl (lv_at hl 1 rfl) ?_
  refine g_ci (rest := []) g (g_V (n := 1) (As := [.int (nI j)]) S g (m_cost l G ((th0 F 0)) o j h (by omega) (by rw [th0, up2_ne _ _ (by decide)]; exact hh) hh2) (by decide) (cEm G _ o) rfl (lw_V q643 q645 qs30 q4 q646) ⟨rfl, by decide +kernel, by decide +kernel, by decide +kernel⟩ rfl ⟨Nat.le_of_ble_eq_true rfl, Nat.le_of_ble_eq_true rfl⟩ hl.1 (Nat.le_of_ble_eq_true rfl) rfl ⟨Nat.zero_le _, Nat.zero_le _⟩ dX3_costOf_15) (fun H locs g => ?_)
  refine lv_goto (tgt := 26) hx hb dX3_costOf_18 (by decide) ?_
  exact e_i S hr hk0 g rfl rfl dX3_costOf_26
set_option maxHeartbeats 4000000 in
set_option maxRecDepth 100000 in
theorem m_costOf_no (l : Launch) (G : gT) (F : Fs) (o : Int64) (x : Int32) (n : Nat) (hn : F 21 1 = nI n) (hn8 : n ≤ 8) (hxx : x < 0 ∨ nI n ≤ x) : MI l yX3_costOf cX3_costOf 2 (some .int) 2 43 [.ref (gA G 21), .int x] G (F) o (th0 F 1) (0) := by
  refine mk_G (own := "ShadowPoolModel") (Qs := (fun sz => QI G (th0 F 1) o (0) sz)) (by decide +kernel) rfl (Nat.le_of_ble_eq_true rfl) ?_
  intro p e s m args below meth c ls hr hk0 hnm S g hl
  have hl : lv_has ls 2 [(0, .ref (gA G 21)), (1, .int x)] := hl
  have hx := S.1
  have hb := S.2.1
  refine lv_aload_n hx hb dX3_costOf_0 rfl (lv_at hl 0 rfl) ?_
  refine lv_iconst (v := 0) hx hb dX3_costOf_1 (by decide) ?_
  refine gMp (k := 0) S g 0 (by decide) q544 dX3_costOf_2 (fun H locs g => ?_)
  rw [show up2 (F) (21) 0 (0) = th0 F 0 from rfl] at g
  refine lv_aload_n hx hb dX3_costOf_5 rfl (lv_at hl 0 rfl) ?_
  refine lv_iload_n hx hb dX3_costOf_6 rfl (lv_at hl 1 rfl) ?_
  refine g_ci (rest := []) g (g_V (n := 1) (As := [.int x]) S g (m_isWalker l G (th0 F 0) o x n (by rw [th0, up2_ne _ _ (by decide)]; exact hn)) (by decide) (cEm G _ o) rfl (lw_V q590 q592 qs22 q4 q593) ⟨rfl, by decide +kernel, by decide +kernel, by decide +kernel⟩ rfl ⟨Nat.le_of_ble_eq_true rfl, Nat.le_of_ble_eq_true rfl⟩ hl.1 (Nat.le_of_ble_eq_true rfl) rfl ⟨Nat.zero_le _, Nat.zero_le _⟩ dX3_costOf_7) (fun H locs g => ?_)
  refine lv_if_eq (tgt := 21) hx hb dX3_costOf_10 (by decide) (fun c_10 => ?_) (fun c9 => absurd (isW_no hn8 hxx) c9)
  refine lv_aload_n hx hb dX3_costOf_21 rfl (lv_at hl 0 rfl) ?_
  refine lv_iconst (v := 1) hx hb dX3_costOf_22 (by decide) ?_
  refine g_ci (rest := []) g (g_V (n := 1) (As := [.int 1]) S g (m_no l G ((th0 F 0)) o 1) (by decide) (cEm G _ o) rfl (lw_V q582 q584 qs21 q4 q585) ⟨rfl, by decide +kernel, by decide +kernel, by decide +kernel⟩ rfl ⟨Nat.le_of_ble_eq_true rfl, Nat.le_of_ble_eq_true rfl⟩ hl.1 (Nat.le_of_ble_eq_true rfl) rfl ⟨Nat.zero_le _, Nat.zero_le _⟩ dX3_costOf_23) (fun H locs g => ?_)
  exact e_i S hr hk0 g rfl (by funext a b; simp only [th0, up2_at]; split <;> rfl) dX3_costOf_26
set_option maxHeartbeats 4000000 in
set_option maxRecDepth 100000 in
theorem m_ownPartOf_ok (l : Launch) (G : gT) (F : Fs) (o : Int64) (j : Nat) (n : Nat) (h : Nat) (hn : F 21 1 = nI n) (hj : j < n) (hn8 : n ≤ 8) (hh : F 25 0 = nI h) (hh2 : h < 2 ^ 29) : MI l yX3_ownPartOf cX3_ownPartOf 2 (some .int) 4 83 [.ref (gA G 21), .int (nI j)] G (F) o (th0 F 0) (owM F j h) := by
  refine mk_G (own := "ShadowPoolModel") (Qs := (fun sz => QI G (th0 F 0) o (owM F j h) sz)) (by decide +kernel) rfl (Nat.le_of_ble_eq_true rfl) ?_
  intro p e s m args below meth c ls hr hk0 hnm S g hl
  have hl : lv_has ls 2 [(0, .ref (gA G 21)), (1, .int (nI j))] := hl
  have hx := S.1
  have hb := S.2.1
  refine lv_aload_n hx hb dX3_ownPartOf_0 rfl (lv_at hl 0 rfl) ?_
  refine lv_iconst (v := 0) hx hb dX3_ownPartOf_1 (by decide) ?_
  refine gMp (k := 0) S g 0 (by decide) q544 dX3_ownPartOf_2 (fun H locs g => ?_)
  rw [show up2 (F) (21) 0 (0) = th0 F 0 from rfl] at g
  refine lv_aload_n hx hb dX3_ownPartOf_5 rfl (lv_at hl 0 rfl) ?_
  refine lv_iload_n hx hb dX3_ownPartOf_6 rfl (lv_at hl 1 rfl) ?_
  refine g_ci (rest := []) g (g_V (n := 1) (As := [.int (nI j)]) S g (m_isWalker l G (th0 F 0) o (nI j) n (by rw [th0, up2_ne _ _ (by decide)]; exact hn)) (by decide) (cEm G _ o) rfl (lw_V q590 q592 qs22 q4 q593) ⟨rfl, by decide +kernel, by decide +kernel, by decide +kernel⟩ rfl ⟨Nat.le_of_ble_eq_true rfl, Nat.le_of_ble_eq_true rfl⟩ hl.1 (Nat.le_of_ble_eq_true rfl) rfl ⟨Nat.zero_le _, Nat.zero_le _⟩ dX3_ownPartOf_7) (fun H locs g => ?_)
  refine lv_if_eq (tgt := 21) hx hb dX3_ownPartOf_10 (by decide) (fun c9 => absurd c9 (by rw [isW_ok hj hn8]; decide)) (fun c_10 => ?_)
  refine lv_aload_n hx hb dX3_ownPartOf_13 rfl (lv_at hl 0 rfl) ?_
  refine lv_iload_n hx hb dX3_ownPartOf_14 rfl (lv_at hl 1 rfl) ?_
  refine g_ci (rest := []) g (g_V (n := 1) (As := [.int (nI j)]) S g (m_own l G ((th0 F 0)) o j h (by omega) (by rw [th0, up2_ne _ _ (by decide)]; exact hh) hh2) (by decide) (cEm G _ o) rfl (lw_V q657 q659 qs33 q4 q660) ⟨rfl, by decide +kernel, by decide +kernel, by decide +kernel⟩ rfl ⟨Nat.le_of_ble_eq_true rfl, Nat.le_of_ble_eq_true rfl⟩ hl.1 (Nat.le_of_ble_eq_true rfl) rfl ⟨Nat.zero_le _, Nat.zero_le _⟩ dX3_ownPartOf_15) (fun H locs g => ?_)
  refine lv_goto (tgt := 26) hx hb dX3_ownPartOf_18 (by decide) ?_
  exact e_i S hr hk0 g rfl rfl dX3_ownPartOf_26
set_option maxHeartbeats 4000000 in
set_option maxRecDepth 100000 in
theorem m_ownPartOf_no (l : Launch) (G : gT) (F : Fs) (o : Int64) (x : Int32) (n : Nat) (hn : F 21 1 = nI n) (hn8 : n ≤ 8) (hxx : x < 0 ∨ nI n ≤ x) : MI l yX3_ownPartOf cX3_ownPartOf 2 (some .int) 2 43 [.ref (gA G 21), .int x] G (F) o (th0 F 1) (0) := by
  refine mk_G (own := "ShadowPoolModel") (Qs := (fun sz => QI G (th0 F 1) o (0) sz)) (by decide +kernel) rfl (Nat.le_of_ble_eq_true rfl) ?_
  intro p e s m args below meth c ls hr hk0 hnm S g hl
  have hl : lv_has ls 2 [(0, .ref (gA G 21)), (1, .int x)] := hl
  have hx := S.1
  have hb := S.2.1
  refine lv_aload_n hx hb dX3_ownPartOf_0 rfl (lv_at hl 0 rfl) ?_
  refine lv_iconst (v := 0) hx hb dX3_ownPartOf_1 (by decide) ?_
  refine gMp (k := 0) S g 0 (by decide) q544 dX3_ownPartOf_2 (fun H locs g => ?_)
  rw [show up2 (F) (21) 0 (0) = th0 F 0 from rfl] at g
  refine lv_aload_n hx hb dX3_ownPartOf_5 rfl (lv_at hl 0 rfl) ?_
  refine lv_iload_n hx hb dX3_ownPartOf_6 rfl (lv_at hl 1 rfl) ?_
  refine g_ci (rest := []) g (g_V (n := 1) (As := [.int x]) S g (m_isWalker l G (th0 F 0) o x n (by rw [th0, up2_ne _ _ (by decide)]; exact hn)) (by decide) (cEm G _ o) rfl (lw_V q590 q592 qs22 q4 q593) ⟨rfl, by decide +kernel, by decide +kernel, by decide +kernel⟩ rfl ⟨Nat.le_of_ble_eq_true rfl, Nat.le_of_ble_eq_true rfl⟩ hl.1 (Nat.le_of_ble_eq_true rfl) rfl ⟨Nat.zero_le _, Nat.zero_le _⟩ dX3_ownPartOf_7) (fun H locs g => ?_)
  refine lv_if_eq (tgt := 21) hx hb dX3_ownPartOf_10 (by decide) (fun c_10 => ?_) (fun c9 => absurd (isW_no hn8 hxx) c9)
  refine lv_aload_n hx hb dX3_ownPartOf_21 rfl (lv_at hl 0 rfl) ?_
  refine lv_iconst (v := 1) hx hb dX3_ownPartOf_22 (by decide) ?_
  refine g_ci (rest := []) g (g_V (n := 1) (As := [.int 1]) S g (m_no l G ((th0 F 0)) o 1) (by decide) (cEm G _ o) rfl (lw_V q582 q584 qs21 q4 q585) ⟨rfl, by decide +kernel, by decide +kernel, by decide +kernel⟩ rfl ⟨Nat.le_of_ble_eq_true rfl, Nat.le_of_ble_eq_true rfl⟩ hl.1 (Nat.le_of_ble_eq_true rfl) rfl ⟨Nat.zero_le _, Nat.zero_le _⟩ dX3_ownPartOf_23) (fun H locs g => ?_)
  exact e_i S hr hk0 g rfl (by funext a b; simp only [th0, up2_at]; split <;> rfl) dX3_ownPartOf_26
set_option maxHeartbeats 4000000 in
set_option maxRecDepth 100000 in
theorem m_poolPartOf_ok (l : Launch) (G : gT) (F : Fs) (o : Int64) (j : Nat) (n : Nat) (h : Nat) (hn : F 21 1 = nI n) (hj : j < n) (hn8 : n ≤ 8) (hh : F 25 0 = nI h) (hh2 : h < 2 ^ 29) : MI l yX3_poolPartOf cX3_poolPartOf 2 (some .int) 6 125 [.ref (gA G 21), .int (nI j)] G (F) o (th0 F 0) (poM F j h) := by
  refine mk_G (own := "ShadowPoolModel") (Qs := (fun sz => QI G (th0 F 0) o (poM F j h) sz)) (by decide +kernel) rfl (Nat.le_of_ble_eq_true rfl) ?_
  intro p e s m args below meth c ls hr hk0 hnm S g hl
  have hl : lv_has ls 2 [(0, .ref (gA G 21)), (1, .int (nI j))] := hl
  have hx := S.1
  have hb := S.2.1
  refine lv_aload_n hx hb dX3_poolPartOf_0 rfl (lv_at hl 0 rfl) ?_
  refine lv_iconst (v := 0) hx hb dX3_poolPartOf_1 (by decide) ?_
  refine gMp (k := 0) S g 0 (by decide) q544 dX3_poolPartOf_2 (fun H locs g => ?_)
  rw [show up2 (F) (21) 0 (0) = th0 F 0 from rfl] at g
  refine lv_aload_n hx hb dX3_poolPartOf_5 rfl (lv_at hl 0 rfl) ?_
  refine lv_iload_n hx hb dX3_poolPartOf_6 rfl (lv_at hl 1 rfl) ?_
  refine g_ci (rest := []) g (g_V (n := 1) (As := [.int (nI j)]) S g (m_isWalker l G (th0 F 0) o (nI j) n (by rw [th0, up2_ne _ _ (by decide)]; exact hn)) (by decide) (cEm G _ o) rfl (lw_V q590 q592 qs22 q4 q593) ⟨rfl, by decide +kernel, by decide +kernel, by decide +kernel⟩ rfl ⟨Nat.le_of_ble_eq_true rfl, Nat.le_of_ble_eq_true rfl⟩ hl.1 (Nat.le_of_ble_eq_true rfl) rfl ⟨Nat.zero_le _, Nat.zero_le _⟩ dX3_poolPartOf_7) (fun H locs g => ?_)
  refine lv_if_eq (tgt := 21) hx hb dX3_poolPartOf_10 (by decide) (fun c9 => absurd c9 (by rw [isW_ok hj hn8]; decide)) (fun c_10 => ?_)
  refine lv_aload_n hx hb dX3_poolPartOf_13 rfl (lv_at hl 0 rfl) ?_
  refine lv_iload_n hx hb dX3_poolPartOf_14 rfl (lv_at hl 1 rfl) ?_
  refine g_ci (rest := []) g (g_V (n := 1) (As := [.int (nI j)]) S g (m_pooled l G ((th0 F 0)) o j h (by omega) (by rw [th0, up2_ne _ _ (by decide)]; exact hh) hh2) (by decide) (cEm G _ o) rfl (lw_V q639 q641 qs29 q4 q642) ⟨rfl, by decide +kernel, by decide +kernel, by decide +kernel⟩ rfl ⟨Nat.le_of_ble_eq_true rfl, Nat.le_of_ble_eq_true rfl⟩ hl.1 (Nat.le_of_ble_eq_true rfl) rfl ⟨Nat.zero_le _, Nat.zero_le _⟩ dX3_poolPartOf_15) (fun H locs g => ?_)
  refine lv_goto (tgt := 26) hx hb dX3_poolPartOf_18 (by decide) ?_
  exact e_i S hr hk0 g rfl rfl dX3_poolPartOf_26
set_option maxHeartbeats 4000000 in
set_option maxRecDepth 100000 in
theorem m_poolPartOf_no (l : Launch) (G : gT) (F : Fs) (o : Int64) (x : Int32) (n : Nat) (hn : F 21 1 = nI n) (hn8 : n ≤ 8) (hxx : x < 0 ∨ nI n ≤ x) : MI l yX3_poolPartOf cX3_poolPartOf 2 (some .int) 2 43 [.ref (gA G 21), .int x] G (F) o (th0 F 1) (0) := by
  refine mk_G (own := "ShadowPoolModel") (Qs := (fun sz => QI G (th0 F 1) o (0) sz)) (by decide +kernel) rfl (Nat.le_of_ble_eq_true rfl) ?_
  intro p e s m args below meth c ls hr hk0 hnm S g hl
  have hl : lv_has ls 2 [(0, .ref (gA G 21)), (1, .int x)] := hl
  have hx := S.1
  have hb := S.2.1
  refine lv_aload_n hx hb dX3_poolPartOf_0 rfl (lv_at hl 0 rfl) ?_
  refine lv_iconst (v := 0) hx hb dX3_poolPartOf_1 (by decide) ?_
  refine gMp (k := 0) S g 0 (by decide) q544 dX3_poolPartOf_2 (fun H locs g => ?_)
  rw [show up2 (F) (21) 0 (0) = th0 F 0 from rfl] at g
  refine lv_aload_n hx hb dX3_poolPartOf_5 rfl (lv_at hl 0 rfl) ?_
  refine lv_iload_n hx hb dX3_poolPartOf_6 rfl (lv_at hl 1 rfl) ?_
  refine g_ci (rest := []) g (g_V (n := 1) (As := [.int x]) S g (m_isWalker l G (th0 F 0) o x n (by rw [th0, up2_ne _ _ (by decide)]; exact hn)) (by decide) (cEm G _ o) rfl (lw_V q590 q592 qs22 q4 q593) ⟨rfl, by decide +kernel, by decide +kernel, by decide +kernel⟩ rfl ⟨Nat.le_of_ble_eq_true rfl, Nat.le_of_ble_eq_true rfl⟩ hl.1 (Nat.le_of_ble_eq_true rfl) rfl ⟨Nat.zero_le _, Nat.zero_le _⟩ dX3_poolPartOf_7) (fun H locs g => ?_)
  refine lv_if_eq (tgt := 21) hx hb dX3_poolPartOf_10 (by decide) (fun c_10 => ?_) (fun c9 => absurd (isW_no hn8 hxx) c9)
  refine lv_aload_n hx hb dX3_poolPartOf_21 rfl (lv_at hl 0 rfl) ?_
  refine lv_iconst (v := 1) hx hb dX3_poolPartOf_22 (by decide) ?_
  refine g_ci (rest := []) g (g_V (n := 1) (As := [.int 1]) S g (m_no l G ((th0 F 0)) o 1) (by decide) (cEm G _ o) rfl (lw_V q582 q584 qs21 q4 q585) ⟨rfl, by decide +kernel, by decide +kernel, by decide +kernel⟩ rfl ⟨Nat.le_of_ble_eq_true rfl, Nat.le_of_ble_eq_true rfl⟩ hl.1 (Nat.le_of_ble_eq_true rfl) rfl ⟨Nat.zero_le _, Nat.zero_le _⟩ dX3_poolPartOf_23) (fun H locs g => ?_)
  exact e_i S hr hk0 g rfl (by funext a b; simp only [th0, up2_at]; split <;> rfl) dX3_poolPartOf_26
set_option maxHeartbeats 4000000 in
set_option maxRecDepth 100000 in
theorem m_reinsuredPartOf_ok (l : Launch) (G : gT) (F : Fs) (o : Int64) (j : Nat) (n : Nat) (h : Nat) (hn : F 21 1 = nI n) (hj : j < n) (hn8 : n ≤ 8) (hh : F 25 0 = nI h) (hh2 : h < 2 ^ 29) : MI l yX3_reinsuredPartOf cX3_reinsuredPartOf 2 (some .int) 5 104 [.ref (gA G 21), .int (nI j)] G (F) o (th0 F 0) (reM F j h) := by
  refine mk_G (own := "ShadowPoolModel") (Qs := (fun sz => QI G (th0 F 0) o (reM F j h) sz)) (by decide +kernel) rfl (Nat.le_of_ble_eq_true rfl) ?_
  intro p e s m args below meth c ls hr hk0 hnm S g hl
  have hl : lv_has ls 2 [(0, .ref (gA G 21)), (1, .int (nI j))] := hl
  have hx := S.1
  have hb := S.2.1
  refine lv_aload_n hx hb dX3_reinsuredPartOf_0 rfl (lv_at hl 0 rfl) ?_
  refine lv_iconst (v := 0) hx hb dX3_reinsuredPartOf_1 (by decide) ?_
  refine gMp (k := 0) S g 0 (by decide) q544 dX3_reinsuredPartOf_2 (fun H locs g => ?_)
  rw [show up2 (F) (21) 0 (0) = th0 F 0 from rfl] at g
  refine lv_aload_n hx hb dX3_reinsuredPartOf_5 rfl (lv_at hl 0 rfl) ?_
  refine lv_iload_n hx hb dX3_reinsuredPartOf_6 rfl (lv_at hl 1 rfl) ?_
  refine g_ci (rest := []) g (g_V (n := 1) (As := [.int (nI j)]) S g (m_isWalker l G (th0 F 0) o (nI j) n (by rw [th0, up2_ne _ _ (by decide)]; exact hn)) (by decide) (cEm G _ o) rfl (lw_V q590 q592 qs22 q4 q593) ⟨rfl, by decide +kernel, by decide +kernel, by decide +kernel⟩ rfl ⟨Nat.le_of_ble_eq_true rfl, Nat.le_of_ble_eq_true rfl⟩ hl.1 (Nat.le_of_ble_eq_true rfl) rfl ⟨Nat.zero_le _, Nat.zero_le _⟩ dX3_reinsuredPartOf_7) (fun H locs g => ?_)
  refine lv_if_eq (tgt := 21) hx hb dX3_reinsuredPartOf_10 (by decide) (fun c9 => absurd c9 (by rw [isW_ok hj hn8]; decide)) (fun c_10 => ?_)
  refine lv_aload_n hx hb dX3_reinsuredPartOf_13 rfl (lv_at hl 0 rfl) ?_
  refine lv_iload_n hx hb dX3_reinsuredPartOf_14 rfl (lv_at hl 1 rfl) ?_
  refine g_ci (rest := []) g (g_V (n := 1) (As := [.int (nI j)]) S g (m_reinsured l G ((th0 F 0)) o j h (by omega) (by rw [th0, up2_ne _ _ (by decide)]; exact hh) hh2) (by decide) (cEm G _ o) rfl (lw_V q662 q664 qs34 q4 q665) ⟨rfl, by decide +kernel, by decide +kernel, by decide +kernel⟩ rfl ⟨Nat.le_of_ble_eq_true rfl, Nat.le_of_ble_eq_true rfl⟩ hl.1 (Nat.le_of_ble_eq_true rfl) rfl ⟨Nat.zero_le _, Nat.zero_le _⟩ dX3_reinsuredPartOf_15) (fun H locs g => ?_)
  refine lv_goto (tgt := 26) hx hb dX3_reinsuredPartOf_18 (by decide) ?_
  exact e_i S hr hk0 g rfl rfl dX3_reinsuredPartOf_26
set_option maxHeartbeats 4000000 in
set_option maxRecDepth 100000 in
theorem m_reinsuredPartOf_no (l : Launch) (G : gT) (F : Fs) (o : Int64) (x : Int32) (n : Nat) (hn : F 21 1 = nI n) (hn8 : n ≤ 8) (hxx : x < 0 ∨ nI n ≤ x) : MI l yX3_reinsuredPartOf cX3_reinsuredPartOf 2 (some .int) 2 43 [.ref (gA G 21), .int x] G (F) o (th0 F 1) (0) := by
  refine mk_G (own := "ShadowPoolModel") (Qs := (fun sz => QI G (th0 F 1) o (0) sz)) (by decide +kernel) rfl (Nat.le_of_ble_eq_true rfl) ?_
  intro p e s m args below meth c ls hr hk0 hnm S g hl
  have hl : lv_has ls 2 [(0, .ref (gA G 21)), (1, .int x)] := hl
  have hx := S.1
  have hb := S.2.1
  refine lv_aload_n hx hb dX3_reinsuredPartOf_0 rfl (lv_at hl 0 rfl) ?_
  refine lv_iconst (v := 0) hx hb dX3_reinsuredPartOf_1 (by decide) ?_
  refine gMp (k := 0) S g 0 (by decide) q544 dX3_reinsuredPartOf_2 (fun H locs g => ?_)
  rw [show up2 (F) (21) 0 (0) = th0 F 0 from rfl] at g
  refine lv_aload_n hx hb dX3_reinsuredPartOf_5 rfl (lv_at hl 0 rfl) ?_
  refine lv_iload_n hx hb dX3_reinsuredPartOf_6 rfl (lv_at hl 1 rfl) ?_
  refine g_ci (rest := []) g (g_V (n := 1) (As := [.int x]) S g (m_isWalker l G (th0 F 0) o x n (by rw [th0, up2_ne _ _ (by decide)]; exact hn)) (by decide) (cEm G _ o) rfl (lw_V q590 q592 qs22 q4 q593) ⟨rfl, by decide +kernel, by decide +kernel, by decide +kernel⟩ rfl ⟨Nat.le_of_ble_eq_true rfl, Nat.le_of_ble_eq_true rfl⟩ hl.1 (Nat.le_of_ble_eq_true rfl) rfl ⟨Nat.zero_le _, Nat.zero_le _⟩ dX3_reinsuredPartOf_7) (fun H locs g => ?_)
  refine lv_if_eq (tgt := 21) hx hb dX3_reinsuredPartOf_10 (by decide) (fun c_10 => ?_) (fun c9 => absurd (isW_no hn8 hxx) c9)
  refine lv_aload_n hx hb dX3_reinsuredPartOf_21 rfl (lv_at hl 0 rfl) ?_
  refine lv_iconst (v := 1) hx hb dX3_reinsuredPartOf_22 (by decide) ?_
  refine g_ci (rest := []) g (g_V (n := 1) (As := [.int 1]) S g (m_no l G ((th0 F 0)) o 1) (by decide) (cEm G _ o) rfl (lw_V q582 q584 qs21 q4 q585) ⟨rfl, by decide +kernel, by decide +kernel, by decide +kernel⟩ rfl ⟨Nat.le_of_ble_eq_true rfl, Nat.le_of_ble_eq_true rfl⟩ hl.1 (Nat.le_of_ble_eq_true rfl) rfl ⟨Nat.zero_le _, Nat.zero_le _⟩ dX3_reinsuredPartOf_23) (fun H locs g => ?_)
  exact e_i S hr hk0 g rfl (by funext a b; simp only [th0, up2_at]; split <;> rfl) dX3_reinsuredPartOf_26
set_option maxHeartbeats 4000000 in
set_option maxRecDepth 100000 in
theorem m_ofWalker_ok (l : Launch) (G : gT) (F : Fs) (o : Int64) (j : Nat) (n : Nat) (w : Nat) (hn : F 21 1 = nI n) (hj : j < n) (hn8 : n ≤ 8) (hw : w ≤ 21) : MI l yX3_ofWalker cX3_ofWalker 3 (some .int) 2 43 [.ref (gA G 21), .int (nI j), .int (nI w)] G (F) o (th0 F 0) (F 25 (w + j)) := by
  refine mk_G (own := "ShadowPoolModel") (Qs := (fun sz => QI G (th0 F 0) o (F 25 (w + j)) sz)) (by decide +kernel) rfl (Nat.le_of_ble_eq_true rfl) ?_
  intro p e s m args below meth c ls hr hk0 hnm S g hl
  have hl : lv_has ls 3 [(0, .ref (gA G 21)), (1, .int (nI j)), (2, .int (nI w))] := hl
  have hx := S.1
  have hb := S.2.1
  refine lv_aload_n hx hb dX3_ofWalker_0 rfl (lv_at hl 0 rfl) ?_
  refine lv_iconst (v := 0) hx hb dX3_ofWalker_1 (by decide) ?_
  refine gMp (k := 0) S g 0 (by decide) q544 dX3_ofWalker_2 (fun H locs g => ?_)
  rw [show up2 (F) (21) 0 (0) = th0 F 0 from rfl] at g
  refine lv_aload_n hx hb dX3_ofWalker_5 rfl (lv_at hl 0 rfl) ?_
  refine lv_iload_n hx hb dX3_ofWalker_6 rfl (lv_at hl 1 rfl) ?_
  refine g_ci (rest := []) g (g_V (n := 1) (As := [.int (nI j)]) S g (m_isWalker l G (th0 F 0) o (nI j) n (by rw [th0, up2_ne _ _ (by decide)]; exact hn)) (by decide) (cEm G _ o) rfl (lw_V q590 q592 qs22 q4 q593) ⟨rfl, by decide +kernel, by decide +kernel, by decide +kernel⟩ rfl ⟨Nat.le_of_ble_eq_true rfl, Nat.le_of_ble_eq_true rfl⟩ hl.1 (Nat.le_of_ble_eq_true rfl) rfl ⟨Nat.zero_le _, Nat.zero_le _⟩ dX3_ofWalker_7) (fun H locs g => ?_)
  refine lv_if_eq (tgt := 24) hx hb dX3_ofWalker_10 (by decide) (fun c9 => absurd c9 (by rw [isW_ok hj hn8]; decide)) (fun c_10 => ?_)
  refine lv_aload_n hx hb dX3_ofWalker_13 rfl (lv_at hl 0 rfl) ?_
  refine gMr (k := 0) S g 6 (by decide) q550 dX3_ofWalker_14 ?_
  refine lv_iload_n hx hb dX3_ofWalker_17 rfl (lv_at hl 2 rfl) ?_
  refine lv_iload_n hx hb dX3_ofWalker_18 rfl (lv_at hl 1 rfl) ?_
  refine lv_iadd hx hb dX3_ofWalker_19 ?_
  refine gAn (k := 25) S g (Or.inl rfl) (w + j) (nI_add w j) (by omega) dX3_ofWalker_20 ?_
  refine lv_goto (tgt := 29) hx hb dX3_ofWalker_21 (by decide) ?_
  exact e_i S hr hk0 g rfl rfl dX3_ofWalker_29
set_option maxHeartbeats 4000000 in
set_option maxRecDepth 100000 in
theorem m_ofWalker_no (l : Launch) (G : gT) (F : Fs) (o : Int64) (x : Int32) (n : Nat) (w : Int32) (hn : F 21 1 = nI n) (hn8 : n ≤ 8) (hxx : x < 0 ∨ nI n ≤ x) : MI l yX3_ofWalker cX3_ofWalker 3 (some .int) 2 43 [.ref (gA G 21), .int x, .int w] G (F) o (th0 F 1) (0) := by
  refine mk_G (own := "ShadowPoolModel") (Qs := (fun sz => QI G (th0 F 1) o (0) sz)) (by decide +kernel) rfl (Nat.le_of_ble_eq_true rfl) ?_
  intro p e s m args below meth c ls hr hk0 hnm S g hl
  have hl : lv_has ls 3 [(0, .ref (gA G 21)), (1, .int x), (2, .int w)] := hl
  have hx := S.1
  have hb := S.2.1
  refine lv_aload_n hx hb dX3_ofWalker_0 rfl (lv_at hl 0 rfl) ?_
  refine lv_iconst (v := 0) hx hb dX3_ofWalker_1 (by decide) ?_
  refine gMp (k := 0) S g 0 (by decide) q544 dX3_ofWalker_2 (fun H locs g => ?_)
  rw [show up2 (F) (21) 0 (0) = th0 F 0 from rfl] at g
  refine lv_aload_n hx hb dX3_ofWalker_5 rfl (lv_at hl 0 rfl) ?_
  refine lv_iload_n hx hb dX3_ofWalker_6 rfl (lv_at hl 1 rfl) ?_
  refine g_ci (rest := []) g (g_V (n := 1) (As := [.int x]) S g (m_isWalker l G (th0 F 0) o x n (by rw [th0, up2_ne _ _ (by decide)]; exact hn)) (by decide) (cEm G _ o) rfl (lw_V q590 q592 qs22 q4 q593) ⟨rfl, by decide +kernel, by decide +kernel, by decide +kernel⟩ rfl ⟨Nat.le_of_ble_eq_true rfl, Nat.le_of_ble_eq_true rfl⟩ hl.1 (Nat.le_of_ble_eq_true rfl) rfl ⟨Nat.zero_le _, Nat.zero_le _⟩ dX3_ofWalker_7) (fun H locs g => ?_)
  refine lv_if_eq (tgt := 24) hx hb dX3_ofWalker_10 (by decide) (fun c_10 => ?_) (fun c9 => absurd (isW_no hn8 hxx) c9)
  refine lv_aload_n hx hb dX3_ofWalker_24 rfl (lv_at hl 0 rfl) ?_
  refine lv_iconst (v := 1) hx hb dX3_ofWalker_25 (by decide) ?_
  refine g_ci (rest := []) g (g_V (n := 1) (As := [.int 1]) S g (m_no l G ((th0 F 0)) o 1) (by decide) (cEm G _ o) rfl (lw_V q582 q584 qs21 q4 q585) ⟨rfl, by decide +kernel, by decide +kernel, by decide +kernel⟩ rfl ⟨Nat.le_of_ble_eq_true rfl, Nat.le_of_ble_eq_true rfl⟩ hl.1 (Nat.le_of_ble_eq_true rfl) rfl ⟨Nat.zero_le _, Nat.zero_le _⟩ dX3_ofWalker_26) (fun H locs g => ?_)
  exact e_i S hr hk0 g rfl (by funext a b; simp only [th0, up2_at]; split <;> rfl) dX3_ofWalker_29
set_option maxHeartbeats 4000000 in
set_option maxRecDepth 100000 in
theorem m_netOf_ok (l : Launch) (G : gT) (F : Fs) (o : Int64) (j : Nat) (n : Nat) (hn : F 21 1 = nI n) (hj : j < n) (hn8 : n ≤ 8) : MI l yX3_netOf cX3_netOf 2 (some .int) 3 65 [.ref (gA G 21), .int (nI j)] G (F) o (th0 F 0) (F 25 (5 + j)) := by
  refine mk_G (own := "ShadowPoolModel") (Qs := (fun sz => QI G (th0 F 0) o (F 25 (5 + j)) sz)) (by decide +kernel) rfl (Nat.le_of_ble_eq_true rfl) ?_
  intro p e s m args below meth c ls hr hk0 hnm S g hl
  have hl : lv_has ls 2 [(0, .ref (gA G 21)), (1, .int (nI j))] := hl
  have hx := S.1
  have hb := S.2.1
  refine lv_aload_n hx hb dX3_netOf_0 rfl (lv_at hl 0 rfl) ?_
  refine lv_iload_n hx hb dX3_netOf_1 rfl (lv_at hl 1 rfl) ?_
  refine lv_iconst (v := 5) hx hb dX3_netOf_2 (by decide) ?_
  refine g_ci (rest := []) g (g_V (n := 2) (As := [.int (nI j), .int 5]) S g (m_ofWalker_ok l G (F) o j n 5 hn hj hn8 (by decide)) (by decide) (cEm G _ o) rfl (lw_V q702 q704 qs36 q4 q705) ⟨rfl, by decide +kernel, by decide +kernel, by decide +kernel⟩ rfl ⟨Nat.le_of_ble_eq_true rfl, Nat.le_of_ble_eq_true rfl⟩ hl.1 (Nat.le_of_ble_eq_true rfl) rfl ⟨Nat.zero_le _, Nat.zero_le _⟩ dX3_netOf_3) (fun H locs g => ?_)
  exact e_i S hr hk0 g rfl rfl dX3_netOf_6
set_option maxHeartbeats 4000000 in
set_option maxRecDepth 100000 in
theorem m_netOf_no (l : Launch) (G : gT) (F : Fs) (o : Int64) (x : Int32) (n : Nat) (hn : F 21 1 = nI n) (hn8 : n ≤ 8) (hxx : x < 0 ∨ nI n ≤ x) : MI l yX3_netOf cX3_netOf 2 (some .int) 3 65 [.ref (gA G 21), .int x] G (F) o (th0 F 1) (0) := by
  refine mk_G (own := "ShadowPoolModel") (Qs := (fun sz => QI G (th0 F 1) o (0) sz)) (by decide +kernel) rfl (Nat.le_of_ble_eq_true rfl) ?_
  intro p e s m args below meth c ls hr hk0 hnm S g hl
  have hl : lv_has ls 2 [(0, .ref (gA G 21)), (1, .int x)] := hl
  have hx := S.1
  have hb := S.2.1
  refine lv_aload_n hx hb dX3_netOf_0 rfl (lv_at hl 0 rfl) ?_
  refine lv_iload_n hx hb dX3_netOf_1 rfl (lv_at hl 1 rfl) ?_
  refine lv_iconst (v := 5) hx hb dX3_netOf_2 (by decide) ?_
  refine g_ci (rest := []) g (g_V (n := 2) (As := [.int x, .int 5]) S g (m_ofWalker_no l G (F) o x n 5 hn hn8 hxx) (by decide) (cEm G _ o) rfl (lw_V q702 q704 qs36 q4 q705) ⟨rfl, by decide +kernel, by decide +kernel, by decide +kernel⟩ rfl ⟨Nat.le_of_ble_eq_true rfl, Nat.le_of_ble_eq_true rfl⟩ hl.1 (Nat.le_of_ble_eq_true rfl) rfl ⟨Nat.zero_le _, Nat.zero_le _⟩ dX3_netOf_3) (fun H locs g => ?_)
  exact e_i S hr hk0 g rfl rfl dX3_netOf_6
set_option maxHeartbeats 4000000 in
set_option maxRecDepth 100000 in
theorem m_wobbleOf_ok (l : Launch) (G : gT) (F : Fs) (o : Int64) (j : Nat) (n : Nat) (hn : F 21 1 = nI n) (hj : j < n) (hn8 : n ≤ 8) : MI l yX3_wobbleOf cX3_wobbleOf 2 (some .int) 3 65 [.ref (gA G 21), .int (nI j)] G (F) o (th0 F 0) (F 25 (13 + j)) := by
  refine mk_G (own := "ShadowPoolModel") (Qs := (fun sz => QI G (th0 F 0) o (F 25 (13 + j)) sz)) (by decide +kernel) rfl (Nat.le_of_ble_eq_true rfl) ?_
  intro p e s m args below meth c ls hr hk0 hnm S g hl
  have hl : lv_has ls 2 [(0, .ref (gA G 21)), (1, .int (nI j))] := hl
  have hx := S.1
  have hb := S.2.1
  refine lv_aload_n hx hb dX3_wobbleOf_0 rfl (lv_at hl 0 rfl) ?_
  refine lv_iload_n hx hb dX3_wobbleOf_1 rfl (lv_at hl 1 rfl) ?_
  refine lv_bipush (v := 13) hx hb dX3_wobbleOf_2 (by decide) ?_
  refine g_ci (rest := []) g (g_V (n := 2) (As := [.int (nI j), .int 13]) S g (m_ofWalker_ok l G (F) o j n 13 hn hj hn8 (by decide)) (by decide) (cEm G _ o) rfl (lw_V q702 q704 qs36 q4 q705) ⟨rfl, by decide +kernel, by decide +kernel, by decide +kernel⟩ rfl ⟨Nat.le_of_ble_eq_true rfl, Nat.le_of_ble_eq_true rfl⟩ hl.1 (Nat.le_of_ble_eq_true rfl) rfl ⟨Nat.zero_le _, Nat.zero_le _⟩ dX3_wobbleOf_4) (fun H locs g => ?_)
  exact e_i S hr hk0 g rfl rfl dX3_wobbleOf_7
set_option maxHeartbeats 4000000 in
set_option maxRecDepth 100000 in
theorem m_wobbleOf_no (l : Launch) (G : gT) (F : Fs) (o : Int64) (x : Int32) (n : Nat) (hn : F 21 1 = nI n) (hn8 : n ≤ 8) (hxx : x < 0 ∨ nI n ≤ x) : MI l yX3_wobbleOf cX3_wobbleOf 2 (some .int) 3 65 [.ref (gA G 21), .int x] G (F) o (th0 F 1) (0) := by
  refine mk_G (own := "ShadowPoolModel") (Qs := (fun sz => QI G (th0 F 1) o (0) sz)) (by decide +kernel) rfl (Nat.le_of_ble_eq_true rfl) ?_
  intro p e s m args below meth c ls hr hk0 hnm S g hl
  have hl : lv_has ls 2 [(0, .ref (gA G 21)), (1, .int x)] := hl
  have hx := S.1
  have hb := S.2.1
  refine lv_aload_n hx hb dX3_wobbleOf_0 rfl (lv_at hl 0 rfl) ?_
  refine lv_iload_n hx hb dX3_wobbleOf_1 rfl (lv_at hl 1 rfl) ?_
  refine lv_bipush (v := 13) hx hb dX3_wobbleOf_2 (by decide) ?_
  refine g_ci (rest := []) g (g_V (n := 2) (As := [.int x, .int 13]) S g (m_ofWalker_no l G (F) o x n 13 hn hn8 hxx) (by decide) (cEm G _ o) rfl (lw_V q702 q704 qs36 q4 q705) ⟨rfl, by decide +kernel, by decide +kernel, by decide +kernel⟩ rfl ⟨Nat.le_of_ble_eq_true rfl, Nat.le_of_ble_eq_true rfl⟩ hl.1 (Nat.le_of_ble_eq_true rfl) rfl ⟨Nat.zero_le _, Nat.zero_le _⟩ dX3_wobbleOf_4) (fun H locs g => ?_)
  exact e_i S hr hk0 g rfl rfl dX3_wobbleOf_7
set_option maxHeartbeats 4000000 in
set_option maxRecDepth 100000 in
theorem m_fallsOf_ok (l : Launch) (G : gT) (F : Fs) (o : Int64) (j : Nat) (n : Nat) (hn : F 21 1 = nI n) (hj : j < n) (hn8 : n ≤ 8) : MI l yX3_fallsOf cX3_fallsOf 2 (some .int) 3 65 [.ref (gA G 21), .int (nI j)] G (F) o (th0 F 0) (F 25 (21 + j)) := by
  refine mk_G (own := "ShadowPoolModel") (Qs := (fun sz => QI G (th0 F 0) o (F 25 (21 + j)) sz)) (by decide +kernel) rfl (Nat.le_of_ble_eq_true rfl) ?_
  intro p e s m args below meth c ls hr hk0 hnm S g hl
  have hl : lv_has ls 2 [(0, .ref (gA G 21)), (1, .int (nI j))] := hl
  have hx := S.1
  have hb := S.2.1
  refine lv_aload_n hx hb dX3_fallsOf_0 rfl (lv_at hl 0 rfl) ?_
  refine lv_iload_n hx hb dX3_fallsOf_1 rfl (lv_at hl 1 rfl) ?_
  refine lv_bipush (v := 21) hx hb dX3_fallsOf_2 (by decide) ?_
  refine g_ci (rest := []) g (g_V (n := 2) (As := [.int (nI j), .int 21]) S g (m_ofWalker_ok l G (F) o j n 21 hn hj hn8 (by decide)) (by decide) (cEm G _ o) rfl (lw_V q702 q704 qs36 q4 q705) ⟨rfl, by decide +kernel, by decide +kernel, by decide +kernel⟩ rfl ⟨Nat.le_of_ble_eq_true rfl, Nat.le_of_ble_eq_true rfl⟩ hl.1 (Nat.le_of_ble_eq_true rfl) rfl ⟨Nat.zero_le _, Nat.zero_le _⟩ dX3_fallsOf_4) (fun H locs g => ?_)
  exact e_i S hr hk0 g rfl rfl dX3_fallsOf_7
set_option maxHeartbeats 4000000 in
set_option maxRecDepth 100000 in
theorem m_fallsOf_no (l : Launch) (G : gT) (F : Fs) (o : Int64) (x : Int32) (n : Nat) (hn : F 21 1 = nI n) (hn8 : n ≤ 8) (hxx : x < 0 ∨ nI n ≤ x) : MI l yX3_fallsOf cX3_fallsOf 2 (some .int) 3 65 [.ref (gA G 21), .int x] G (F) o (th0 F 1) (0) := by
  refine mk_G (own := "ShadowPoolModel") (Qs := (fun sz => QI G (th0 F 1) o (0) sz)) (by decide +kernel) rfl (Nat.le_of_ble_eq_true rfl) ?_
  intro p e s m args below meth c ls hr hk0 hnm S g hl
  have hl : lv_has ls 2 [(0, .ref (gA G 21)), (1, .int x)] := hl
  have hx := S.1
  have hb := S.2.1
  refine lv_aload_n hx hb dX3_fallsOf_0 rfl (lv_at hl 0 rfl) ?_
  refine lv_iload_n hx hb dX3_fallsOf_1 rfl (lv_at hl 1 rfl) ?_
  refine lv_bipush (v := 21) hx hb dX3_fallsOf_2 (by decide) ?_
  refine g_ci (rest := []) g (g_V (n := 2) (As := [.int x, .int 21]) S g (m_ofWalker_no l G (F) o x n 21 hn hn8 hxx) (by decide) (cEm G _ o) rfl (lw_V q702 q704 qs36 q4 q705) ⟨rfl, by decide +kernel, by decide +kernel, by decide +kernel⟩ rfl ⟨Nat.le_of_ble_eq_true rfl, Nat.le_of_ble_eq_true rfl⟩ hl.1 (Nat.le_of_ble_eq_true rfl) rfl ⟨Nat.zero_le _, Nat.zero_le _⟩ dX3_fallsOf_4) (fun H locs g => ?_)
  exact e_i S hr hk0 g rfl rfl dX3_fallsOf_7
