set_option maxHeartbeats 4000000 in
set_option maxRecDepth 100000 in
theorem c_netOf_ok (l : Launch) (G : gT) (F : Fs) (o : Int64) (j : Nat) (n : Nat) (hn : F 1 6 = nI n) (hj : j < n) (hn8 : n ≤ 8) : MI l yX2_netOf cX2_netOf 3 (some .int) 1 21 [.ref (gA G 0), .int (nI j)] G (F) o (F) (F (wb 1 j) 2) := by
  refine mk_G (own := "ShadowPool") (Qs := (fun sz => QI G (F) o (F (wb 1 j) 2) sz)) (by decide +kernel) rfl (Nat.le_of_ble_eq_true rfl) ?_
  intro p e s m args below meth c ls hr hk0 hnm S g hl
  have hl : lv_has ls 3 [(0, .ref (gA G 0)), (1, .int (nI j))] := hl
  have hx := S.1
  have hb := S.2.1
  refine lv_aload_n hx hb dX2_netOf_0 rfl (lv_at hl 0 rfl) ?_
  refine gP (k := 0) S g 0 (by decide) q90 dX2_netOf_1 ?_
  refine lv_iload_n hx hb dX2_netOf_4 rfl (lv_at hl 1 rfl) ?_
  refine g_cn (rest := []) g rfl (g_VN (n := 1) (As := [.int (nI j)]) S g (c_find_ok l G (F) o 1 j n (Or.inl rfl) hn hj hn8) (by decide) (cEb G _ o (Or.inl rfl)) rfl qn272 q196 qs5 q2 q197 ⟨by decide +kernel, by decide +kernel, by decide +kernel⟩ rfl ⟨Nat.le_of_ble_eq_true rfl, Nat.le_of_ble_eq_true rfl⟩ hl.1 (Nat.le_of_ble_eq_true rfl) rfl ⟨Nat.zero_le _, Nat.zero_le _⟩ dX2_netOf_5) (fun H locs g => ?_)
  refine lv_astore_n (lv' := [(2, .ref (gA G (wb 1 j))), (0, .ref (gA G 0)), (1, .int (nI j))]) hx hb dX2_netOf_8 rfl hl (by decide) rfl (fun ls hl => ?_)
  refine lv_aload_n hx hb dX2_netOf_9 rfl (lv_at hl 0 rfl) ?_
  refine lv_ifnonnull (tgt := 23) hx hb dX2_netOf_10 (by decide) ?_
  refine lv_aload_n hx hb dX2_netOf_23 rfl (lv_at hl 0 rfl) ?_
  refine gWN (k := wb 1 j) S g (wb_lo (Or.inl rfl) _) (wb_hi (Or.inl rfl) (by omega)) 2 (by decide) qn36 dX2_netOf_24 ?_
  exact e_i S hr hk0 g rfl rfl dX2_netOf_27
set_option maxHeartbeats 4000000 in
set_option maxRecDepth 100000 in
theorem x_netOf (l : Launch) (hfl : l.stackTraces = false) (G : gT) (F : Fs) (o : Int64) (x : Int32) (n : Nat) (hn : F 1 6 = nI n) (hxx : x < 0 ∨ nI n ≤ x) : MX l yX2_netOf cX2_netOf 3 (some .int) 6 90 [.ref (gA G 0), .int x] G (F) o xIB := by
  refine mk_X (own := "ShadowPool") (by decide +kernel) rfl (Nat.le_of_ble_eq_true rfl) ?_
  intro p e s m args below meth c ls hno hk0 S g hl
  have hl : lv_has ls 3 [(0, .ref (gA G 0)), (1, .int x)] := hl
  have hx := S.1
  have hb := S.2.1
  refine lv_aload_n hx hb dX2_netOf_0 rfl (lv_at hl 0 rfl) ?_
  refine gP (k := 0) S g 0 (by decide) q90 dX2_netOf_1 ?_
  refine lv_iload_n hx hb dX2_netOf_4 rfl (lv_at hl 1 rfl) ?_
  refine g_cn (rest := []) g rfl (g_VN (n := 1) (As := [.int x]) S g (c_find_no l G (F) o 1 x n (Or.inl rfl) hn hxx) (by decide) (cEb G _ o (Or.inl rfl)) rfl qn272 q196 qs5 q2 q197 ⟨by decide +kernel, by decide +kernel, by decide +kernel⟩ rfl ⟨Nat.le_of_ble_eq_true rfl, Nat.le_of_ble_eq_true rfl⟩ hl.1 (Nat.le_of_ble_eq_true rfl) rfl ⟨Nat.zero_le _, Nat.zero_le _⟩ dX2_netOf_5) (fun H locs g => ?_)
  refine lv_astore_nN (lv' := [(2, .null), (0, .ref (gA G 0)), (1, .int x)]) hx hb dX2_netOf_8 rfl hl (by decide) rfl (fun ls hl => ?_)
  refine lv_aload_nN hx hb dX2_netOf_9 rfl (lv_at hl 0 rfl) ?_
  refine lv_ifnonnullN hx hb dX2_netOf_10 ?_
  exact e_x (text := "no such walker") hfl S hno hk0 g hl.1 g.2.2.2.2.2.2.2.2.2.2.2.1 (by decide +kernel) q273 q10 (by decide +kernel) atIB ngIB otIB dX2_netOf_13 dX2_netOf_16 dX2_netOf_17 dX2_netOf_19 dX2_netOf_22 (Nat.le_of_ble_eq_true rfl) (Nat.le_of_ble_eq_true rfl) (Nat.le_refl _) (Nat.le_refl _)
set_option maxHeartbeats 4000000 in
set_option maxRecDepth 100000 in
theorem c_wobbleOf_ok (l : Launch) (G : gT) (F : Fs) (o : Int64) (j : Nat) (n : Nat) (hn : F 1 6 = nI n) (hj : j < n) (hn8 : n ≤ 8) : MI l yX2_wobbleOf cX2_wobbleOf 3 (some .int) 1 21 [.ref (gA G 0), .int (nI j)] G (F) o (F) (F (wb 1 j) 3) := by
  refine mk_G (own := "ShadowPool") (Qs := (fun sz => QI G (F) o (F (wb 1 j) 3) sz)) (by decide +kernel) rfl (Nat.le_of_ble_eq_true rfl) ?_
  intro p e s m args below meth c ls hr hk0 hnm S g hl
  have hl : lv_has ls 3 [(0, .ref (gA G 0)), (1, .int (nI j))] := hl
  have hx := S.1
  have hb := S.2.1
  refine lv_aload_n hx hb dX2_wobbleOf_0 rfl (lv_at hl 0 rfl) ?_
  refine gP (k := 0) S g 0 (by decide) q90 dX2_wobbleOf_1 ?_
  refine lv_iload_n hx hb dX2_wobbleOf_4 rfl (lv_at hl 1 rfl) ?_
  refine g_cn (rest := []) g rfl (g_VN (n := 1) (As := [.int (nI j)]) S g (c_find_ok l G (F) o 1 j n (Or.inl rfl) hn hj hn8) (by decide) (cEb G _ o (Or.inl rfl)) rfl qn272 q196 qs5 q2 q197 ⟨by decide +kernel, by decide +kernel, by decide +kernel⟩ rfl ⟨Nat.le_of_ble_eq_true rfl, Nat.le_of_ble_eq_true rfl⟩ hl.1 (Nat.le_of_ble_eq_true rfl) rfl ⟨Nat.zero_le _, Nat.zero_le _⟩ dX2_wobbleOf_5) (fun H locs g => ?_)
  refine lv_astore_n (lv' := [(2, .ref (gA G (wb 1 j))), (0, .ref (gA G 0)), (1, .int (nI j))]) hx hb dX2_wobbleOf_8 rfl hl (by decide) rfl (fun ls hl => ?_)
  refine lv_aload_n hx hb dX2_wobbleOf_9 rfl (lv_at hl 0 rfl) ?_
  refine lv_ifnonnull (tgt := 23) hx hb dX2_wobbleOf_10 (by decide) ?_
  refine lv_aload_n hx hb dX2_wobbleOf_23 rfl (lv_at hl 0 rfl) ?_
  refine gWN (k := wb 1 j) S g (wb_lo (Or.inl rfl) _) (wb_hi (Or.inl rfl) (by omega)) 3 (by decide) qn38 dX2_wobbleOf_24 ?_
  exact e_i S hr hk0 g rfl rfl dX2_wobbleOf_27
set_option maxHeartbeats 4000000 in
set_option maxRecDepth 100000 in
theorem x_wobbleOf (l : Launch) (hfl : l.stackTraces = false) (G : gT) (F : Fs) (o : Int64) (x : Int32) (n : Nat) (hn : F 1 6 = nI n) (hxx : x < 0 ∨ nI n ≤ x) : MX l yX2_wobbleOf cX2_wobbleOf 3 (some .int) 6 90 [.ref (gA G 0), .int x] G (F) o xIB := by
  refine mk_X (own := "ShadowPool") (by decide +kernel) rfl (Nat.le_of_ble_eq_true rfl) ?_
  intro p e s m args below meth c ls hno hk0 S g hl
  have hl : lv_has ls 3 [(0, .ref (gA G 0)), (1, .int x)] := hl
  have hx := S.1
  have hb := S.2.1
  refine lv_aload_n hx hb dX2_wobbleOf_0 rfl (lv_at hl 0 rfl) ?_
  refine gP (k := 0) S g 0 (by decide) q90 dX2_wobbleOf_1 ?_
  refine lv_iload_n hx hb dX2_wobbleOf_4 rfl (lv_at hl 1 rfl) ?_
  refine g_cn (rest := []) g rfl (g_VN (n := 1) (As := [.int x]) S g (c_find_no l G (F) o 1 x n (Or.inl rfl) hn hxx) (by decide) (cEb G _ o (Or.inl rfl)) rfl qn272 q196 qs5 q2 q197 ⟨by decide +kernel, by decide +kernel, by decide +kernel⟩ rfl ⟨Nat.le_of_ble_eq_true rfl, Nat.le_of_ble_eq_true rfl⟩ hl.1 (Nat.le_of_ble_eq_true rfl) rfl ⟨Nat.zero_le _, Nat.zero_le _⟩ dX2_wobbleOf_5) (fun H locs g => ?_)
  refine lv_astore_nN (lv' := [(2, .null), (0, .ref (gA G 0)), (1, .int x)]) hx hb dX2_wobbleOf_8 rfl hl (by decide) rfl (fun ls hl => ?_)
  refine lv_aload_nN hx hb dX2_wobbleOf_9 rfl (lv_at hl 0 rfl) ?_
  refine lv_ifnonnullN hx hb dX2_wobbleOf_10 ?_
  exact e_x (text := "no such walker") hfl S hno hk0 g hl.1 g.2.2.2.2.2.2.2.2.2.2.2.1 (by decide +kernel) q273 q10 (by decide +kernel) atIB ngIB otIB dX2_wobbleOf_13 dX2_wobbleOf_16 dX2_wobbleOf_17 dX2_wobbleOf_19 dX2_wobbleOf_22 (Nat.le_of_ble_eq_true rfl) (Nat.le_of_ble_eq_true rfl) (Nat.le_refl _) (Nat.le_refl _)
set_option maxHeartbeats 4000000 in
set_option maxRecDepth 100000 in
theorem c_fallsOf_ok (l : Launch) (G : gT) (F : Fs) (o : Int64) (j : Nat) (n : Nat) (hn : F 1 6 = nI n) (hj : j < n) (hn8 : n ≤ 8) : MI l yX2_fallsOf cX2_fallsOf 3 (some .int) 1 21 [.ref (gA G 0), .int (nI j)] G (F) o (F) (F (wb 1 j) 4) := by
  refine mk_G (own := "ShadowPool") (Qs := (fun sz => QI G (F) o (F (wb 1 j) 4) sz)) (by decide +kernel) rfl (Nat.le_of_ble_eq_true rfl) ?_
  intro p e s m args below meth c ls hr hk0 hnm S g hl
  have hl : lv_has ls 3 [(0, .ref (gA G 0)), (1, .int (nI j))] := hl
  have hx := S.1
  have hb := S.2.1
  refine lv_aload_n hx hb dX2_fallsOf_0 rfl (lv_at hl 0 rfl) ?_
  refine gP (k := 0) S g 0 (by decide) q90 dX2_fallsOf_1 ?_
  refine lv_iload_n hx hb dX2_fallsOf_4 rfl (lv_at hl 1 rfl) ?_
  refine g_cn (rest := []) g rfl (g_VN (n := 1) (As := [.int (nI j)]) S g (c_find_ok l G (F) o 1 j n (Or.inl rfl) hn hj hn8) (by decide) (cEb G _ o (Or.inl rfl)) rfl qn272 q196 qs5 q2 q197 ⟨by decide +kernel, by decide +kernel, by decide +kernel⟩ rfl ⟨Nat.le_of_ble_eq_true rfl, Nat.le_of_ble_eq_true rfl⟩ hl.1 (Nat.le_of_ble_eq_true rfl) rfl ⟨Nat.zero_le _, Nat.zero_le _⟩ dX2_fallsOf_5) (fun H locs g => ?_)
  refine lv_astore_n (lv' := [(2, .ref (gA G (wb 1 j))), (0, .ref (gA G 0)), (1, .int (nI j))]) hx hb dX2_fallsOf_8 rfl hl (by decide) rfl (fun ls hl => ?_)
  refine lv_aload_n hx hb dX2_fallsOf_9 rfl (lv_at hl 0 rfl) ?_
  refine lv_ifnonnull (tgt := 23) hx hb dX2_fallsOf_10 (by decide) ?_
  refine lv_aload_n hx hb dX2_fallsOf_23 rfl (lv_at hl 0 rfl) ?_
  refine gWN (k := wb 1 j) S g (wb_lo (Or.inl rfl) _) (wb_hi (Or.inl rfl) (by omega)) 4 (by decide) qn41 dX2_fallsOf_24 ?_
  exact e_i S hr hk0 g rfl rfl dX2_fallsOf_27
set_option maxHeartbeats 4000000 in
set_option maxRecDepth 100000 in
theorem x_fallsOf (l : Launch) (hfl : l.stackTraces = false) (G : gT) (F : Fs) (o : Int64) (x : Int32) (n : Nat) (hn : F 1 6 = nI n) (hxx : x < 0 ∨ nI n ≤ x) : MX l yX2_fallsOf cX2_fallsOf 3 (some .int) 6 90 [.ref (gA G 0), .int x] G (F) o xIB := by
  refine mk_X (own := "ShadowPool") (by decide +kernel) rfl (Nat.le_of_ble_eq_true rfl) ?_
  intro p e s m args below meth c ls hno hk0 S g hl
  have hl : lv_has ls 3 [(0, .ref (gA G 0)), (1, .int x)] := hl
  have hx := S.1
  have hb := S.2.1
  refine lv_aload_n hx hb dX2_fallsOf_0 rfl (lv_at hl 0 rfl) ?_
  refine gP (k := 0) S g 0 (by decide) q90 dX2_fallsOf_1 ?_
  refine lv_iload_n hx hb dX2_fallsOf_4 rfl (lv_at hl 1 rfl) ?_
  refine g_cn (rest := []) g rfl (g_VN (n := 1) (As := [.int x]) S g (c_find_no l G (F) o 1 x n (Or.inl rfl) hn hxx) (by decide) (cEb G _ o (Or.inl rfl)) rfl qn272 q196 qs5 q2 q197 ⟨by decide +kernel, by decide +kernel, by decide +kernel⟩ rfl ⟨Nat.le_of_ble_eq_true rfl, Nat.le_of_ble_eq_true rfl⟩ hl.1 (Nat.le_of_ble_eq_true rfl) rfl ⟨Nat.zero_le _, Nat.zero_le _⟩ dX2_fallsOf_5) (fun H locs g => ?_)
  refine lv_astore_nN (lv' := [(2, .null), (0, .ref (gA G 0)), (1, .int x)]) hx hb dX2_fallsOf_8 rfl hl (by decide) rfl (fun ls hl => ?_)
  refine lv_aload_nN hx hb dX2_fallsOf_9 rfl (lv_at hl 0 rfl) ?_
  refine lv_ifnonnullN hx hb dX2_fallsOf_10 ?_
  exact e_x (text := "no such walker") hfl S hno hk0 g hl.1 g.2.2.2.2.2.2.2.2.2.2.2.1 (by decide +kernel) q273 q10 (by decide +kernel) atIB ngIB otIB dX2_fallsOf_13 dX2_fallsOf_16 dX2_fallsOf_17 dX2_fallsOf_19 dX2_fallsOf_22 (Nat.le_of_ble_eq_true rfl) (Nat.le_of_ble_eq_true rfl) (Nat.le_refl _) (Nat.le_refl _)
set_option maxHeartbeats 4000000 in
set_option maxRecDepth 100000 in
theorem c_isMember_ok (l : Launch) (G : gT) (F : Fs) (o : Int64) (j : Nat) (n : Nat) (hn : F 1 6 = nI n) (hj : j < n) (hn8 : n ≤ 8) (hm : F (wb 1 j) 5 = 0 ∨ F (wb 1 j) 5 = 1) : MI l yX2_isMember cX2_isMember 3 (some .boolean) 1 21 [.ref (gA G 0), .int (nI j)] G (F) o (F) (F (wb 1 j) 5) := by
  refine mk_G (own := "ShadowPool") (Qs := (fun sz => QI G (F) o (F (wb 1 j) 5) sz)) (by decide +kernel) rfl (Nat.le_of_ble_eq_true rfl) ?_
  intro p e s m args below meth c ls hr hk0 hnm S g hl
  have hl : lv_has ls 3 [(0, .ref (gA G 0)), (1, .int (nI j))] := hl
  have hx := S.1
  have hb := S.2.1
  refine lv_aload_n hx hb dX2_isMember_0 rfl (lv_at hl 0 rfl) ?_
  refine gP (k := 0) S g 0 (by decide) q90 dX2_isMember_1 ?_
  refine lv_iload_n hx hb dX2_isMember_4 rfl (lv_at hl 1 rfl) ?_
  refine g_cn (rest := []) g rfl (g_VN (n := 1) (As := [.int (nI j)]) S g (c_find_ok l G (F) o 1 j n (Or.inl rfl) hn hj hn8) (by decide) (cEb G _ o (Or.inl rfl)) rfl qn272 q196 qs5 q2 q197 ⟨by decide +kernel, by decide +kernel, by decide +kernel⟩ rfl ⟨Nat.le_of_ble_eq_true rfl, Nat.le_of_ble_eq_true rfl⟩ hl.1 (Nat.le_of_ble_eq_true rfl) rfl ⟨Nat.zero_le _, Nat.zero_le _⟩ dX2_isMember_5) (fun H locs g => ?_)
  refine lv_astore_n (lv' := [(2, .ref (gA G (wb 1 j))), (0, .ref (gA G 0)), (1, .int (nI j))]) hx hb dX2_isMember_8 rfl hl (by decide) rfl (fun ls hl => ?_)
  refine lv_aload_n hx hb dX2_isMember_9 rfl (lv_at hl 0 rfl) ?_
  refine lv_ifnonnull (tgt := 23) hx hb dX2_isMember_10 (by decide) ?_
  refine lv_aload_n hx hb dX2_isMember_23 rfl (lv_at hl 0 rfl) ?_
  refine gWN (k := wb 1 j) S g (wb_lo (Or.inl rfl) _) (wb_hi (Or.inl rfl) (by omega)) 5 (by decide) qn43 dX2_isMember_24 ?_
  exact e_z S hr hk0 g (z01 hm) rfl rfl dX2_isMember_27
set_option maxHeartbeats 4000000 in
set_option maxRecDepth 100000 in
theorem x_isMember (l : Launch) (hfl : l.stackTraces = false) (G : gT) (F : Fs) (o : Int64) (x : Int32) (n : Nat) (hn : F 1 6 = nI n) (hxx : x < 0 ∨ nI n ≤ x) : MX l yX2_isMember cX2_isMember 3 (some .boolean) 6 90 [.ref (gA G 0), .int x] G (F) o xIB := by
  refine mk_X (own := "ShadowPool") (by decide +kernel) rfl (Nat.le_of_ble_eq_true rfl) ?_
  intro p e s m args below meth c ls hno hk0 S g hl
  have hl : lv_has ls 3 [(0, .ref (gA G 0)), (1, .int x)] := hl
  have hx := S.1
  have hb := S.2.1
  refine lv_aload_n hx hb dX2_isMember_0 rfl (lv_at hl 0 rfl) ?_
  refine gP (k := 0) S g 0 (by decide) q90 dX2_isMember_1 ?_
  refine lv_iload_n hx hb dX2_isMember_4 rfl (lv_at hl 1 rfl) ?_
  refine g_cn (rest := []) g rfl (g_VN (n := 1) (As := [.int x]) S g (c_find_no l G (F) o 1 x n (Or.inl rfl) hn hxx) (by decide) (cEb G _ o (Or.inl rfl)) rfl qn272 q196 qs5 q2 q197 ⟨by decide +kernel, by decide +kernel, by decide +kernel⟩ rfl ⟨Nat.le_of_ble_eq_true rfl, Nat.le_of_ble_eq_true rfl⟩ hl.1 (Nat.le_of_ble_eq_true rfl) rfl ⟨Nat.zero_le _, Nat.zero_le _⟩ dX2_isMember_5) (fun H locs g => ?_)
  refine lv_astore_nN (lv' := [(2, .null), (0, .ref (gA G 0)), (1, .int x)]) hx hb dX2_isMember_8 rfl hl (by decide) rfl (fun ls hl => ?_)
  refine lv_aload_nN hx hb dX2_isMember_9 rfl (lv_at hl 0 rfl) ?_
  refine lv_ifnonnullN hx hb dX2_isMember_10 ?_
  exact e_x (text := "no such walker") hfl S hno hk0 g hl.1 g.2.2.2.2.2.2.2.2.2.2.2.1 (by decide +kernel) q273 q10 (by decide +kernel) atIB ngIB otIB dX2_isMember_13 dX2_isMember_16 dX2_isMember_17 dX2_isMember_19 dX2_isMember_22 (Nat.le_of_ble_eq_true rfl) (Nat.le_of_ble_eq_true rfl) (Nat.le_refl _) (Nat.le_refl _)
set_option maxHeartbeats 4000000 in
set_option maxRecDepth 100000 in
theorem c_shadowOf_ok (l : Launch) (G : gT) (F : Fs) (o : Int64) (j : Nat) (n : Nat) (h : Nat) (hn : F 1 6 = nI n) (hj : j < n) (hn8 : n ≤ 8) (hh : F 1 0 = nI h) (hh2 : h < 2 ^ 29) : MI l yX2_shadowOf cX2_shadowOf 3 (some .int) 3 62 [.ref (gA G 0), .int (nI j)] G (F) o (F) (shI (F (wb 1 j) 0) (suH h)) := by
  refine mk_G (own := "ShadowPool") (Qs := (fun sz => QI G (F) o (shI (F (wb 1 j) 0) (suH h)) sz)) (by decide +kernel) rfl (Nat.le_of_ble_eq_true rfl) ?_
  intro p e s m args below meth c ls hr hk0 hnm S g hl
  have hl : lv_has ls 3 [(0, .ref (gA G 0)), (1, .int (nI j))] := hl
  have hx := S.1
  have hb := S.2.1
  refine lv_aload_n hx hb dX2_shadowOf_0 rfl (lv_at hl 0 rfl) ?_
  refine gP (k := 0) S g 0 (by decide) q90 dX2_shadowOf_1 ?_
  refine lv_iload_n hx hb dX2_shadowOf_4 rfl (lv_at hl 1 rfl) ?_
  refine g_cn (rest := []) g rfl (g_VN (n := 1) (As := [.int (nI j)]) S g (c_find_ok l G (F) o 1 j n (Or.inl rfl) hn hj hn8) (by decide) (cEb G _ o (Or.inl rfl)) rfl qn272 q196 qs5 q2 q197 ⟨by decide +kernel, by decide +kernel, by decide +kernel⟩ rfl ⟨Nat.le_of_ble_eq_true rfl, Nat.le_of_ble_eq_true rfl⟩ hl.1 (Nat.le_of_ble_eq_true rfl) rfl ⟨Nat.zero_le _, Nat.zero_le _⟩ dX2_shadowOf_5) (fun H locs g => ?_)
  refine lv_astore_n (lv' := [(2, .ref (gA G (wb 1 j))), (0, .ref (gA G 0)), (1, .int (nI j))]) hx hb dX2_shadowOf_8 rfl hl (by decide) rfl (fun ls hl => ?_)
  refine lv_aload_n hx hb dX2_shadowOf_9 rfl (lv_at hl 0 rfl) ?_
  refine lv_ifnonnull (tgt := 23) hx hb dX2_shadowOf_10 (by decide) ?_
  refine lv_aload_n hx hb dX2_shadowOf_23 rfl (lv_at hl 0 rfl) ?_
  refine lv_aload_n hx hb dX2_shadowOf_24 rfl (lv_at hl 1 rfl) ?_
  refine g_ci (rest := [.ref (gA G (wb 1 j))]) g (g_V (n := 0) (As := []) S g (c_sun l G (F) o h hh hh2) (by decide) (cE0 G _ o) rfl (lw_V q305 q245 q246 q1 q247) ⟨rfl, by decide +kernel, by decide +kernel, by decide +kernel⟩ rfl ⟨Nat.le_of_ble_eq_true rfl, Nat.le_of_ble_eq_true rfl⟩ hl.1 (Nat.le_of_ble_eq_true rfl) rfl ⟨Nat.zero_le _, Nat.zero_le _⟩ dX2_shadowOf_25) (fun H locs g => ?_)
  refine g_ci (rest := []) g (g_VN (n := 1) (As := [.int (suH h)]) S g (c_shadowUnder l G (F) o (wb 1 j) (suH h) (wb_lo (Or.inl rfl) _) (wb_hi (Or.inl rfl) (by omega)) (sun_pos h)) (Nat.lt_of_lt_of_le (wb_hi (Or.inl rfl) (by omega)) (by decide)) (cEw G _ o (wb_lo (Or.inl rfl) _) (wb_hi (Or.inl rfl) (by omega))) rfl qn306 q221 qs9 q3 q222 ⟨by decide +kernel, by decide +kernel, by decide +kernel⟩ rfl ⟨Nat.le_of_ble_eq_true rfl, Nat.le_of_ble_eq_true rfl⟩ hl.1 (Nat.le_of_ble_eq_true rfl) rfl ⟨Nat.zero_le _, Nat.zero_le _⟩ dX2_shadowOf_28) (fun H locs g => ?_)
  exact e_i S hr hk0 g rfl rfl dX2_shadowOf_31
set_option maxHeartbeats 4000000 in
set_option maxRecDepth 100000 in
theorem x_shadowOf (l : Launch) (hfl : l.stackTraces = false) (G : gT) (F : Fs) (o : Int64) (x : Int32) (n : Nat) (hn : F 1 6 = nI n) (hxx : x < 0 ∨ nI n ≤ x) : MX l yX2_shadowOf cX2_shadowOf 3 (some .int) 6 90 [.ref (gA G 0), .int x] G (F) o xIB := by
  refine mk_X (own := "ShadowPool") (by decide +kernel) rfl (Nat.le_of_ble_eq_true rfl) ?_
  intro p e s m args below meth c ls hno hk0 S g hl
  have hl : lv_has ls 3 [(0, .ref (gA G 0)), (1, .int x)] := hl
  have hx := S.1
  have hb := S.2.1
  refine lv_aload_n hx hb dX2_shadowOf_0 rfl (lv_at hl 0 rfl) ?_
  refine gP (k := 0) S g 0 (by decide) q90 dX2_shadowOf_1 ?_
  refine lv_iload_n hx hb dX2_shadowOf_4 rfl (lv_at hl 1 rfl) ?_
  refine g_cn (rest := []) g rfl (g_VN (n := 1) (As := [.int x]) S g (c_find_no l G (F) o 1 x n (Or.inl rfl) hn hxx) (by decide) (cEb G _ o (Or.inl rfl)) rfl qn272 q196 qs5 q2 q197 ⟨by decide +kernel, by decide +kernel, by decide +kernel⟩ rfl ⟨Nat.le_of_ble_eq_true rfl, Nat.le_of_ble_eq_true rfl⟩ hl.1 (Nat.le_of_ble_eq_true rfl) rfl ⟨Nat.zero_le _, Nat.zero_le _⟩ dX2_shadowOf_5) (fun H locs g => ?_)
  refine lv_astore_nN (lv' := [(2, .null), (0, .ref (gA G 0)), (1, .int x)]) hx hb dX2_shadowOf_8 rfl hl (by decide) rfl (fun ls hl => ?_)
  refine lv_aload_nN hx hb dX2_shadowOf_9 rfl (lv_at hl 0 rfl) ?_
  refine lv_ifnonnullN hx hb dX2_shadowOf_10 ?_
  exact e_x (text := "no such walker") hfl S hno hk0 g hl.1 g.2.2.2.2.2.2.2.2.2.2.2.1 (by decide +kernel) q273 q10 (by decide +kernel) atIB ngIB otIB dX2_shadowOf_13 dX2_shadowOf_16 dX2_shadowOf_17 dX2_shadowOf_19 dX2_shadowOf_22 (Nat.le_of_ble_eq_true rfl) (Nat.le_of_ble_eq_true rfl) (Nat.le_refl _) (Nat.le_refl _)
set_option maxHeartbeats 4000000 in
set_option maxRecDepth 100000 in
theorem c_costOf_ok (l : Launch) (G : gT) (F : Fs) (o : Int64) (j : Nat) (n : Nat) (h : Nat) (hn : F 1 6 = nI n) (hj : j < n) (hn8 : n ≤ 8) (hh : F 1 0 = nI h) (hh2 : h < 2 ^ 29) : MI l yX2_costOf cX2_costOf 3 (some .int) 3 62 [.ref (gA G 0), .int (nI j)] G (F) o (F) (coI (F (wb 1 j) 0) (F (wb 1 j) 2) (suH h)) := by
  refine mk_G (own := "ShadowPool") (Qs := (fun sz => QI G (F) o (coI (F (wb 1 j) 0) (F (wb 1 j) 2) (suH h)) sz)) (by decide +kernel) rfl (Nat.le_of_ble_eq_true rfl) ?_
  intro p e s m args below meth c ls hr hk0 hnm S g hl
  have hl : lv_has ls 3 [(0, .ref (gA G 0)), (1, .int (nI j))] := hl
  have hx := S.1
  have hb := S.2.1
  refine lv_aload_n hx hb dX2_costOf_0 rfl (lv_at hl 0 rfl) ?_
  refine gP (k := 0) S g 0 (by decide) q90 dX2_costOf_1 ?_
  refine lv_iload_n hx hb dX2_costOf_4 rfl (lv_at hl 1 rfl) ?_
  refine g_cn (rest := []) g rfl (g_VN (n := 1) (As := [.int (nI j)]) S g (c_find_ok l G (F) o 1 j n (Or.inl rfl) hn hj hn8) (by decide) (cEb G _ o (Or.inl rfl)) rfl qn272 q196 qs5 q2 q197 ⟨by decide +kernel, by decide +kernel, by decide +kernel⟩ rfl ⟨Nat.le_of_ble_eq_true rfl, Nat.le_of_ble_eq_true rfl⟩ hl.1 (Nat.le_of_ble_eq_true rfl) rfl ⟨Nat.zero_le _, Nat.zero_le _⟩ dX2_costOf_5) (fun H locs g => ?_)
  refine lv_astore_n (lv' := [(2, .ref (gA G (wb 1 j))), (0, .ref (gA G 0)), (1, .int (nI j))]) hx hb dX2_costOf_8 rfl hl (by decide) rfl (fun ls hl => ?_)
  refine lv_aload_n hx hb dX2_costOf_9 rfl (lv_at hl 0 rfl) ?_
  refine lv_ifnonnull (tgt := 23) hx hb dX2_costOf_10 (by decide) ?_
  refine lv_aload_n hx hb dX2_costOf_23 rfl (lv_at hl 0 rfl) ?_
  refine lv_aload_n hx hb dX2_costOf_24 rfl (lv_at hl 1 rfl) ?_
  refine g_ci (rest := [.ref (gA G (wb 1 j))]) g (g_V (n := 0) (As := []) S g (c_sun l G (F) o h hh hh2) (by decide) (cE0 G _ o) rfl (lw_V q305 q245 q246 q1 q247) ⟨rfl, by decide +kernel, by decide +kernel, by decide +kernel⟩ rfl ⟨Nat.le_of_ble_eq_true rfl, Nat.le_of_ble_eq_true rfl⟩ hl.1 (Nat.le_of_ble_eq_true rfl) rfl ⟨Nat.zero_le _, Nat.zero_le _⟩ dX2_costOf_25) (fun H locs g => ?_)
  refine g_ci (rest := []) g (g_VN (n := 1) (As := [.int (suH h)]) S g (c_costUnder l G (F) o (wb 1 j) (suH h) (wb_lo (Or.inl rfl) _) (wb_hi (Or.inl rfl) (by omega)) (sun_pos h)) (Nat.lt_of_lt_of_le (wb_hi (Or.inl rfl) (by omega)) (by decide)) (cEw G _ o (wb_lo (Or.inl rfl) _) (wb_hi (Or.inl rfl) (by omega))) rfl qn315 q217 qs8 q3 q218 ⟨by decide +kernel, by decide +kernel, by decide +kernel⟩ rfl ⟨Nat.le_of_ble_eq_true rfl, Nat.le_of_ble_eq_true rfl⟩ hl.1 (Nat.le_of_ble_eq_true rfl) rfl ⟨Nat.zero_le _, Nat.zero_le _⟩ dX2_costOf_28) (fun H locs g => ?_)
  exact e_i S hr hk0 g rfl rfl dX2_costOf_31
set_option maxHeartbeats 4000000 in
set_option maxRecDepth 100000 in
theorem x_costOf (l : Launch) (hfl : l.stackTraces = false) (G : gT) (F : Fs) (o : Int64) (x : Int32) (n : Nat) (hn : F 1 6 = nI n) (hxx : x < 0 ∨ nI n ≤ x) : MX l yX2_costOf cX2_costOf 3 (some .int) 6 90 [.ref (gA G 0), .int x] G (F) o xIB := by
  refine mk_X (own := "ShadowPool") (by decide +kernel) rfl (Nat.le_of_ble_eq_true rfl) ?_
  intro p e s m args below meth c ls hno hk0 S g hl
  have hl : lv_has ls 3 [(0, .ref (gA G 0)), (1, .int x)] := hl
  have hx := S.1
  have hb := S.2.1
  refine lv_aload_n hx hb dX2_costOf_0 rfl (lv_at hl 0 rfl) ?_
  refine gP (k := 0) S g 0 (by decide) q90 dX2_costOf_1 ?_
  refine lv_iload_n hx hb dX2_costOf_4 rfl (lv_at hl 1 rfl) ?_
  refine g_cn (rest := []) g rfl (g_VN (n := 1) (As := [.int x]) S g (c_find_no l G (F) o 1 x n (Or.inl rfl) hn hxx) (by decide) (cEb G _ o (Or.inl rfl)) rfl qn272 q196 qs5 q2 q197 ⟨by decide +kernel, by decide +kernel, by decide +kernel⟩ rfl ⟨Nat.le_of_ble_eq_true rfl, Nat.le_of_ble_eq_true rfl⟩ hl.1 (Nat.le_of_ble_eq_true rfl) rfl ⟨Nat.zero_le _, Nat.zero_le _⟩ dX2_costOf_5) (fun H locs g => ?_)
  refine lv_astore_nN (lv' := [(2, .null), (0, .ref (gA G 0)), (1, .int x)]) hx hb dX2_costOf_8 rfl hl (by decide) rfl (fun ls hl => ?_)
  refine lv_aload_nN hx hb dX2_costOf_9 rfl (lv_at hl 0 rfl) ?_
  refine lv_ifnonnullN hx hb dX2_costOf_10 ?_
  exact e_x (text := "no such walker") hfl S hno hk0 g hl.1 g.2.2.2.2.2.2.2.2.2.2.2.1 (by decide +kernel) q273 q10 (by decide +kernel) atIB ngIB otIB dX2_costOf_13 dX2_costOf_16 dX2_costOf_17 dX2_costOf_19 dX2_costOf_22 (Nat.le_of_ble_eq_true rfl) (Nat.le_of_ble_eq_true rfl) (Nat.le_refl _) (Nat.le_refl _)
set_option maxHeartbeats 4000000 in
set_option maxRecDepth 100000 in
theorem c_ownPartOf_ok (l : Launch) (G : gT) (F : Fs) (o : Int64) (j : Nat) (n : Nat) (h : Nat) (hn : F 1 6 = nI n) (hj : j < n) (hn8 : n ≤ 8) (hh : F 1 0 = nI h) (hh2 : h < 2 ^ 29) : MI l yX2_ownPartOf cX2_ownPartOf 3 (some .int) 3 62 [.ref (gA G 0), .int (nI j)] G (F) o (F) (owI (F (wb 1 j) 5) (coI (F (wb 1 j) 0) (F (wb 1 j) 2) (suH h)) (noH h)) := by
  refine mk_G (own := "ShadowPool") (Qs := (fun sz => QI G (F) o (owI (F (wb 1 j) 5) (coI (F (wb 1 j) 0) (F (wb 1 j) 2) (suH h)) (noH h)) sz)) (by decide +kernel) rfl (Nat.le_of_ble_eq_true rfl) ?_
  intro p e s m args below meth c ls hr hk0 hnm S g hl
  have hl : lv_has ls 3 [(0, .ref (gA G 0)), (1, .int (nI j))] := hl
  have hx := S.1
  have hb := S.2.1
  refine lv_aload_n hx hb dX2_ownPartOf_0 rfl (lv_at hl 0 rfl) ?_
  refine gP (k := 0) S g 0 (by decide) q90 dX2_ownPartOf_1 ?_
  refine lv_iload_n hx hb dX2_ownPartOf_4 rfl (lv_at hl 1 rfl) ?_
  refine g_cn (rest := []) g rfl (g_VN (n := 1) (As := [.int (nI j)]) S g (c_find_ok l G (F) o 1 j n (Or.inl rfl) hn hj hn8) (by decide) (cEb G _ o (Or.inl rfl)) rfl qn272 q196 qs5 q2 q197 ⟨by decide +kernel, by decide +kernel, by decide +kernel⟩ rfl ⟨Nat.le_of_ble_eq_true rfl, Nat.le_of_ble_eq_true rfl⟩ hl.1 (Nat.le_of_ble_eq_true rfl) rfl ⟨Nat.zero_le _, Nat.zero_le _⟩ dX2_ownPartOf_5) (fun H locs g => ?_)
  refine lv_astore_n (lv' := [(2, .ref (gA G (wb 1 j))), (0, .ref (gA G 0)), (1, .int (nI j))]) hx hb dX2_ownPartOf_8 rfl hl (by decide) rfl (fun ls hl => ?_)
  refine lv_aload_n hx hb dX2_ownPartOf_9 rfl (lv_at hl 0 rfl) ?_
  refine lv_ifnonnull (tgt := 23) hx hb dX2_ownPartOf_10 (by decide) ?_
  refine lv_aload_n hx hb dX2_ownPartOf_23 rfl (lv_at hl 0 rfl) ?_
  refine lv_aload_n hx hb dX2_ownPartOf_24 rfl (lv_at hl 0 rfl) ?_
  refine lv_aload_n hx hb dX2_ownPartOf_25 rfl (lv_at hl 1 rfl) ?_
  refine g_ci (rest := [.ref (gA G (wb 1 j)), .ref (gA G (wb 1 j))]) g (g_V (n := 0) (As := []) S g (c_sun l G (F) o h hh hh2) (by decide) (cE0 G _ o) rfl (lw_V q305 q245 q246 q1 q247) ⟨rfl, by decide +kernel, by decide +kernel, by decide +kernel⟩ rfl ⟨Nat.le_of_ble_eq_true rfl, Nat.le_of_ble_eq_true rfl⟩ hl.1 (Nat.le_of_ble_eq_true rfl) rfl ⟨Nat.zero_le _, Nat.zero_le _⟩ dX2_ownPartOf_26) (fun H locs g => ?_)
  refine g_ci (rest := [.ref (gA G (wb 1 j))]) g (g_VN (n := 1) (As := [.int (suH h)]) S g (c_costUnder l G (F) o (wb 1 j) (suH h) (wb_lo (Or.inl rfl) _) (wb_hi (Or.inl rfl) (by omega)) (sun_pos h)) (Nat.lt_of_lt_of_le (wb_hi (Or.inl rfl) (by omega)) (by decide)) (cEw G _ o (wb_lo (Or.inl rfl) _) (wb_hi (Or.inl rfl) (by omega))) rfl qn315 q217 qs8 q3 q218 ⟨by decide +kernel, by decide +kernel, by decide +kernel⟩ rfl ⟨Nat.le_of_ble_eq_true rfl, Nat.le_of_ble_eq_true rfl⟩ hl.1 (Nat.le_of_ble_eq_true rfl) rfl ⟨Nat.zero_le _, Nat.zero_le _⟩ dX2_ownPartOf_29) (fun H locs g => ?_)
  refine lv_aload_n hx hb dX2_ownPartOf_32 rfl (lv_at hl 1 rfl) ?_
  refine g_ci (rest := [.int (coI (F (wb 1 j) 0) (F (wb 1 j) 2) (suH h)), .ref (gA G (wb 1 j))]) g (g_V (n := 0) (As := []) S g (c_isNoon l G (F) o h hh hh2) (by decide) (cE0 G _ o) rfl (lw_V q320 q251 q252 q1 q253) ⟨rfl, by decide +kernel, by decide +kernel, by decide +kernel⟩ rfl ⟨Nat.le_of_ble_eq_true rfl, Nat.le_of_ble_eq_true rfl⟩ hl.1 (Nat.le_of_ble_eq_true rfl) rfl ⟨Nat.zero_le _, Nat.zero_le _⟩ dX2_ownPartOf_33) (fun H locs g => ?_)
  refine g_ci (rest := []) g (g_VN (n := 2) (As := [.int (coI (F (wb 1 j) 0) (F (wb 1 j) 2) (suH h)), .int (noH h)]) S g (c_ownPart l G (F) o (wb 1 j) (coI (F (wb 1 j) 0) (F (wb 1 j) 2) (suH h)) (noH h) (wb_lo (Or.inl rfl) _) (wb_hi (Or.inl rfl) (by omega))) (Nat.lt_of_lt_of_le (wb_hi (Or.inl rfl) (by omega)) (by decide)) (cEw G _ o (wb_lo (Or.inl rfl) _) (wb_hi (Or.inl rfl) (by omega))) rfl qn321 q225 qs10 q3 q226 ⟨by decide +kernel, by decide +kernel, by decide +kernel⟩ rfl ⟨Nat.le_of_ble_eq_true rfl, Nat.le_of_ble_eq_true rfl⟩ hl.1 (Nat.le_of_ble_eq_true rfl) rfl ⟨Nat.zero_le _, Nat.zero_le _⟩ dX2_ownPartOf_36) (fun H locs g => ?_)
  exact e_i S hr hk0 g rfl rfl dX2_ownPartOf_39
set_option maxHeartbeats 4000000 in
set_option maxRecDepth 100000 in
theorem x_ownPartOf (l : Launch) (hfl : l.stackTraces = false) (G : gT) (F : Fs) (o : Int64) (x : Int32) (n : Nat) (hn : F 1 6 = nI n) (hxx : x < 0 ∨ nI n ≤ x) : MX l yX2_ownPartOf cX2_ownPartOf 3 (some .int) 6 90 [.ref (gA G 0), .int x] G (F) o xIB := by
  refine mk_X (own := "ShadowPool") (by decide +kernel) rfl (Nat.le_of_ble_eq_true rfl) ?_
  intro p e s m args below meth c ls hno hk0 S g hl
  have hl : lv_has ls 3 [(0, .ref (gA G 0)), (1, .int x)] := hl
  have hx := S.1
  have hb := S.2.1
  refine lv_aload_n hx hb dX2_ownPartOf_0 rfl (lv_at hl 0 rfl) ?_
  refine gP (k := 0) S g 0 (by decide) q90 dX2_ownPartOf_1 ?_
  refine lv_iload_n hx hb dX2_ownPartOf_4 rfl (lv_at hl 1 rfl) ?_
  refine g_cn (rest := []) g rfl (g_VN (n := 1) (As := [.int x]) S g (c_find_no l G (F) o 1 x n (Or.inl rfl) hn hxx) (by decide) (cEb G _ o (Or.inl rfl)) rfl qn272 q196 qs5 q2 q197 ⟨by decide +kernel, by decide +kernel, by decide +kernel⟩ rfl ⟨Nat.le_of_ble_eq_true rfl, Nat.le_of_ble_eq_true rfl⟩ hl.1 (Nat.le_of_ble_eq_true rfl) rfl ⟨Nat.zero_le _, Nat.zero_le _⟩ dX2_ownPartOf_5) (fun H locs g => ?_)
  refine lv_astore_nN (lv' := [(2, .null), (0, .ref (gA G 0)), (1, .int x)]) hx hb dX2_ownPartOf_8 rfl hl (by decide) rfl (fun ls hl => ?_)
  refine lv_aload_nN hx hb dX2_ownPartOf_9 rfl (lv_at hl 0 rfl) ?_
  refine lv_ifnonnullN hx hb dX2_ownPartOf_10 ?_
  exact e_x (text := "no such walker") hfl S hno hk0 g hl.1 g.2.2.2.2.2.2.2.2.2.2.2.1 (by decide +kernel) q273 q10 (by decide +kernel) atIB ngIB otIB dX2_ownPartOf_13 dX2_ownPartOf_16 dX2_ownPartOf_17 dX2_ownPartOf_19 dX2_ownPartOf_22 (Nat.le_of_ble_eq_true rfl) (Nat.le_of_ble_eq_true rfl) (Nat.le_refl _) (Nat.le_refl _)
set_option maxHeartbeats 4000000 in
set_option maxRecDepth 100000 in
theorem c_poolPartOf_ok (l : Launch) (G : gT) (F : Fs) (o : Int64) (j : Nat) (n : Nat) (h : Nat) (hn : F 1 6 = nI n) (hj : j < n) (hn8 : n ≤ 8) (hh : F 1 0 = nI h) (hh2 : h < 2 ^ 29) : MI l yX2_poolPartOf cX2_poolPartOf 4 (some .int) 4 84 [.ref (gA G 0), .int (nI j)] G (F) o (F) (clI F (wb 1 j) (suH h) (noH h) - reI (clI F (wb 1 j) (suH h) (noH h)) (F 1 3) (F 1 4)) := by
  refine mk_G (own := "ShadowPool") (Qs := (fun sz => QI G (F) o (clI F (wb 1 j) (suH h) (noH h) - reI (clI F (wb 1 j) (suH h) (noH h)) (F 1 3) (F 1 4)) sz)) (by decide +kernel) rfl (Nat.le_of_ble_eq_true rfl) ?_
  intro p e s m args below meth c ls hr hk0 hnm S g hl
  have hl : lv_has ls 4 [(0, .ref (gA G 0)), (1, .int (nI j))] := hl
  have hx := S.1
  have hb := S.2.1
  refine lv_aload_n hx hb dX2_poolPartOf_0 rfl (lv_at hl 0 rfl) ?_
  refine gP (k := 0) S g 0 (by decide) q90 dX2_poolPartOf_1 ?_
  refine lv_iload_n hx hb dX2_poolPartOf_4 rfl (lv_at hl 1 rfl) ?_
  refine g_cn (rest := []) g rfl (g_VN (n := 1) (As := [.int (nI j)]) S g (c_find_ok l G (F) o 1 j n (Or.inl rfl) hn hj hn8) (by decide) (cEb G _ o (Or.inl rfl)) rfl qn272 q196 qs5 q2 q197 ⟨by decide +kernel, by decide +kernel, by decide +kernel⟩ rfl ⟨Nat.le_of_ble_eq_true rfl, Nat.le_of_ble_eq_true rfl⟩ hl.1 (Nat.le_of_ble_eq_true rfl) rfl ⟨Nat.zero_le _, Nat.zero_le _⟩ dX2_poolPartOf_5) (fun H locs g => ?_)
  refine lv_astore_n (lv' := [(2, .ref (gA G (wb 1 j))), (0, .ref (gA G 0)), (1, .int (nI j))]) hx hb dX2_poolPartOf_8 rfl hl (by decide) rfl (fun ls hl => ?_)
  refine lv_aload_n hx hb dX2_poolPartOf_9 rfl (lv_at hl 0 rfl) ?_
  refine lv_ifnonnull (tgt := 23) hx hb dX2_poolPartOf_10 (by decide) ?_
  refine lv_aload_n hx hb dX2_poolPartOf_23 rfl (lv_at hl 1 rfl) ?_
  refine lv_aload_n hx hb dX2_poolPartOf_24 rfl (lv_at hl 0 rfl) ?_
  refine g_ci (rest := []) g (g_V (n := 1) (As := [.ref (gA G (wb 1 j))]) S g (c_claimNow l G (F) o (wb 1 j) h (wb_lo (Or.inl rfl) _) (wb_hi (Or.inl rfl) (by omega)) hh hh2) (by decide) (cE0 G _ o) rfl (lw_V q326 q328 qs13 q1 q329) ⟨rfl, by decide +kernel, by decide +kernel, by decide +kernel⟩ rfl ⟨Nat.le_of_ble_eq_true rfl, Nat.le_of_ble_eq_true rfl⟩ hl.1 (Nat.le_of_ble_eq_true rfl) rfl ⟨Nat.zero_le _, Nat.zero_le _⟩ dX2_poolPartOf_25) (fun H locs g => ?_)
  refine lv_istore_n (lv' := [(3, .int (clI F (wb 1 j) (suH h) (noH h))), (2, .ref (gA G (wb 1 j))), (0, .ref (gA G 0)), (1, .int (nI j))]) hx hb dX2_poolPartOf_28 rfl hl (by decide) rfl (fun ls hl => ?_)
  refine lv_iload_n hx hb dX2_poolPartOf_29 rfl (lv_at hl 0 rfl) ?_
  refine lv_aload_n hx hb dX2_poolPartOf_30 rfl (lv_at hl 2 rfl) ?_
  refine gP (k := 0) S g 0 (by decide) q90 dX2_poolPartOf_31 ?_
  refine lv_iload_n hx hb dX2_poolPartOf_34 rfl (lv_at hl 0 rfl) ?_
  refine g_ci (rest := [.int (clI F (wb 1 j) (suH h) (noH h))]) g (g_VN (n := 1) (As := [.int (clI F (wb 1 j) (suH h) (noH h))]) S g (c_reinsuredPart l G (F) o 1 (clI F (wb 1 j) (suH h) (noH h)) (Or.inl rfl)) (by decide) (cEb G _ o (Or.inl rfl)) rfl qn330 q232 qs11 q2 q233 ⟨by decide +kernel, by decide +kernel, by decide +kernel⟩ rfl ⟨Nat.le_of_ble_eq_true rfl, Nat.le_of_ble_eq_true rfl⟩ hl.1 (Nat.le_of_ble_eq_true rfl) rfl ⟨Nat.zero_le _, Nat.zero_le _⟩ dX2_poolPartOf_35) (fun H locs g => ?_)
  refine lv_isub hx hb dX2_poolPartOf_38 ?_
  exact e_i S hr hk0 g rfl rfl dX2_poolPartOf_39
set_option maxHeartbeats 4000000 in
set_option maxRecDepth 100000 in
theorem x_poolPartOf (l : Launch) (hfl : l.stackTraces = false) (G : gT) (F : Fs) (o : Int64) (x : Int32) (n : Nat) (hn : F 1 6 = nI n) (hxx : x < 0 ∨ nI n ≤ x) : MX l yX2_poolPartOf cX2_poolPartOf 4 (some .int) 6 90 [.ref (gA G 0), .int x] G (F) o xIB := by
  refine mk_X (own := "ShadowPool") (by decide +kernel) rfl (Nat.le_of_ble_eq_true rfl) ?_
  intro p e s m args below meth c ls hno hk0 S g hl
  have hl : lv_has ls 4 [(0, .ref (gA G 0)), (1, .int x)] := hl
  have hx := S.1
  have hb := S.2.1
  refine lv_aload_n hx hb dX2_poolPartOf_0 rfl (lv_at hl 0 rfl) ?_
  refine gP (k := 0) S g 0 (by decide) q90 dX2_poolPartOf_1 ?_
  refine lv_iload_n hx hb dX2_poolPartOf_4 rfl (lv_at hl 1 rfl) ?_
  refine g_cn (rest := []) g rfl (g_VN (n := 1) (As := [.int x]) S g (c_find_no l G (F) o 1 x n (Or.inl rfl) hn hxx) (by decide) (cEb G _ o (Or.inl rfl)) rfl qn272 q196 qs5 q2 q197 ⟨by decide +kernel, by decide +kernel, by decide +kernel⟩ rfl ⟨Nat.le_of_ble_eq_true rfl, Nat.le_of_ble_eq_true rfl⟩ hl.1 (Nat.le_of_ble_eq_true rfl) rfl ⟨Nat.zero_le _, Nat.zero_le _⟩ dX2_poolPartOf_5) (fun H locs g => ?_)
  refine lv_astore_nN (lv' := [(2, .null), (0, .ref (gA G 0)), (1, .int x)]) hx hb dX2_poolPartOf_8 rfl hl (by decide) rfl (fun ls hl => ?_)
  refine lv_aload_nN hx hb dX2_poolPartOf_9 rfl (lv_at hl 0 rfl) ?_
  refine lv_ifnonnullN hx hb dX2_poolPartOf_10 ?_
  exact e_x (text := "no such walker") hfl S hno hk0 g hl.1 g.2.2.2.2.2.2.2.2.2.2.2.1 (by decide +kernel) q273 q10 (by decide +kernel) atIB ngIB otIB dX2_poolPartOf_13 dX2_poolPartOf_16 dX2_poolPartOf_17 dX2_poolPartOf_19 dX2_poolPartOf_22 (Nat.le_of_ble_eq_true rfl) (Nat.le_of_ble_eq_true rfl) (Nat.le_refl _) (Nat.le_refl _)
set_option maxHeartbeats 4000000 in
set_option maxRecDepth 100000 in
theorem c_reinsuredPartOf_ok (l : Launch) (G : gT) (F : Fs) (o : Int64) (j : Nat) (n : Nat) (h : Nat) (hn : F 1 6 = nI n) (hj : j < n) (hn8 : n ≤ 8) (hh : F 1 0 = nI h) (hh2 : h < 2 ^ 29) : MI l yX2_reinsuredPartOf cX2_reinsuredPartOf 3 (some .int) 4 84 [.ref (gA G 0), .int (nI j)] G (F) o (F) (reI (clI F (wb 1 j) (suH h) (noH h)) (F 1 3) (F 1 4)) := by
  refine mk_G (own := "ShadowPool") (Qs := (fun sz => QI G (F) o (reI (clI F (wb 1 j) (suH h) (noH h)) (F 1 3) (F 1 4)) sz)) (by decide +kernel) rfl (Nat.le_of_ble_eq_true rfl) ?_
  intro p e s m args below meth c ls hr hk0 hnm S g hl
  have hl : lv_has ls 3 [(0, .ref (gA G 0)), (1, .int (nI j))] := hl
  have hx := S.1
  have hb := S.2.1
  refine lv_aload_n hx hb dX2_reinsuredPartOf_0 rfl (lv_at hl 0 rfl) ?_
  refine gP (k := 0) S g 0 (by decide) q90 dX2_reinsuredPartOf_1 ?_
  refine lv_iload_n hx hb dX2_reinsuredPartOf_4 rfl (lv_at hl 1 rfl) ?_
  refine g_cn (rest := []) g rfl (g_VN (n := 1) (As := [.int (nI j)]) S g (c_find_ok l G (F) o 1 j n (Or.inl rfl) hn hj hn8) (by decide) (cEb G _ o (Or.inl rfl)) rfl qn272 q196 qs5 q2 q197 ⟨by decide +kernel, by decide +kernel, by decide +kernel⟩ rfl ⟨Nat.le_of_ble_eq_true rfl, Nat.le_of_ble_eq_true rfl⟩ hl.1 (Nat.le_of_ble_eq_true rfl) rfl ⟨Nat.zero_le _, Nat.zero_le _⟩ dX2_reinsuredPartOf_5) (fun H locs g => ?_)
  refine lv_astore_n (lv' := [(2, .ref (gA G (wb 1 j))), (0, .ref (gA G 0)), (1, .int (nI j))]) hx hb dX2_reinsuredPartOf_8 rfl hl (by decide) rfl (fun ls hl => ?_)
  refine lv_aload_n hx hb dX2_reinsuredPartOf_9 rfl (lv_at hl 0 rfl) ?_
  refine lv_ifnonnull (tgt := 23) hx hb dX2_reinsuredPartOf_10 (by decide) ?_
  refine lv_aload_n hx hb dX2_reinsuredPartOf_23 rfl (lv_at hl 1 rfl) ?_
  refine gP (k := 0) S g 0 (by decide) q90 dX2_reinsuredPartOf_24 ?_
  refine lv_aload_n hx hb dX2_reinsuredPartOf_27 rfl (lv_at hl 1 rfl) ?_
  refine lv_aload_n hx hb dX2_reinsuredPartOf_28 rfl (lv_at hl 0 rfl) ?_
  refine g_ci (rest := [.ref (gA G 1)]) g (g_V (n := 1) (As := [.ref (gA G (wb 1 j))]) S g (c_claimNow l G (F) o (wb 1 j) h (wb_lo (Or.inl rfl) _) (wb_hi (Or.inl rfl) (by omega)) hh hh2) (by decide) (cE0 G _ o) rfl (lw_V q326 q328 qs13 q1 q329) ⟨rfl, by decide +kernel, by decide +kernel, by decide +kernel⟩ rfl ⟨Nat.le_of_ble_eq_true rfl, Nat.le_of_ble_eq_true rfl⟩ hl.1 (Nat.le_of_ble_eq_true rfl) rfl ⟨Nat.zero_le _, Nat.zero_le _⟩ dX2_reinsuredPartOf_29) (fun H locs g => ?_)
  refine g_ci (rest := []) g (g_VN (n := 1) (As := [.int (clI F (wb 1 j) (suH h) (noH h))]) S g (c_reinsuredPart l G (F) o 1 (clI F (wb 1 j) (suH h) (noH h)) (Or.inl rfl)) (by decide) (cEb G _ o (Or.inl rfl)) rfl qn330 q232 qs11 q2 q233 ⟨by decide +kernel, by decide +kernel, by decide +kernel⟩ rfl ⟨Nat.le_of_ble_eq_true rfl, Nat.le_of_ble_eq_true rfl⟩ hl.1 (Nat.le_of_ble_eq_true rfl) rfl ⟨Nat.zero_le _, Nat.zero_le _⟩ dX2_reinsuredPartOf_32) (fun H locs g => ?_)
  exact e_i S hr hk0 g rfl rfl dX2_reinsuredPartOf_35
set_option maxHeartbeats 4000000 in
set_option maxRecDepth 100000 in
theorem x_reinsuredPartOf (l : Launch) (hfl : l.stackTraces = false) (G : gT) (F : Fs) (o : Int64) (x : Int32) (n : Nat) (hn : F 1 6 = nI n) (hxx : x < 0 ∨ nI n ≤ x) : MX l yX2_reinsuredPartOf cX2_reinsuredPartOf 3 (some .int) 6 90 [.ref (gA G 0), .int x] G (F) o xIB := by
  refine mk_X (own := "ShadowPool") (by decide +kernel) rfl (Nat.le_of_ble_eq_true rfl) ?_
  intro p e s m args below meth c ls hno hk0 S g hl
  have hl : lv_has ls 3 [(0, .ref (gA G 0)), (1, .int x)] := hl
  have hx := S.1
  have hb := S.2.1
  refine lv_aload_n hx hb dX2_reinsuredPartOf_0 rfl (lv_at hl 0 rfl) ?_
  refine gP (k := 0) S g 0 (by decide) q90 dX2_reinsuredPartOf_1 ?_
  refine lv_iload_n hx hb dX2_reinsuredPartOf_4 rfl (lv_at hl 1 rfl) ?_
  refine g_cn (rest := []) g rfl (g_VN (n := 1) (As := [.int x]) S g (c_find_no l G (F) o 1 x n (Or.inl rfl) hn hxx) (by decide) (cEb G _ o (Or.inl rfl)) rfl qn272 q196 qs5 q2 q197 ⟨by decide +kernel, by decide +kernel, by decide +kernel⟩ rfl ⟨Nat.le_of_ble_eq_true rfl, Nat.le_of_ble_eq_true rfl⟩ hl.1 (Nat.le_of_ble_eq_true rfl) rfl ⟨Nat.zero_le _, Nat.zero_le _⟩ dX2_reinsuredPartOf_5) (fun H locs g => ?_)
  refine lv_astore_nN (lv' := [(2, .null), (0, .ref (gA G 0)), (1, .int x)]) hx hb dX2_reinsuredPartOf_8 rfl hl (by decide) rfl (fun ls hl => ?_)
  refine lv_aload_nN hx hb dX2_reinsuredPartOf_9 rfl (lv_at hl 0 rfl) ?_
  refine lv_ifnonnullN hx hb dX2_reinsuredPartOf_10 ?_
  exact e_x (text := "no such walker") hfl S hno hk0 g hl.1 g.2.2.2.2.2.2.2.2.2.2.2.1 (by decide +kernel) q273 q10 (by decide +kernel) atIB ngIB otIB dX2_reinsuredPartOf_13 dX2_reinsuredPartOf_16 dX2_reinsuredPartOf_17 dX2_reinsuredPartOf_19 dX2_reinsuredPartOf_22 (Nat.le_of_ble_eq_true rfl) (Nat.le_of_ble_eq_true rfl) (Nat.le_refl _) (Nat.le_refl _)
set_option maxHeartbeats 4000000 in
set_option maxRecDepth 100000 in
theorem c_hoursUntilFall_ok (l : Launch) (G : gT) (F : Fs) (o : Int64) (j : Nat) (n : Nat) (h : Nat) (hn : F 1 6 = nI n) (hj : j < n) (hn8 : n ≤ 8) (hh : F 1 0 = nI h) (hh2 : h < 2 ^ 29) : MI l yX2_hoursUntilFall cX2_hoursUntilFall 3 (some .int) 3 67 [.ref (gA G 0), .int (nI j)] G (F) o (F) (fbI F (wb 1 j) h) := by
  refine mk_G (own := "ShadowPool") (Qs := (fun sz => QI G (F) o (fbI F (wb 1 j) h) sz)) (by decide +kernel) rfl (Nat.le_of_ble_eq_true rfl) ?_
  intro p e s m args below meth c ls hr hk0 hnm S g hl
  have hl : lv_has ls 3 [(0, .ref (gA G 0)), (1, .int (nI j))] := hl
  have hx := S.1
  have hb := S.2.1
  refine lv_aload_n hx hb dX2_hoursUntilFall_0 rfl (lv_at hl 0 rfl) ?_
  refine gP (k := 0) S g 0 (by decide) q90 dX2_hoursUntilFall_1 ?_
  refine lv_iload_n hx hb dX2_hoursUntilFall_4 rfl (lv_at hl 1 rfl) ?_
  refine g_cn (rest := []) g rfl (g_VN (n := 1) (As := [.int (nI j)]) S g (c_find_ok l G (F) o 1 j n (Or.inl rfl) hn hj hn8) (by decide) (cEb G _ o (Or.inl rfl)) rfl qn272 q196 qs5 q2 q197 ⟨by decide +kernel, by decide +kernel, by decide +kernel⟩ rfl ⟨Nat.le_of_ble_eq_true rfl, Nat.le_of_ble_eq_true rfl⟩ hl.1 (Nat.le_of_ble_eq_true rfl) rfl ⟨Nat.zero_le _, Nat.zero_le _⟩ dX2_hoursUntilFall_5) (fun H locs g => ?_)
  refine lv_astore_n (lv' := [(2, .ref (gA G (wb 1 j))), (0, .ref (gA G 0)), (1, .int (nI j))]) hx hb dX2_hoursUntilFall_8 rfl hl (by decide) rfl (fun ls hl => ?_)
  refine lv_aload_n hx hb dX2_hoursUntilFall_9 rfl (lv_at hl 0 rfl) ?_
  refine lv_ifnonnull (tgt := 23) hx hb dX2_hoursUntilFall_10 (by decide) ?_
  refine lv_aload_n hx hb dX2_hoursUntilFall_23 rfl (lv_at hl 0 rfl) ?_
  refine lv_aload_n hx hb dX2_hoursUntilFall_24 rfl (lv_at hl 1 rfl) ?_
  refine gP (k := 0) S g 0 (by decide) q90 dX2_hoursUntilFall_25 ?_
  refine gBN (k := 1) S g (Or.inl rfl) 0 (by decide) qn59 dX2_hoursUntilFall_28 ?_
  rw [show (F 1 0 : Int32) = nI h from hh]
  refine g_ci (rest := []) g (g_VN (n := 1) (As := [.int (nI h)]) S g (c_fallsBehind l G (F) o (wb 1 j) h (wb_lo (Or.inl rfl) _) (wb_hi (Or.inl rfl) (by omega)) (by omega)) (Nat.lt_of_lt_of_le (wb_hi (Or.inl rfl) (by omega)) (by decide)) (cEw G _ o (wb_lo (Or.inl rfl) _) (wb_hi (Or.inl rfl) (by omega))) rfl qn359 q361 qs14 q3 q362 ⟨by decide +kernel, by decide +kernel, by decide +kernel⟩ rfl ⟨Nat.le_of_ble_eq_true rfl, Nat.le_of_ble_eq_true rfl⟩ hl.1 (Nat.le_of_ble_eq_true rfl) rfl ⟨Nat.zero_le _, Nat.zero_le _⟩ dX2_hoursUntilFall_31) (fun H locs g => ?_)
  exact e_i S hr hk0 g rfl rfl dX2_hoursUntilFall_34
set_option maxHeartbeats 4000000 in
set_option maxRecDepth 100000 in
theorem x_hoursUntilFall (l : Launch) (hfl : l.stackTraces = false) (G : gT) (F : Fs) (o : Int64) (x : Int32) (n : Nat) (hn : F 1 6 = nI n) (hxx : x < 0 ∨ nI n ≤ x) : MX l yX2_hoursUntilFall cX2_hoursUntilFall 3 (some .int) 6 90 [.ref (gA G 0), .int x] G (F) o xIB := by
  refine mk_X (own := "ShadowPool") (by decide +kernel) rfl (Nat.le_of_ble_eq_true rfl) ?_
  intro p e s m args below meth c ls hno hk0 S g hl
  have hl : lv_has ls 3 [(0, .ref (gA G 0)), (1, .int x)] := hl
  have hx := S.1
  have hb := S.2.1
  refine lv_aload_n hx hb dX2_hoursUntilFall_0 rfl (lv_at hl 0 rfl) ?_
  refine gP (k := 0) S g 0 (by decide) q90 dX2_hoursUntilFall_1 ?_
  refine lv_iload_n hx hb dX2_hoursUntilFall_4 rfl (lv_at hl 1 rfl) ?_
  refine g_cn (rest := []) g rfl (g_VN (n := 1) (As := [.int x]) S g (c_find_no l G (F) o 1 x n (Or.inl rfl) hn hxx) (by decide) (cEb G _ o (Or.inl rfl)) rfl qn272 q196 qs5 q2 q197 ⟨by decide +kernel, by decide +kernel, by decide +kernel⟩ rfl ⟨Nat.le_of_ble_eq_true rfl, Nat.le_of_ble_eq_true rfl⟩ hl.1 (Nat.le_of_ble_eq_true rfl) rfl ⟨Nat.zero_le _, Nat.zero_le _⟩ dX2_hoursUntilFall_5) (fun H locs g => ?_)
  refine lv_astore_nN (lv' := [(2, .null), (0, .ref (gA G 0)), (1, .int x)]) hx hb dX2_hoursUntilFall_8 rfl hl (by decide) rfl (fun ls hl => ?_)
  refine lv_aload_nN hx hb dX2_hoursUntilFall_9 rfl (lv_at hl 0 rfl) ?_
  refine lv_ifnonnullN hx hb dX2_hoursUntilFall_10 ?_
  exact e_x (text := "no such walker") hfl S hno hk0 g hl.1 g.2.2.2.2.2.2.2.2.2.2.2.1 (by decide +kernel) q273 q10 (by decide +kernel) atIB ngIB otIB dX2_hoursUntilFall_13 dX2_hoursUntilFall_16 dX2_hoursUntilFall_17 dX2_hoursUntilFall_19 dX2_hoursUntilFall_22 (Nat.le_of_ble_eq_true rfl) (Nat.le_of_ble_eq_true rfl) (Nat.le_refl _) (Nat.le_refl _)
set_option maxHeartbeats 4000000 in
set_option maxRecDepth 100000 in
theorem c_rest_ok (l : Launch) (G : gT) (F : Fs) (o : Int64) (j : Nat) (n : Nat) (hn : F 1 6 = nI n) (hj : j < n) (hn8 : n ≤ 8) : MI l yX2_rest cX2_rest 4 (some .int) 1 21 [.ref (gA G 0), .int (nI j)] G (F) o (up2 F (wb 1 j) 3 0) (F (wb 1 j) 3) := by
  refine mk_G (own := "ShadowPool") (Qs := (fun sz => QI G (up2 F (wb 1 j) 3 0) o (F (wb 1 j) 3) sz)) (by decide +kernel) rfl (Nat.le_of_ble_eq_true rfl) ?_
  intro p e s m args below meth c ls hr hk0 hnm S g hl
  have hl : lv_has ls 4 [(0, .ref (gA G 0)), (1, .int (nI j))] := hl
  have hx := S.1
  have hb := S.2.1
  refine lv_aload_n hx hb dX2_rest_0 rfl (lv_at hl 0 rfl) ?_
  refine gP (k := 0) S g 0 (by decide) q90 dX2_rest_1 ?_
  refine lv_iload_n hx hb dX2_rest_4 rfl (lv_at hl 1 rfl) ?_
  refine g_cn (rest := []) g rfl (g_VN (n := 1) (As := [.int (nI j)]) S g (c_find_ok l G (F) o 1 j n (Or.inl rfl) hn hj hn8) (by decide) (cEb G _ o (Or.inl rfl)) rfl qn272 q196 qs5 q2 q197 ⟨by decide +kernel, by decide +kernel, by decide +kernel⟩ rfl ⟨Nat.le_of_ble_eq_true rfl, Nat.le_of_ble_eq_true rfl⟩ hl.1 (Nat.le_of_ble_eq_true rfl) rfl ⟨Nat.zero_le _, Nat.zero_le _⟩ dX2_rest_5) (fun H locs g => ?_)
  refine lv_astore_n (lv' := [(2, .ref (gA G (wb 1 j))), (0, .ref (gA G 0)), (1, .int (nI j))]) hx hb dX2_rest_8 rfl hl (by decide) rfl (fun ls hl => ?_)
  refine lv_aload_n hx hb dX2_rest_9 rfl (lv_at hl 0 rfl) ?_
  refine lv_ifnonnull (tgt := 23) hx hb dX2_rest_10 (by decide) ?_
  refine lv_aload_n hx hb dX2_rest_23 rfl (lv_at hl 0 rfl) ?_
  refine gWN (k := wb 1 j) S g (wb_lo (Or.inl rfl) _) (wb_hi (Or.inl rfl) (by omega)) 3 (by decide) qn38 dX2_rest_24 ?_
  refine lv_istore_n (lv' := [(3, .int (F (wb 1 j) 3)), (2, .ref (gA G (wb 1 j))), (0, .ref (gA G 0)), (1, .int (nI j))]) hx hb dX2_rest_27 rfl hl (by decide) rfl (fun ls hl => ?_)
  refine lv_aload_n hx hb dX2_rest_28 rfl (lv_at hl 1 rfl) ?_
  refine lv_iconst (v := 0) hx hb dX2_rest_29 (by decide) ?_
  refine gWpN (k := wb 1 j) S g (wb_lo (Or.inl rfl) _) (wb_hi (Or.inl rfl) (by omega)) 3 (by decide) qn38 dX2_rest_30 (fun H locs g => ?_)
  refine lv_iload_n hx hb dX2_rest_33 rfl (lv_at hl 0 rfl) ?_
  exact e_i S hr hk0 g rfl rfl dX2_rest_34
set_option maxHeartbeats 4000000 in
set_option maxRecDepth 100000 in
theorem x_rest (l : Launch) (hfl : l.stackTraces = false) (G : gT) (F : Fs) (o : Int64) (x : Int32) (n : Nat) (hn : F 1 6 = nI n) (hxx : x < 0 ∨ nI n ≤ x) : MX l yX2_rest cX2_rest 4 (some .int) 6 90 [.ref (gA G 0), .int x] G (F) o xIB := by
  refine mk_X (own := "ShadowPool") (by decide +kernel) rfl (Nat.le_of_ble_eq_true rfl) ?_
  intro p e s m args below meth c ls hno hk0 S g hl
  have hl : lv_has ls 4 [(0, .ref (gA G 0)), (1, .int x)] := hl
  have hx := S.1
  have hb := S.2.1
  refine lv_aload_n hx hb dX2_rest_0 rfl (lv_at hl 0 rfl) ?_
  refine gP (k := 0) S g 0 (by decide) q90 dX2_rest_1 ?_
  refine lv_iload_n hx hb dX2_rest_4 rfl (lv_at hl 1 rfl) ?_
  refine g_cn (rest := []) g rfl (g_VN (n := 1) (As := [.int x]) S g (c_find_no l G (F) o 1 x n (Or.inl rfl) hn hxx) (by decide) (cEb G _ o (Or.inl rfl)) rfl qn272 q196 qs5 q2 q197 ⟨by decide +kernel, by decide +kernel, by decide +kernel⟩ rfl ⟨Nat.le_of_ble_eq_true rfl, Nat.le_of_ble_eq_true rfl⟩ hl.1 (Nat.le_of_ble_eq_true rfl) rfl ⟨Nat.zero_le _, Nat.zero_le _⟩ dX2_rest_5) (fun H locs g => ?_)
  refine lv_astore_nN (lv' := [(2, .null), (0, .ref (gA G 0)), (1, .int x)]) hx hb dX2_rest_8 rfl hl (by decide) rfl (fun ls hl => ?_)
  refine lv_aload_nN hx hb dX2_rest_9 rfl (lv_at hl 0 rfl) ?_
  refine lv_ifnonnullN hx hb dX2_rest_10 ?_
  exact e_x (text := "no such walker") hfl S hno hk0 g hl.1 g.2.2.2.2.2.2.2.2.2.2.2.1 (by decide +kernel) q273 q10 (by decide +kernel) atIB ngIB otIB dX2_rest_13 dX2_rest_16 dX2_rest_17 dX2_rest_19 dX2_rest_22 (Nat.le_of_ble_eq_true rfl) (Nat.le_of_ble_eq_true rfl) (Nat.le_refl _) (Nat.le_refl _)
set_option maxHeartbeats 4000000 in
set_option maxRecDepth 100000 in
theorem c_turnMember_ok (l : Launch) (G : gT) (F : Fs) (o : Int64) (j : Nat) (n : Nat) (hn : F 1 6 = nI n) (hj : j < n) (hn8 : n ≤ 8) : MI l yX2_turnMember cX2_turnMember 3 (some .boolean) 1 21 [.ref (gA G 0), .int (nI j)] G (F) o (up2 F (wb 1 j) 5 (if F (wb 1 j) 5 = 0 then 1 else 0)) (if F (wb 1 j) 5 = 0 then 1 else 0) := by
  refine mk_G (own := "ShadowPool") (Qs := (fun sz => QI G (up2 F (wb 1 j) 5 (if F (wb 1 j) 5 = 0 then 1 else 0)) o (if F (wb 1 j) 5 = 0 then 1 else 0) sz)) (by decide +kernel) rfl (Nat.le_of_ble_eq_true rfl) ?_
  intro p e s m args below meth c ls hr hk0 hnm S g hl
  have hl : lv_has ls 3 [(0, .ref (gA G 0)), (1, .int (nI j))] := hl
  have hx := S.1
  have hb := S.2.1
  refine lv_aload_n hx hb dX2_turnMember_0 rfl (lv_at hl 0 rfl) ?_
  refine gP (k := 0) S g 0 (by decide) q90 dX2_turnMember_1 ?_
  refine lv_iload_n hx hb dX2_turnMember_4 rfl (lv_at hl 1 rfl) ?_
  refine g_cn (rest := []) g rfl (g_VN (n := 1) (As := [.int (nI j)]) S g (c_find_ok l G (F) o 1 j n (Or.inl rfl) hn hj hn8) (by decide) (cEb G _ o (Or.inl rfl)) rfl qn272 q196 qs5 q2 q197 ⟨by decide +kernel, by decide +kernel, by decide +kernel⟩ rfl ⟨Nat.le_of_ble_eq_true rfl, Nat.le_of_ble_eq_true rfl⟩ hl.1 (Nat.le_of_ble_eq_true rfl) rfl ⟨Nat.zero_le _, Nat.zero_le _⟩ dX2_turnMember_5) (fun H locs g => ?_)
  refine lv_astore_n (lv' := [(2, .ref (gA G (wb 1 j))), (0, .ref (gA G 0)), (1, .int (nI j))]) hx hb dX2_turnMember_8 rfl hl (by decide) rfl (fun ls hl => ?_)
  refine lv_aload_n hx hb dX2_turnMember_9 rfl (lv_at hl 0 rfl) ?_
  refine lv_ifnonnull (tgt := 23) hx hb dX2_turnMember_10 (by decide) ?_
  refine lv_aload_n hx hb dX2_turnMember_23 rfl (lv_at hl 0 rfl) ?_
  refine lv_aload_n hx hb dX2_turnMember_24 rfl (lv_at hl 0 rfl) ?_
  refine gWN (k := wb 1 j) S g (wb_lo (Or.inl rfl) _) (wb_hi (Or.inl rfl) (by omega)) 5 (by decide) qn43 dX2_turnMember_25 ?_
  refine lv_if_ne (tgt := 35) hx hb dX2_turnMember_28 (by decide) (fun c_28 => ?_) (fun c_28 => ?_)
  · refine lv_iconst (v := 0) hx hb dX2_turnMember_35 (by decide) ?_
    refine gWzN (k := wb 1 j) S g (wb_lo (Or.inl rfl) _) (wb_hi (Or.inl rfl) (by omega)) 5 rfl (by first | exact Or.inl rfl | exact Or.inr rfl) qn43 dX2_turnMember_36 (fun H locs g => ?_)
    refine lv_aload_n hx hb dX2_turnMember_39 rfl (lv_at hl 0 rfl) ?_
    refine gWN (k := wb 1 j) S g (wb_lo (Or.inl rfl) _) (wb_hi (Or.inl rfl) (by omega)) 5 (by decide) qn43 dX2_turnMember_40 ?_
    exact e_z S hr hk0 g (by simp only [up2_s]; rfl) (by rw [up2_s]; simp only [c_28, ↓reduceIte]) (by simp only [c_28, ↓reduceIte]) dX2_turnMember_43
  · refine lv_iconst (v := 1) hx hb dX2_turnMember_31 (by decide) ?_
    refine lv_goto (tgt := 36) hx hb dX2_turnMember_32 (by decide) ?_
    refine gWzN (k := wb 1 j) S g (wb_lo (Or.inl rfl) _) (wb_hi (Or.inl rfl) (by omega)) 5 rfl (by first | exact Or.inl rfl | exact Or.inr rfl) qn43 dX2_turnMember_36 (fun H locs g => ?_)
    refine lv_aload_n hx hb dX2_turnMember_39 rfl (lv_at hl 0 rfl) ?_
    refine gWN (k := wb 1 j) S g (wb_lo (Or.inl rfl) _) (wb_hi (Or.inl rfl) (by omega)) 5 (by decide) qn43 dX2_turnMember_40 ?_
    exact e_z S hr hk0 g (by simp only [up2_s]; rfl) (by rw [up2_s]; simp only [c_28, ↓reduceIte]) (by simp only [c_28, ↓reduceIte]) dX2_turnMember_43
set_option maxHeartbeats 4000000 in
set_option maxRecDepth 100000 in
theorem x_turnMember (l : Launch) (hfl : l.stackTraces = false) (G : gT) (F : Fs) (o : Int64) (x : Int32) (n : Nat) (hn : F 1 6 = nI n) (hxx : x < 0 ∨ nI n ≤ x) : MX l yX2_turnMember cX2_turnMember 3 (some .boolean) 6 90 [.ref (gA G 0), .int x] G (F) o xIB := by
  refine mk_X (own := "ShadowPool") (by decide +kernel) rfl (Nat.le_of_ble_eq_true rfl) ?_
  intro p e s m args below meth c ls hno hk0 S g hl
  have hl : lv_has ls 3 [(0, .ref (gA G 0)), (1, .int x)] := hl
  have hx := S.1
  have hb := S.2.1
  refine lv_aload_n hx hb dX2_turnMember_0 rfl (lv_at hl 0 rfl) ?_
  refine gP (k := 0) S g 0 (by decide) q90 dX2_turnMember_1 ?_
  refine lv_iload_n hx hb dX2_turnMember_4 rfl (lv_at hl 1 rfl) ?_
  refine g_cn (rest := []) g rfl (g_VN (n := 1) (As := [.int x]) S g (c_find_no l G (F) o 1 x n (Or.inl rfl) hn hxx) (by decide) (cEb G _ o (Or.inl rfl)) rfl qn272 q196 qs5 q2 q197 ⟨by decide +kernel, by decide +kernel, by decide +kernel⟩ rfl ⟨Nat.le_of_ble_eq_true rfl, Nat.le_of_ble_eq_true rfl⟩ hl.1 (Nat.le_of_ble_eq_true rfl) rfl ⟨Nat.zero_le _, Nat.zero_le _⟩ dX2_turnMember_5) (fun H locs g => ?_)
  refine lv_astore_nN (lv' := [(2, .null), (0, .ref (gA G 0)), (1, .int x)]) hx hb dX2_turnMember_8 rfl hl (by decide) rfl (fun ls hl => ?_)
  refine lv_aload_nN hx hb dX2_turnMember_9 rfl (lv_at hl 0 rfl) ?_
  refine lv_ifnonnullN hx hb dX2_turnMember_10 ?_
  exact e_x (text := "no such walker") hfl S hno hk0 g hl.1 g.2.2.2.2.2.2.2.2.2.2.2.1 (by decide +kernel) q273 q10 (by decide +kernel) atIB ngIB otIB dX2_turnMember_13 dX2_turnMember_16 dX2_turnMember_17 dX2_turnMember_19 dX2_turnMember_22 (Nat.le_of_ble_eq_true rfl) (Nat.le_of_ble_eq_true rfl) (Nat.le_refl _) (Nat.le_refl _)
set_option maxHeartbeats 4000000 in
set_option maxRecDepth 100000 in
theorem c_setNet_ok (l : Launch) (G : gT) (F : Fs) (o : Int64) (j : Nat) (n : Nat) (y : Int32) (hn : F 1 6 = nI n) (hj : j < n) (hn8 : n ≤ 8) (hy9 : ¬ inR y 0 9 = 0) : MI l yX2_setNet cX2_setNet 5 (some .int) 1 22 [.ref (gA G 0), .int (nI j), .int y] G (F) o (up2 F (wb 1 j) 2 y) (F (wb 1 j) 2) := by
  refine mk_G (own := "ShadowPool") (Qs := (fun sz => QI G (up2 F (wb 1 j) 2 y) o (F (wb 1 j) 2) sz)) (by decide +kernel) rfl (Nat.le_of_ble_eq_true rfl) ?_
  intro p e s m args below meth c ls hr hk0 hnm S g hl
  have hl : lv_has ls 5 [(0, .ref (gA G 0)), (1, .int (nI j)), (2, .int y)] := hl
  have hx := S.1
  have hb := S.2.1
  refine lv_aload_n hx hb dX2_setNet_0 rfl (lv_at hl 0 rfl) ?_
  refine gP (k := 0) S g 0 (by decide) q90 dX2_setNet_1 ?_
  refine lv_iload_n hx hb dX2_setNet_4 rfl (lv_at hl 1 rfl) ?_
  refine g_cn (rest := []) g rfl (g_VN (n := 1) (As := [.int (nI j)]) S g (c_find_ok l G (F) o 1 j n (Or.inl rfl) hn hj hn8) (by decide) (cEb G _ o (Or.inl rfl)) rfl qn272 q196 qs5 q2 q197 ⟨by decide +kernel, by decide +kernel, by decide +kernel⟩ rfl ⟨Nat.le_of_ble_eq_true rfl, Nat.le_of_ble_eq_true rfl⟩ hl.1 (Nat.le_of_ble_eq_true rfl) rfl ⟨Nat.zero_le _, Nat.zero_le _⟩ dX2_setNet_5) (fun H locs g => ?_)
  refine lv_astore_n (lv' := [(3, .ref (gA G (wb 1 j))), (0, .ref (gA G 0)), (1, .int (nI j)), (2, .int y)]) hx hb dX2_setNet_8 rfl hl (by decide) rfl (fun ls hl => ?_)
  refine lv_aload_n hx hb dX2_setNet_9 rfl (lv_at hl 0 rfl) ?_
  refine lv_ifnonnull (tgt := 23) hx hb dX2_setNet_10 (by decide) ?_
  refine lv_iload_n hx hb dX2_setNet_23 rfl (lv_at hl 3 rfl) ?_
  refine lv_iconst (v := 0) hx hb dX2_setNet_24 (by decide) ?_
  refine lv_bipush (v := 9) hx hb dX2_setNet_25 (by decide) ?_
  refine g_ci (rest := []) g (g_S (n := 3) (As := [.int y, .int 0, .int 9]) S g (c_within l G (F) o y 0 9) (lw_S q101 q102 q1 q103) ⟨by decide +kernel, by decide +kernel, by decide +kernel⟩ rfl ⟨Nat.le_of_ble_eq_true rfl, Nat.le_of_ble_eq_true rfl⟩ hl.1 (Nat.le_of_ble_eq_true rfl) rfl ⟨Nat.zero_le _, Nat.zero_le _⟩ dX2_setNet_27) (fun H locs g => ?_)
  refine lv_if_ne (tgt := 43) hx hb dX2_setNet_30 (by decide) (fun c_30 => ?_) (fun c9 => absurd c9 hy9)
  refine lv_aload_n hx hb dX2_setNet_43 rfl (lv_at hl 0 rfl) ?_
  refine gWN (k := wb 1 j) S g (wb_lo (Or.inl rfl) _) (wb_hi (Or.inl rfl) (by omega)) 2 (by decide) qn36 dX2_setNet_44 ?_
  refine lv_istore (lv' := [(4, .int (F (wb 1 j) 2)), (3, .ref (gA G (wb 1 j))), (0, .ref (gA G 0)), (1, .int (nI j)), (2, .int y)]) hx hb dX2_setNet_47 hl (by decide) rfl (fun ls hl => ?_)
  refine lv_aload_n hx hb dX2_setNet_49 rfl (lv_at hl 1 rfl) ?_
  refine lv_iload_n hx hb dX2_setNet_50 rfl (lv_at hl 4 rfl) ?_
  refine gWpN (k := wb 1 j) S g (wb_lo (Or.inl rfl) _) (wb_hi (Or.inl rfl) (by omega)) 2 (by decide) qn36 dX2_setNet_51 (fun H locs g => ?_)
  refine lv_iload hx hb dX2_setNet_54 (lv_at hl 0 rfl) ?_
  exact e_i S hr hk0 g rfl rfl dX2_setNet_56
set_option maxHeartbeats 4000000 in
set_option maxRecDepth 100000 in
theorem x_setNet (l : Launch) (hfl : l.stackTraces = false) (G : gT) (F : Fs) (o : Int64) (x : Int32) (n : Nat) (y : Int32) (hn : F 1 6 = nI n) (hxx : x < 0 ∨ nI n ≤ x) : MX l yX2_setNet cX2_setNet 5 (some .int) 6 90 [.ref (gA G 0), .int x, .int y] G (F) o xIB := by
  refine mk_X (own := "ShadowPool") (by decide +kernel) rfl (Nat.le_of_ble_eq_true rfl) ?_
  intro p e s m args below meth c ls hno hk0 S g hl
  have hl : lv_has ls 5 [(0, .ref (gA G 0)), (1, .int x), (2, .int y)] := hl
  have hx := S.1
  have hb := S.2.1
  refine lv_aload_n hx hb dX2_setNet_0 rfl (lv_at hl 0 rfl) ?_
  refine gP (k := 0) S g 0 (by decide) q90 dX2_setNet_1 ?_
  refine lv_iload_n hx hb dX2_setNet_4 rfl (lv_at hl 1 rfl) ?_
  refine g_cn (rest := []) g rfl (g_VN (n := 1) (As := [.int x]) S g (c_find_no l G (F) o 1 x n (Or.inl rfl) hn hxx) (by decide) (cEb G _ o (Or.inl rfl)) rfl qn272 q196 qs5 q2 q197 ⟨by decide +kernel, by decide +kernel, by decide +kernel⟩ rfl ⟨Nat.le_of_ble_eq_true rfl, Nat.le_of_ble_eq_true rfl⟩ hl.1 (Nat.le_of_ble_eq_true rfl) rfl ⟨Nat.zero_le _, Nat.zero_le _⟩ dX2_setNet_5) (fun H locs g => ?_)
  refine lv_astore_nN (lv' := [(3, .null), (0, .ref (gA G 0)), (1, .int x), (2, .int y)]) hx hb dX2_setNet_8 rfl hl (by decide) rfl (fun ls hl => ?_)
  refine lv_aload_nN hx hb dX2_setNet_9 rfl (lv_at hl 0 rfl) ?_
  refine lv_ifnonnullN hx hb dX2_setNet_10 ?_
  exact e_x (text := "no such walker") hfl S hno hk0 g hl.1 g.2.2.2.2.2.2.2.2.2.2.2.1 (by decide +kernel) q273 q10 (by decide +kernel) atIB ngIB otIB dX2_setNet_13 dX2_setNet_16 dX2_setNet_17 dX2_setNet_19 dX2_setNet_22 (Nat.le_of_ble_eq_true rfl) (Nat.le_of_ble_eq_true rfl) (Nat.le_refl _) (Nat.le_refl _)
set_option maxHeartbeats 4000000 in
set_option maxRecDepth 100000 in
theorem x_setNet_net (l : Launch) (hfl : l.stackTraces = false) (G : gT) (F : Fs) (o : Int64) (j : Nat) (n : Nat) (y : Int32) (hn : F 1 6 = nI n) (hj : j < n) (hn8 : n ≤ 8) (hy9 : inR y 0 9 = 0) : MX l yX2_setNet cX2_setNet 5 (some .int) 6 90 [.ref (gA G 0), .int (nI j), .int y] G (F) o xIA := by
  refine mk_X (own := "ShadowPool") (by decide +kernel) rfl (Nat.le_of_ble_eq_true rfl) ?_
  intro p e s m args below meth c ls hno hk0 S g hl
  have hl : lv_has ls 5 [(0, .ref (gA G 0)), (1, .int (nI j)), (2, .int y)] := hl
  have hx := S.1
  have hb := S.2.1
  refine lv_aload_n hx hb dX2_setNet_0 rfl (lv_at hl 0 rfl) ?_
  refine gP (k := 0) S g 0 (by decide) q90 dX2_setNet_1 ?_
  refine lv_iload_n hx hb dX2_setNet_4 rfl (lv_at hl 1 rfl) ?_
  refine g_cn (rest := []) g rfl (g_VN (n := 1) (As := [.int (nI j)]) S g (c_find_ok l G (F) o 1 j n (Or.inl rfl) hn hj hn8) (by decide) (cEb G _ o (Or.inl rfl)) rfl qn272 q196 qs5 q2 q197 ⟨by decide +kernel, by decide +kernel, by decide +kernel⟩ rfl ⟨Nat.le_of_ble_eq_true rfl, Nat.le_of_ble_eq_true rfl⟩ hl.1 (Nat.le_of_ble_eq_true rfl) rfl ⟨Nat.zero_le _, Nat.zero_le _⟩ dX2_setNet_5) (fun H locs g => ?_)
  refine lv_astore_n (lv' := [(3, .ref (gA G (wb 1 j))), (0, .ref (gA G 0)), (1, .int (nI j)), (2, .int y)]) hx hb dX2_setNet_8 rfl hl (by decide) rfl (fun ls hl => ?_)
  refine lv_aload_n hx hb dX2_setNet_9 rfl (lv_at hl 0 rfl) ?_
  refine lv_ifnonnull (tgt := 23) hx hb dX2_setNet_10 (by decide) ?_
  refine lv_iload_n hx hb dX2_setNet_23 rfl (lv_at hl 3 rfl) ?_
  refine lv_iconst (v := 0) hx hb dX2_setNet_24 (by decide) ?_
  refine lv_bipush (v := 9) hx hb dX2_setNet_25 (by decide) ?_
  refine g_ci (rest := []) g (g_S (n := 3) (As := [.int y, .int 0, .int 9]) S g (c_within l G (F) o y 0 9) (lw_S q101 q102 q1 q103) ⟨by decide +kernel, by decide +kernel, by decide +kernel⟩ rfl ⟨Nat.le_of_ble_eq_true rfl, Nat.le_of_ble_eq_true rfl⟩ hl.1 (Nat.le_of_ble_eq_true rfl) rfl ⟨Nat.zero_le _, Nat.zero_le _⟩ dX2_setNet_27) (fun H locs g => ?_)
  refine lv_if_ne (tgt := 43) hx hb dX2_setNet_30 (by decide) (fun c9 => absurd hy9 c9) (fun c_30 => ?_)
  exact e_x (text := "net is not 0 to 9") hfl S hno hk0 g hl.1 g.2.2.2.2.2.2.2.2.2.1 (by decide +kernel) q104 q8 (by decide +kernel) atIA ngIA otIA dX2_setNet_33 dX2_setNet_36 dX2_setNet_37 dX2_setNet_39 dX2_setNet_42 (Nat.le_of_ble_eq_true rfl) (Nat.le_of_ble_eq_true rfl) (Nat.le_refl _) (Nat.le_refl _)
set_option maxHeartbeats 4000000 in
set_option maxRecDepth 100000 in
theorem c_setRate_ok (l : Launch) (G : gT) (F : Fs) (o : Int64) (x : Int32) (hx9 : ¬ inR x 0 9 = 0) : MI l yX2_setRate cX2_setRate 3 (some .int) 1 22 [.ref (gA G 0), .int x] G (F) o (up2 F 1 2 x) (F 1 2) := by
  refine mk_G (own := "ShadowPool") (Qs := (fun sz => QI G (up2 F 1 2 x) o (F 1 2) sz)) (by decide +kernel) rfl (Nat.le_of_ble_eq_true rfl) ?_
  intro p e s m args below meth c ls hr hk0 hnm S g hl
  have hl : lv_has ls 3 [(0, .ref (gA G 0)), (1, .int x)] := hl
  have hx := S.1
  have hb := S.2.1
  refine lv_iload_n hx hb dX2_setRate_0 rfl (lv_at hl 1 rfl) ?_
  refine lv_iconst (v := 0) hx hb dX2_setRate_1 (by decide) ?_
  refine lv_bipush (v := 9) hx hb dX2_setRate_2 (by decide) ?_
  refine g_ci (rest := []) g (g_S (n := 3) (As := [.int x, .int 0, .int 9]) S g (c_within l G (F) o x 0 9) (lw_S q101 q102 q1 q103) ⟨by decide +kernel, by decide +kernel, by decide +kernel⟩ rfl ⟨Nat.le_of_ble_eq_true rfl, Nat.le_of_ble_eq_true rfl⟩ hl.1 (Nat.le_of_ble_eq_true rfl) rfl ⟨Nat.zero_le _, Nat.zero_le _⟩ dX2_setRate_4) (fun H locs g => ?_)
  refine lv_if_ne (tgt := 20) hx hb dX2_setRate_7 (by decide) (fun c_7 => ?_) (fun c9 => absurd c9 hx9)
  refine lv_aload_n hx hb dX2_setRate_20 rfl (lv_at hl 0 rfl) ?_
  refine gP (k := 0) S g 0 (by decide) q90 dX2_setRate_21 ?_
  refine gBN (k := 1) S g (Or.inl rfl) 2 (by decide) qn63 dX2_setRate_24 ?_
  refine lv_istore_n (lv' := [(2, .int (F 1 2)), (0, .ref (gA G 0)), (1, .int x)]) hx hb dX2_setRate_27 rfl hl (by decide) rfl (fun ls hl => ?_)
  refine lv_aload_n hx hb dX2_setRate_28 rfl (lv_at hl 1 rfl) ?_
  refine gP (k := 0) S g 0 (by decide) q90 dX2_setRate_29 ?_
  refine lv_iload_n hx hb dX2_setRate_32 rfl (lv_at hl 2 rfl) ?_
  refine gBpN (k := 1) S g (Or.inl rfl) 2 (by decide) qn63 dX2_setRate_33 (fun H locs g => ?_)
  refine lv_iload_n hx hb dX2_setRate_36 rfl (lv_at hl 0 rfl) ?_
  exact e_i S hr hk0 g rfl rfl dX2_setRate_37
set_option maxHeartbeats 4000000 in
set_option maxRecDepth 100000 in
theorem x_setRate (l : Launch) (hfl : l.stackTraces = false) (G : gT) (F : Fs) (o : Int64) (x : Int32) (hx9 : inR x 0 9 = 0) : MX l yX2_setRate cX2_setRate 3 (some .int) 6 90 [.ref (gA G 0), .int x] G (F) o xIA := by
  refine mk_X (own := "ShadowPool") (by decide +kernel) rfl (Nat.le_of_ble_eq_true rfl) ?_
  intro p e s m args below meth c ls hno hk0 S g hl
  have hl : lv_has ls 3 [(0, .ref (gA G 0)), (1, .int x)] := hl
  have hx := S.1
  have hb := S.2.1
  refine lv_iload_n hx hb dX2_setRate_0 rfl (lv_at hl 1 rfl) ?_
  refine lv_iconst (v := 0) hx hb dX2_setRate_1 (by decide) ?_
  refine lv_bipush (v := 9) hx hb dX2_setRate_2 (by decide) ?_
  refine g_ci (rest := []) g (g_S (n := 3) (As := [.int x, .int 0, .int 9]) S g (c_within l G (F) o x 0 9) (lw_S q101 q102 q1 q103) ⟨by decide +kernel, by decide +kernel, by decide +kernel⟩ rfl ⟨Nat.le_of_ble_eq_true rfl, Nat.le_of_ble_eq_true rfl⟩ hl.1 (Nat.le_of_ble_eq_true rfl) rfl ⟨Nat.zero_le _, Nat.zero_le _⟩ dX2_setRate_4) (fun H locs g => ?_)
  refine lv_if_ne (tgt := 20) hx hb dX2_setRate_7 (by decide) (fun c9 => absurd hx9 c9) (fun c_7 => ?_)
  exact e_x (text := "rate is not 0 to 9") hfl S hno hk0 g hl.1 g.2.2.2.2.2.2.2.2.2.1 (by decide +kernel) q104 q8 (by decide +kernel) atIA ngIA otIA dX2_setRate_10 dX2_setRate_13 dX2_setRate_14 dX2_setRate_16 dX2_setRate_19 (Nat.le_of_ble_eq_true rfl) (Nat.le_of_ble_eq_true rfl) (Nat.le_refl _) (Nat.le_refl _)
set_option maxHeartbeats 4000000 in
set_option maxRecDepth 100000 in
theorem c_reinsure_ok (l : Launch) (G : gT) (F : Fs) (o : Int64) (x : Int32) (y : Int32) (hx9 : ¬ inR x 0 200 = 0) (hy9 : ¬ inR y 0 400 = 0) : MI l yX2_reinsure cX2_reinsure 4 (some .int) 1 22 [.ref (gA G 0), .int x, .int y] G (F) o (up2 (up2 F 1 3 x) 1 4 y) (F 1 4) := by
  refine mk_G (own := "ShadowPool") (Qs := (fun sz => QI G (up2 (up2 F 1 3 x) 1 4 y) o (F 1 4) sz)) (by decide +kernel) rfl (Nat.le_of_ble_eq_true rfl) ?_
  intro p e s m args below meth c ls hr hk0 hnm S g hl
  have hl : lv_has ls 4 [(0, .ref (gA G 0)), (1, .int x), (2, .int y)] := hl
  have hx := S.1
  have hb := S.2.1
  refine lv_iload_n hx hb dX2_reinsure_0 rfl (lv_at hl 1 rfl) ?_
  refine lv_iconst (v := 0) hx hb dX2_reinsure_1 (by decide) ?_
  refine lv_sipush (v := 200) hx hb dX2_reinsure_2 (by decide) ?_
  refine g_ci (rest := []) g (g_S (n := 3) (As := [.int x, .int 0, .int 200]) S g (c_within l G (F) o x 0 200) (lw_S q101 q102 q1 q103) ⟨by decide +kernel, by decide +kernel, by decide +kernel⟩ rfl ⟨Nat.le_of_ble_eq_true rfl, Nat.le_of_ble_eq_true rfl⟩ hl.1 (Nat.le_of_ble_eq_true rfl) rfl ⟨Nat.zero_le _, Nat.zero_le _⟩ dX2_reinsure_5) (fun H locs g => ?_)
  refine lv_if_ne (tgt := 21) hx hb dX2_reinsure_8 (by decide) (fun c_8 => ?_) (fun c9 => absurd c9 hx9)
  refine lv_iload_n hx hb dX2_reinsure_21 rfl (lv_at hl 2 rfl) ?_
  refine lv_iconst (v := 0) hx hb dX2_reinsure_22 (by decide) ?_
  refine lv_sipush (v := 400) hx hb dX2_reinsure_23 (by decide) ?_
  refine g_ci (rest := []) g (g_S (n := 3) (As := [.int y, .int 0, .int 400]) S g (c_within l G (F) o y 0 400) (lw_S q101 q102 q1 q103) ⟨by decide +kernel, by decide +kernel, by decide +kernel⟩ rfl ⟨Nat.le_of_ble_eq_true rfl, Nat.le_of_ble_eq_true rfl⟩ hl.1 (Nat.le_of_ble_eq_true rfl) rfl ⟨Nat.zero_le _, Nat.zero_le _⟩ dX2_reinsure_26) (fun H locs g => ?_)
  refine lv_if_ne (tgt := 42) hx hb dX2_reinsure_29 (by decide) (fun c_29 => ?_) (fun c9 => absurd c9 hy9)
  refine lv_aload_n hx hb dX2_reinsure_42 rfl (lv_at hl 0 rfl) ?_
  refine gP (k := 0) S g 0 (by decide) q90 dX2_reinsure_43 ?_
  refine gBN (k := 1) S g (Or.inl rfl) 4 (by decide) qn67 dX2_reinsure_46 ?_
  refine lv_istore_n (lv' := [(3, .int (F 1 4)), (0, .ref (gA G 0)), (1, .int x), (2, .int y)]) hx hb dX2_reinsure_49 rfl hl (by decide) rfl (fun ls hl => ?_)
  refine lv_aload_n hx hb dX2_reinsure_50 rfl (lv_at hl 1 rfl) ?_
  refine gP (k := 0) S g 0 (by decide) q90 dX2_reinsure_51 ?_
  refine lv_iload_n hx hb dX2_reinsure_54 rfl (lv_at hl 2 rfl) ?_
  refine gBpN (k := 1) S g (Or.inl rfl) 3 (by decide) qn65 dX2_reinsure_55 (fun H locs g => ?_)
  refine lv_aload_n hx hb dX2_reinsure_58 rfl (lv_at hl 1 rfl) ?_
  refine gP (k := 0) S g 0 (by decide) q90 dX2_reinsure_59 ?_
  refine lv_iload_n hx hb dX2_reinsure_62 rfl (lv_at hl 3 rfl) ?_
  refine gBpN (k := 1) S g (Or.inl rfl) 4 (by decide) qn67 dX2_reinsure_63 (fun H locs g => ?_)
  refine lv_iload_n hx hb dX2_reinsure_66 rfl (lv_at hl 0 rfl) ?_
  exact e_i S hr hk0 g rfl rfl dX2_reinsure_67
set_option maxHeartbeats 4000000 in
set_option maxRecDepth 100000 in
theorem x_reinsure (l : Launch) (hfl : l.stackTraces = false) (G : gT) (F : Fs) (o : Int64) (x : Int32) (y : Int32) (hb9 : inR x 0 200 = 0 ∨ inR y 0 400 = 0) : MX l yX2_reinsure cX2_reinsure 4 (some .int) 6 90 [.ref (gA G 0), .int x, .int y] G (F) o xIA := by
  refine mk_X (own := "ShadowPool") (by decide +kernel) rfl (Nat.le_of_ble_eq_true rfl) ?_
  intro p e s m args below meth c ls hno hk0 S g hl
  have hl : lv_has ls 4 [(0, .ref (gA G 0)), (1, .int x), (2, .int y)] := hl
  have hx := S.1
  have hb := S.2.1
  refine lv_iload_n hx hb dX2_reinsure_0 rfl (lv_at hl 1 rfl) ?_
  refine lv_iconst (v := 0) hx hb dX2_reinsure_1 (by decide) ?_
  refine lv_sipush (v := 200) hx hb dX2_reinsure_2 (by decide) ?_
  refine g_ci (rest := []) g (g_S (n := 3) (As := [.int x, .int 0, .int 200]) S g (c_within l G (F) o x 0 200) (lw_S q101 q102 q1 q103) ⟨by decide +kernel, by decide +kernel, by decide +kernel⟩ rfl ⟨Nat.le_of_ble_eq_true rfl, Nat.le_of_ble_eq_true rfl⟩ hl.1 (Nat.le_of_ble_eq_true rfl) rfl ⟨Nat.zero_le _, Nat.zero_le _⟩ dX2_reinsure_5) (fun H locs g => ?_)
  refine lv_if_ne (tgt := 21) hx hb dX2_reinsure_8 (by decide) (fun c_8 => ?_) (fun c_8 => ?_)
  · refine lv_iload_n hx hb dX2_reinsure_21 rfl (lv_at hl 2 rfl) ?_
    refine lv_iconst (v := 0) hx hb dX2_reinsure_22 (by decide) ?_
    refine lv_sipush (v := 400) hx hb dX2_reinsure_23 (by decide) ?_
    refine g_ci (rest := []) g (g_S (n := 3) (As := [.int y, .int 0, .int 400]) S g (c_within l G (F) o y 0 400) (lw_S q101 q102 q1 q103) ⟨by decide +kernel, by decide +kernel, by decide +kernel⟩ rfl ⟨Nat.le_of_ble_eq_true rfl, Nat.le_of_ble_eq_true rfl⟩ hl.1 (Nat.le_of_ble_eq_true rfl) rfl ⟨Nat.zero_le _, Nat.zero_le _⟩ dX2_reinsure_26) (fun H locs g => ?_)
    refine lv_if_ne (tgt := 42) hx hb dX2_reinsure_29 (by decide) (fun c9 => absurd (hb9.resolve_left c_8) c9) (fun c_29 => ?_)
    exact e_x (text := "limit is not 0 to 400") hfl S hno hk0 g hl.1 g.2.2.2.2.2.2.2.2.2.1 (by decide +kernel) q104 q8 (by decide +kernel) atIA ngIA otIA dX2_reinsure_32 dX2_reinsure_35 dX2_reinsure_36 dX2_reinsure_38 dX2_reinsure_41 (Nat.le_of_ble_eq_true rfl) (Nat.le_of_ble_eq_true rfl) (Nat.le_refl _) (Nat.le_refl _)
  · exact e_x (text := "retention is not 0 to 200") hfl S hno hk0 g hl.1 g.2.2.2.2.2.2.2.2.2.1 (by decide +kernel) q104 q8 (by decide +kernel) atIA ngIA otIA dX2_reinsure_11 dX2_reinsure_14 dX2_reinsure_15 dX2_reinsure_17 dX2_reinsure_20 (Nat.le_of_ble_eq_true rfl) (Nat.le_of_ble_eq_true rfl) (Nat.le_refl _) (Nat.le_refl _)
set_option maxHeartbeats 4000000 in
set_option maxRecDepth 100000 in
theorem c_pass_ok (l : Launch) (G : gT) (F : Fs) (o : Int64) (t : Nat) (n : Nat) (h : Nat) (hok : okP F n h) (hn8 : n ≤ 8) (hh2 : h < 2 ^ 28) (ht1 : 1 ≤ t) (ht : t ≤ 60) : MI l yX2_pass cX2_pass 2 (some .int) 5 117 [.ref (gA G 0), .int (nI t)] G (F) o ((gbL 1 n t h 0 F).2) ((gbL 1 n t h 0 F).1) := by
  refine mk_G (own := "ShadowPool") (Qs := (fun sz => QI G ((gbL 1 n t h 0 F).2) o ((gbL 1 n t h 0 F).1) sz)) (by decide +kernel) rfl (Nat.le_of_ble_eq_true rfl) ?_
  intro p e s m args below meth c ls hr hk0 hnm S g hl
  have hl : lv_has ls 2 [(0, .ref (gA G 0)), (1, .int (nI t))] := hl
  have hx := S.1
  have hb := S.2.1
  refine lv_iload_n hx hb dX2_pass_0 rfl (lv_at hl 1 rfl) ?_
  refine lv_iconst (v := 1) hx hb dX2_pass_1 (by decide) ?_
  refine lv_bipush (v := 60) hx hb dX2_pass_2 (by decide) ?_
  refine g_ci (rest := []) g (g_S (n := 3) (As := [.int (nI t), .int 1, .int 60]) S g (c_within l G (F) o (nI t) 1 60) (lw_S q101 q102 q1 q103) ⟨by decide +kernel, by decide +kernel, by decide +kernel⟩ rfl ⟨Nat.le_of_ble_eq_true rfl, Nat.le_of_ble_eq_true rfl⟩ hl.1 (Nat.le_of_ble_eq_true rfl) rfl ⟨Nat.zero_le _, Nat.zero_le _⟩ dX2_pass_4) (fun H locs g => ?_)
  refine lv_if_ne (tgt := 20) hx hb dX2_pass_7 (by decide) (fun c_7 => ?_) (fun c9 => absurd c9 (inR_N (lo := 1) (hi := 60) ht1 ht (by decide)))
  refine lv_aload_n hx hb dX2_pass_20 rfl (lv_at hl 0 rfl) ?_
  refine gP (k := 0) S g 0 (by decide) q90 dX2_pass_21 ?_
  refine lv_iload_n hx hb dX2_pass_24 rfl (lv_at hl 1 rfl) ?_
  refine g_ci (rest := []) g (g_VN (n := 1) (As := [.int (nI t)]) S g (c_letGoBy l G (F) o 1 n h t (Or.inl rfl) hok.1 hn8 hok.2.1 (by omega)) (by decide) (cEb G _ o (Or.inl rfl)) rfl qn172 q174 qs1 q2 q175 ⟨by decide +kernel, by decide +kernel, by decide +kernel⟩ rfl ⟨Nat.le_of_ble_eq_true rfl, Nat.le_of_ble_eq_true rfl⟩ hl.1 (Nat.le_of_ble_eq_true rfl) rfl ⟨Nat.zero_le _, Nat.zero_le _⟩ dX2_pass_25) (fun H locs g => ?_)
  exact e_i S hr hk0 g rfl rfl dX2_pass_28
set_option maxHeartbeats 4000000 in
set_option maxRecDepth 100000 in
theorem x_pass (l : Launch) (hfl : l.stackTraces = false) (G : gT) (F : Fs) (o : Int64) (x : Int32) (hx9 : inR x 1 60 = 0) : MX l yX2_pass cX2_pass 2 (some .int) 6 90 [.ref (gA G 0), .int x] G (F) o xIA := by
  refine mk_X (own := "ShadowPool") (by decide +kernel) rfl (Nat.le_of_ble_eq_true rfl) ?_
  intro p e s m args below meth c ls hno hk0 S g hl
  have hl : lv_has ls 2 [(0, .ref (gA G 0)), (1, .int x)] := hl
  have hx := S.1
  have hb := S.2.1
  refine lv_iload_n hx hb dX2_pass_0 rfl (lv_at hl 1 rfl) ?_
  refine lv_iconst (v := 1) hx hb dX2_pass_1 (by decide) ?_
  refine lv_bipush (v := 60) hx hb dX2_pass_2 (by decide) ?_
  refine g_ci (rest := []) g (g_S (n := 3) (As := [.int x, .int 1, .int 60]) S g (c_within l G (F) o x 1 60) (lw_S q101 q102 q1 q103) ⟨by decide +kernel, by decide +kernel, by decide +kernel⟩ rfl ⟨Nat.le_of_ble_eq_true rfl, Nat.le_of_ble_eq_true rfl⟩ hl.1 (Nat.le_of_ble_eq_true rfl) rfl ⟨Nat.zero_le _, Nat.zero_le _⟩ dX2_pass_4) (fun H locs g => ?_)
  refine lv_if_ne (tgt := 20) hx hb dX2_pass_7 (by decide) (fun c9 => absurd hx9 c9) (fun c_7 => ?_)
  exact e_x (text := "hours is not 1 to 60") hfl S hno hk0 g hl.1 g.2.2.2.2.2.2.2.2.2.1 (by decide +kernel) q104 q8 (by decide +kernel) atIA ngIA otIA dX2_pass_10 dX2_pass_13 dX2_pass_14 dX2_pass_16 dX2_pass_19 (Nat.le_of_ble_eq_true rfl) (Nat.le_of_ble_eq_true rfl) (Nat.le_refl _) (Nat.le_refl _)
set_option maxHeartbeats 4000000 in
set_option maxRecDepth 100000 in
theorem c_fundIn_ok (l : Launch) (G : gT) (F : Fs) (o : Int64) (t : Nat) (n : Nat) (h : Nat) (hok : okP F n h) (hn8 : n ≤ 8) (hh2 : h < 2 ^ 28) (ht1 : 1 ≤ t) (ht : t ≤ 60) : MI l yX2_fundIn cX2_fundIn 2 (some .int) 6 140 [.ref (gA G 0), .int (nI t)] G (F) o (fbF F n h t (F 1 2) (F 1 4)) (fbF F n h t (F 1 2) (F 1 4) 2 1) := by
  refine mk_G (own := "ShadowPool") (Qs := (fun sz => QI G (fbF F n h t (F 1 2) (F 1 4)) o (fbF F n h t (F 1 2) (F 1 4) 2 1) sz)) (by decide +kernel) rfl (Nat.le_of_ble_eq_true rfl) ?_
  intro p e s m args below meth c ls hr hk0 hnm S g hl
  have hl : lv_has ls 2 [(0, .ref (gA G 0)), (1, .int (nI t))] := hl
  have hx := S.1
  have hb := S.2.1
  refine lv_iload_n hx hb dX2_fundIn_0 rfl (lv_at hl 1 rfl) ?_
  refine lv_iconst (v := 1) hx hb dX2_fundIn_1 (by decide) ?_
  refine lv_bipush (v := 60) hx hb dX2_fundIn_2 (by decide) ?_
  refine g_ci (rest := []) g (g_S (n := 3) (As := [.int (nI t), .int 1, .int 60]) S g (c_within l G (F) o (nI t) 1 60) (lw_S q101 q102 q1 q103) ⟨by decide +kernel, by decide +kernel, by decide +kernel⟩ rfl ⟨Nat.le_of_ble_eq_true rfl, Nat.le_of_ble_eq_true rfl⟩ hl.1 (Nat.le_of_ble_eq_true rfl) rfl ⟨Nat.zero_le _, Nat.zero_le _⟩ dX2_fundIn_4) (fun H locs g => ?_)
  refine lv_if_ne (tgt := 20) hx hb dX2_fundIn_7 (by decide) (fun c_7 => ?_) (fun c9 => absurd c9 (inR_N (lo := 1) (hi := 60) ht1 ht (by decide)))
  refine lv_aload_n hx hb dX2_fundIn_20 rfl (lv_at hl 0 rfl) ?_
  refine lv_iload_n hx hb dX2_fundIn_21 rfl (lv_at hl 1 rfl) ?_
  refine lv_aload_n hx hb dX2_fundIn_22 rfl (lv_at hl 0 rfl) ?_
  refine gP (k := 0) S g 0 (by decide) q90 dX2_fundIn_23 ?_
  refine gBN (k := 1) S g (Or.inl rfl) 2 (by decide) qn63 dX2_fundIn_26 ?_
  refine lv_aload_n hx hb dX2_fundIn_29 rfl (lv_at hl 0 rfl) ?_
  refine gP (k := 0) S g 0 (by decide) q90 dX2_fundIn_30 ?_
  refine gBN (k := 1) S g (Or.inl rfl) 4 (by decide) qn67 dX2_fundIn_33 ?_
  refine g_ci (rest := []) g (g_V (n := 3) (As := [.int (nI t), .int (F 1 2), .int (F 1 4)]) S g (c_fundBehind l G (F) o n h t (F 1 2) (F 1 4) hok hn8 (by omega) (by omega)) (by decide) (cE0 G _ o) rfl (lw_V q374 q376 qs15 q1 q377) ⟨rfl, by decide +kernel, by decide +kernel, by decide +kernel⟩ rfl ⟨Nat.le_of_ble_eq_true rfl, Nat.le_of_ble_eq_true rfl⟩ hl.1 (Nat.le_of_ble_eq_true rfl) rfl ⟨Nat.zero_le _, Nat.zero_le _⟩ dX2_fundIn_36) (fun H locs g => ?_)
  exact e_i S hr hk0 g rfl rfl dX2_fundIn_39
set_option maxHeartbeats 4000000 in
set_option maxRecDepth 100000 in
theorem x_fundIn (l : Launch) (hfl : l.stackTraces = false) (G : gT) (F : Fs) (o : Int64) (x : Int32) (hx9 : inR x 1 60 = 0) : MX l yX2_fundIn cX2_fundIn 2 (some .int) 6 90 [.ref (gA G 0), .int x] G (F) o xIA := by
  refine mk_X (own := "ShadowPool") (by decide +kernel) rfl (Nat.le_of_ble_eq_true rfl) ?_
  intro p e s m args below meth c ls hno hk0 S g hl
  have hl : lv_has ls 2 [(0, .ref (gA G 0)), (1, .int x)] := hl
  have hx := S.1
  have hb := S.2.1
  refine lv_iload_n hx hb dX2_fundIn_0 rfl (lv_at hl 1 rfl) ?_
  refine lv_iconst (v := 1) hx hb dX2_fundIn_1 (by decide) ?_
  refine lv_bipush (v := 60) hx hb dX2_fundIn_2 (by decide) ?_
  refine g_ci (rest := []) g (g_S (n := 3) (As := [.int x, .int 1, .int 60]) S g (c_within l G (F) o x 1 60) (lw_S q101 q102 q1 q103) ⟨by decide +kernel, by decide +kernel, by decide +kernel⟩ rfl ⟨Nat.le_of_ble_eq_true rfl, Nat.le_of_ble_eq_true rfl⟩ hl.1 (Nat.le_of_ble_eq_true rfl) rfl ⟨Nat.zero_le _, Nat.zero_le _⟩ dX2_fundIn_4) (fun H locs g => ?_)
  refine lv_if_ne (tgt := 20) hx hb dX2_fundIn_7 (by decide) (fun c9 => absurd hx9 c9) (fun c_7 => ?_)
  exact e_x (text := "hours is not 1 to 60") hfl S hno hk0 g hl.1 g.2.2.2.2.2.2.2.2.2.1 (by decide +kernel) q104 q8 (by decide +kernel) atIA ngIA otIA dX2_fundIn_10 dX2_fundIn_13 dX2_fundIn_14 dX2_fundIn_16 dX2_fundIn_19 (Nat.le_of_ble_eq_true rfl) (Nat.le_of_ble_eq_true rfl) (Nat.le_refl _) (Nat.le_refl _)
set_option maxHeartbeats 4000000 in
set_option maxRecDepth 100000 in
theorem c_addWalker_ok (l : Launch) (G : gT) (F : Fs) (o : Int64) (hi : Int32) (sk : Int32) (nt : Int32) (n : Nat) (hn : F 1 6 = nI n) (hn8 : n < 8) (g1 : ¬ inR hi 1 30 = 0) (g2 : ¬ inR sk 0 5 = 0) (g3 : ¬ inR nt 0 9 = 0) : MI l yX2_addWalker cX2_addWalker 5 (some .int) 2 47 [.ref (gA G 0), .int hi, .int sk, .int nt] G (F) o (entF F 1 n hi sk nt) (nI n) := by
  refine mk_G (own := "ShadowPool") (Qs := (fun sz => QI G (entF F 1 n hi sk nt) o (nI n) sz)) (by decide +kernel) rfl (Nat.le_of_ble_eq_true rfl) ?_
  intro p e s m args below meth c ls hr hk0 hnm S g hl
  have hl : lv_has ls 5 [(0, .ref (gA G 0)), (1, .int hi), (2, .int sk), (3, .int nt)] := hl
  have hx := S.1
  have hb := S.2.1
  refine lv_iload_n hx hb dX2_addWalker_0 rfl (lv_at hl 1 rfl) ?_
  refine lv_iconst (v := 1) hx hb dX2_addWalker_1 (by decide) ?_
  refine lv_bipush (v := 30) hx hb dX2_addWalker_2 (by decide) ?_
  refine g_ci (rest := []) g (g_S (n := 3) (As := [.int hi, .int 1, .int 30]) S g (c_within l G (F) o hi 1 30) (lw_S q101 q102 q1 q103) ⟨by decide +kernel, by decide +kernel, by decide +kernel⟩ rfl ⟨Nat.le_of_ble_eq_true rfl, Nat.le_of_ble_eq_true rfl⟩ hl.1 (Nat.le_of_ble_eq_true rfl) rfl ⟨Nat.zero_le _, Nat.zero_le _⟩ dX2_addWalker_4) (fun H locs g => ?_)
  refine lv_if_ne (tgt := 20) hx hb dX2_addWalker_7 (by decide) (fun c_7 => ?_) (fun c9 => absurd c9 g1)
  refine lv_iload_n hx hb dX2_addWalker_20 rfl (lv_at hl 2 rfl) ?_
  refine lv_iconst (v := 0) hx hb dX2_addWalker_21 (by decide) ?_
  refine lv_iconst (v := 5) hx hb dX2_addWalker_22 (by decide) ?_
  refine g_ci (rest := []) g (g_S (n := 3) (As := [.int sk, .int 0, .int 5]) S g (c_within l G (F) o sk 0 5) (lw_S q101 q102 q1 q103) ⟨by decide +kernel, by decide +kernel, by decide +kernel⟩ rfl ⟨Nat.le_of_ble_eq_true rfl, Nat.le_of_ble_eq_true rfl⟩ hl.1 (Nat.le_of_ble_eq_true rfl) rfl ⟨Nat.zero_le _, Nat.zero_le _⟩ dX2_addWalker_23) (fun H locs g => ?_)
  refine lv_if_ne (tgt := 39) hx hb dX2_addWalker_26 (by decide) (fun c_26 => ?_) (fun c9 => absurd c9 g2)
  refine lv_iload_n hx hb dX2_addWalker_39 rfl (lv_at hl 3 rfl) ?_
  refine lv_iconst (v := 0) hx hb dX2_addWalker_40 (by decide) ?_
  refine lv_bipush (v := 9) hx hb dX2_addWalker_41 (by decide) ?_
  refine g_ci (rest := []) g (g_S (n := 3) (As := [.int nt, .int 0, .int 9]) S g (c_within l G (F) o nt 0 9) (lw_S q101 q102 q1 q103) ⟨by decide +kernel, by decide +kernel, by decide +kernel⟩ rfl ⟨Nat.le_of_ble_eq_true rfl, Nat.le_of_ble_eq_true rfl⟩ hl.1 (Nat.le_of_ble_eq_true rfl) rfl ⟨Nat.zero_le _, Nat.zero_le _⟩ dX2_addWalker_43) (fun H locs g => ?_)
  refine lv_if_ne (tgt := 59) hx hb dX2_addWalker_46 (by decide) (fun c_46 => ?_) (fun c9 => absurd c9 g3)
  refine lv_aload_n hx hb dX2_addWalker_59 rfl (lv_at hl 0 rfl) ?_
  refine gP (k := 0) S g 0 (by decide) q90 dX2_addWalker_60 ?_
  refine lv_iload_n hx hb dX2_addWalker_63 rfl (lv_at hl 1 rfl) ?_
  refine lv_iload_n hx hb dX2_addWalker_64 rfl (lv_at hl 2 rfl) ?_
  refine lv_iload_n hx hb dX2_addWalker_65 rfl (lv_at hl 3 rfl) ?_
  refine g_ci (rest := []) g (g_VN (n := 3) (As := [.int hi, .int sk, .int nt]) S g (c_enter_ok l G (F) o 1 n hi sk nt (Or.inl rfl) hn hn8) (by decide) (cEb G _ o (Or.inl rfl)) rfl qn549 q551 qs19 q2 q552 ⟨by decide +kernel, by decide +kernel, by decide +kernel⟩ rfl ⟨Nat.le_of_ble_eq_true rfl, Nat.le_of_ble_eq_true rfl⟩ hl.1 (Nat.le_of_ble_eq_true rfl) rfl ⟨Nat.zero_le _, Nat.zero_le _⟩ dX2_addWalker_66) (fun H locs g => ?_)
  refine lv_istore (lv' := [(4, .int (nI n)), (0, .ref (gA G 0)), (1, .int hi), (2, .int sk), (3, .int nt)]) hx hb dX2_addWalker_69 hl (by decide) rfl (fun ls hl => ?_)
  refine lv_iload hx hb dX2_addWalker_71 (lv_at hl 0 rfl) ?_
  refine lv_if_ge (tgt := 86) hx hb dX2_addWalker_73 (by decide) (fun c_73 => ?_) (fun c9 => absurd (nI_pos' (by omega)) c9)
  refine lv_iload hx hb dX2_addWalker_86 (lv_at hl 0 rfl) ?_
  exact e_i S hr hk0 g rfl rfl dX2_addWalker_88
set_option maxHeartbeats 4000000 in
set_option maxRecDepth 100000 in
theorem x_addWalker_bad (l : Launch) (hfl : l.stackTraces = false) (G : gT) (F : Fs) (o : Int64) (hi : Int32) (sk : Int32) (nt : Int32) (hb9 : inR hi 1 30 = 0 ∨ inR sk 0 5 = 0 ∨ inR nt 0 9 = 0) : MX l yX2_addWalker cX2_addWalker 5 (some .int) 6 90 [.ref (gA G 0), .int hi, .int sk, .int nt] G (F) o xIA := by
  refine mk_X (own := "ShadowPool") (by decide +kernel) rfl (Nat.le_of_ble_eq_true rfl) ?_
  intro p e s m args below meth c ls hno hk0 S g hl
  have hl : lv_has ls 5 [(0, .ref (gA G 0)), (1, .int hi), (2, .int sk), (3, .int nt)] := hl
  have hx := S.1
  have hb := S.2.1
  refine lv_iload_n hx hb dX2_addWalker_0 rfl (lv_at hl 1 rfl) ?_
  refine lv_iconst (v := 1) hx hb dX2_addWalker_1 (by decide) ?_
  refine lv_bipush (v := 30) hx hb dX2_addWalker_2 (by decide) ?_
  refine g_ci (rest := []) g (g_S (n := 3) (As := [.int hi, .int 1, .int 30]) S g (c_within l G (F) o hi 1 30) (lw_S q101 q102 q1 q103) ⟨by decide +kernel, by decide +kernel, by decide +kernel⟩ rfl ⟨Nat.le_of_ble_eq_true rfl, Nat.le_of_ble_eq_true rfl⟩ hl.1 (Nat.le_of_ble_eq_true rfl) rfl ⟨Nat.zero_le _, Nat.zero_le _⟩ dX2_addWalker_4) (fun H locs g => ?_)
  refine lv_if_ne (tgt := 20) hx hb dX2_addWalker_7 (by decide) (fun c_7 => ?_) (fun c_7 => ?_)
  · refine lv_iload_n hx hb dX2_addWalker_20 rfl (lv_at hl 2 rfl) ?_
    refine lv_iconst (v := 0) hx hb dX2_addWalker_21 (by decide) ?_
    refine lv_iconst (v := 5) hx hb dX2_addWalker_22 (by decide) ?_
    refine g_ci (rest := []) g (g_S (n := 3) (As := [.int sk, .int 0, .int 5]) S g (c_within l G (F) o sk 0 5) (lw_S q101 q102 q1 q103) ⟨by decide +kernel, by decide +kernel, by decide +kernel⟩ rfl ⟨Nat.le_of_ble_eq_true rfl, Nat.le_of_ble_eq_true rfl⟩ hl.1 (Nat.le_of_ble_eq_true rfl) rfl ⟨Nat.zero_le _, Nat.zero_le _⟩ dX2_addWalker_23) (fun H locs g => ?_)
    refine lv_if_ne (tgt := 39) hx hb dX2_addWalker_26 (by decide) (fun c_26 => ?_) (fun c_26 => ?_)
    · refine lv_iload_n hx hb dX2_addWalker_39 rfl (lv_at hl 3 rfl) ?_
      refine lv_iconst (v := 0) hx hb dX2_addWalker_40 (by decide) ?_
      refine lv_bipush (v := 9) hx hb dX2_addWalker_41 (by decide) ?_
      refine g_ci (rest := []) g (g_S (n := 3) (As := [.int nt, .int 0, .int 9]) S g (c_within l G (F) o nt 0 9) (lw_S q101 q102 q1 q103) ⟨by decide +kernel, by decide +kernel, by decide +kernel⟩ rfl ⟨Nat.le_of_ble_eq_true rfl, Nat.le_of_ble_eq_true rfl⟩ hl.1 (Nat.le_of_ble_eq_true rfl) rfl ⟨Nat.zero_le _, Nat.zero_le _⟩ dX2_addWalker_43) (fun H locs g => ?_)
      refine lv_if_ne (tgt := 59) hx hb dX2_addWalker_46 (by decide) (fun c9 => absurd (by rcases hb9 with q | q | q <;> first | exact absurd q c_7 | exact absurd q c_26 | exact q) c9) (fun c_46 => ?_)
      exact e_x (text := "net is not 0 to 9") hfl S hno hk0 g hl.1 g.2.2.2.2.2.2.2.2.2.1 (by decide +kernel) q104 q8 (by decide +kernel) atIA ngIA otIA dX2_addWalker_49 dX2_addWalker_52 dX2_addWalker_53 dX2_addWalker_55 dX2_addWalker_58 (Nat.le_of_ble_eq_true rfl) (Nat.le_of_ble_eq_true rfl) (Nat.le_refl _) (Nat.le_refl _)
    · exact e_x (text := "skill is not 0 to 5") hfl S hno hk0 g hl.1 g.2.2.2.2.2.2.2.2.2.1 (by decide +kernel) q104 q8 (by decide +kernel) atIA ngIA otIA dX2_addWalker_29 dX2_addWalker_32 dX2_addWalker_33 dX2_addWalker_35 dX2_addWalker_38 (Nat.le_of_ble_eq_true rfl) (Nat.le_of_ble_eq_true rfl) (Nat.le_refl _) (Nat.le_refl _)
  · exact e_x (text := "height is not 1 to 30") hfl S hno hk0 g hl.1 g.2.2.2.2.2.2.2.2.2.1 (by decide +kernel) q104 q8 (by decide +kernel) atIA ngIA otIA dX2_addWalker_10 dX2_addWalker_13 dX2_addWalker_14 dX2_addWalker_16 dX2_addWalker_19 (Nat.le_of_ble_eq_true rfl) (Nat.le_of_ble_eq_true rfl) (Nat.le_refl _) (Nat.le_refl _)
set_option maxHeartbeats 4000000 in
set_option maxRecDepth 100000 in
theorem x_addWalker_full (l : Launch) (hfl : l.stackTraces = false) (G : gT) (F : Fs) (o : Int64) (hi : Int32) (sk : Int32) (nt : Int32) (hn : F 1 6 = nI 8) (g1 : ¬ inR hi 1 30 = 0) (g2 : ¬ inR sk 0 5 = 0) (g3 : ¬ inR nt 0 9 = 0) : MX l yX2_addWalker cX2_addWalker 5 (some .int) 6 90 [.ref (gA G 0), .int hi, .int sk, .int nt] G (F) o xIS := by
  refine mk_X (own := "ShadowPool") (by decide +kernel) rfl (Nat.le_of_ble_eq_true rfl) ?_
  intro p e s m args below meth c ls hno hk0 S g hl
  have hl : lv_has ls 5 [(0, .ref (gA G 0)), (1, .int hi), (2, .int sk), (3, .int nt)] := hl
  have hx := S.1
  have hb := S.2.1
  refine lv_iload_n hx hb dX2_addWalker_0 rfl (lv_at hl 1 rfl) ?_
  refine lv_iconst (v := 1) hx hb dX2_addWalker_1 (by decide) ?_
  refine lv_bipush (v := 30) hx hb dX2_addWalker_2 (by decide) ?_
  refine g_ci (rest := []) g (g_S (n := 3) (As := [.int hi, .int 1, .int 30]) S g (c_within l G (F) o hi 1 30) (lw_S q101 q102 q1 q103) ⟨by decide +kernel, by decide +kernel, by decide +kernel⟩ rfl ⟨Nat.le_of_ble_eq_true rfl, Nat.le_of_ble_eq_true rfl⟩ hl.1 (Nat.le_of_ble_eq_true rfl) rfl ⟨Nat.zero_le _, Nat.zero_le _⟩ dX2_addWalker_4) (fun H locs g => ?_)
  refine lv_if_ne (tgt := 20) hx hb dX2_addWalker_7 (by decide) (fun c_7 => ?_) (fun c9 => absurd c9 g1)
  refine lv_iload_n hx hb dX2_addWalker_20 rfl (lv_at hl 2 rfl) ?_
  refine lv_iconst (v := 0) hx hb dX2_addWalker_21 (by decide) ?_
  refine lv_iconst (v := 5) hx hb dX2_addWalker_22 (by decide) ?_
  refine g_ci (rest := []) g (g_S (n := 3) (As := [.int sk, .int 0, .int 5]) S g (c_within l G (F) o sk 0 5) (lw_S q101 q102 q1 q103) ⟨by decide +kernel, by decide +kernel, by decide +kernel⟩ rfl ⟨Nat.le_of_ble_eq_true rfl, Nat.le_of_ble_eq_true rfl⟩ hl.1 (Nat.le_of_ble_eq_true rfl) rfl ⟨Nat.zero_le _, Nat.zero_le _⟩ dX2_addWalker_23) (fun H locs g => ?_)
  refine lv_if_ne (tgt := 39) hx hb dX2_addWalker_26 (by decide) (fun c_26 => ?_) (fun c9 => absurd c9 g2)
  refine lv_iload_n hx hb dX2_addWalker_39 rfl (lv_at hl 3 rfl) ?_
  refine lv_iconst (v := 0) hx hb dX2_addWalker_40 (by decide) ?_
  refine lv_bipush (v := 9) hx hb dX2_addWalker_41 (by decide) ?_
  refine g_ci (rest := []) g (g_S (n := 3) (As := [.int nt, .int 0, .int 9]) S g (c_within l G (F) o nt 0 9) (lw_S q101 q102 q1 q103) ⟨by decide +kernel, by decide +kernel, by decide +kernel⟩ rfl ⟨Nat.le_of_ble_eq_true rfl, Nat.le_of_ble_eq_true rfl⟩ hl.1 (Nat.le_of_ble_eq_true rfl) rfl ⟨Nat.zero_le _, Nat.zero_le _⟩ dX2_addWalker_43) (fun H locs g => ?_)
  refine lv_if_ne (tgt := 59) hx hb dX2_addWalker_46 (by decide) (fun c_46 => ?_) (fun c9 => absurd c9 g3)
  refine lv_aload_n hx hb dX2_addWalker_59 rfl (lv_at hl 0 rfl) ?_
  refine gP (k := 0) S g 0 (by decide) q90 dX2_addWalker_60 ?_
  refine lv_iload_n hx hb dX2_addWalker_63 rfl (lv_at hl 1 rfl) ?_
  refine lv_iload_n hx hb dX2_addWalker_64 rfl (lv_at hl 2 rfl) ?_
  refine lv_iload_n hx hb dX2_addWalker_65 rfl (lv_at hl 3 rfl) ?_
  refine g_ci (rest := []) g (g_VN (n := 3) (As := [.int hi, .int sk, .int nt]) S g (c_enter_no l G (F) o 1 hi sk nt (Or.inl rfl) hn) (by decide) (cEb G _ o (Or.inl rfl)) rfl qn549 q551 qs19 q2 q552 ⟨by decide +kernel, by decide +kernel, by decide +kernel⟩ rfl ⟨Nat.le_of_ble_eq_true rfl, Nat.le_of_ble_eq_true rfl⟩ hl.1 (Nat.le_of_ble_eq_true rfl) rfl ⟨Nat.zero_le _, Nat.zero_le _⟩ dX2_addWalker_66) (fun H locs g => ?_)
  refine lv_istore (lv' := [(4, .int (-1)), (0, .ref (gA G 0)), (1, .int hi), (2, .int sk), (3, .int nt)]) hx hb dX2_addWalker_69 hl (by decide) rfl (fun ls hl => ?_)
  refine lv_iload hx hb dX2_addWalker_71 (lv_at hl 0 rfl) ?_
  refine lv_if_ge (tgt := 86) hx hb dX2_addWalker_73 (by decide) (fun c9 => absurd c9 (by decide)) (fun c_73 => ?_)
  exact e_x (text := "there are 8 walkers") hfl S hno hk0 g hl.1 g.2.2.2.2.2.2.2.2.2.2.1 (by decide +kernel) q557 q9 (by decide +kernel) atIS ngIS otIS dX2_addWalker_76 dX2_addWalker_79 dX2_addWalker_80 dX2_addWalker_82 dX2_addWalker_85 (Nat.le_of_ble_eq_true rfl) (Nat.le_of_ble_eq_true rfl) (Nat.le_refl _) (Nat.le_refl _)
