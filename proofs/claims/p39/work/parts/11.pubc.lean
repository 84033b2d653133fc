set_option maxHeartbeats 4000000 in
set_option maxRecDepth 100000 in
theorem c_floorModG (l : Launch) (G : gT) (F : Fs) (o : Int64) (x : Int32) : MI l yJ9_floorMod_7cf53 cJ9_floorMod_7cf53 3 (some .int) 0 0 [.int x, .int 12] G (F) o (F) (fmI x) := by
  refine mk_G (own := "java/lang/Math") (Qs := (fun sz => QI G (F) o (fmI x) sz)) (by decide +kernel) rfl (Nat.le_of_ble_eq_true rfl) ?_
  intro p e s m args below meth c ls hr hk0 hnm S g hl
  have hl : lv_has ls 3 [(0, .int x), (1, .int 12)] := hl
  have hx := S.1
  have hb := S.2.1
  refine lv_iload_n hx hb dJ9_floorMod_7cf53_0 rfl (lv_at hl 0 rfl) ?_
  refine lv_iload_n hx hb dJ9_floorMod_7cf53_1 rfl (lv_at hl 1 rfl) ?_
  refine lv_irem hx hb dJ9_floorMod_7cf53_2 (by decide) ?_
  refine lv_istore_n (lv' := [(2, .int ((x) - (x) / (12) * (12))), (0, .int x), (1, .int 12)]) hx hb dJ9_floorMod_7cf53_3 rfl hl (by decide) rfl (fun ls hl => ?_)
  refine lv_iload_n hx hb dJ9_floorMod_7cf53_4 rfl (lv_at hl 1 rfl) ?_
  refine lv_iload_n hx hb dJ9_floorMod_7cf53_5 rfl (lv_at hl 2 rfl) ?_
  refine lv_ixor hx hb dJ9_floorMod_7cf53_6 ?_
  refine lv_if_ge (tgt := 18) hx hb dJ9_floorMod_7cf53_7 (by decide) (fun c_7 => ?_) (fun c_7 => ?_)
  · refine lv_iload_n hx hb dJ9_floorMod_7cf53_18 rfl (lv_at hl 0 rfl) ?_
    exact e_i S hr hk0 g (by first | rfl | (simp only [fmI, c_7, ↓reduceIte]; done) | (simp [fmI, c_7, ↓reduceIte]; done)) (by first | rfl | (simp only [fmI, c_7, ↓reduceIte]; done)) dJ9_floorMod_7cf53_19
  · refine lv_iload_n hx hb dJ9_floorMod_7cf53_10 rfl (lv_at hl 0 rfl) ?_
    refine lv_if_eq (tgt := 18) hx hb dJ9_floorMod_7cf53_11 (by decide) (fun c_11 => ?_) (fun c_11 => ?_)
    · refine lv_iload_n hx hb dJ9_floorMod_7cf53_18 rfl (lv_at hl 0 rfl) ?_
      exact e_i S hr hk0 g (by first | rfl | (simp only [fmI, c_7, c_11, ↓reduceIte]; done) | (simp [fmI, c_7, c_11, ↓reduceIte]; done)) (by first | rfl | (simp only [fmI, c_7, c_11, ↓reduceIte]; done)) dJ9_floorMod_7cf53_19
    · refine lv_iload_n hx hb dJ9_floorMod_7cf53_14 rfl (lv_at hl 0 rfl) ?_
      refine lv_iload_n hx hb dJ9_floorMod_7cf53_15 rfl (lv_at hl 2 rfl) ?_
      refine lv_iadd hx hb dJ9_floorMod_7cf53_16 ?_
      exact e_i S hr hk0 g (by first | rfl | (simp only [fmI, c_7, c_11, ↓reduceIte]; done) | (simp [fmI, c_7, c_11, ↓reduceIte]; done)) (by first | rfl | (simp only [fmI, c_7, c_11, ↓reduceIte]; done)) dJ9_floorMod_7cf53_17
set_option maxHeartbeats 4000000 in
set_option maxRecDepth 100000 in
theorem c_fund (l : Launch) (G : gT) (F : Fs) (o : Int64) : MI l yX2_fund cX2_fund 1 (some .int) 0 0 [.ref (gA G 0)] G (F) o (F) (F 1 1) := by
  refine mk_G (own := "ShadowPool") (Qs := (fun sz => QI G (F) o (F 1 1) sz)) (by decide +kernel) rfl (Nat.le_of_ble_eq_true rfl) ?_
  intro p e s m args below meth c ls hr hk0 hnm S g hl
  have hl : lv_has ls 1 [(0, .ref (gA G 0))] := hl
  have hx := S.1
  have hb := S.2.1
  refine lv_aload_n hx hb dX2_fund_0 rfl (lv_at hl 0 rfl) ?_
  refine gP (k := 0) S g 0 (by decide) q90 dX2_fund_1 ?_
  refine gBN (k := 1) S g (Or.inl rfl) 1 (by decide) qn61 dX2_fund_4 ?_
  exact e_i S hr hk0 g rfl rfl dX2_fund_7
set_option maxHeartbeats 4000000 in
set_option maxRecDepth 100000 in
theorem c_rate (l : Launch) (G : gT) (F : Fs) (o : Int64) : MI l yX2_rate cX2_rate 1 (some .int) 0 0 [.ref (gA G 0)] G (F) o (F) (F 1 2) := by
  refine mk_G (own := "ShadowPool") (Qs := (fun sz => QI G (F) o (F 1 2) sz)) (by decide +kernel) rfl (Nat.le_of_ble_eq_true rfl) ?_
  intro p e s m args below meth c ls hr hk0 hnm S g hl
  have hl : lv_has ls 1 [(0, .ref (gA G 0))] := hl
  have hx := S.1
  have hb := S.2.1
  refine lv_aload_n hx hb dX2_rate_0 rfl (lv_at hl 0 rfl) ?_
  refine gP (k := 0) S g 0 (by decide) q90 dX2_rate_1 ?_
  refine gBN (k := 1) S g (Or.inl rfl) 2 (by decide) qn63 dX2_rate_4 ?_
  exact e_i S hr hk0 g rfl rfl dX2_rate_7
set_option maxHeartbeats 4000000 in
set_option maxRecDepth 100000 in
theorem c_retention (l : Launch) (G : gT) (F : Fs) (o : Int64) : MI l yX2_retention cX2_retention 1 (some .int) 0 0 [.ref (gA G 0)] G (F) o (F) (F 1 3) := by
  refine mk_G (own := "ShadowPool") (Qs := (fun sz => QI G (F) o (F 1 3) sz)) (by decide +kernel) rfl (Nat.le_of_ble_eq_true rfl) ?_
  intro p e s m args below meth c ls hr hk0 hnm S g hl
  have hl : lv_has ls 1 [(0, .ref (gA G 0))] := hl
  have hx := S.1
  have hb := S.2.1
  refine lv_aload_n hx hb dX2_retention_0 rfl (lv_at hl 0 rfl) ?_
  refine gP (k := 0) S g 0 (by decide) q90 dX2_retention_1 ?_
  refine gBN (k := 1) S g (Or.inl rfl) 3 (by decide) qn65 dX2_retention_4 ?_
  exact e_i S hr hk0 g rfl rfl dX2_retention_7
set_option maxHeartbeats 4000000 in
set_option maxRecDepth 100000 in
theorem c_limit (l : Launch) (G : gT) (F : Fs) (o : Int64) : MI l yX2_limit cX2_limit 1 (some .int) 0 0 [.ref (gA G 0)] G (F) o (F) (F 1 4) := by
  refine mk_G (own := "ShadowPool") (Qs := (fun sz => QI G (F) o (F 1 4) sz)) (by decide +kernel) rfl (Nat.le_of_ble_eq_true rfl) ?_
  intro p e s m args below meth c ls hr hk0 hnm S g hl
  have hl : lv_has ls 1 [(0, .ref (gA G 0))] := hl
  have hx := S.1
  have hb := S.2.1
  refine lv_aload_n hx hb dX2_limit_0 rfl (lv_at hl 0 rfl) ?_
  refine gP (k := 0) S g 0 (by decide) q90 dX2_limit_1 ?_
  refine gBN (k := 1) S g (Or.inl rfl) 4 (by decide) qn67 dX2_limit_4 ?_
  exact e_i S hr hk0 g rfl rfl dX2_limit_7
set_option maxHeartbeats 4000000 in
set_option maxRecDepth 100000 in
theorem c_reinsurersLoss (l : Launch) (G : gT) (F : Fs) (o : Int64) : MI l yX2_reinsurersLoss cX2_reinsurersLoss 1 (some .int) 0 0 [.ref (gA G 0)] G (F) o (F) (F 1 5) := by
  refine mk_G (own := "ShadowPool") (Qs := (fun sz => QI G (F) o (F 1 5) sz)) (by decide +kernel) rfl (Nat.le_of_ble_eq_true rfl) ?_
  intro p e s m args below meth c ls hr hk0 hnm S g hl
  have hl : lv_has ls 1 [(0, .ref (gA G 0))] := hl
  have hx := S.1
  have hb := S.2.1
  refine lv_aload_n hx hb dX2_reinsurersLoss_0 rfl (lv_at hl 0 rfl) ?_
  refine gP (k := 0) S g 0 (by decide) q90 dX2_reinsurersLoss_1 ?_
  refine gBN (k := 1) S g (Or.inl rfl) 5 (by decide) qn69 dX2_reinsurersLoss_4 ?_
  exact e_i S hr hk0 g rfl rfl dX2_reinsurersLoss_7
set_option maxHeartbeats 4000000 in
set_option maxRecDepth 100000 in
theorem c_walkers (l : Launch) (G : gT) (F : Fs) (o : Int64) : MI l yX2_walkers cX2_walkers 1 (some .int) 0 0 [.ref (gA G 0)] G (F) o (F) (F 1 6) := by
  refine mk_G (own := "ShadowPool") (Qs := (fun sz => QI G (F) o (F 1 6) sz)) (by decide +kernel) rfl (Nat.le_of_ble_eq_true rfl) ?_
  intro p e s m args below meth c ls hr hk0 hnm S g hl
  have hl : lv_has ls 1 [(0, .ref (gA G 0))] := hl
  have hx := S.1
  have hb := S.2.1
  refine lv_aload_n hx hb dX2_walkers_0 rfl (lv_at hl 0 rfl) ?_
  refine gP (k := 0) S g 0 (by decide) q90 dX2_walkers_1 ?_
  refine gBN (k := 1) S g (Or.inl rfl) 6 (by decide) qn71 dX2_walkers_4 ?_
  exact e_i S hr hk0 g rfl rfl dX2_walkers_7
set_option maxHeartbeats 4000000 in
set_option maxRecDepth 100000 in
theorem c_hour (l : Launch) (G : gT) (F : Fs) (o : Int64) : MI l yX2_hour cX2_hour 1 (some .int) 0 0 [.ref (gA G 0)] G (F) o (F) (F 1 0) := by
  refine mk_G (own := "ShadowPool") (Qs := (fun sz => QI G (F) o (F 1 0) sz)) (by decide +kernel) rfl (Nat.le_of_ble_eq_true rfl) ?_
  intro p e s m args below meth c ls hr hk0 hnm S g hl
  have hl : lv_has ls 1 [(0, .ref (gA G 0))] := hl
  have hx := S.1
  have hb := S.2.1
  refine lv_aload_n hx hb dX2_hour_0 rfl (lv_at hl 0 rfl) ?_
  refine gP (k := 0) S g 0 (by decide) q90 dX2_hour_1 ?_
  refine gBN (k := 1) S g (Or.inl rfl) 0 (by decide) qn59 dX2_hour_4 ?_
  exact e_i S hr hk0 g rfl rfl dX2_hour_7
set_option maxHeartbeats 4000000 in
set_option maxRecDepth 100000 in
theorem c_sun (l : Launch) (G : gT) (F : Fs) (o : Int64) (h : Nat) (hh : F 1 0 = nI h) (hh2 : h < 2 ^ 29) : MI l yX2_sun cX2_sun 1 (some .int) 2 42 [.ref (gA G 0)] G (F) o (F) (suH h) := by
  refine mk_G (own := "ShadowPool") (Qs := (fun sz => QI G (F) o (suH h) sz)) (by decide +kernel) rfl (Nat.le_of_ble_eq_true rfl) ?_
  intro p e s m args below meth c ls hr hk0 hnm S g hl
  have hl : lv_has ls 1 [(0, .ref (gA G 0))] := hl
  have hx := S.1
  have hb := S.2.1
  refine lv_aload_n hx hb dX2_sun_0 rfl (lv_at hl 0 rfl) ?_
  refine gP (k := 0) S g 0 (by decide) q90 dX2_sun_1 ?_
  refine gBN (k := 1) S g (Or.inl rfl) 0 (by decide) qn59 dX2_sun_4 ?_
  rw [show (F 1 0 : Int32) = nI h from hh]
  refine g_ci (rest := []) g (g_S (n := 1) (As := [.int (nI h)]) S g (c_hourOfDay l G (F) o h (by omega)) (lw_S q248 q181 q1 q182) ⟨by decide +kernel, by decide +kernel, by decide +kernel⟩ rfl ⟨Nat.le_of_ble_eq_true rfl, Nat.le_of_ble_eq_true rfl⟩ hl.1 (Nat.le_of_ble_eq_true rfl) rfl ⟨Nat.zero_le _, Nat.zero_le _⟩ dX2_sun_7) (fun H locs g => ?_)
  refine g_ci (rest := []) g (g_S (n := 1) (As := [.int (nI (h % 12))]) S g (c_sunAt l G (F) o (nI (h % 12))) (lw_S q249 q199 q1 q200) ⟨by decide +kernel, by decide +kernel, by decide +kernel⟩ rfl ⟨Nat.le_of_ble_eq_true rfl, Nat.le_of_ble_eq_true rfl⟩ hl.1 (Nat.le_of_ble_eq_true rfl) rfl ⟨Nat.zero_le _, Nat.zero_le _⟩ dX2_sun_10) (fun H locs g => ?_)
  exact e_i S hr hk0 g rfl rfl dX2_sun_13
set_option maxHeartbeats 4000000 in
set_option maxRecDepth 100000 in
theorem c_isNoon (l : Launch) (G : gT) (F : Fs) (o : Int64) (h : Nat) (hh : F 1 0 = nI h) (hh2 : h < 2 ^ 29) : MI l yX2_isNoon cX2_isNoon 1 (some .boolean) 2 42 [.ref (gA G 0)] G (F) o (F) (noH h) := by
  refine mk_G (own := "ShadowPool") (Qs := (fun sz => QI G (F) o (noH h) sz)) (by decide +kernel) rfl (Nat.le_of_ble_eq_true rfl) ?_
  intro p e s m args below meth c ls hr hk0 hnm S g hl
  have hl : lv_has ls 1 [(0, .ref (gA G 0))] := hl
  have hx := S.1
  have hb := S.2.1
  refine lv_aload_n hx hb dX2_isNoon_0 rfl (lv_at hl 0 rfl) ?_
  refine gP (k := 0) S g 0 (by decide) q90 dX2_isNoon_1 ?_
  refine gBN (k := 1) S g (Or.inl rfl) 0 (by decide) qn59 dX2_isNoon_4 ?_
  rw [show (F 1 0 : Int32) = nI h from hh]
  refine g_ci (rest := []) g (g_S (n := 1) (As := [.int (nI h)]) S g (c_hourOfDay l G (F) o h (by omega)) (lw_S q248 q181 q1 q182) ⟨by decide +kernel, by decide +kernel, by decide +kernel⟩ rfl ⟨Nat.le_of_ble_eq_true rfl, Nat.le_of_ble_eq_true rfl⟩ hl.1 (Nat.le_of_ble_eq_true rfl) rfl ⟨Nat.zero_le _, Nat.zero_le _⟩ dX2_isNoon_7) (fun H locs g => ?_)
  refine g_ci (rest := []) g (g_S (n := 1) (As := [.int (nI (h % 12))]) S g (c_noonAt l G (F) o (nI (h % 12))) (lw_S q254 q202 q1 q203) ⟨by decide +kernel, by decide +kernel, by decide +kernel⟩ rfl ⟨Nat.le_of_ble_eq_true rfl, Nat.le_of_ble_eq_true rfl⟩ hl.1 (Nat.le_of_ble_eq_true rfl) rfl ⟨Nat.zero_le _, Nat.zero_le _⟩ dX2_isNoon_10) (fun H locs g => ?_)
  exact e_z S hr hk0 g (z01 (noon01 _)) rfl rfl dX2_isNoon_13
set_option maxHeartbeats 4000000 in
set_option maxRecDepth 100000 in
theorem c_hoursUntilNoon (l : Launch) (G : gT) (F : Fs) (o : Int64) (h : Nat) (hh : F 1 0 = nI h) (hh2 : h < 2 ^ 29) : MI l yX2_hoursUntilNoon cX2_hoursUntilNoon 2 (some .int) 2 42 [.ref (gA G 0)] G (F) o (F) (huN h) := by
  refine mk_G (own := "ShadowPool") (Qs := (fun sz => QI G (F) o (huN h) sz)) (by decide +kernel) rfl (Nat.le_of_ble_eq_true rfl) ?_
  intro p e s m args below meth c ls hr hk0 hnm S g hl
  have hl : lv_has ls 2 [(0, .ref (gA G 0))] := hl
  have hx := S.1
  have hb := S.2.1
  refine lv_aload_n hx hb dX2_hoursUntilNoon_0 rfl (lv_at hl 0 rfl) ?_
  refine gP (k := 0) S g 0 (by decide) q90 dX2_hoursUntilNoon_1 ?_
  refine gBN (k := 1) S g (Or.inl rfl) 0 (by decide) qn59 dX2_hoursUntilNoon_4 ?_
  rw [show (F 1 0 : Int32) = nI h from hh]
  refine g_ci (rest := []) g (g_S (n := 1) (As := [.int (nI h)]) S g (c_hourOfDay l G (F) o h (by omega)) (lw_S q248 q181 q1 q182) ⟨by decide +kernel, by decide +kernel, by decide +kernel⟩ rfl ⟨Nat.le_of_ble_eq_true rfl, Nat.le_of_ble_eq_true rfl⟩ hl.1 (Nat.le_of_ble_eq_true rfl) rfl ⟨Nat.zero_le _, Nat.zero_le _⟩ dX2_hoursUntilNoon_7) (fun H locs g => ?_)
  refine lv_istore_n (lv' := [(1, .int (nI (h % 12))), (0, .ref (gA G 0))]) hx hb dX2_hoursUntilNoon_10 rfl hl (by decide) rfl (fun ls hl => ?_)
  refine lv_iload_n hx hb dX2_hoursUntilNoon_11 rfl (lv_at hl 0 rfl) ?_
  refine g_ci (rest := []) g (g_S (n := 1) (As := [.int (nI (h % 12))]) S g (c_noonAt l G (F) o (nI (h % 12))) (lw_S q254 q202 q1 q203) ⟨by decide +kernel, by decide +kernel, by decide +kernel⟩ rfl ⟨Nat.le_of_ble_eq_true rfl, Nat.le_of_ble_eq_true rfl⟩ hl.1 (Nat.le_of_ble_eq_true rfl) rfl ⟨Nat.zero_le _, Nat.zero_le _⟩ dX2_hoursUntilNoon_12) (fun H locs g => ?_)
  refine lv_if_eq (tgt := 22) hx hb dX2_hoursUntilNoon_15 (by decide) (fun c_15 => ?_) (fun c_15 => ?_)
  · refine lv_iconst (v := 5) hx hb dX2_hoursUntilNoon_22 (by decide) ?_
    refine lv_iload_n hx hb dX2_hoursUntilNoon_23 rfl (lv_at hl 0 rfl) ?_
    refine lv_isub hx hb dX2_hoursUntilNoon_24 ?_
    refine lv_bipush (v := 12) hx hb dX2_hoursUntilNoon_25 (by decide) ?_
    refine g_ci (rest := []) g (g_S (n := 2) (As := [.int ((5) - (nI (h % 12))), .int 12]) S g (c_floorModG l G (F) o (5 - nI (h % 12))) (lw_S q183 q184 q11 q185) ⟨by decide +kernel, by decide +kernel, by decide +kernel⟩ rfl ⟨Nat.le_of_ble_eq_true rfl, Nat.le_of_ble_eq_true rfl⟩ hl.1 (Nat.le_of_ble_eq_true rfl) rfl ⟨Nat.zero_le _, Nat.zero_le _⟩ dX2_hoursUntilNoon_27) (fun H locs g => ?_)
    exact e_i S hr hk0 g (by first | rfl | (simp only [huN, c_15, ↓reduceIte]; done) | (simp [huN, c_15, ↓reduceIte]; done)) (by first | rfl | (simp only [huN, c_15, ↓reduceIte]; done)) dX2_hoursUntilNoon_30
  · refine lv_iconst (v := 0) hx hb dX2_hoursUntilNoon_18 (by decide) ?_
    refine lv_goto (tgt := 30) hx hb dX2_hoursUntilNoon_19 (by decide) ?_
    exact e_i S hr hk0 g (by first | rfl | (simp only [huN, c_15, ↓reduceIte]; done) | (simp [huN, c_15, ↓reduceIte]; done)) (by first | rfl | (simp only [huN, c_15, ↓reduceIte]; done)) dX2_hoursUntilNoon_30
set_option maxHeartbeats 4000000 in
set_option maxRecDepth 100000 in
theorem c_members (l : Launch) (G : gT) (F : Fs) (o : Int64) (n : Nat) (hn : F 1 6 = nI n) (hn8 : n ≤ 8) : MI l yX2_members cX2_members 1 (some .int) 2 44 [.ref (gA G 0)] G (F) o (F) (cmL F 1 n 0 0) := by
  refine mk_G (own := "ShadowPool") (Qs := (fun sz => QI G (F) o (cmL F 1 n 0 0) sz)) (by decide +kernel) rfl (Nat.le_of_ble_eq_true rfl) ?_
  intro p e s m args below meth c ls hr hk0 hnm S g hl
  have hl : lv_has ls 1 [(0, .ref (gA G 0))] := hl
  have hx := S.1
  have hb := S.2.1
  refine lv_aload_n hx hb dX2_members_0 rfl (lv_at hl 0 rfl) ?_
  refine gP (k := 0) S g 0 (by decide) q90 dX2_members_1 ?_
  refine g_ci (rest := []) g (g_VN (n := 0) (As := []) S g (c_countMembers l G (F) o 1 n (Or.inl rfl) hn hn8) (by decide) (cEb G _ o (Or.inl rfl)) rfl qn267 q192 qs4 q2 q193 ⟨by decide +kernel, by decide +kernel, by decide +kernel⟩ rfl ⟨Nat.le_of_ble_eq_true rfl, Nat.le_of_ble_eq_true rfl⟩ hl.1 (Nat.le_of_ble_eq_true rfl) rfl ⟨Nat.zero_le _, Nat.zero_le _⟩ dX2_members_4) (fun H locs g => ?_)
  exact e_i S hr hk0 g rfl rfl dX2_members_7
set_option maxHeartbeats 4000000 in
set_option maxRecDepth 100000 in
theorem c_longestShadow (l : Launch) (G : gT) (F : Fs) (o : Int64) (n : Nat) (h : Nat) (hok : okP F n h) (hn8 : n ≤ 8) (hh2 : h < 2 ^ 29) : MI l yX2_longestShadow cX2_longestShadow 6 (some .int) 3 62 [.ref (gA G 0)] G (F) o (F) (loL F (suH h) n 0 (-1) (-1)) := by
  refine mk_G (own := "ShadowPool") (Qs := (fun sz => QI G (F) o (loL F (suH h) n 0 (-1) (-1)) sz)) (by decide +kernel) rfl (Nat.le_of_ble_eq_true rfl) ?_
  intro p e s m args below meth c ls hr hk0 hnm S g hl
  have hl : lv_has ls 6 [(0, .ref (gA G 0))] := hl
  have hx := S.1
  have hb := S.2.1
  refine lv_iconst (v := (-1)) hx hb dX2_longestShadow_0 (by decide) ?_
  refine lv_istore_n (lv' := [(1, .int (-1)), (0, .ref (gA G 0))]) hx hb dX2_longestShadow_1 rfl hl (by decide) rfl (fun ls hl => ?_)
  refine lv_iconst (v := (-1)) hx hb dX2_longestShadow_2 (by decide) ?_
  refine lv_istore_n (lv' := [(2, .int (-1)), (1, .int (-1)), (0, .ref (gA G 0))]) hx hb dX2_longestShadow_3 rfl hl (by decide) rfl (fun ls hl => ?_)
  refine lv_iconst (v := 0) hx hb dX2_longestShadow_4 (by decide) ?_
  refine lv_istore_n (lv' := [(3, .int 0), (2, .int (-1)), (1, .int (-1)), (0, .ref (gA G 0))]) hx hb dX2_longestShadow_5 rfl hl (by decide) rfl (fun ls hl => ?_)
  have loop6 : ∀ (n_ : Nat) (i : Nat) (best : Int32) (len : Int32) (H : Heap) (locs : List Loc) (ls : Array Slot) (hi : i + n_ = n) (hres : loL F (suH h) n_ i best len = loL F (suH h) n 0 (-1) (-1)), GB G (F) o [] [] s H locs → lv_has ls 6 [(0, .ref (gA G 0)), (1, .int best), (2, .int len), (3, .int (nI i))] → W p l e (rmG 3 62) s m args below meth c H locs 0 0 (MQ below (QI G (F) o (loL F (suH h) n 0 (-1) (-1)) s.heap.size) args s 0 0 (GA G s.heap.size)) (F0 m 6 ls []) := by
    intro n_
    induction n_ with
    | zero =>
      intro i best len H locs ls hi hres g hl
      refine lv_iload_n hx hb dX2_longestShadow_6 rfl (lv_at hl 3 rfl) ?_
      refine lv_aload_n hx hb dX2_longestShadow_7 rfl (lv_at hl 0 rfl) ?_
      refine gP (k := 0) S g 0 (by decide) q90 dX2_longestShadow_8 ?_
      refine gBN (k := 1) S g (Or.inl rfl) 6 (by decide) qn71 dX2_longestShadow_11 ?_
      rw [show (F 1 6 : Int32) = nI n from hok.1]
      refine lv_icmp_ge (tgt := 64) hx hb dX2_longestShadow_14 (by decide) (fun c_14 => ?_) (fun c9 => absurd (nI_le (by omega) (by omega)) c9)
      refine lv_iload_n hx hb dX2_longestShadow_64 rfl (lv_at hl 1 rfl) ?_
      exact e_i S hr hk0 g hres rfl dX2_longestShadow_65
    | succ n_ ih_6 =>
      intro i best len H locs ls hi hres g hl
      refine lv_iload_n hx hb dX2_longestShadow_6 rfl (lv_at hl 3 rfl) ?_
      refine lv_aload_n hx hb dX2_longestShadow_7 rfl (lv_at hl 0 rfl) ?_
      refine gP (k := 0) S g 0 (by decide) q90 dX2_longestShadow_8 ?_
      refine gBN (k := 1) S g (Or.inl rfl) 6 (by decide) qn71 dX2_longestShadow_11 ?_
      rw [show (F 1 6 : Int32) = nI n from hok.1]
      refine lv_icmp_ge (tgt := 64) hx hb dX2_longestShadow_14 (by decide) (fun c9 => absurd c9 (nI_ge (by omega) (by omega))) (fun c_14 => ?_)
      refine lv_aload_n hx hb dX2_longestShadow_17 rfl (lv_at hl 0 rfl) ?_
      refine gP (k := 0) S g 0 (by decide) q90 dX2_longestShadow_18 ?_
      refine lv_iload_n hx hb dX2_longestShadow_21 rfl (lv_at hl 3 rfl) ?_
      refine g_cn (rest := []) g rfl (g_VN (n := 1) (As := [.int (nI i)]) S g (c_find_ok l G (F) o 1 i n (Or.inl rfl) hok.1 (by omega) hn8) (by decide) (cEb G _ o (Or.inl rfl)) rfl qn272 q196 qs5 q2 q197 ⟨by decide +kernel, by decide +kernel, by decide +kernel⟩ rfl ⟨Nat.le_of_ble_eq_true rfl, Nat.le_of_ble_eq_true rfl⟩ hl.1 (Nat.le_of_ble_eq_true rfl) rfl ⟨Nat.zero_le _, Nat.zero_le _⟩ dX2_longestShadow_22) (fun H locs g => ?_)
      refine lv_astore (lv' := [(4, .ref (gA G (wb 1 i))), (0, .ref (gA G 0)), (1, .int best), (2, .int len), (3, .int (nI i))]) hx hb dX2_longestShadow_25 hl (by decide) rfl (fun ls hl => ?_)
      refine lv_aload hx hb dX2_longestShadow_27 (lv_at hl 0 rfl) ?_
      refine lv_ifnonnull (tgt := 36) hx hb dX2_longestShadow_29 (by decide) ?_
      refine lv_aload hx hb dX2_longestShadow_36 (lv_at hl 0 rfl) ?_
      refine lv_aload_n hx hb dX2_longestShadow_38 rfl (lv_at hl 1 rfl) ?_
      refine g_ci (rest := [.ref (gA G (wb 1 i))]) g (g_V (n := 0) (As := []) S g (c_sun l G (F) o h hok.2.1 hh2) (by decide) (cE0 G _ o) rfl (lw_V q305 q245 q246 q1 q247) ⟨rfl, by decide +kernel, by decide +kernel, by decide +kernel⟩ rfl ⟨Nat.le_of_ble_eq_true rfl, Nat.le_of_ble_eq_true rfl⟩ hl.1 (Nat.le_of_ble_eq_true rfl) rfl ⟨Nat.zero_le _, Nat.zero_le _⟩ dX2_longestShadow_39) (fun H locs g => ?_)
      refine g_ci (rest := []) g (g_VN (n := 1) (As := [.int (suH h)]) S g (c_shadowUnder l G (F) o (wb 1 i) (suH h) (wb_lo (Or.inl rfl) _) (wb_hi (Or.inl rfl) (by omega)) (sun_pos h)) (Nat.lt_of_lt_of_le (wb_hi (Or.inl rfl) (by omega)) (by decide)) (cEw G _ o (wb_lo (Or.inl rfl) _) (wb_hi (Or.inl rfl) (by omega))) rfl qn306 q221 qs9 q3 q222 ⟨by decide +kernel, by decide +kernel, by decide +kernel⟩ rfl ⟨Nat.le_of_ble_eq_true rfl, Nat.le_of_ble_eq_true rfl⟩ hl.1 (Nat.le_of_ble_eq_true rfl) rfl ⟨Nat.zero_le _, Nat.zero_le _⟩ dX2_longestShadow_42) (fun H locs g => ?_)
      refine lv_istore (lv' := [(5, .int (shI (F (wb 1 i) 0) (suH h))), (4, .ref (gA G (wb 1 i))), (0, .ref (gA G 0)), (1, .int best), (2, .int len), (3, .int (nI i))]) hx hb dX2_longestShadow_45 hl (by decide) rfl (fun ls hl => ?_)
      refine lv_iload hx hb dX2_longestShadow_47 (lv_at hl 0 rfl) ?_
      refine lv_iload_n hx hb dX2_longestShadow_49 rfl (lv_at hl 4 rfl) ?_
      refine lv_icmp_le (tgt := 58) hx hb dX2_longestShadow_50 (by decide) (fun c_50 => ?_) (fun c_50 => ?_)
      · refine lv_iinc (v := nI (i + 1)) (lv' := [(3, .int (nI (i + 1))), (5, .int (shI (F (wb 1 i) 0) (suH h))), (4, .ref (gA G (wb 1 i))), (0, .ref (gA G 0)), (1, .int best), (2, .int len)]) hx hb dX2_longestShadow_58 hl (k := 5) rfl (nI_1 i) (by decide) rfl (fun ls hl => ?_)
        refine lv_goto (tgt := 6) hx hb dX2_longestShadow_61 (by decide) ?_
        exact ih_6 (i + 1) _ _ _ _ _ (by omega) (by simpa only [loL, c_14, c_50, ↓reduceIte] using hres) g (lv_sub hl [3, 4, 5, 0] rfl)
      · refine lv_iload_n hx hb dX2_longestShadow_53 rfl (lv_at hl 5 rfl) ?_
        refine lv_istore_n (lv' := [(1, .int (nI i)), (5, .int (shI (F (wb 1 i) 0) (suH h))), (4, .ref (gA G (wb 1 i))), (0, .ref (gA G 0)), (2, .int len), (3, .int (nI i))]) hx hb dX2_longestShadow_54 rfl hl (by decide) rfl (fun ls hl => ?_)
        refine lv_iload hx hb dX2_longestShadow_55 (lv_at hl 1 rfl) ?_
        refine lv_istore_n (lv' := [(2, .int (shI (F (wb 1 i) 0) (suH h))), (1, .int (nI i)), (5, .int (shI (F (wb 1 i) 0) (suH h))), (4, .ref (gA G (wb 1 i))), (0, .ref (gA G 0)), (3, .int (nI i))]) hx hb dX2_longestShadow_57 rfl hl (by decide) rfl (fun ls hl => ?_)
        refine lv_iinc (v := nI (i + 1)) (lv' := [(3, .int (nI (i + 1))), (2, .int (shI (F (wb 1 i) 0) (suH h))), (1, .int (nI i)), (5, .int (shI (F (wb 1 i) 0) (suH h))), (4, .ref (gA G (wb 1 i))), (0, .ref (gA G 0))]) hx hb dX2_longestShadow_58 hl (k := 5) rfl (nI_1 i) (by decide) rfl (fun ls hl => ?_)
        refine lv_goto (tgt := 6) hx hb dX2_longestShadow_61 (by decide) ?_
        exact ih_6 (i + 1) _ _ _ _ _ (by omega) (by simpa only [loL, c_14, c_50, ↓reduceIte] using hres) g (lv_sub hl [5, 2, 1, 0] rfl)
  exact loop6 n 0 (-1) (-1) _ _ _ (by omega) rfl g (lv_sub hl [3, 2, 1, 0] rfl)
set_option maxHeartbeats 4000000 in
set_option maxRecDepth 100000 in
theorem c_claimNow (l : Launch) (G : gT) (F : Fs) (o : Int64) (k : Nat) (h : Nat) (h1 : 5 ≤ k) (h2 : k < 21) (hh : F 1 0 = nI h) (hh2 : h < 2 ^ 29) : MI l yX2_claimNow cX2_claimNow 3 (some .int) 3 62 [.ref (gA G 0), .ref (gA G k)] G (F) o (F) (clI F k (suH h) (noH h)) := by
  refine mk_G (own := "ShadowPool") (Qs := (fun sz => QI G (F) o (clI F k (suH h) (noH h)) sz)) (by decide +kernel) rfl (Nat.le_of_ble_eq_true rfl) ?_
  intro p e s m args below meth c ls hr hk0 hnm S g hl
  have hl : lv_has ls 3 [(0, .ref (gA G 0)), (1, .ref (gA G k))] := hl
  have hx := S.1
  have hb := S.2.1
  refine lv_aload_n hx hb dX2_claimNow_0 rfl (lv_at hl 1 rfl) ?_
  refine lv_aload_n hx hb dX2_claimNow_1 rfl (lv_at hl 0 rfl) ?_
  refine g_ci (rest := [.ref (gA G k)]) g (g_V (n := 0) (As := []) S g (c_sun l G (F) o h hh hh2) (by decide) (cE0 G _ o) rfl (lw_V q305 q245 q246 q1 q247) ⟨rfl, by decide +kernel, by decide +kernel, by decide +kernel⟩ rfl ⟨Nat.le_of_ble_eq_true rfl, Nat.le_of_ble_eq_true rfl⟩ hl.1 (Nat.le_of_ble_eq_true rfl) rfl ⟨Nat.zero_le _, Nat.zero_le _⟩ dX2_claimNow_2) (fun H locs g => ?_)
  refine g_ci (rest := []) g (g_VN (n := 1) (As := [.int (suH h)]) S g (c_costUnder l G (F) o k (suH h) h1 h2 (sun_pos h)) (Nat.lt_of_lt_of_le h2 (by decide)) (cEw G _ o h1 h2) rfl qn315 q217 qs8 q3 q218 ⟨by decide +kernel, by decide +kernel, by decide +kernel⟩ rfl ⟨Nat.le_of_ble_eq_true rfl, Nat.le_of_ble_eq_true rfl⟩ hl.1 (Nat.le_of_ble_eq_true rfl) rfl ⟨Nat.zero_le _, Nat.zero_le _⟩ dX2_claimNow_5) (fun H locs g => ?_)
  refine lv_istore_n (lv' := [(2, .int (coI (F k 0) (F k 2) (suH h))), (0, .ref (gA G 0)), (1, .ref (gA G k))]) hx hb dX2_claimNow_8 rfl hl (by decide) rfl (fun ls hl => ?_)
  refine lv_iload_n hx hb dX2_claimNow_9 rfl (lv_at hl 0 rfl) ?_
  refine lv_aload_n hx hb dX2_claimNow_10 rfl (lv_at hl 2 rfl) ?_
  refine lv_iload_n hx hb dX2_claimNow_11 rfl (lv_at hl 0 rfl) ?_
  refine lv_aload_n hx hb dX2_claimNow_12 rfl (lv_at hl 1 rfl) ?_
  refine g_ci (rest := [.int (coI (F k 0) (F k 2) (suH h)), .ref (gA G k), .int (coI (F k 0) (F k 2) (suH h))]) g (g_V (n := 0) (As := []) S g (c_isNoon l G (F) o h hh hh2) (by decide) (cE0 G _ o) rfl (lw_V q320 q251 q252 q1 q253) ⟨rfl, by decide +kernel, by decide +kernel, by decide +kernel⟩ rfl ⟨Nat.le_of_ble_eq_true rfl, Nat.le_of_ble_eq_true rfl⟩ hl.1 (Nat.le_of_ble_eq_true rfl) rfl ⟨Nat.zero_le _, Nat.zero_le _⟩ dX2_claimNow_13) (fun H locs g => ?_)
  refine g_ci (rest := [.int (coI (F k 0) (F k 2) (suH h))]) g (g_VN (n := 2) (As := [.int (coI (F k 0) (F k 2) (suH h)), .int (noH h)]) S g (c_ownPart l G (F) o k (coI (F k 0) (F k 2) (suH h)) (noH h) h1 h2) (Nat.lt_of_lt_of_le h2 (by decide)) (cEw G _ o h1 h2) rfl qn321 q225 qs10 q3 q226 ⟨by decide +kernel, by decide +kernel, by decide +kernel⟩ rfl ⟨Nat.le_of_ble_eq_true rfl, Nat.le_of_ble_eq_true rfl⟩ hl.1 (Nat.le_of_ble_eq_true rfl) rfl ⟨Nat.zero_le _, Nat.zero_le _⟩ dX2_claimNow_16) (fun H locs g => ?_)
  refine lv_isub hx hb dX2_claimNow_19 ?_
  exact e_i S hr hk0 g rfl rfl dX2_claimNow_20
set_option maxHeartbeats 4000000 in
set_option maxRecDepth 100000 in
theorem c_fundBehind (l : Launch) (G : gT) (F : Fs) (o : Int64) (n : Nat) (h : Nat) (t : Nat) (rate : Int32) (lim : Int32) (hok : okP F n h) (hn8 : n ≤ 8) (hh2 : h < 2 ^ 29) (ht : t ≤ 100) : MI l yX2_fundBehind cX2_fundBehind 4 (some .int) 5 117 [.ref (gA G 0), .int (nI t), .int rate, .int lim] G (F) o (fbF F n h t rate lim) (fbF F n h t rate lim 2 1) := by
  refine mk_G (own := "ShadowPool") (Qs := (fun sz => QI G (fbF F n h t rate lim) o (fbF F n h t rate lim 2 1) sz)) (by decide +kernel) rfl (Nat.le_of_ble_eq_true rfl) ?_
  intro p e s m args below meth c ls hr hk0 hnm S g hl
  have hl : lv_has ls 4 [(0, .ref (gA G 0)), (1, .int (nI t)), (2, .int rate), (3, .int lim)] := hl
  have hx := S.1
  have hb := S.2.1
  refine lv_aload_n hx hb dX2_fundBehind_0 rfl (lv_at hl 0 rfl) ?_
  refine gP (k := 0) S g 1 (by decide) q91 dX2_fundBehind_1 ?_
  refine lv_aload_n hx hb dX2_fundBehind_4 rfl (lv_at hl 0 rfl) ?_
  refine gP (k := 0) S g 0 (by decide) q90 dX2_fundBehind_5 ?_
  refine g_cv (rest := []) g (g_VN (n := 1) (As := [.ref (gA G 1)]) S g (c_copyFrom l G (F) o n hok.1 hn8 hok.2.2) (by decide) (cEb G _ o (Or.inr rfl)) rfl qn378 q380 qs16 q2 q381 ⟨by decide +kernel, by decide +kernel, by decide +kernel⟩ rfl ⟨Nat.le_of_ble_eq_true rfl, Nat.le_of_ble_eq_true rfl⟩ hl.1 (Nat.le_of_ble_eq_true rfl) rfl ⟨Nat.zero_le _, Nat.zero_le _⟩ dX2_fundBehind_8) (fun H locs g => ?_)
  refine lv_aload_n hx hb dX2_fundBehind_11 rfl (lv_at hl 0 rfl) ?_
  refine gP (k := 0) S g 1 (by decide) q91 dX2_fundBehind_12 ?_
  refine lv_iload_n hx hb dX2_fundBehind_15 rfl (lv_at hl 2 rfl) ?_
  refine gBpN (k := 2) S g (Or.inr rfl) 2 (by decide) qn63 dX2_fundBehind_16 (fun H locs g => ?_)
  refine lv_aload_n hx hb dX2_fundBehind_19 rfl (lv_at hl 0 rfl) ?_
  refine gP (k := 0) S g 1 (by decide) q91 dX2_fundBehind_20 ?_
  refine lv_iload_n hx hb dX2_fundBehind_23 rfl (lv_at hl 3 rfl) ?_
  refine gBpN (k := 2) S g (Or.inr rfl) 4 (by decide) qn67 dX2_fundBehind_24 (fun H locs g => ?_)
  rw [show up2 (up2 (cpyF F n) (2) 2 (rate)) (2) 4 (lim) = fb0 F n rate lim from rfl] at g
  refine lv_aload_n hx hb dX2_fundBehind_27 rfl (lv_at hl 0 rfl) ?_
  refine gP (k := 0) S g 1 (by decide) q91 dX2_fundBehind_28 ?_
  refine lv_iload_n hx hb dX2_fundBehind_31 rfl (lv_at hl 1 rfl) ?_
  refine g_ci (rest := []) g (g_VN (n := 1) (As := [.int (nI t)]) S g (c_letGoBy l G (fb0 F n rate lim) o 2 n h t (Or.inr rfl) (by rw [fb0, up2_ne _ _ (by decide), up2_ne _ _ (by decide), cpyF_2 F n (by decide)]; exact hok.1) hn8 (by rw [fb0, up2_ne _ _ (by decide), up2_ne _ _ (by decide), cpyF_2 F n (by decide)]; exact hok.2.1) (by omega)) (by decide) (cEb G _ o (Or.inr rfl)) rfl qn172 q174 qs1 q2 q175 ⟨by decide +kernel, by decide +kernel, by decide +kernel⟩ rfl ⟨Nat.le_of_ble_eq_true rfl, Nat.le_of_ble_eq_true rfl⟩ hl.1 (Nat.le_of_ble_eq_true rfl) rfl ⟨Nat.zero_le _, Nat.zero_le _⟩ dX2_fundBehind_32) (fun H locs g => ?_)
  rw [show (gbL 2 n t h 0 (fb0 F n rate lim)).2 = fbF F n h t rate lim from rfl] at g
  refine lv_pop hx hb dX2_fundBehind_35 rfl ?_
  refine lv_aload_n hx hb dX2_fundBehind_36 rfl (lv_at hl 0 rfl) ?_
  refine gP (k := 0) S g 1 (by decide) q91 dX2_fundBehind_37 ?_
  refine gBN (k := 2) S g (Or.inr rfl) 1 (by decide) qn61 dX2_fundBehind_40 ?_
  exact e_i S hr hk0 g rfl rfl dX2_fundBehind_43
set_option maxHeartbeats 4000000 in
set_option maxRecDepth 100000 in
theorem c_nextToFall (l : Launch) (G : gT) (F : Fs) (o : Int64) (n : Nat) (h : Nat) (hok : okP F n h) (hn8 : n ≤ 8) (hh2 : h < 2 ^ 29) : MI l yX2_nextToFall cX2_nextToFall 6 (some .int) 3 67 [.ref (gA G 0)] G (F) o (F) (nfL F h n 0 (-1) 101) := by
  refine mk_G (own := "ShadowPool") (Qs := (fun sz => QI G (F) o (nfL F h n 0 (-1) 101) sz)) (by decide +kernel) rfl (Nat.le_of_ble_eq_true rfl) ?_
  intro p e s m args below meth c ls hr hk0 hnm S g hl
  have hl : lv_has ls 6 [(0, .ref (gA G 0))] := hl
  have hx := S.1
  have hb := S.2.1
  refine lv_iconst (v := (-1)) hx hb dX2_nextToFall_0 (by decide) ?_
  refine lv_istore_n (lv' := [(1, .int (-1)), (0, .ref (gA G 0))]) hx hb dX2_nextToFall_1 rfl hl (by decide) rfl (fun ls hl => ?_)
  refine lv_bipush (v := 101) hx hb dX2_nextToFall_2 (by decide) ?_
  refine lv_istore_n (lv' := [(2, .int 101), (1, .int (-1)), (0, .ref (gA G 0))]) hx hb dX2_nextToFall_4 rfl hl (by decide) rfl (fun ls hl => ?_)
  refine lv_iconst (v := 0) hx hb dX2_nextToFall_5 (by decide) ?_
  refine lv_istore_n (lv' := [(3, .int 0), (2, .int 101), (1, .int (-1)), (0, .ref (gA G 0))]) hx hb dX2_nextToFall_6 rfl hl (by decide) rfl (fun ls hl => ?_)
  have loop7 : ∀ (n_ : Nat) (i : Nat) (nx : Int32) (so : Int32) (H : Heap) (locs : List Loc) (ls : Array Slot) (hi : i + n_ = n) (hres : nfL F h n_ i nx so = nfL F h n 0 (-1) 101), GB G (F) o [] [] s H locs → lv_has ls 6 [(0, .ref (gA G 0)), (1, .int nx), (2, .int so), (3, .int (nI i))] → W p l e (rmG 3 67) s m args below meth c H locs 0 0 (MQ below (QI G (F) o (nfL F h n 0 (-1) 101) s.heap.size) args s 0 0 (GA G s.heap.size)) (F0 m 7 ls []) := by
    intro n_
    induction n_ with
    | zero =>
      intro i nx so H locs ls hi hres g hl
      refine lv_iload_n hx hb dX2_nextToFall_7 rfl (lv_at hl 3 rfl) ?_
      refine lv_aload_n hx hb dX2_nextToFall_8 rfl (lv_at hl 0 rfl) ?_
      refine gP (k := 0) S g 0 (by decide) q90 dX2_nextToFall_9 ?_
      refine gBN (k := 1) S g (Or.inl rfl) 6 (by decide) qn71 dX2_nextToFall_12 ?_
      rw [show (F 1 6 : Int32) = nI n from hok.1]
      refine lv_icmp_ge (tgt := 73) hx hb dX2_nextToFall_15 (by decide) (fun c_15 => ?_) (fun c9 => absurd (nI_le (by omega) (by omega)) c9)
      refine lv_iload_n hx hb dX2_nextToFall_73 rfl (lv_at hl 1 rfl) ?_
      exact e_i S hr hk0 g hres rfl dX2_nextToFall_74
    | succ n_ ih_7 =>
      intro i nx so H locs ls hi hres g hl
      refine lv_iload_n hx hb dX2_nextToFall_7 rfl (lv_at hl 3 rfl) ?_
      refine lv_aload_n hx hb dX2_nextToFall_8 rfl (lv_at hl 0 rfl) ?_
      refine gP (k := 0) S g 0 (by decide) q90 dX2_nextToFall_9 ?_
      refine gBN (k := 1) S g (Or.inl rfl) 6 (by decide) qn71 dX2_nextToFall_12 ?_
      rw [show (F 1 6 : Int32) = nI n from hok.1]
      refine lv_icmp_ge (tgt := 73) hx hb dX2_nextToFall_15 (by decide) (fun c9 => absurd c9 (nI_ge (by omega) (by omega))) (fun c_15 => ?_)
      refine lv_aload_n hx hb dX2_nextToFall_18 rfl (lv_at hl 0 rfl) ?_
      refine gP (k := 0) S g 0 (by decide) q90 dX2_nextToFall_19 ?_
      refine lv_iload_n hx hb dX2_nextToFall_22 rfl (lv_at hl 3 rfl) ?_
      refine g_cn (rest := []) g rfl (g_VN (n := 1) (As := [.int (nI i)]) S g (c_find_ok l G (F) o 1 i n (Or.inl rfl) hok.1 (by omega) hn8) (by decide) (cEb G _ o (Or.inl rfl)) rfl qn272 q196 qs5 q2 q197 ⟨by decide +kernel, by decide +kernel, by decide +kernel⟩ rfl ⟨Nat.le_of_ble_eq_true rfl, Nat.le_of_ble_eq_true rfl⟩ hl.1 (Nat.le_of_ble_eq_true rfl) rfl ⟨Nat.zero_le _, Nat.zero_le _⟩ dX2_nextToFall_23) (fun H locs g => ?_)
      refine lv_astore (lv' := [(4, .ref (gA G (wb 1 i))), (0, .ref (gA G 0)), (1, .int nx), (2, .int so), (3, .int (nI i))]) hx hb dX2_nextToFall_26 hl (by decide) rfl (fun ls hl => ?_)
      refine lv_aload hx hb dX2_nextToFall_28 (lv_at hl 0 rfl) ?_
      refine lv_ifnonnull (tgt := 37) hx hb dX2_nextToFall_30 (by decide) ?_
      refine lv_aload hx hb dX2_nextToFall_37 (lv_at hl 0 rfl) ?_
      refine lv_aload_n hx hb dX2_nextToFall_39 rfl (lv_at hl 1 rfl) ?_
      refine gP (k := 0) S g 0 (by decide) q90 dX2_nextToFall_40 ?_
      refine gBN (k := 1) S g (Or.inl rfl) 0 (by decide) qn59 dX2_nextToFall_43 ?_
      rw [show (F 1 0 : Int32) = nI h from hok.2.1]
      refine g_ci (rest := []) g (g_VN (n := 1) (As := [.int (nI h)]) S g (c_fallsBehind l G (F) o (wb 1 i) h (wb_lo (Or.inl rfl) _) (wb_hi (Or.inl rfl) (by omega)) (by omega)) (Nat.lt_of_lt_of_le (wb_hi (Or.inl rfl) (by omega)) (by decide)) (cEw G _ o (wb_lo (Or.inl rfl) _) (wb_hi (Or.inl rfl) (by omega))) rfl qn359 q361 qs14 q3 q362 ⟨by decide +kernel, by decide +kernel, by decide +kernel⟩ rfl ⟨Nat.le_of_ble_eq_true rfl, Nat.le_of_ble_eq_true rfl⟩ hl.1 (Nat.le_of_ble_eq_true rfl) rfl ⟨Nat.zero_le _, Nat.zero_le _⟩ dX2_nextToFall_46) (fun H locs g => ?_)
      refine lv_istore (lv' := [(5, .int (faB (F (wb 1 i) 0) (F (wb 1 i) 1) h 100 0 (F (wb 1 i) 3))), (4, .ref (gA G (wb 1 i))), (0, .ref (gA G 0)), (1, .int nx), (2, .int so), (3, .int (nI i))]) hx hb dX2_nextToFall_49 hl (by decide) rfl (fun ls hl => ?_)
      refine lv_iload hx hb dX2_nextToFall_51 (lv_at hl 0 rfl) ?_
      refine lv_if_le (tgt := 67) hx hb dX2_nextToFall_53 (by decide) (fun c_53 => ?_) (fun c_53 => ?_)
      · refine lv_iinc (v := nI (i + 1)) (lv' := [(3, .int (nI (i + 1))), (5, .int (faB (F (wb 1 i) 0) (F (wb 1 i) 1) h 100 0 (F (wb 1 i) 3))), (4, .ref (gA G (wb 1 i))), (0, .ref (gA G 0)), (1, .int nx), (2, .int so)]) hx hb dX2_nextToFall_67 hl (k := 5) rfl (nI_1 i) (by decide) rfl (fun ls hl => ?_)
        refine lv_goto (tgt := 7) hx hb dX2_nextToFall_70 (by decide) ?_
        exact ih_7 (i + 1) _ _ _ _ _ (by omega) (by rw [← hres]; simp only [nfL, fbI, c_15, c_53, ↓reduceIte]) g (lv_sub hl [3, 4, 5, 0] rfl)
      · refine lv_iload hx hb dX2_nextToFall_56 (lv_at hl 0 rfl) ?_
        refine lv_iload_n hx hb dX2_nextToFall_58 rfl (lv_at hl 4 rfl) ?_
        refine lv_icmp_ge (tgt := 67) hx hb dX2_nextToFall_59 (by decide) (fun c_59 => ?_) (fun c_59 => ?_)
        · refine lv_iinc (v := nI (i + 1)) (lv' := [(3, .int (nI (i + 1))), (5, .int (faB (F (wb 1 i) 0) (F (wb 1 i) 1) h 100 0 (F (wb 1 i) 3))), (4, .ref (gA G (wb 1 i))), (0, .ref (gA G 0)), (1, .int nx), (2, .int so)]) hx hb dX2_nextToFall_67 hl (k := 5) rfl (nI_1 i) (by decide) rfl (fun ls hl => ?_)
          refine lv_goto (tgt := 7) hx hb dX2_nextToFall_70 (by decide) ?_
          exact ih_7 (i + 1) _ _ _ _ _ (by omega) (by rw [← hres]; simp only [nfL, fbI, c_15, c_53, c_59, ↓reduceIte]) g (lv_sub hl [3, 4, 5, 0] rfl)
        · refine lv_iload_n hx hb dX2_nextToFall_62 rfl (lv_at hl 5 rfl) ?_
          refine lv_istore_n (lv' := [(1, .int (nI i)), (5, .int (faB (F (wb 1 i) 0) (F (wb 1 i) 1) h 100 0 (F (wb 1 i) 3))), (4, .ref (gA G (wb 1 i))), (0, .ref (gA G 0)), (2, .int so), (3, .int (nI i))]) hx hb dX2_nextToFall_63 rfl hl (by decide) rfl (fun ls hl => ?_)
          refine lv_iload hx hb dX2_nextToFall_64 (lv_at hl 1 rfl) ?_
          refine lv_istore_n (lv' := [(2, .int (faB (F (wb 1 i) 0) (F (wb 1 i) 1) h 100 0 (F (wb 1 i) 3))), (1, .int (nI i)), (5, .int (faB (F (wb 1 i) 0) (F (wb 1 i) 1) h 100 0 (F (wb 1 i) 3))), (4, .ref (gA G (wb 1 i))), (0, .ref (gA G 0)), (3, .int (nI i))]) hx hb dX2_nextToFall_66 rfl hl (by decide) rfl (fun ls hl => ?_)
          refine lv_iinc (v := nI (i + 1)) (lv' := [(3, .int (nI (i + 1))), (2, .int (faB (F (wb 1 i) 0) (F (wb 1 i) 1) h 100 0 (F (wb 1 i) 3))), (1, .int (nI i)), (5, .int (faB (F (wb 1 i) 0) (F (wb 1 i) 1) h 100 0 (F (wb 1 i) 3))), (4, .ref (gA G (wb 1 i))), (0, .ref (gA G 0))]) hx hb dX2_nextToFall_67 hl (k := 5) rfl (nI_1 i) (by decide) rfl (fun ls hl => ?_)
          refine lv_goto (tgt := 7) hx hb dX2_nextToFall_70 (by decide) ?_
          exact ih_7 (i + 1) _ _ _ _ _ (by omega) (by rw [← hres]; simp only [nfL, fbI, c_15, c_53, c_59, ↓reduceIte]) g (lv_sub hl [5, 2, 1, 0] rfl)
  exact loop7 n 0 (-1) 101 _ _ _ (by omega) rfl g (lv_sub hl [3, 2, 1, 0] rfl)
set_option maxHeartbeats 4000000 in
set_option maxRecDepth 100000 in
theorem c_hoursUntilRuin (l : Launch) (G : gT) (F : Fs) (o : Int64) (n : Nat) (h : Nat) (hok : okP F n h) (hn8 : n ≤ 8) (hh2 : h < 2 ^ 29) : MI l yX2_hoursUntilRuin cX2_hoursUntilRuin 2 (some .int) 5 117 [.ref (gA G 0)] G (F) o ((ruL n 100 0 h (cpyF F n)).2) ((ruL n 100 0 h (cpyF F n)).1) := by
  refine mk_G (own := "ShadowPool") (Qs := (fun sz => QI G ((ruL n 100 0 h (cpyF F n)).2) o ((ruL n 100 0 h (cpyF F n)).1) sz)) (by decide +kernel) rfl (Nat.le_of_ble_eq_true rfl) ?_
  intro p e s m args below meth c ls hr hk0 hnm S g hl
  have hl : lv_has ls 2 [(0, .ref (gA G 0))] := hl
  have hx := S.1
  have hb := S.2.1
  refine lv_aload_n hx hb dX2_hoursUntilRuin_0 rfl (lv_at hl 0 rfl) ?_
  refine gP (k := 0) S g 1 (by decide) q91 dX2_hoursUntilRuin_1 ?_
  refine lv_aload_n hx hb dX2_hoursUntilRuin_4 rfl (lv_at hl 0 rfl) ?_
  refine gP (k := 0) S g 0 (by decide) q90 dX2_hoursUntilRuin_5 ?_
  refine g_cv (rest := []) g (g_VN (n := 1) (As := [.ref (gA G 1)]) S g (c_copyFrom l G (F) o n hok.1 hn8 hok.2.2) (by decide) (cEb G _ o (Or.inr rfl)) rfl qn378 q380 qs16 q2 q381 ⟨by decide +kernel, by decide +kernel, by decide +kernel⟩ rfl ⟨Nat.le_of_ble_eq_true rfl, Nat.le_of_ble_eq_true rfl⟩ hl.1 (Nat.le_of_ble_eq_true rfl) rfl ⟨Nat.zero_le _, Nat.zero_le _⟩ dX2_hoursUntilRuin_8) (fun H locs g => ?_)
  refine lv_iconst (v := 0) hx hb dX2_hoursUntilRuin_11 (by decide) ?_
  refine lv_istore_n (lv' := [(1, .int 0), (0, .ref (gA G 0))]) hx hb dX2_hoursUntilRuin_12 rfl hl (by decide) rfl (fun ls hl => ?_)
  have loop13 : ∀ (n_ : Nat) (i : Nat) (F1 : Fs) (H : Heap) (locs : List Loc) (ls : Array Slot) (hi : i + n_ = 100) (hc : F1 2 6 = nI n) (hd : F1 2 0 = nI (h + i)) (hres : ruL n n_ i (h + i) F1 = ruL n 100 0 h (cpyF F n)), GB G (F1) o [] [] s H locs → lv_has ls 2 [(0, .ref (gA G 0)), (1, .int (nI i))] → W p l e (rmG 5 117) s m args below meth c H locs 0 0 (MQ below (QI G ((ruL n 100 0 h (cpyF F n)).2) o ((ruL n 100 0 h (cpyF F n)).1) s.heap.size) args s 0 0 (GA G s.heap.size)) (F0 m 13 ls []) := by
    intro n_
    induction n_ with
    | zero =>
      intro i F1 H locs ls hi hc hd hres g hl
      refine lv_iload_n hx hb dX2_hoursUntilRuin_13 rfl (lv_at hl 1 rfl) ?_
      refine lv_bipush (v := 100) hx hb dX2_hoursUntilRuin_14 (by decide) ?_
      refine lv_icmp_ge (tgt := 46) hx hb dX2_hoursUntilRuin_16 (by decide) (fun c_16 => ?_) (fun c9 => absurd (nI_le (a := 100) (by omega) (by omega)) c9)
      refine lv_aload_n hx hb dX2_hoursUntilRuin_46 rfl (lv_at hl 0 rfl) ?_
      refine gP (k := 0) S g 1 (by decide) q91 dX2_hoursUntilRuin_47 ?_
      refine gBN (k := 2) S g (Or.inr rfl) 1 (by decide) qn61 dX2_hoursUntilRuin_50 ?_
      refine lv_if_ge (tgt := 61) hx hb dX2_hoursUntilRuin_53 (by decide) (fun c_53 => ?_) (fun c_53 => ?_)
      · refine lv_iconst (v := (-1)) hx hb dX2_hoursUntilRuin_61 (by decide) ?_
        exact e_i S hr hk0 g (by rw [← hres]; simp only [ruL, c_16, c_53, ↓reduceIte]) (by rw [← hres]; simp only [ruL, c_16, c_53, ↓reduceIte]) dX2_hoursUntilRuin_62
      · refine lv_bipush (v := 100) hx hb dX2_hoursUntilRuin_56 (by decide) ?_
        refine lv_goto (tgt := 62) hx hb dX2_hoursUntilRuin_58 (by decide) ?_
        exact e_i S hr hk0 g (by rw [← hres]; simp only [ruL, c_16, c_53, ↓reduceIte]) (by rw [← hres]; simp only [ruL, c_16, c_53, ↓reduceIte]) dX2_hoursUntilRuin_62
    | succ n_ ih_13 =>
      intro i F1 H locs ls hi hc hd hres g hl
      refine lv_iload_n hx hb dX2_hoursUntilRuin_13 rfl (lv_at hl 1 rfl) ?_
      refine lv_bipush (v := 100) hx hb dX2_hoursUntilRuin_14 (by decide) ?_
      refine lv_icmp_ge (tgt := 46) hx hb dX2_hoursUntilRuin_16 (by decide) (fun c9 => absurd c9 (nI_ge (b := 100) (by omega) (by omega))) (fun c_16 => ?_)
      refine lv_aload_n hx hb dX2_hoursUntilRuin_19 rfl (lv_at hl 0 rfl) ?_
      refine gP (k := 0) S g 1 (by decide) q91 dX2_hoursUntilRuin_20 ?_
      refine gBN (k := 2) S g (Or.inr rfl) 1 (by decide) qn61 dX2_hoursUntilRuin_23 ?_
      refine lv_if_ge (tgt := 31) hx hb dX2_hoursUntilRuin_26 (by decide) (fun c_26 => ?_) (fun c_26 => ?_)
      · refine lv_aload_n hx hb dX2_hoursUntilRuin_31 rfl (lv_at hl 0 rfl) ?_
        refine gP (k := 0) S g 1 (by decide) q91 dX2_hoursUntilRuin_32 ?_
        refine lv_iconst (v := 1) hx hb dX2_hoursUntilRuin_35 (by decide) ?_
        refine g_ci (rest := []) g (g_VN (n := 1) (As := [.int 1]) S g (c_letGoBy l G (F1) o 2 n (h + i) 1 (Or.inr rfl) hc hn8 hd (by omega)) (by decide) (cEb G _ o (Or.inr rfl)) rfl qn172 q174 qs1 q2 q175 ⟨by decide +kernel, by decide +kernel, by decide +kernel⟩ rfl ⟨Nat.le_of_ble_eq_true rfl, Nat.le_of_ble_eq_true rfl⟩ hl.1 (Nat.le_of_ble_eq_true rfl) rfl ⟨Nat.zero_le _, Nat.zero_le _⟩ dX2_hoursUntilRuin_36) (fun H locs g => ?_)
        refine lv_pop hx hb dX2_hoursUntilRuin_39 rfl ?_
        refine lv_iinc (v := nI (i + 1)) (lv' := [(1, .int (nI (i + 1))), (0, .ref (gA G 0))]) hx hb dX2_hoursUntilRuin_40 hl (k := 1) rfl (nI_1 i) (by decide) rfl (fun ls hl => ?_)
        refine lv_goto (tgt := 13) hx hb dX2_hoursUntilRuin_43 (by decide) ?_
        exact ih_13 (i + 1) _ _ _ _ (by omega) (by rw [gbL_6 2 n (Or.inr rfl)]; exact hc) (by rw [gbL_0 2 n (Or.inr rfl) _ _ _ _ _ hd]; rfl) (by rw [← hres]; simp only [ruL, c_16, c_26, ↓reduceIte]; rfl) g (lv_sub hl [1, 0] rfl)
      · refine lv_iload_n hx hb dX2_hoursUntilRuin_29 rfl (lv_at hl 1 rfl) ?_
        exact e_i S hr hk0 g (by rw [← hres]; simp only [ruL, c_16, c_26, ↓reduceIte]) (by rw [← hres]; simp only [ruL, c_16, c_26, ↓reduceIte]) dX2_hoursUntilRuin_30
  exact loop13 100 0 _ _ _ _ rfl (by rw [cpyF_2 F n (by decide)]; exact hok.1) (by rw [cpyF_2 F n (by decide)]; exact hok.2.1) rfl g (lv_sub hl [1, 0] rfl)
set_option maxHeartbeats 4000000 in
set_option maxRecDepth 100000 in
theorem c_bestLimit (l : Launch) (G : gT) (F : Fs) (o : Int64) (n : Nat) (h : Nat) (hok : okP F n h) (hn8 : n ≤ 8) (hh2 : h < 2 ^ 29) : MI l yX2_bestLimit cX2_bestLimit 5 (some .int) 6 140 [.ref (gA G 0)] G (F) o ((beF F n h).2) ((beF F n h).1) := by
  refine mk_G (own := "ShadowPool") (Qs := (fun sz => QI G ((beF F n h).2) o ((beF F n h).1) sz)) (by decide +kernel) rfl (Nat.le_of_ble_eq_true rfl) ?_
  intro p e s m args below meth c ls hr hk0 hnm S g hl
  have hl : lv_has ls 5 [(0, .ref (gA G 0))] := hl
  have hx := S.1
  have hb := S.2.1
  refine lv_iconst (v := 0) hx hb dX2_bestLimit_0 (by decide) ?_
  refine lv_istore_n (lv' := [(1, .int 0), (0, .ref (gA G 0))]) hx hb dX2_bestLimit_1 rfl hl (by decide) rfl (fun ls hl => ?_)
  refine lv_aload_n hx hb dX2_bestLimit_2 rfl (lv_at hl 1 rfl) ?_
  refine lv_bipush (v := 48) hx hb dX2_bestLimit_3 (by decide) ?_
  refine lv_aload_n hx hb dX2_bestLimit_5 rfl (lv_at hl 1 rfl) ?_
  refine gP (k := 0) S g 0 (by decide) q90 dX2_bestLimit_6 ?_
  refine gBN (k := 1) S g (Or.inl rfl) 2 (by decide) qn63 dX2_bestLimit_9 ?_
  refine lv_iconst (v := 0) hx hb dX2_bestLimit_12 (by decide) ?_
  refine g_ci (rest := []) g (g_V (n := 3) (As := [.int 48, .int (F 1 2), .int 0]) S g (c_fundBehind l G (F) o n h 48 (F 1 2) 0 hok hn8 hh2 (by omega)) (by decide) (cE0 G _ o) rfl (lw_V q374 q376 qs15 q1 q377) ⟨rfl, by decide +kernel, by decide +kernel, by decide +kernel⟩ rfl ⟨Nat.le_of_ble_eq_true rfl, Nat.le_of_ble_eq_true rfl⟩ hl.1 (Nat.le_of_ble_eq_true rfl) rfl ⟨Nat.zero_le _, Nat.zero_le _⟩ dX2_bestLimit_13) (fun H locs g => ?_)
  refine lv_istore_n (lv' := [(2, .int (fbF F n h 48 (F 1 2) 0 2 1)), (1, .int 0), (0, .ref (gA G 0))]) hx hb dX2_bestLimit_16 rfl hl (by decide) rfl (fun ls hl => ?_)
  refine lv_bipush (v := 20) hx hb dX2_bestLimit_17 (by decide) ?_
  refine lv_istore_n (lv' := [(3, .int 20), (2, .int (fbF F n h 48 (F 1 2) 0 2 1)), (1, .int 0), (0, .ref (gA G 0))]) hx hb dX2_bestLimit_19 rfl hl (by decide) rfl (fun ls hl => ?_)
  have loop20 : ∀ (n_ : Nat) (i : Nat) (best : Int32) (gr : Int32) (F1 : Fs) (H : Heap) (locs : List Loc) (ls : Array Slot) (hi : i + n_ = 5) (hok1 : okP F1 n h) (hres : beL n h n_ i best gr F1 = beF F n h), GB G (F1) o [] [] s H locs → lv_has ls 5 [(0, .ref (gA G 0)), (1, .int best), (2, .int gr), (3, .int (nI (20 * (i + 1))))] → W p l e (rmG 6 140) s m args below meth c H locs 0 0 (MQ below (QI G ((beF F n h).2) o ((beF F n h).1) s.heap.size) args s 0 0 (GA G s.heap.size)) (F0 m 20 ls []) := by
    intro n_
    induction n_ with
    | zero =>
      intro i best gr F1 H locs ls hi hok1 hres g hl
      refine lv_iload_n hx hb dX2_bestLimit_20 rfl (lv_at hl 3 rfl) ?_
      refine lv_bipush (v := 100) hx hb dX2_bestLimit_21 (by decide) ?_
      refine lv_icmp_gt (tgt := 59) hx hb dX2_bestLimit_23 (by decide) (fun c_23 => ?_) (fun c9 => absurd (nI_lt (a := 100) (by omega) (by omega)) c9)
      refine lv_iload_n hx hb dX2_bestLimit_59 rfl (lv_at hl 1 rfl) ?_
      exact e_i S hr hk0 g (by rw [← hres]; rfl) (by rw [← hres]; rfl) dX2_bestLimit_60
    | succ n_ ih_20 =>
      intro i best gr F1 H locs ls hi hok1 hres g hl
      refine lv_iload_n hx hb dX2_bestLimit_20 rfl (lv_at hl 3 rfl) ?_
      refine lv_bipush (v := 100) hx hb dX2_bestLimit_21 (by decide) ?_
      refine lv_icmp_gt (tgt := 59) hx hb dX2_bestLimit_23 (by decide) (fun c9 => absurd c9 (nI_nlt (a := 100) (by omega) (by omega))) (fun c_23 => ?_)
      refine lv_aload_n hx hb dX2_bestLimit_26 rfl (lv_at hl 0 rfl) ?_
      refine lv_bipush (v := 48) hx hb dX2_bestLimit_27 (by decide) ?_
      refine lv_aload_n hx hb dX2_bestLimit_29 rfl (lv_at hl 0 rfl) ?_
      refine gP (k := 0) S g 0 (by decide) q90 dX2_bestLimit_30 ?_
      refine gBN (k := 1) S g (Or.inl rfl) 2 (by decide) qn63 dX2_bestLimit_33 ?_
      refine lv_iload_n hx hb dX2_bestLimit_36 rfl (lv_at hl 3 rfl) ?_
      refine g_ci (rest := []) g (g_V (n := 3) (As := [.int 48, .int (F1 1 2), .int (nI (20 * (i + 1)))]) S g (c_fundBehind l G (F1) o n h 48 (F1 1 2) (nI (20 * (i + 1))) hok1 hn8 hh2 (by omega)) (by decide) (cE0 G _ o) rfl (lw_V q374 q376 qs15 q1 q377) ⟨rfl, by decide +kernel, by decide +kernel, by decide +kernel⟩ rfl ⟨Nat.le_of_ble_eq_true rfl, Nat.le_of_ble_eq_true rfl⟩ hl.1 (Nat.le_of_ble_eq_true rfl) rfl ⟨Nat.zero_le _, Nat.zero_le _⟩ dX2_bestLimit_37) (fun H locs g => ?_)
      refine lv_istore (lv' := [(4, .int (fbF F1 n h 48 (F1 1 2) (nI (20 * (i + 1))) 2 1)), (0, .ref (gA G 0)), (1, .int best), (2, .int gr), (3, .int (nI (20 * (i + 1))))]) hx hb dX2_bestLimit_40 hl (by decide) rfl (fun ls hl => ?_)
      refine lv_iload hx hb dX2_bestLimit_42 (lv_at hl 0 rfl) ?_
      refine lv_iload_n hx hb dX2_bestLimit_44 rfl (lv_at hl 3 rfl) ?_
      refine lv_icmp_le (tgt := 53) hx hb dX2_bestLimit_45 (by decide) (fun c_45 => ?_) (fun c_45 => ?_)
      · refine lv_iinc (v := nI (20 * (i + 1 + 1))) (lv' := [(3, .int (nI (20 * (i + 1 + 1)))), (4, .int (fbF F1 n h 48 (F1 1 2) (nI (20 * (i + 1))) 2 1)), (0, .ref (gA G 0)), (1, .int best), (2, .int gr)]) hx hb dX2_bestLimit_53 hl (k := 4) rfl (nI_add (20 * (i + 1)) 20) (by decide) rfl (fun ls hl => ?_)
        refine lv_goto (tgt := 20) hx hb dX2_bestLimit_56 (by decide) ?_
        exact ih_20 (i + 1) _ _ _ _ _ _ (by omega) (okP_fb hok1 _ _ _) (by rw [← hres]; simp only [beL, c_23, c_45, ↓reduceIte]) g (lv_sub hl [2, 3, 4, 0] rfl)
      · refine lv_iload_n hx hb dX2_bestLimit_48 rfl (lv_at hl 4 rfl) ?_
        refine lv_istore_n (lv' := [(1, .int (nI (20 * (i + 1)))), (4, .int (fbF F1 n h 48 (F1 1 2) (nI (20 * (i + 1))) 2 1)), (0, .ref (gA G 0)), (2, .int gr), (3, .int (nI (20 * (i + 1))))]) hx hb dX2_bestLimit_49 rfl hl (by decide) rfl (fun ls hl => ?_)
        refine lv_iload hx hb dX2_bestLimit_50 (lv_at hl 1 rfl) ?_
        refine lv_istore_n (lv' := [(2, .int (fbF F1 n h 48 (F1 1 2) (nI (20 * (i + 1))) 2 1)), (1, .int (nI (20 * (i + 1)))), (4, .int (fbF F1 n h 48 (F1 1 2) (nI (20 * (i + 1))) 2 1)), (0, .ref (gA G 0)), (3, .int (nI (20 * (i + 1))))]) hx hb dX2_bestLimit_52 rfl hl (by decide) rfl (fun ls hl => ?_)
        refine lv_iinc (v := nI (20 * (i + 1 + 1))) (lv' := [(3, .int (nI (20 * (i + 1 + 1)))), (2, .int (fbF F1 n h 48 (F1 1 2) (nI (20 * (i + 1))) 2 1)), (1, .int (nI (20 * (i + 1)))), (4, .int (fbF F1 n h 48 (F1 1 2) (nI (20 * (i + 1))) 2 1)), (0, .ref (gA G 0))]) hx hb dX2_bestLimit_53 hl (k := 4) rfl (nI_add (20 * (i + 1)) 20) (by decide) rfl (fun ls hl => ?_)
        refine lv_goto (tgt := 20) hx hb dX2_bestLimit_56 (by decide) ?_
        exact ih_20 (i + 1) _ _ _ _ _ _ (by omega) (okP_fb hok1 _ _ _) (by rw [← hres]; simp only [beL, c_23, c_45, ↓reduceIte]) g (lv_sub hl [4, 2, 1, 0] rfl)
  exact loop20 5 0 0 _ _ _ _ _ rfl (okP_fb hok _ _ _) rfl g (lv_sub hl [3, 2, 1, 0] rfl)
set_option maxHeartbeats 4000000 in
set_option maxRecDepth 100000 in
theorem c_fairRate (l : Launch) (G : gT) (F : Fs) (o : Int64) (n : Nat) (h : Nat) (hok : okP F n h) (hn8 : n ≤ 8) (hh2 : h < 2 ^ 29) : MI l yX2_fairRate cX2_fairRate 2 (some .int) 6 140 [.ref (gA G 0)] G (F) o ((fiF F n h).2) ((fiF F n h).1) := by
  refine mk_G (own := "ShadowPool") (Qs := (fun sz => QI G ((fiF F n h).2) o ((fiF F n h).1) sz)) (by decide +kernel) rfl (Nat.le_of_ble_eq_true rfl) ?_
  intro p e s m args below meth c ls hr hk0 hnm S g hl
  have hl : lv_has ls 2 [(0, .ref (gA G 0))] := hl
  have hx := S.1
  have hb := S.2.1
  refine lv_iconst (v := 0) hx hb dX2_fairRate_0 (by decide) ?_
  refine lv_istore_n (lv' := [(1, .int 0), (0, .ref (gA G 0))]) hx hb dX2_fairRate_1 rfl hl (by decide) rfl (fun ls hl => ?_)
  have loop2 : ∀ (n_ : Nat) (i : Nat) (F1 : Fs) (H : Heap) (locs : List Loc) (ls : Array Slot) (hi : i + n_ = 10) (hok1 : okP F1 n h) (hres : fiL n h n_ i F1 = fiF F n h), GB G (F1) o [] [] s H locs → lv_has ls 2 [(0, .ref (gA G 0)), (1, .int (nI i))] → W p l e (rmG 6 140) s m args below meth c H locs 0 0 (MQ below (QI G ((fiF F n h).2) o ((fiF F n h).1) s.heap.size) args s 0 0 (GA G s.heap.size)) (F0 m 2 ls []) := by
    intro n_
    induction n_ with
    | zero =>
      intro i F1 H locs ls hi hok1 hres g hl
      refine lv_iload_n hx hb dX2_fairRate_2 rfl (lv_at hl 1 rfl) ?_
      refine lv_bipush (v := 9) hx hb dX2_fairRate_3 (by decide) ?_
      refine lv_icmp_gt (tgt := 40) hx hb dX2_fairRate_5 (by decide) (fun c_5 => ?_) (fun c9 => absurd (nI_lt (a := 9) (by omega) (by omega)) c9)
      refine lv_iconst (v := (-1)) hx hb dX2_fairRate_40 (by decide) ?_
      exact e_i S hr hk0 g (by rw [← hres]; rfl) (by rw [← hres]; rfl) dX2_fairRate_41
    | succ n_ ih_2 =>
      intro i F1 H locs ls hi hok1 hres g hl
      refine lv_iload_n hx hb dX2_fairRate_2 rfl (lv_at hl 1 rfl) ?_
      refine lv_bipush (v := 9) hx hb dX2_fairRate_3 (by decide) ?_
      refine lv_icmp_gt (tgt := 40) hx hb dX2_fairRate_5 (by decide) (fun c9 => absurd c9 (nI_nlt (a := 9) (by omega) (by omega))) (fun c_5 => ?_)
      refine lv_aload_n hx hb dX2_fairRate_8 rfl (lv_at hl 0 rfl) ?_
      refine lv_bipush (v := 48) hx hb dX2_fairRate_9 (by decide) ?_
      refine lv_iload_n hx hb dX2_fairRate_11 rfl (lv_at hl 1 rfl) ?_
      refine lv_aload_n hx hb dX2_fairRate_12 rfl (lv_at hl 0 rfl) ?_
      refine gP (k := 0) S g 0 (by decide) q90 dX2_fairRate_13 ?_
      refine gBN (k := 1) S g (Or.inl rfl) 4 (by decide) qn67 dX2_fairRate_16 ?_
      refine g_ci (rest := []) g (g_V (n := 3) (As := [.int 48, .int (nI i), .int (F1 1 4)]) S g (c_fundBehind l G (F1) o n h 48 (nI i) (F1 1 4) hok1 hn8 hh2 (by omega)) (by decide) (cE0 G _ o) rfl (lw_V q374 q376 qs15 q1 q377) ⟨rfl, by decide +kernel, by decide +kernel, by decide +kernel⟩ rfl ⟨Nat.le_of_ble_eq_true rfl, Nat.le_of_ble_eq_true rfl⟩ hl.1 (Nat.le_of_ble_eq_true rfl) rfl ⟨Nat.zero_le _, Nat.zero_le _⟩ dX2_fairRate_19) (fun H locs g => ?_)
      refine lv_aload_n hx hb dX2_fairRate_22 rfl (lv_at hl 0 rfl) ?_
      refine gP (k := 0) S g 0 (by decide) q90 dX2_fairRate_23 ?_
      refine gBN (k := 1) S g (Or.inl rfl) 1 (by decide) qn61 dX2_fairRate_26 ?_
      refine lv_icmp_lt (tgt := 34) hx hb dX2_fairRate_29 (by decide) (fun c_29 => ?_) (fun c_29 => ?_)
      · refine lv_iinc (v := nI (i + 1)) (lv' := [(1, .int (nI (i + 1))), (0, .ref (gA G 0))]) hx hb dX2_fairRate_34 hl (k := 1) rfl (nI_1 i) (by decide) rfl (fun ls hl => ?_)
        refine lv_goto (tgt := 2) hx hb dX2_fairRate_37 (by decide) ?_
        exact ih_2 (i + 1) _ _ _ _ (by omega) (okP_fb hok1 _ _ _) (by rw [← hres]; simp only [fiL, c_5, c_29, ↓reduceIte]) g (lv_sub hl [1, 0] rfl)
      · refine lv_iload_n hx hb dX2_fairRate_32 rfl (lv_at hl 1 rfl) ?_
        exact e_i S hr hk0 g (by rw [← hres]; simp only [fiL, c_5, c_29, ↓reduceIte]) (by rw [← hres]; simp only [fiL, c_5, c_29, ↓reduceIte]) dX2_fairRate_33
  exact loop2 10 0 F _ _ _ rfl hok rfl g (lv_sub hl [1, 0] rfl)
set_option maxHeartbeats 4000000 in
set_option maxRecDepth 100000 in
theorem c_meanShadow (l : Launch) (G : gT) (F : Fs) (o : Int64) (n : Nat) (h : Nat) (hok : okP F n h) (hn8 : n ≤ 8) (hh2 : h < 2 ^ 29) (hnan : ¬ nI n = 0 → vf_n64 (FP.ddiv (FP.i2d (msL F (suH h) n 0 0)) (FP.i2d (nI n)))) : MD l yX2_meanShadow cX2_meanShadow 4 3 62 [.ref (gA G 0)] G (F) o (F) (msD F n h) := by
  refine mk_G (own := "ShadowPool") (Qs := (fun sz => QD G (F) o (msD F n h) sz)) (by decide +kernel) rfl (Nat.le_of_ble_eq_true rfl) ?_
  intro p e s m args below meth c ls hr hk0 hnm S g hl
  have hl : lv_has ls 4 [(0, .ref (gA G 0))] := hl
  have hx := S.1
  have hb := S.2.1
  refine lv_iconst (v := 0) hx hb dX2_meanShadow_0 (by decide) ?_
  refine lv_istore_n (lv' := [(1, .int 0), (0, .ref (gA G 0))]) hx hb dX2_meanShadow_1 rfl hl (by decide) rfl (fun ls hl => ?_)
  refine lv_iconst (v := 0) hx hb dX2_meanShadow_2 (by decide) ?_
  refine lv_istore_n (lv' := [(2, .int 0), (1, .int 0), (0, .ref (gA G 0))]) hx hb dX2_meanShadow_3 rfl hl (by decide) rfl (fun ls hl => ?_)
  have loop4 : ∀ (n_ : Nat) (i : Nat) (acc : Int32) (H : Heap) (locs : List Loc) (ls : Array Slot) (hi : i + n_ = n) (hres : msL F (suH h) n_ i acc = msL F (suH h) n 0 0), GB G (F) o [] [] s H locs → lv_has ls 4 [(0, .ref (gA G 0)), (1, .int acc), (2, .int (nI i))] → W p l e (rmG 3 62) s m args below meth c H locs 0 0 (MQ below (QD G (F) o (msD F n h) s.heap.size) args s 0 0 (GA G s.heap.size)) (F0 m 4 ls []) := by
    intro n_
    induction n_ with
    | zero =>
      intro i acc H locs ls hi hres g hl
      have hres : acc = msL F (suH h) n 0 0 := hres
      refine lv_iload_n hx hb dX2_meanShadow_4 rfl (lv_at hl 2 rfl) ?_
      refine lv_aload_n hx hb dX2_meanShadow_5 rfl (lv_at hl 0 rfl) ?_
      refine gP (k := 0) S g 0 (by decide) q90 dX2_meanShadow_6 ?_
      refine gBN (k := 1) S g (Or.inl rfl) 6 (by decide) qn71 dX2_meanShadow_9 ?_
      rw [show (F 1 6 : Int32) = nI n from hok.1]
      refine lv_icmp_ge (tgt := 49) hx hb dX2_meanShadow_12 (by decide) (fun c_12 => ?_) (fun c9 => absurd (nI_le (by omega) (by omega)) c9)
      refine lv_aload_n hx hb dX2_meanShadow_49 rfl (lv_at hl 0 rfl) ?_
      refine gP (k := 0) S g 0 (by decide) q90 dX2_meanShadow_50 ?_
      refine gBN (k := 1) S g (Or.inl rfl) 6 (by decide) qn71 dX2_meanShadow_53 ?_
      rw [show (F 1 6 : Int32) = nI n from hok.1]
      refine lv_if_ne (tgt := 63) hx hb dX2_meanShadow_56 (by decide) (fun c_56 => ?_) (fun c_56 => ?_)
      · refine lv_iload_n hx hb dX2_meanShadow_63 rfl (lv_at hl 1 rfl) ?_
        refine lv_i2d hx hb dX2_meanShadow_64 ?_
        refine lv_aload_n hx hb dX2_meanShadow_65 rfl (lv_at hl 0 rfl) ?_
        refine gP (k := 0) S g 0 (by decide) q90 dX2_meanShadow_66 ?_
        refine gBN (k := 1) S g (Or.inl rfl) 6 (by decide) qn71 dX2_meanShadow_69 ?_
        rw [show (F 1 6 : Int32) = nI n from hok.1]
        refine lv_i2d hx hb dX2_meanShadow_72 ?_
        refine lv_ddiv hx hb dX2_meanShadow_73 (by rw [hres]; exact hnan c_56) ?_
        exact e_d S hr hk0 g (by simp only [msD, ← hres, c_12, c_56, ↓reduceIte]) rfl dX2_meanShadow_74
      · refine lv_dconst0 hx hb dX2_meanShadow_59 ?_
        refine lv_goto (tgt := 74) hx hb dX2_meanShadow_60 (by decide) ?_
        exact e_d S hr hk0 g (by simp only [msD, ← hres, c_12, c_56, ↓reduceIte]) rfl dX2_meanShadow_74
    | succ n_ ih_4 =>
      intro i acc H locs ls hi hres g hl
      refine lv_iload_n hx hb dX2_meanShadow_4 rfl (lv_at hl 2 rfl) ?_
      refine lv_aload_n hx hb dX2_meanShadow_5 rfl (lv_at hl 0 rfl) ?_
      refine gP (k := 0) S g 0 (by decide) q90 dX2_meanShadow_6 ?_
      refine gBN (k := 1) S g (Or.inl rfl) 6 (by decide) qn71 dX2_meanShadow_9 ?_
      rw [show (F 1 6 : Int32) = nI n from hok.1]
      refine lv_icmp_ge (tgt := 49) hx hb dX2_meanShadow_12 (by decide) (fun c9 => absurd c9 (nI_ge (by omega) (by omega))) (fun c_12 => ?_)
      refine lv_aload_n hx hb dX2_meanShadow_15 rfl (lv_at hl 0 rfl) ?_
      refine gP (k := 0) S g 0 (by decide) q90 dX2_meanShadow_16 ?_
      refine lv_iload_n hx hb dX2_meanShadow_19 rfl (lv_at hl 2 rfl) ?_
      refine g_cn (rest := []) g rfl (g_VN (n := 1) (As := [.int (nI i)]) S g (c_find_ok l G (F) o 1 i n (Or.inl rfl) hok.1 (by omega) hn8) (by decide) (cEb G _ o (Or.inl rfl)) rfl qn272 q196 qs5 q2 q197 ⟨by decide +kernel, by decide +kernel, by decide +kernel⟩ rfl ⟨Nat.le_of_ble_eq_true rfl, Nat.le_of_ble_eq_true rfl⟩ hl.1 (Nat.le_of_ble_eq_true rfl) rfl ⟨Nat.zero_le _, Nat.zero_le _⟩ dX2_meanShadow_20) (fun H locs g => ?_)
      refine lv_astore_n (lv' := [(3, .ref (gA G (wb 1 i))), (0, .ref (gA G 0)), (1, .int acc), (2, .int (nI i))]) hx hb dX2_meanShadow_23 rfl hl (by decide) rfl (fun ls hl => ?_)
      refine lv_iload_n hx hb dX2_meanShadow_24 rfl (lv_at hl 2 rfl) ?_
      refine lv_aload_n hx hb dX2_meanShadow_25 rfl (lv_at hl 0 rfl) ?_
      refine lv_ifnonnull (tgt := 33) hx hb dX2_meanShadow_26 (by decide) ?_
      refine lv_aload_n hx hb dX2_meanShadow_33 rfl (lv_at hl 0 rfl) ?_
      refine lv_aload_n hx hb dX2_meanShadow_34 rfl (lv_at hl 1 rfl) ?_
      refine g_ci (rest := [.ref (gA G (wb 1 i)), .int acc]) g (g_V (n := 0) (As := []) S g (c_sun l G (F) o h hok.2.1 hh2) (by decide) (cE0 G _ o) rfl (lw_V q305 q245 q246 q1 q247) ⟨rfl, by decide +kernel, by decide +kernel, by decide +kernel⟩ rfl ⟨Nat.le_of_ble_eq_true rfl, Nat.le_of_ble_eq_true rfl⟩ hl.1 (Nat.le_of_ble_eq_true rfl) rfl ⟨Nat.zero_le _, Nat.zero_le _⟩ dX2_meanShadow_35) (fun H locs g => ?_)
      refine g_ci (rest := [.int acc]) g (g_VN (n := 1) (As := [.int (suH h)]) S g (c_shadowUnder l G (F) o (wb 1 i) (suH h) (wb_lo (Or.inl rfl) _) (wb_hi (Or.inl rfl) (by omega)) (sun_pos h)) (Nat.lt_of_lt_of_le (wb_hi (Or.inl rfl) (by omega)) (by decide)) (cEw G _ o (wb_lo (Or.inl rfl) _) (wb_hi (Or.inl rfl) (by omega))) rfl qn306 q221 qs9 q3 q222 ⟨by decide +kernel, by decide +kernel, by decide +kernel⟩ rfl ⟨Nat.le_of_ble_eq_true rfl, Nat.le_of_ble_eq_true rfl⟩ hl.1 (Nat.le_of_ble_eq_true rfl) rfl ⟨Nat.zero_le _, Nat.zero_le _⟩ dX2_meanShadow_38) (fun H locs g => ?_)
      refine lv_iadd hx hb dX2_meanShadow_41 ?_
      refine lv_istore_n (lv' := [(1, .int ((acc) + (shI (F (wb 1 i) 0) (suH h)))), (3, .ref (gA G (wb 1 i))), (0, .ref (gA G 0)), (2, .int (nI i))]) hx hb dX2_meanShadow_42 rfl hl (by decide) rfl (fun ls hl => ?_)
      refine lv_iinc (v := nI (i + 1)) (lv' := [(2, .int (nI (i + 1))), (1, .int ((acc) + (shI (F (wb 1 i) 0) (suH h)))), (3, .ref (gA G (wb 1 i))), (0, .ref (gA G 0))]) hx hb dX2_meanShadow_43 hl (k := 3) rfl (nI_1 i) (by decide) rfl (fun ls hl => ?_)
      refine lv_goto (tgt := 4) hx hb dX2_meanShadow_46 (by decide) ?_
      exact ih_4 (i + 1) _ _ _ _ (by omega) (by simpa only [msL, c_12, ↓reduceIte] using hres) g (lv_sub hl [3, 1, 0] rfl)
  exact loop4 n 0 0 _ _ _ (by omega) rfl g (lv_sub hl [2, 1, 0] rfl)
set_option maxHeartbeats 4000000 in
set_option maxRecDepth 100000 in
theorem c_chain (l : Launch) (G : gT) (F : Fs) (o : Int64) (d : Int64) (x : Int32) : ML l yX2_chain cX2_chain 3 0 0 [.long (d), .int x] G (F) o (F) (chI d x) := by
  refine mk_G (own := "ShadowPool") (Qs := (fun sz => QL G (F) o (chI d x) sz)) (by decide +kernel) rfl (Nat.le_of_ble_eq_true rfl) ?_
  intro p e s m args below meth c ls hr hk0 hnm S g hl
  have hl : lv_has ls 3 [(0, .long (d)), (2, .int x)] := hl
  have hx := S.1
  have hb := S.2.1
  refine lv_lload_n hx hb dX2_chain_0 rfl (lv_at hl 0 rfl) ?_
  refine lv_ldc2 (v := 31) hx hb S.2.2.2.1 (S.2.2.2.2 _ q407) dX2_chain_1 ?_
  refine lv_lmul hx hb dX2_chain_4 ?_
  refine lv_iload_n hx hb dX2_chain_5 rfl (lv_at hl 1 rfl) ?_
  refine lv_i2l (v := (x).toInt64) hx hb dX2_chain_6 rfl ?_
  refine lv_ladd hx hb dX2_chain_7 ?_
  exact e_l S hr hk0 g rfl rfl dX2_chain_8
set_option maxHeartbeats 4000000 in
set_option maxRecDepth 100000 in
theorem c_chainWalker (l : Launch) (G : gT) (F : Fs) (o : Int64) (k : Nat) (h : Nat) (d : Int64) (h1 : 5 ≤ k) (h2 : k < 21) (hh : F 1 0 = nI h) (hh2 : h < 2 ^ 29) : ML l yX2_chainWalker cX2_chainWalker 8 4 84 [.ref (gA G 0), .long (d), .ref (gA G k)] G (F) o (F) (cwkI F k (suH h) (noH h) d) := by
  refine mk_G (own := "ShadowPool") (Qs := (fun sz => QL G (F) o (cwkI F k (suH h) (noH h) d) sz)) (by decide +kernel) rfl (Nat.le_of_ble_eq_true rfl) ?_
  intro p e s m args below meth c ls hr hk0 hnm S g hl
  have hl : lv_has ls 8 [(0, .ref (gA G 0)), (1, .long (d)), (3, .ref (gA G k))] := hl
  have hx := S.1
  have hb := S.2.1
  refine lv_lload_n hx hb dX2_chainWalker_0 rfl (lv_at hl 1 rfl) ?_
  refine lv_aload_n hx hb dX2_chainWalker_1 rfl (lv_at hl 2 rfl) ?_
  refine gWN (k := k) S g h1 h2 5 (by decide) qn43 dX2_chainWalker_2 ?_
  refine lv_if_eq (tgt := 12) hx hb dX2_chainWalker_5 (by decide) (fun c_5 => ?_) (fun c_5 => ?_)
  · refine lv_iconst (v := 0) hx hb dX2_chainWalker_12 (by decide) ?_
    refine g_cl (rest := []) g (g_S (n := 2) (As := [.long (d), .int 0]) S g (c_chain l G (F) o d 0) (lw_S q404 q405 q1 q406) ⟨by decide +kernel, by decide +kernel, by decide +kernel⟩ rfl ⟨Nat.le_of_ble_eq_true rfl, Nat.le_of_ble_eq_true rfl⟩ hl.1 (Nat.le_of_ble_eq_true rfl) rfl ⟨Nat.zero_le _, Nat.zero_le _⟩ dX2_chainWalker_13) (fun H locs g => ?_)
    refine lv_lstore (lv' := [(4, .long (chI d 0)), (0, .ref (gA G 0)), (1, .long (d)), (3, .ref (gA G k))]) hx hb dX2_chainWalker_16 hl (by decide) rfl (fun ls hl => ?_)
    refine lv_lload hx hb dX2_chainWalker_18 (lv_at hl 0 rfl) ?_
    refine lv_aload_n hx hb dX2_chainWalker_20 rfl (lv_at hl 3 rfl) ?_
    refine gWN (k := k) S g h1 h2 2 (by decide) qn36 dX2_chainWalker_21 ?_
    refine g_cl (rest := []) g (g_S (n := 2) (As := [.long (chI d 0), .int (F k 2)]) S g (c_chain l G (F) o (chI d 0) (F k 2)) (lw_S q404 q405 q1 q406) ⟨by decide +kernel, by decide +kernel, by decide +kernel⟩ rfl ⟨Nat.le_of_ble_eq_true rfl, Nat.le_of_ble_eq_true rfl⟩ hl.1 (Nat.le_of_ble_eq_true rfl) rfl ⟨Nat.zero_le _, Nat.zero_le _⟩ dX2_chainWalker_24) (fun H locs g => ?_)
    refine lv_lstore (lv' := [(4, .long (chI (chI d 0) (F k 2))), (0, .ref (gA G 0)), (1, .long (d)), (3, .ref (gA G k))]) hx hb dX2_chainWalker_27 hl (by decide) rfl (fun ls hl => ?_)
    refine lv_lload hx hb dX2_chainWalker_29 (lv_at hl 0 rfl) ?_
    refine lv_aload_n hx hb dX2_chainWalker_31 rfl (lv_at hl 3 rfl) ?_
    refine gWN (k := k) S g h1 h2 3 (by decide) qn38 dX2_chainWalker_32 ?_
    refine g_cl (rest := []) g (g_S (n := 2) (As := [.long (chI (chI d 0) (F k 2)), .int (F k 3)]) S g (c_chain l G (F) o (chI (chI d 0) (F k 2)) (F k 3)) (lw_S q404 q405 q1 q406) ⟨by decide +kernel, by decide +kernel, by decide +kernel⟩ rfl ⟨Nat.le_of_ble_eq_true rfl, Nat.le_of_ble_eq_true rfl⟩ hl.1 (Nat.le_of_ble_eq_true rfl) rfl ⟨Nat.zero_le _, Nat.zero_le _⟩ dX2_chainWalker_35) (fun H locs g => ?_)
    refine lv_lstore (lv' := [(4, .long (chI (chI (chI d 0) (F k 2)) (F k 3))), (0, .ref (gA G 0)), (1, .long (d)), (3, .ref (gA G k))]) hx hb dX2_chainWalker_38 hl (by decide) rfl (fun ls hl => ?_)
    refine lv_lload hx hb dX2_chainWalker_40 (lv_at hl 0 rfl) ?_
    refine lv_aload_n hx hb dX2_chainWalker_42 rfl (lv_at hl 3 rfl) ?_
    refine gWN (k := k) S g h1 h2 4 (by decide) qn41 dX2_chainWalker_43 ?_
    refine g_cl (rest := []) g (g_S (n := 2) (As := [.long (chI (chI (chI d 0) (F k 2)) (F k 3)), .int (F k 4)]) S g (c_chain l G (F) o (chI (chI (chI d 0) (F k 2)) (F k 3)) (F k 4)) (lw_S q404 q405 q1 q406) ⟨by decide +kernel, by decide +kernel, by decide +kernel⟩ rfl ⟨Nat.le_of_ble_eq_true rfl, Nat.le_of_ble_eq_true rfl⟩ hl.1 (Nat.le_of_ble_eq_true rfl) rfl ⟨Nat.zero_le _, Nat.zero_le _⟩ dX2_chainWalker_46) (fun H locs g => ?_)
    refine lv_lstore (lv' := [(4, .long (chI (chI (chI (chI d 0) (F k 2)) (F k 3)) (F k 4))), (0, .ref (gA G 0)), (1, .long (d)), (3, .ref (gA G k))]) hx hb dX2_chainWalker_49 hl (by decide) rfl (fun ls hl => ?_)
    refine lv_lload hx hb dX2_chainWalker_51 (lv_at hl 0 rfl) ?_
    refine lv_aload_n hx hb dX2_chainWalker_53 rfl (lv_at hl 3 rfl) ?_
    refine lv_aload_n hx hb dX2_chainWalker_54 rfl (lv_at hl 1 rfl) ?_
    refine g_ci (rest := [.ref (gA G k), .long (chI (chI (chI (chI d 0) (F k 2)) (F k 3)) (F k 4))]) g (g_V (n := 0) (As := []) S g (c_sun l G (F) o h hh hh2) (by decide) (cE0 G _ o) rfl (lw_V q305 q245 q246 q1 q247) ⟨rfl, by decide +kernel, by decide +kernel, by decide +kernel⟩ rfl ⟨Nat.le_of_ble_eq_true rfl, Nat.le_of_ble_eq_true rfl⟩ hl.1 (Nat.le_of_ble_eq_true rfl) rfl ⟨Nat.zero_le _, Nat.zero_le _⟩ dX2_chainWalker_55) (fun H locs g => ?_)
    refine g_ci (rest := [.long (chI (chI (chI (chI d 0) (F k 2)) (F k 3)) (F k 4))]) g (g_VN (n := 1) (As := [.int (suH h)]) S g (c_shadowUnder l G (F) o k (suH h) h1 h2 (sun_pos h)) (Nat.lt_of_lt_of_le h2 (by decide)) (cEw G _ o h1 h2) rfl qn306 q221 qs9 q3 q222 ⟨by decide +kernel, by decide +kernel, by decide +kernel⟩ rfl ⟨Nat.le_of_ble_eq_true rfl, Nat.le_of_ble_eq_true rfl⟩ hl.1 (Nat.le_of_ble_eq_true rfl) rfl ⟨Nat.zero_le _, Nat.zero_le _⟩ dX2_chainWalker_58) (fun H locs g => ?_)
    refine g_cl (rest := []) g (g_S (n := 2) (As := [.long (chI (chI (chI (chI d 0) (F k 2)) (F k 3)) (F k 4)), .int (shI (F k 0) (suH h))]) S g (c_chain l G (F) o (chI (chI (chI (chI d 0) (F k 2)) (F k 3)) (F k 4)) (shI (F k 0) (suH h))) (lw_S q404 q405 q1 q406) ⟨by decide +kernel, by decide +kernel, by decide +kernel⟩ rfl ⟨Nat.le_of_ble_eq_true rfl, Nat.le_of_ble_eq_true rfl⟩ hl.1 (Nat.le_of_ble_eq_true rfl) rfl ⟨Nat.zero_le _, Nat.zero_le _⟩ dX2_chainWalker_61) (fun H locs g => ?_)
    refine lv_lstore (lv' := [(4, .long (chI (chI (chI (chI (chI d 0) (F k 2)) (F k 3)) (F k 4)) (shI (F k 0) (suH h)))), (0, .ref (gA G 0)), (1, .long (d)), (3, .ref (gA G k))]) hx hb dX2_chainWalker_64 hl (by decide) rfl (fun ls hl => ?_)
    refine lv_lload hx hb dX2_chainWalker_66 (lv_at hl 0 rfl) ?_
    refine lv_aload_n hx hb dX2_chainWalker_68 rfl (lv_at hl 3 rfl) ?_
    refine lv_aload_n hx hb dX2_chainWalker_69 rfl (lv_at hl 1 rfl) ?_
    refine g_ci (rest := [.ref (gA G k), .long (chI (chI (chI (chI (chI d 0) (F k 2)) (F k 3)) (F k 4)) (shI (F k 0) (suH h)))]) g (g_V (n := 0) (As := []) S g (c_sun l G (F) o h hh hh2) (by decide) (cE0 G _ o) rfl (lw_V q305 q245 q246 q1 q247) ⟨rfl, by decide +kernel, by decide +kernel, by decide +kernel⟩ rfl ⟨Nat.le_of_ble_eq_true rfl, Nat.le_of_ble_eq_true rfl⟩ hl.1 (Nat.le_of_ble_eq_true rfl) rfl ⟨Nat.zero_le _, Nat.zero_le _⟩ dX2_chainWalker_70) (fun H locs g => ?_)
    refine g_ci (rest := [.long (chI (chI (chI (chI (chI d 0) (F k 2)) (F k 3)) (F k 4)) (shI (F k 0) (suH h)))]) g (g_VN (n := 1) (As := [.int (suH h)]) S g (c_costUnder l G (F) o k (suH h) h1 h2 (sun_pos h)) (Nat.lt_of_lt_of_le h2 (by decide)) (cEw G _ o h1 h2) rfl qn315 q217 qs8 q3 q218 ⟨by decide +kernel, by decide +kernel, by decide +kernel⟩ rfl ⟨Nat.le_of_ble_eq_true rfl, Nat.le_of_ble_eq_true rfl⟩ hl.1 (Nat.le_of_ble_eq_true rfl) rfl ⟨Nat.zero_le _, Nat.zero_le _⟩ dX2_chainWalker_73) (fun H locs g => ?_)
    refine g_cl (rest := []) g (g_S (n := 2) (As := [.long (chI (chI (chI (chI (chI d 0) (F k 2)) (F k 3)) (F k 4)) (shI (F k 0) (suH h))), .int (coI (F k 0) (F k 2) (suH h))]) S g (c_chain l G (F) o (chI (chI (chI (chI (chI d 0) (F k 2)) (F k 3)) (F k 4)) (shI (F k 0) (suH h))) (coI (F k 0) (F k 2) (suH h))) (lw_S q404 q405 q1 q406) ⟨by decide +kernel, by decide +kernel, by decide +kernel⟩ rfl ⟨Nat.le_of_ble_eq_true rfl, Nat.le_of_ble_eq_true rfl⟩ hl.1 (Nat.le_of_ble_eq_true rfl) rfl ⟨Nat.zero_le _, Nat.zero_le _⟩ dX2_chainWalker_76) (fun H locs g => ?_)
    refine lv_lstore (lv' := [(4, .long (chI (chI (chI (chI (chI (chI d 0) (F k 2)) (F k 3)) (F k 4)) (shI (F k 0) (suH h))) (coI (F k 0) (F k 2) (suH h)))), (0, .ref (gA G 0)), (1, .long (d)), (3, .ref (gA G k))]) hx hb dX2_chainWalker_79 hl (by decide) rfl (fun ls hl => ?_)
    refine lv_aload_n hx hb dX2_chainWalker_81 rfl (lv_at hl 1 rfl) ?_
    refine lv_aload_n hx hb dX2_chainWalker_82 rfl (lv_at hl 3 rfl) ?_
    refine g_ci (rest := []) g (g_V (n := 1) (As := [.ref (gA G k)]) S g (c_claimNow l G (F) o k h h1 h2 hh hh2) (by decide) (cE0 G _ o) rfl (lw_V q326 q328 qs13 q1 q329) ⟨rfl, by decide +kernel, by decide +kernel, by decide +kernel⟩ rfl ⟨Nat.le_of_ble_eq_true rfl, Nat.le_of_ble_eq_true rfl⟩ hl.1 (Nat.le_of_ble_eq_true rfl) rfl ⟨Nat.zero_le _, Nat.zero_le _⟩ dX2_chainWalker_83) (fun H locs g => ?_)
    refine lv_istore (lv' := [(6, .int (clI F k (suH h) (noH h))), (4, .long (chI (chI (chI (chI (chI (chI d 0) (F k 2)) (F k 3)) (F k 4)) (shI (F k 0) (suH h))) (coI (F k 0) (F k 2) (suH h)))), (0, .ref (gA G 0)), (1, .long (d)), (3, .ref (gA G k))]) hx hb dX2_chainWalker_86 hl (by decide) rfl (fun ls hl => ?_)
    refine lv_aload_n hx hb dX2_chainWalker_88 rfl (lv_at hl 2 rfl) ?_
    refine gP (k := 0) S g 0 (by decide) q90 dX2_chainWalker_89 ?_
    refine lv_iload hx hb dX2_chainWalker_92 (lv_at hl 0 rfl) ?_
    refine g_ci (rest := []) g (g_VN (n := 1) (As := [.int (clI F k (suH h) (noH h))]) S g (c_reinsuredPart l G (F) o 1 (clI F k (suH h) (noH h)) (Or.inl rfl)) (by decide) (cEb G _ o (Or.inl rfl)) rfl qn330 q232 qs11 q2 q233 ⟨by decide +kernel, by decide +kernel, by decide +kernel⟩ rfl ⟨Nat.le_of_ble_eq_true rfl, Nat.le_of_ble_eq_true rfl⟩ hl.1 (Nat.le_of_ble_eq_true rfl) rfl ⟨Nat.zero_le _, Nat.zero_le _⟩ dX2_chainWalker_94) (fun H locs g => ?_)
    refine lv_istore (lv' := [(7, .int (reI (clI F k (suH h) (noH h)) (F 1 3) (F 1 4))), (6, .int (clI F k (suH h) (noH h))), (4, .long (chI (chI (chI (chI (chI (chI d 0) (F k 2)) (F k 3)) (F k 4)) (shI (F k 0) (suH h))) (coI (F k 0) (F k 2) (suH h)))), (0, .ref (gA G 0)), (1, .long (d)), (3, .ref (gA G k))]) hx hb dX2_chainWalker_97 hl (by decide) rfl (fun ls hl => ?_)
    refine lv_lload hx hb dX2_chainWalker_99 (lv_at hl 2 rfl) ?_
    refine lv_iload hx hb dX2_chainWalker_101 (lv_at hl 1 rfl) ?_
    refine lv_iload hx hb dX2_chainWalker_103 (lv_at hl 0 rfl) ?_
    refine lv_isub hx hb dX2_chainWalker_105 ?_
    refine g_cl (rest := []) g (g_S (n := 2) (As := [.long (chI (chI (chI (chI (chI (chI d 0) (F k 2)) (F k 3)) (F k 4)) (shI (F k 0) (suH h))) (coI (F k 0) (F k 2) (suH h))), .int ((clI F k (suH h) (noH h)) - (reI (clI F k (suH h) (noH h)) (F 1 3) (F 1 4)))]) S g (c_chain l G (F) o (chI (chI (chI (chI (chI (chI d 0) (F k 2)) (F k 3)) (F k 4)) (shI (F k 0) (suH h))) (coI (F k 0) (F k 2) (suH h))) ((clI F k (suH h) (noH h)) - (reI (clI F k (suH h) (noH h)) (F 1 3) (F 1 4)))) (lw_S q404 q405 q1 q406) ⟨by decide +kernel, by decide +kernel, by decide +kernel⟩ rfl ⟨Nat.le_of_ble_eq_true rfl, Nat.le_of_ble_eq_true rfl⟩ hl.1 (Nat.le_of_ble_eq_true rfl) rfl ⟨Nat.zero_le _, Nat.zero_le _⟩ dX2_chainWalker_106) (fun H locs g => ?_)
    refine lv_lstore (lv' := [(4, .long (chI (chI (chI (chI (chI (chI (chI d 0) (F k 2)) (F k 3)) (F k 4)) (shI (F k 0) (suH h))) (coI (F k 0) (F k 2) (suH h))) ((clI F k (suH h) (noH h)) - (reI (clI F k (suH h) (noH h)) (F 1 3) (F 1 4))))), (7, .int (reI (clI F k (suH h) (noH h)) (F 1 3) (F 1 4))), (6, .int (clI F k (suH h) (noH h))), (0, .ref (gA G 0)), (1, .long (d)), (3, .ref (gA G k))]) hx hb dX2_chainWalker_109 hl (by decide) rfl (fun ls hl => ?_)
    refine lv_lload hx hb dX2_chainWalker_111 (lv_at hl 0 rfl) ?_
    refine lv_iload hx hb dX2_chainWalker_113 (lv_at hl 1 rfl) ?_
    refine g_cl (rest := []) g (g_S (n := 2) (As := [.long (chI (chI (chI (chI (chI (chI (chI d 0) (F k 2)) (F k 3)) (F k 4)) (shI (F k 0) (suH h))) (coI (F k 0) (F k 2) (suH h))) ((clI F k (suH h) (noH h)) - (reI (clI F k (suH h) (noH h)) (F 1 3) (F 1 4)))), .int (reI (clI F k (suH h) (noH h)) (F 1 3) (F 1 4))]) S g (c_chain l G (F) o (chI (chI (chI (chI (chI (chI (chI d 0) (F k 2)) (F k 3)) (F k 4)) (shI (F k 0) (suH h))) (coI (F k 0) (F k 2) (suH h))) ((clI F k (suH h) (noH h)) - (reI (clI F k (suH h) (noH h)) (F 1 3) (F 1 4)))) (reI (clI F k (suH h) (noH h)) (F 1 3) (F 1 4))) (lw_S q404 q405 q1 q406) ⟨by decide +kernel, by decide +kernel, by decide +kernel⟩ rfl ⟨Nat.le_of_ble_eq_true rfl, Nat.le_of_ble_eq_true rfl⟩ hl.1 (Nat.le_of_ble_eq_true rfl) rfl ⟨Nat.zero_le _, Nat.zero_le _⟩ dX2_chainWalker_115) (fun H locs g => ?_)
    exact e_l S hr hk0 g (by simp only [cwkI, cw5, cw3, c_5, ↓reduceIte]) rfl dX2_chainWalker_118
  · refine lv_iconst (v := 1) hx hb dX2_chainWalker_8 (by decide) ?_
    refine lv_goto (tgt := 13) hx hb dX2_chainWalker_9 (by decide) ?_
    refine g_cl (rest := []) g (g_S (n := 2) (As := [.long (d), .int 1]) S g (c_chain l G (F) o d 1) (lw_S q404 q405 q1 q406) ⟨by decide +kernel, by decide +kernel, by decide +kernel⟩ rfl ⟨Nat.le_of_ble_eq_true rfl, Nat.le_of_ble_eq_true rfl⟩ hl.1 (Nat.le_of_ble_eq_true rfl) rfl ⟨Nat.zero_le _, Nat.zero_le _⟩ dX2_chainWalker_13) (fun H locs g => ?_)
    refine lv_lstore (lv' := [(4, .long (chI d 1)), (0, .ref (gA G 0)), (1, .long (d)), (3, .ref (gA G k))]) hx hb dX2_chainWalker_16 hl (by decide) rfl (fun ls hl => ?_)
    refine lv_lload hx hb dX2_chainWalker_18 (lv_at hl 0 rfl) ?_
    refine lv_aload_n hx hb dX2_chainWalker_20 rfl (lv_at hl 3 rfl) ?_
    refine gWN (k := k) S g h1 h2 2 (by decide) qn36 dX2_chainWalker_21 ?_
    refine g_cl (rest := []) g (g_S (n := 2) (As := [.long (chI d 1), .int (F k 2)]) S g (c_chain l G (F) o (chI d 1) (F k 2)) (lw_S q404 q405 q1 q406) ⟨by decide +kernel, by decide +kernel, by decide +kernel⟩ rfl ⟨Nat.le_of_ble_eq_true rfl, Nat.le_of_ble_eq_true rfl⟩ hl.1 (Nat.le_of_ble_eq_true rfl) rfl ⟨Nat.zero_le _, Nat.zero_le _⟩ dX2_chainWalker_24) (fun H locs g => ?_)
    refine lv_lstore (lv' := [(4, .long (chI (chI d 1) (F k 2))), (0, .ref (gA G 0)), (1, .long (d)), (3, .ref (gA G k))]) hx hb dX2_chainWalker_27 hl (by decide) rfl (fun ls hl => ?_)
    refine lv_lload hx hb dX2_chainWalker_29 (lv_at hl 0 rfl) ?_
    refine lv_aload_n hx hb dX2_chainWalker_31 rfl (lv_at hl 3 rfl) ?_
    refine gWN (k := k) S g h1 h2 3 (by decide) qn38 dX2_chainWalker_32 ?_
    refine g_cl (rest := []) g (g_S (n := 2) (As := [.long (chI (chI d 1) (F k 2)), .int (F k 3)]) S g (c_chain l G (F) o (chI (chI d 1) (F k 2)) (F k 3)) (lw_S q404 q405 q1 q406) ⟨by decide +kernel, by decide +kernel, by decide +kernel⟩ rfl ⟨Nat.le_of_ble_eq_true rfl, Nat.le_of_ble_eq_true rfl⟩ hl.1 (Nat.le_of_ble_eq_true rfl) rfl ⟨Nat.zero_le _, Nat.zero_le _⟩ dX2_chainWalker_35) (fun H locs g => ?_)
    refine lv_lstore (lv' := [(4, .long (chI (chI (chI d 1) (F k 2)) (F k 3))), (0, .ref (gA G 0)), (1, .long (d)), (3, .ref (gA G k))]) hx hb dX2_chainWalker_38 hl (by decide) rfl (fun ls hl => ?_)
    refine lv_lload hx hb dX2_chainWalker_40 (lv_at hl 0 rfl) ?_
    refine lv_aload_n hx hb dX2_chainWalker_42 rfl (lv_at hl 3 rfl) ?_
    refine gWN (k := k) S g h1 h2 4 (by decide) qn41 dX2_chainWalker_43 ?_
    refine g_cl (rest := []) g (g_S (n := 2) (As := [.long (chI (chI (chI d 1) (F k 2)) (F k 3)), .int (F k 4)]) S g (c_chain l G (F) o (chI (chI (chI d 1) (F k 2)) (F k 3)) (F k 4)) (lw_S q404 q405 q1 q406) ⟨by decide +kernel, by decide +kernel, by decide +kernel⟩ rfl ⟨Nat.le_of_ble_eq_true rfl, Nat.le_of_ble_eq_true rfl⟩ hl.1 (Nat.le_of_ble_eq_true rfl) rfl ⟨Nat.zero_le _, Nat.zero_le _⟩ dX2_chainWalker_46) (fun H locs g => ?_)
    refine lv_lstore (lv' := [(4, .long (chI (chI (chI (chI d 1) (F k 2)) (F k 3)) (F k 4))), (0, .ref (gA G 0)), (1, .long (d)), (3, .ref (gA G k))]) hx hb dX2_chainWalker_49 hl (by decide) rfl (fun ls hl => ?_)
    refine lv_lload hx hb dX2_chainWalker_51 (lv_at hl 0 rfl) ?_
    refine lv_aload_n hx hb dX2_chainWalker_53 rfl (lv_at hl 3 rfl) ?_
    refine lv_aload_n hx hb dX2_chainWalker_54 rfl (lv_at hl 1 rfl) ?_
    refine g_ci (rest := [.ref (gA G k), .long (chI (chI (chI (chI d 1) (F k 2)) (F k 3)) (F k 4))]) g (g_V (n := 0) (As := []) S g (c_sun l G (F) o h hh hh2) (by decide) (cE0 G _ o) rfl (lw_V q305 q245 q246 q1 q247) ⟨rfl, by decide +kernel, by decide +kernel, by decide +kernel⟩ rfl ⟨Nat.le_of_ble_eq_true rfl, Nat.le_of_ble_eq_true rfl⟩ hl.1 (Nat.le_of_ble_eq_true rfl) rfl ⟨Nat.zero_le _, Nat.zero_le _⟩ dX2_chainWalker_55) (fun H locs g => ?_)
    refine g_ci (rest := [.long (chI (chI (chI (chI d 1) (F k 2)) (F k 3)) (F k 4))]) g (g_VN (n := 1) (As := [.int (suH h)]) S g (c_shadowUnder l G (F) o k (suH h) h1 h2 (sun_pos h)) (Nat.lt_of_lt_of_le h2 (by decide)) (cEw G _ o h1 h2) rfl qn306 q221 qs9 q3 q222 ⟨by decide +kernel, by decide +kernel, by decide +kernel⟩ rfl ⟨Nat.le_of_ble_eq_true rfl, Nat.le_of_ble_eq_true rfl⟩ hl.1 (Nat.le_of_ble_eq_true rfl) rfl ⟨Nat.zero_le _, Nat.zero_le _⟩ dX2_chainWalker_58) (fun H locs g => ?_)
    refine g_cl (rest := []) g (g_S (n := 2) (As := [.long (chI (chI (chI (chI d 1) (F k 2)) (F k 3)) (F k 4)), .int (shI (F k 0) (suH h))]) S g (c_chain l G (F) o (chI (chI (chI (chI d 1) (F k 2)) (F k 3)) (F k 4)) (shI (F k 0) (suH h))) (lw_S q404 q405 q1 q406) ⟨by decide +kernel, by decide +kernel, by decide +kernel⟩ rfl ⟨Nat.le_of_ble_eq_true rfl, Nat.le_of_ble_eq_true rfl⟩ hl.1 (Nat.le_of_ble_eq_true rfl) rfl ⟨Nat.zero_le _, Nat.zero_le _⟩ dX2_chainWalker_61) (fun H locs g => ?_)
    refine lv_lstore (lv' := [(4, .long (chI (chI (chI (chI (chI d 1) (F k 2)) (F k 3)) (F k 4)) (shI (F k 0) (suH h)))), (0, .ref (gA G 0)), (1, .long (d)), (3, .ref (gA G k))]) hx hb dX2_chainWalker_64 hl (by decide) rfl (fun ls hl => ?_)
    refine lv_lload hx hb dX2_chainWalker_66 (lv_at hl 0 rfl) ?_
    refine lv_aload_n hx hb dX2_chainWalker_68 rfl (lv_at hl 3 rfl) ?_
    refine lv_aload_n hx hb dX2_chainWalker_69 rfl (lv_at hl 1 rfl) ?_
    refine g_ci (rest := [.ref (gA G k), .long (chI (chI (chI (chI (chI d 1) (F k 2)) (F k 3)) (F k 4)) (shI (F k 0) (suH h)))]) g (g_V (n := 0) (As := []) S g (c_sun l G (F) o h hh hh2) (by decide) (cE0 G _ o) rfl (lw_V q305 q245 q246 q1 q247) ⟨rfl, by decide +kernel, by decide +kernel, by decide +kernel⟩ rfl ⟨Nat.le_of_ble_eq_true rfl, Nat.le_of_ble_eq_true rfl⟩ hl.1 (Nat.le_of_ble_eq_true rfl) rfl ⟨Nat.zero_le _, Nat.zero_le _⟩ dX2_chainWalker_70) (fun H locs g => ?_)
    refine g_ci (rest := [.long (chI (chI (chI (chI (chI d 1) (F k 2)) (F k 3)) (F k 4)) (shI (F k 0) (suH h)))]) g (g_VN (n := 1) (As := [.int (suH h)]) S g (c_costUnder l G (F) o k (suH h) h1 h2 (sun_pos h)) (Nat.lt_of_lt_of_le h2 (by decide)) (cEw G _ o h1 h2) rfl qn315 q217 qs8 q3 q218 ⟨by decide +kernel, by decide +kernel, by decide +kernel⟩ rfl ⟨Nat.le_of_ble_eq_true rfl, Nat.le_of_ble_eq_true rfl⟩ hl.1 (Nat.le_of_ble_eq_true rfl) rfl ⟨Nat.zero_le _, Nat.zero_le _⟩ dX2_chainWalker_73) (fun H locs g => ?_)
    refine g_cl (rest := []) g (g_S (n := 2) (As := [.long (chI (chI (chI (chI (chI d 1) (F k 2)) (F k 3)) (F k 4)) (shI (F k 0) (suH h))), .int (coI (F k 0) (F k 2) (suH h))]) S g (c_chain l G (F) o (chI (chI (chI (chI (chI d 1) (F k 2)) (F k 3)) (F k 4)) (shI (F k 0) (suH h))) (coI (F k 0) (F k 2) (suH h))) (lw_S q404 q405 q1 q406) ⟨by decide +kernel, by decide +kernel, by decide +kernel⟩ rfl ⟨Nat.le_of_ble_eq_true rfl, Nat.le_of_ble_eq_true rfl⟩ hl.1 (Nat.le_of_ble_eq_true rfl) rfl ⟨Nat.zero_le _, Nat.zero_le _⟩ dX2_chainWalker_76) (fun H locs g => ?_)
    refine lv_lstore (lv' := [(4, .long (chI (chI (chI (chI (chI (chI d 1) (F k 2)) (F k 3)) (F k 4)) (shI (F k 0) (suH h))) (coI (F k 0) (F k 2) (suH h)))), (0, .ref (gA G 0)), (1, .long (d)), (3, .ref (gA G k))]) hx hb dX2_chainWalker_79 hl (by decide) rfl (fun ls hl => ?_)
    refine lv_aload_n hx hb dX2_chainWalker_81 rfl (lv_at hl 1 rfl) ?_
    refine lv_aload_n hx hb dX2_chainWalker_82 rfl (lv_at hl 3 rfl) ?_
    refine g_ci (rest := []) g (g_V (n := 1) (As := [.ref (gA G k)]) S g (c_claimNow l G (F) o k h h1 h2 hh hh2) (by decide) (cE0 G _ o) rfl (lw_V q326 q328 qs13 q1 q329) ⟨rfl, by decide +kernel, by decide +kernel, by decide +kernel⟩ rfl ⟨Nat.le_of_ble_eq_true rfl, Nat.le_of_ble_eq_true rfl⟩ hl.1 (Nat.le_of_ble_eq_true rfl) rfl ⟨Nat.zero_le _, Nat.zero_le _⟩ dX2_chainWalker_83) (fun H locs g => ?_)
    refine lv_istore (lv' := [(6, .int (clI F k (suH h) (noH h))), (4, .long (chI (chI (chI (chI (chI (chI d 1) (F k 2)) (F k 3)) (F k 4)) (shI (F k 0) (suH h))) (coI (F k 0) (F k 2) (suH h)))), (0, .ref (gA G 0)), (1, .long (d)), (3, .ref (gA G k))]) hx hb dX2_chainWalker_86 hl (by decide) rfl (fun ls hl => ?_)
    refine lv_aload_n hx hb dX2_chainWalker_88 rfl (lv_at hl 2 rfl) ?_
    refine gP (k := 0) S g 0 (by decide) q90 dX2_chainWalker_89 ?_
    refine lv_iload hx hb dX2_chainWalker_92 (lv_at hl 0 rfl) ?_
    refine g_ci (rest := []) g (g_VN (n := 1) (As := [.int (clI F k (suH h) (noH h))]) S g (c_reinsuredPart l G (F) o 1 (clI F k (suH h) (noH h)) (Or.inl rfl)) (by decide) (cEb G _ o (Or.inl rfl)) rfl qn330 q232 qs11 q2 q233 ⟨by decide +kernel, by decide +kernel, by decide +kernel⟩ rfl ⟨Nat.le_of_ble_eq_true rfl, Nat.le_of_ble_eq_true rfl⟩ hl.1 (Nat.le_of_ble_eq_true rfl) rfl ⟨Nat.zero_le _, Nat.zero_le _⟩ dX2_chainWalker_94) (fun H locs g => ?_)
    refine lv_istore (lv' := [(7, .int (reI (clI F k (suH h) (noH h)) (F 1 3) (F 1 4))), (6, .int (clI F k (suH h) (noH h))), (4, .long (chI (chI (chI (chI (chI (chI d 1) (F k 2)) (F k 3)) (F k 4)) (shI (F k 0) (suH h))) (coI (F k 0) (F k 2) (suH h)))), (0, .ref (gA G 0)), (1, .long (d)), (3, .ref (gA G k))]) hx hb dX2_chainWalker_97 hl (by decide) rfl (fun ls hl => ?_)
    refine lv_lload hx hb dX2_chainWalker_99 (lv_at hl 2 rfl) ?_
    refine lv_iload hx hb dX2_chainWalker_101 (lv_at hl 1 rfl) ?_
    refine lv_iload hx hb dX2_chainWalker_103 (lv_at hl 0 rfl) ?_
    refine lv_isub hx hb dX2_chainWalker_105 ?_
    refine g_cl (rest := []) g (g_S (n := 2) (As := [.long (chI (chI (chI (chI (chI (chI d 1) (F k 2)) (F k 3)) (F k 4)) (shI (F k 0) (suH h))) (coI (F k 0) (F k 2) (suH h))), .int ((clI F k (suH h) (noH h)) - (reI (clI F k (suH h) (noH h)) (F 1 3) (F 1 4)))]) S g (c_chain l G (F) o (chI (chI (chI (chI (chI (chI d 1) (F k 2)) (F k 3)) (F k 4)) (shI (F k 0) (suH h))) (coI (F k 0) (F k 2) (suH h))) ((clI F k (suH h) (noH h)) - (reI (clI F k (suH h) (noH h)) (F 1 3) (F 1 4)))) (lw_S q404 q405 q1 q406) ⟨by decide +kernel, by decide +kernel, by decide +kernel⟩ rfl ⟨Nat.le_of_ble_eq_true rfl, Nat.le_of_ble_eq_true rfl⟩ hl.1 (Nat.le_of_ble_eq_true rfl) rfl ⟨Nat.zero_le _, Nat.zero_le _⟩ dX2_chainWalker_106) (fun H locs g => ?_)
    refine lv_lstore (lv' := [(4, .long (chI (chI (chI (chI (chI (chI (chI d 1) (F k 2)) (F k 3)) (F k 4)) (shI (F k 0) (suH h))) (coI (F k 0) (F k 2) (suH h))) ((clI F k (suH h) (noH h)) - (reI (clI F k (suH h) (noH h)) (F 1 3) (F 1 4))))), (7, .int (reI (clI F k (suH h) (noH h)) (F 1 3) (F 1 4))), (6, .int (clI F k (suH h) (noH h))), (0, .ref (gA G 0)), (1, .long (d)), (3, .ref (gA G k))]) hx hb dX2_chainWalker_109 hl (by decide) rfl (fun ls hl => ?_)
    refine lv_lload hx hb dX2_chainWalker_111 (lv_at hl 0 rfl) ?_
    refine lv_iload hx hb dX2_chainWalker_113 (lv_at hl 1 rfl) ?_
    refine g_cl (rest := []) g (g_S (n := 2) (As := [.long (chI (chI (chI (chI (chI (chI (chI d 1) (F k 2)) (F k 3)) (F k 4)) (shI (F k 0) (suH h))) (coI (F k 0) (F k 2) (suH h))) ((clI F k (suH h) (noH h)) - (reI (clI F k (suH h) (noH h)) (F 1 3) (F 1 4)))), .int (reI (clI F k (suH h) (noH h)) (F 1 3) (F 1 4))]) S g (c_chain l G (F) o (chI (chI (chI (chI (chI (chI (chI d 1) (F k 2)) (F k 3)) (F k 4)) (shI (F k 0) (suH h))) (coI (F k 0) (F k 2) (suH h))) ((clI F k (suH h) (noH h)) - (reI (clI F k (suH h) (noH h)) (F 1 3) (F 1 4)))) (reI (clI F k (suH h) (noH h)) (F 1 3) (F 1 4))) (lw_S q404 q405 q1 q406) ⟨by decide +kernel, by decide +kernel, by decide +kernel⟩ rfl ⟨Nat.le_of_ble_eq_true rfl, Nat.le_of_ble_eq_true rfl⟩ hl.1 (Nat.le_of_ble_eq_true rfl) rfl ⟨Nat.zero_le _, Nat.zero_le _⟩ dX2_chainWalker_115) (fun H locs g => ?_)
    exact e_l S hr hk0 g (by simp only [cwkI, cw5, cw3, c_5, ↓reduceIte]) rfl dX2_chainWalker_118
set_option maxHeartbeats 4000000 in
set_option maxRecDepth 100000 in
theorem c_digest (l : Launch) (G : gT) (F : Fs) (o : Int64) (n : Nat) (h : Nat) (hok : okP F n h) (hn8 : n ≤ 8) (hh2 : h < 2 ^ 29) : ML l yX2_digest cX2_digest 5 7 164 [.ref (gA G 0)] G (F) o (dgF F n h) (dgI F n h) := by
  refine mk_G (own := "ShadowPool") (Qs := (fun sz => QL G (dgF F n h) o (dgI F n h) sz)) (by decide +kernel) rfl (Nat.le_of_ble_eq_true rfl) ?_
  intro p e s m args below meth c ls hr hk0 hnm S g hl
  have hl : lv_has ls 5 [(0, .ref (gA G 0))] := hl
  have hx := S.1
  have hb := S.2.1
  refine lv_ldc2 (v := 2069) hx hb S.2.2.2.1 (S.2.2.2.2 _ q402) dX2_digest_0 ?_
  refine lv_lstore_n (lv' := [(1, .long (2069)), (0, .ref (gA G 0))]) hx hb dX2_digest_3 rfl hl (by decide) rfl (fun ls hl => ?_)
  refine lv_lload_n hx hb dX2_digest_4 rfl (lv_at hl 0 rfl) ?_
  refine lv_aload_n hx hb dX2_digest_5 rfl (lv_at hl 1 rfl) ?_
  refine g_ci (rest := [.long (2069)]) g (g_V (n := 0) (As := []) S g (c_hour l G (F) o ) (by decide) (cE0 G _ o) rfl (lw_V q403 q241 q242 q1 q243) ⟨rfl, by decide +kernel, by decide +kernel, by decide +kernel⟩ rfl ⟨Nat.le_of_ble_eq_true rfl, Nat.le_of_ble_eq_true rfl⟩ hl.1 (Nat.le_of_ble_eq_true rfl) rfl ⟨Nat.zero_le _, Nat.zero_le _⟩ dX2_digest_6) (fun H locs g => ?_)
  refine g_cl (rest := []) g (g_S (n := 2) (As := [.long (2069), .int (F 1 0)]) S g (c_chain l G (F) o 2069 (F 1 0)) (lw_S q404 q405 q1 q406) ⟨by decide +kernel, by decide +kernel, by decide +kernel⟩ rfl ⟨Nat.le_of_ble_eq_true rfl, Nat.le_of_ble_eq_true rfl⟩ hl.1 (Nat.le_of_ble_eq_true rfl) rfl ⟨Nat.zero_le _, Nat.zero_le _⟩ dX2_digest_9) (fun H locs g => ?_)
  refine lv_lstore_n (lv' := [(1, .long (chI 2069 (F 1 0))), (0, .ref (gA G 0))]) hx hb dX2_digest_12 rfl hl (by decide) rfl (fun ls hl => ?_)
  refine lv_lload_n hx hb dX2_digest_13 rfl (lv_at hl 0 rfl) ?_
  refine lv_aload_n hx hb dX2_digest_14 rfl (lv_at hl 1 rfl) ?_
  refine g_ci (rest := [.long (chI 2069 (F 1 0))]) g (g_V (n := 0) (As := []) S g (c_sun l G (F) o h hok.2.1 hh2) (by decide) (cE0 G _ o) rfl (lw_V q305 q245 q246 q1 q247) ⟨rfl, by decide +kernel, by decide +kernel, by decide +kernel⟩ rfl ⟨Nat.le_of_ble_eq_true rfl, Nat.le_of_ble_eq_true rfl⟩ hl.1 (Nat.le_of_ble_eq_true rfl) rfl ⟨Nat.zero_le _, Nat.zero_le _⟩ dX2_digest_15) (fun H locs g => ?_)
  refine g_cl (rest := []) g (g_S (n := 2) (As := [.long (chI 2069 (F 1 0)), .int (suH h)]) S g (c_chain l G (F) o (chI 2069 (F 1 0)) (suH h)) (lw_S q404 q405 q1 q406) ⟨by decide +kernel, by decide +kernel, by decide +kernel⟩ rfl ⟨Nat.le_of_ble_eq_true rfl, Nat.le_of_ble_eq_true rfl⟩ hl.1 (Nat.le_of_ble_eq_true rfl) rfl ⟨Nat.zero_le _, Nat.zero_le _⟩ dX2_digest_18) (fun H locs g => ?_)
  refine lv_lstore_n (lv' := [(1, .long (chI (chI 2069 (F 1 0)) (suH h))), (0, .ref (gA G 0))]) hx hb dX2_digest_21 rfl hl (by decide) rfl (fun ls hl => ?_)
  refine lv_lload_n hx hb dX2_digest_22 rfl (lv_at hl 0 rfl) ?_
  refine lv_aload_n hx hb dX2_digest_23 rfl (lv_at hl 1 rfl) ?_
  refine g_ci (rest := [.long (chI (chI 2069 (F 1 0)) (suH h))]) g (g_V (n := 0) (As := []) S g (c_walkers l G (F) o ) (by decide) (cE0 G _ o) rfl (lw_V q408 q260 q261 q1 q262) ⟨rfl, by decide +kernel, by decide +kernel, by decide +kernel⟩ rfl ⟨Nat.le_of_ble_eq_true rfl, Nat.le_of_ble_eq_true rfl⟩ hl.1 (Nat.le_of_ble_eq_true rfl) rfl ⟨Nat.zero_le _, Nat.zero_le _⟩ dX2_digest_24) (fun H locs g => ?_)
  refine g_cl (rest := []) g (g_S (n := 2) (As := [.long (chI (chI 2069 (F 1 0)) (suH h)), .int (F 1 6)]) S g (c_chain l G (F) o (chI (chI 2069 (F 1 0)) (suH h)) (F 1 6)) (lw_S q404 q405 q1 q406) ⟨by decide +kernel, by decide +kernel, by decide +kernel⟩ rfl ⟨Nat.le_of_ble_eq_true rfl, Nat.le_of_ble_eq_true rfl⟩ hl.1 (Nat.le_of_ble_eq_true rfl) rfl ⟨Nat.zero_le _, Nat.zero_le _⟩ dX2_digest_27) (fun H locs g => ?_)
  refine lv_lstore_n (lv' := [(1, .long (chI (chI (chI 2069 (F 1 0)) (suH h)) (F 1 6))), (0, .ref (gA G 0))]) hx hb dX2_digest_30 rfl hl (by decide) rfl (fun ls hl => ?_)
  refine lv_lload_n hx hb dX2_digest_31 rfl (lv_at hl 0 rfl) ?_
  refine lv_aload_n hx hb dX2_digest_32 rfl (lv_at hl 1 rfl) ?_
  refine g_ci (rest := [.long (chI (chI (chI 2069 (F 1 0)) (suH h)) (F 1 6))]) g (g_V (n := 0) (As := []) S g (c_members l G (F) o n hok.1 hn8) (by decide) (cE0 G _ o) rfl (lw_V q409 q264 q265 q1 q266) ⟨rfl, by decide +kernel, by decide +kernel, by decide +kernel⟩ rfl ⟨Nat.le_of_ble_eq_true rfl, Nat.le_of_ble_eq_true rfl⟩ hl.1 (Nat.le_of_ble_eq_true rfl) rfl ⟨Nat.zero_le _, Nat.zero_le _⟩ dX2_digest_33) (fun H locs g => ?_)
  refine g_cl (rest := []) g (g_S (n := 2) (As := [.long (chI (chI (chI 2069 (F 1 0)) (suH h)) (F 1 6)), .int (cmL F 1 n 0 0)]) S g (c_chain l G (F) o (chI (chI (chI 2069 (F 1 0)) (suH h)) (F 1 6)) (cmL F 1 n 0 0)) (lw_S q404 q405 q1 q406) ⟨by decide +kernel, by decide +kernel, by decide +kernel⟩ rfl ⟨Nat.le_of_ble_eq_true rfl, Nat.le_of_ble_eq_true rfl⟩ hl.1 (Nat.le_of_ble_eq_true rfl) rfl ⟨Nat.zero_le _, Nat.zero_le _⟩ dX2_digest_36) (fun H locs g => ?_)
  refine lv_lstore_n (lv' := [(1, .long (chI (chI (chI (chI 2069 (F 1 0)) (suH h)) (F 1 6)) (cmL F 1 n 0 0))), (0, .ref (gA G 0))]) hx hb dX2_digest_39 rfl hl (by decide) rfl (fun ls hl => ?_)
  refine lv_lload_n hx hb dX2_digest_40 rfl (lv_at hl 0 rfl) ?_
  refine lv_aload_n hx hb dX2_digest_41 rfl (lv_at hl 1 rfl) ?_
  refine g_ci (rest := [.long (chI (chI (chI (chI 2069 (F 1 0)) (suH h)) (F 1 6)) (cmL F 1 n 0 0))]) g (g_V (n := 0) (As := []) S g (c_fund l G (F) o ) (by decide) (cE0 G _ o) rfl (lw_V q410 q336 q337 q1 q338) ⟨rfl, by decide +kernel, by decide +kernel, by decide +kernel⟩ rfl ⟨Nat.le_of_ble_eq_true rfl, Nat.le_of_ble_eq_true rfl⟩ hl.1 (Nat.le_of_ble_eq_true rfl) rfl ⟨Nat.zero_le _, Nat.zero_le _⟩ dX2_digest_42) (fun H locs g => ?_)
  refine g_cl (rest := []) g (g_S (n := 2) (As := [.long (chI (chI (chI (chI 2069 (F 1 0)) (suH h)) (F 1 6)) (cmL F 1 n 0 0)), .int (F 1 1)]) S g (c_chain l G (F) o (chI (chI (chI (chI 2069 (F 1 0)) (suH h)) (F 1 6)) (cmL F 1 n 0 0)) (F 1 1)) (lw_S q404 q405 q1 q406) ⟨by decide +kernel, by decide +kernel, by decide +kernel⟩ rfl ⟨Nat.le_of_ble_eq_true rfl, Nat.le_of_ble_eq_true rfl⟩ hl.1 (Nat.le_of_ble_eq_true rfl) rfl ⟨Nat.zero_le _, Nat.zero_le _⟩ dX2_digest_45) (fun H locs g => ?_)
  refine lv_lstore_n (lv' := [(1, .long (chI (chI (chI (chI (chI 2069 (F 1 0)) (suH h)) (F 1 6)) (cmL F 1 n 0 0)) (F 1 1))), (0, .ref (gA G 0))]) hx hb dX2_digest_48 rfl hl (by decide) rfl (fun ls hl => ?_)
  refine lv_lload_n hx hb dX2_digest_49 rfl (lv_at hl 0 rfl) ?_
  refine lv_aload_n hx hb dX2_digest_50 rfl (lv_at hl 1 rfl) ?_
  refine g_ci (rest := [.long (chI (chI (chI (chI (chI 2069 (F 1 0)) (suH h)) (F 1 6)) (cmL F 1 n 0 0)) (F 1 1))]) g (g_V (n := 0) (As := []) S g (c_rate l G (F) o ) (by decide) (cE0 G _ o) rfl (lw_V q411 q340 q341 q1 q342) ⟨rfl, by decide +kernel, by decide +kernel, by decide +kernel⟩ rfl ⟨Nat.le_of_ble_eq_true rfl, Nat.le_of_ble_eq_true rfl⟩ hl.1 (Nat.le_of_ble_eq_true rfl) rfl ⟨Nat.zero_le _, Nat.zero_le _⟩ dX2_digest_51) (fun H locs g => ?_)
  refine g_cl (rest := []) g (g_S (n := 2) (As := [.long (chI (chI (chI (chI (chI 2069 (F 1 0)) (suH h)) (F 1 6)) (cmL F 1 n 0 0)) (F 1 1)), .int (F 1 2)]) S g (c_chain l G (F) o (chI (chI (chI (chI (chI 2069 (F 1 0)) (suH h)) (F 1 6)) (cmL F 1 n 0 0)) (F 1 1)) (F 1 2)) (lw_S q404 q405 q1 q406) ⟨by decide +kernel, by decide +kernel, by decide +kernel⟩ rfl ⟨Nat.le_of_ble_eq_true rfl, Nat.le_of_ble_eq_true rfl⟩ hl.1 (Nat.le_of_ble_eq_true rfl) rfl ⟨Nat.zero_le _, Nat.zero_le _⟩ dX2_digest_54) (fun H locs g => ?_)
  refine lv_lstore_n (lv' := [(1, .long (chI (chI (chI (chI (chI (chI 2069 (F 1 0)) (suH h)) (F 1 6)) (cmL F 1 n 0 0)) (F 1 1)) (F 1 2))), (0, .ref (gA G 0))]) hx hb dX2_digest_57 rfl hl (by decide) rfl (fun ls hl => ?_)
  refine lv_lload_n hx hb dX2_digest_58 rfl (lv_at hl 0 rfl) ?_
  refine lv_aload_n hx hb dX2_digest_59 rfl (lv_at hl 1 rfl) ?_
  refine g_ci (rest := [.long (chI (chI (chI (chI (chI (chI 2069 (F 1 0)) (suH h)) (F 1 6)) (cmL F 1 n 0 0)) (F 1 1)) (F 1 2))]) g (g_V (n := 0) (As := []) S g (c_retention l G (F) o ) (by decide) (cE0 G _ o) rfl (lw_V q412 q344 q345 q1 q346) ⟨rfl, by decide +kernel, by decide +kernel, by decide +kernel⟩ rfl ⟨Nat.le_of_ble_eq_true rfl, Nat.le_of_ble_eq_true rfl⟩ hl.1 (Nat.le_of_ble_eq_true rfl) rfl ⟨Nat.zero_le _, Nat.zero_le _⟩ dX2_digest_60) (fun H locs g => ?_)
  refine g_cl (rest := []) g (g_S (n := 2) (As := [.long (chI (chI (chI (chI (chI (chI 2069 (F 1 0)) (suH h)) (F 1 6)) (cmL F 1 n 0 0)) (F 1 1)) (F 1 2)), .int (F 1 3)]) S g (c_chain l G (F) o (chI (chI (chI (chI (chI (chI 2069 (F 1 0)) (suH h)) (F 1 6)) (cmL F 1 n 0 0)) (F 1 1)) (F 1 2)) (F 1 3)) (lw_S q404 q405 q1 q406) ⟨by decide +kernel, by decide +kernel, by decide +kernel⟩ rfl ⟨Nat.le_of_ble_eq_true rfl, Nat.le_of_ble_eq_true rfl⟩ hl.1 (Nat.le_of_ble_eq_true rfl) rfl ⟨Nat.zero_le _, Nat.zero_le _⟩ dX2_digest_63) (fun H locs g => ?_)
  refine lv_lstore_n (lv' := [(1, .long (chI (chI (chI (chI (chI (chI (chI 2069 (F 1 0)) (suH h)) (F 1 6)) (cmL F 1 n 0 0)) (F 1 1)) (F 1 2)) (F 1 3))), (0, .ref (gA G 0))]) hx hb dX2_digest_66 rfl hl (by decide) rfl (fun ls hl => ?_)
  refine lv_lload_n hx hb dX2_digest_67 rfl (lv_at hl 0 rfl) ?_
  refine lv_aload_n hx hb dX2_digest_68 rfl (lv_at hl 1 rfl) ?_
  refine g_ci (rest := [.long (chI (chI (chI (chI (chI (chI (chI 2069 (F 1 0)) (suH h)) (F 1 6)) (cmL F 1 n 0 0)) (F 1 1)) (F 1 2)) (F 1 3))]) g (g_V (n := 0) (As := []) S g (c_limit l G (F) o ) (by decide) (cE0 G _ o) rfl (lw_V q413 q348 q349 q1 q350) ⟨rfl, by decide +kernel, by decide +kernel, by decide +kernel⟩ rfl ⟨Nat.le_of_ble_eq_true rfl, Nat.le_of_ble_eq_true rfl⟩ hl.1 (Nat.le_of_ble_eq_true rfl) rfl ⟨Nat.zero_le _, Nat.zero_le _⟩ dX2_digest_69) (fun H locs g => ?_)
  refine g_cl (rest := []) g (g_S (n := 2) (As := [.long (chI (chI (chI (chI (chI (chI (chI 2069 (F 1 0)) (suH h)) (F 1 6)) (cmL F 1 n 0 0)) (F 1 1)) (F 1 2)) (F 1 3)), .int (F 1 4)]) S g (c_chain l G (F) o (chI (chI (chI (chI (chI (chI (chI 2069 (F 1 0)) (suH h)) (F 1 6)) (cmL F 1 n 0 0)) (F 1 1)) (F 1 2)) (F 1 3)) (F 1 4)) (lw_S q404 q405 q1 q406) ⟨by decide +kernel, by decide +kernel, by decide +kernel⟩ rfl ⟨Nat.le_of_ble_eq_true rfl, Nat.le_of_ble_eq_true rfl⟩ hl.1 (Nat.le_of_ble_eq_true rfl) rfl ⟨Nat.zero_le _, Nat.zero_le _⟩ dX2_digest_72) (fun H locs g => ?_)
  refine lv_lstore_n (lv' := [(1, .long (chI (chI (chI (chI (chI (chI (chI (chI 2069 (F 1 0)) (suH h)) (F 1 6)) (cmL F 1 n 0 0)) (F 1 1)) (F 1 2)) (F 1 3)) (F 1 4))), (0, .ref (gA G 0))]) hx hb dX2_digest_75 rfl hl (by decide) rfl (fun ls hl => ?_)
  refine lv_lload_n hx hb dX2_digest_76 rfl (lv_at hl 0 rfl) ?_
  refine lv_aload_n hx hb dX2_digest_77 rfl (lv_at hl 1 rfl) ?_
  refine g_ci (rest := [.long (chI (chI (chI (chI (chI (chI (chI (chI 2069 (F 1 0)) (suH h)) (F 1 6)) (cmL F 1 n 0 0)) (F 1 1)) (F 1 2)) (F 1 3)) (F 1 4))]) g (g_V (n := 0) (As := []) S g (c_reinsurersLoss l G (F) o ) (by decide) (cE0 G _ o) rfl (lw_V q414 q352 q353 q1 q354) ⟨rfl, by decide +kernel, by decide +kernel, by decide +kernel⟩ rfl ⟨Nat.le_of_ble_eq_true rfl, Nat.le_of_ble_eq_true rfl⟩ hl.1 (Nat.le_of_ble_eq_true rfl) rfl ⟨Nat.zero_le _, Nat.zero_le _⟩ dX2_digest_78) (fun H locs g => ?_)
  refine g_cl (rest := []) g (g_S (n := 2) (As := [.long (chI (chI (chI (chI (chI (chI (chI (chI 2069 (F 1 0)) (suH h)) (F 1 6)) (cmL F 1 n 0 0)) (F 1 1)) (F 1 2)) (F 1 3)) (F 1 4)), .int (F 1 5)]) S g (c_chain l G (F) o (chI (chI (chI (chI (chI (chI (chI (chI 2069 (F 1 0)) (suH h)) (F 1 6)) (cmL F 1 n 0 0)) (F 1 1)) (F 1 2)) (F 1 3)) (F 1 4)) (F 1 5)) (lw_S q404 q405 q1 q406) ⟨by decide +kernel, by decide +kernel, by decide +kernel⟩ rfl ⟨Nat.le_of_ble_eq_true rfl, Nat.le_of_ble_eq_true rfl⟩ hl.1 (Nat.le_of_ble_eq_true rfl) rfl ⟨Nat.zero_le _, Nat.zero_le _⟩ dX2_digest_81) (fun H locs g => ?_)
  refine lv_lstore_n (lv' := [(1, .long (chI (chI (chI (chI (chI (chI (chI (chI (chI 2069 (F 1 0)) (suH h)) (F 1 6)) (cmL F 1 n 0 0)) (F 1 1)) (F 1 2)) (F 1 3)) (F 1 4)) (F 1 5))), (0, .ref (gA G 0))]) hx hb dX2_digest_84 rfl hl (by decide) rfl (fun ls hl => ?_)
  refine lv_lload_n hx hb dX2_digest_85 rfl (lv_at hl 0 rfl) ?_
  refine lv_aload_n hx hb dX2_digest_86 rfl (lv_at hl 1 rfl) ?_
  refine g_ci (rest := [.long (chI (chI (chI (chI (chI (chI (chI (chI (chI 2069 (F 1 0)) (suH h)) (F 1 6)) (cmL F 1 n 0 0)) (F 1 1)) (F 1 2)) (F 1 3)) (F 1 4)) (F 1 5))]) g (g_V (n := 0) (As := []) S g (c_nextToFall l G (F) o n h hok hn8 hh2) (by decide) (cE0 G _ o) rfl (lw_V q415 q367 q368 q1 q369) ⟨rfl, by decide +kernel, by decide +kernel, by decide +kernel⟩ rfl ⟨Nat.le_of_ble_eq_true rfl, Nat.le_of_ble_eq_true rfl⟩ hl.1 (Nat.le_of_ble_eq_true rfl) rfl ⟨Nat.zero_le _, Nat.zero_le _⟩ dX2_digest_87) (fun H locs g => ?_)
  refine g_cl (rest := []) g (g_S (n := 2) (As := [.long (chI (chI (chI (chI (chI (chI (chI (chI (chI 2069 (F 1 0)) (suH h)) (F 1 6)) (cmL F 1 n 0 0)) (F 1 1)) (F 1 2)) (F 1 3)) (F 1 4)) (F 1 5)), .int (nfL F h n 0 (-1) 101)]) S g (c_chain l G (F) o (chI (chI (chI (chI (chI (chI (chI (chI (chI 2069 (F 1 0)) (suH h)) (F 1 6)) (cmL F 1 n 0 0)) (F 1 1)) (F 1 2)) (F 1 3)) (F 1 4)) (F 1 5)) (nfL F h n 0 (-1) 101)) (lw_S q404 q405 q1 q406) ⟨by decide +kernel, by decide +kernel, by decide +kernel⟩ rfl ⟨Nat.le_of_ble_eq_true rfl, Nat.le_of_ble_eq_true rfl⟩ hl.1 (Nat.le_of_ble_eq_true rfl) rfl ⟨Nat.zero_le _, Nat.zero_le _⟩ dX2_digest_90) (fun H locs g => ?_)
  refine lv_lstore_n (lv' := [(1, .long (chI (chI (chI (chI (chI (chI (chI (chI (chI (chI 2069 (F 1 0)) (suH h)) (F 1 6)) (cmL F 1 n 0 0)) (F 1 1)) (F 1 2)) (F 1 3)) (F 1 4)) (F 1 5)) (nfL F h n 0 (-1) 101))), (0, .ref (gA G 0))]) hx hb dX2_digest_93 rfl hl (by decide) rfl (fun ls hl => ?_)
  refine lv_lload_n hx hb dX2_digest_94 rfl (lv_at hl 0 rfl) ?_
  refine lv_aload_n hx hb dX2_digest_95 rfl (lv_at hl 1 rfl) ?_
  refine g_ci (rest := [.long (chI (chI (chI (chI (chI (chI (chI (chI (chI (chI 2069 (F 1 0)) (suH h)) (F 1 6)) (cmL F 1 n 0 0)) (F 1 1)) (F 1 2)) (F 1 3)) (F 1 4)) (F 1 5)) (nfL F h n 0 (-1) 101))]) g (g_V (n := 0) (As := []) S g (c_bestLimit l G (F) o n h hok hn8 hh2) (by decide) (cE0 G _ o) rfl (lw_V q416 q391 q392 q1 q393) ⟨rfl, by decide +kernel, by decide +kernel, by decide +kernel⟩ rfl ⟨Nat.le_of_ble_eq_true rfl, Nat.le_of_ble_eq_true rfl⟩ hl.1 (Nat.le_of_ble_eq_true rfl) rfl ⟨Nat.zero_le _, Nat.zero_le _⟩ dX2_digest_96) (fun H locs g => ?_)
  refine g_cl (rest := []) g (g_S (n := 2) (As := [.long (chI (chI (chI (chI (chI (chI (chI (chI (chI (chI 2069 (F 1 0)) (suH h)) (F 1 6)) (cmL F 1 n 0 0)) (F 1 1)) (F 1 2)) (F 1 3)) (F 1 4)) (F 1 5)) (nfL F h n 0 (-1) 101)), .int ((beF F n h).1)]) S g (c_chain l G ((beF F n h).2) o (chI (chI (chI (chI (chI (chI (chI (chI (chI (chI 2069 (F 1 0)) (suH h)) (F 1 6)) (cmL F 1 n 0 0)) (F 1 1)) (F 1 2)) (F 1 3)) (F 1 4)) (F 1 5)) (nfL F h n 0 (-1) 101)) ((beF F n h).1)) (lw_S q404 q405 q1 q406) ⟨by decide +kernel, by decide +kernel, by decide +kernel⟩ rfl ⟨Nat.le_of_ble_eq_true rfl, Nat.le_of_ble_eq_true rfl⟩ hl.1 (Nat.le_of_ble_eq_true rfl) rfl ⟨Nat.zero_le _, Nat.zero_le _⟩ dX2_digest_99) (fun H locs g => ?_)
  refine lv_lstore_n (lv' := [(1, .long (chI (chI (chI (chI (chI (chI (chI (chI (chI (chI (chI 2069 (F 1 0)) (suH h)) (F 1 6)) (cmL F 1 n 0 0)) (F 1 1)) (F 1 2)) (F 1 3)) (F 1 4)) (F 1 5)) (nfL F h n 0 (-1) 101)) ((beF F n h).1))), (0, .ref (gA G 0))]) hx hb dX2_digest_102 rfl hl (by decide) rfl (fun ls hl => ?_)
  refine lv_lload_n hx hb dX2_digest_103 rfl (lv_at hl 0 rfl) ?_
  refine lv_aload_n hx hb dX2_digest_104 rfl (lv_at hl 1 rfl) ?_
  refine g_ci (rest := [.long (chI (chI (chI (chI (chI (chI (chI (chI (chI (chI (chI 2069 (F 1 0)) (suH h)) (F 1 6)) (cmL F 1 n 0 0)) (F 1 1)) (F 1 2)) (F 1 3)) (F 1 4)) (F 1 5)) (nfL F h n 0 (-1) 101)) ((beF F n h).1))]) g (g_V (n := 0) (As := []) S g (c_fairRate l G (((beF F n h).2)) o n h (beF_ok hok) hn8 hh2) (by decide) (cE0 G _ o) rfl (lw_V q417 q395 q396 q1 q397) ⟨rfl, by decide +kernel, by decide +kernel, by decide +kernel⟩ rfl ⟨Nat.le_of_ble_eq_true rfl, Nat.le_of_ble_eq_true rfl⟩ hl.1 (Nat.le_of_ble_eq_true rfl) rfl ⟨Nat.zero_le _, Nat.zero_le _⟩ dX2_digest_105) (fun H locs g => ?_)
  rw [show (fiF (((beF F n h).2)) n h).2 = dgF F n h from rfl] at g
  refine g_cl (rest := []) g (g_S (n := 2) (As := [.long (chI (chI (chI (chI (chI (chI (chI (chI (chI (chI (chI 2069 (F 1 0)) (suH h)) (F 1 6)) (cmL F 1 n 0 0)) (F 1 1)) (F 1 2)) (F 1 3)) (F 1 4)) (F 1 5)) (nfL F h n 0 (-1) 101)) ((beF F n h).1)), .int ((fiF (((beF F n h).2)) n h).1)]) S g (c_chain l G (dgF F n h) o (chI (chI (chI (chI (chI (chI (chI (chI (chI (chI (chI 2069 (F 1 0)) (suH h)) (F 1 6)) (cmL F 1 n 0 0)) (F 1 1)) (F 1 2)) (F 1 3)) (F 1 4)) (F 1 5)) (nfL F h n 0 (-1) 101)) ((beF F n h).1)) ((fiF (((beF F n h).2)) n h).1)) (lw_S q404 q405 q1 q406) ⟨by decide +kernel, by decide +kernel, by decide +kernel⟩ rfl ⟨Nat.le_of_ble_eq_true rfl, Nat.le_of_ble_eq_true rfl⟩ hl.1 (Nat.le_of_ble_eq_true rfl) rfl ⟨Nat.zero_le _, Nat.zero_le _⟩ dX2_digest_108) (fun H locs g => ?_)
  refine lv_lstore_n (lv' := [(1, .long (chI (chI (chI (chI (chI (chI (chI (chI (chI (chI (chI (chI 2069 (F 1 0)) (suH h)) (F 1 6)) (cmL F 1 n 0 0)) (F 1 1)) (F 1 2)) (F 1 3)) (F 1 4)) (F 1 5)) (nfL F h n 0 (-1) 101)) ((beF F n h).1)) ((fiF (((beF F n h).2)) n h).1))), (0, .ref (gA G 0))]) hx hb dX2_digest_111 rfl hl (by decide) rfl (fun ls hl => ?_)
  refine lv_iconst (v := 0) hx hb dX2_digest_112 (by decide) ?_
  refine lv_istore_n (lv' := [(3, .int 0), (1, .long (chI (chI (chI (chI (chI (chI (chI (chI (chI (chI (chI (chI 2069 (F 1 0)) (suH h)) (F 1 6)) (cmL F 1 n 0 0)) (F 1 1)) (F 1 2)) (F 1 3)) (F 1 4)) (F 1 5)) (nfL F h n 0 (-1) 101)) ((beF F n h).1)) ((fiF (((beF F n h).2)) n h).1))), (0, .ref (gA G 0))]) hx hb dX2_digest_113 rfl hl (by decide) rfl (fun ls hl => ?_)
  have loop114 : ∀ (n_ : Nat) (i : Nat) (d : Int64) (H : Heap) (locs : List Loc) (ls : Array Slot) (hi : i + n_ = n) (hok1 : okP (dgF F n h) n h) (hres : dgL (dgF F n h) (suH h) (noH h) n_ i d = dgI F n h), GB G (dgF F n h) o [] [] s H locs → lv_has ls 5 [(0, .ref (gA G 0)), (1, .long (d)), (3, .int (nI i))] → W p l e (rmG 7 164) s m args below meth c H locs 0 0 (MQ below (QL G (dgF F n h) o (dgI F n h) s.heap.size) args s 0 0 (GA G s.heap.size)) (F0 m 114 ls []) := by
    intro n_
    induction n_ with
    | zero =>
      intro i d H locs ls hi hok1 hres g hl
      refine lv_iload_n hx hb dX2_digest_114 rfl (lv_at hl 2 rfl) ?_
      refine lv_aload_n hx hb dX2_digest_115 rfl (lv_at hl 0 rfl) ?_
      refine gP (k := 0) S g 0 (by decide) q90 dX2_digest_116 ?_
      refine gBN (k := 1) S g (Or.inl rfl) 6 (by decide) qn71 dX2_digest_119 ?_
      rw [show ((dgF F n h) 1 6 : Int32) = nI n from hok1.1]
      refine lv_icmp_ge (tgt := 158) hx hb dX2_digest_122 (by decide) (fun c_122 => ?_) (fun c9 => absurd (nI_le (by omega) (by omega)) c9)
      refine lv_lload_n hx hb dX2_digest_158 rfl (lv_at hl 1 rfl) ?_
      exact e_l S hr hk0 g hres rfl dX2_digest_159
    | succ n_ ih_114 =>
      intro i d H locs ls hi hok1 hres g hl
      refine lv_iload_n hx hb dX2_digest_114 rfl (lv_at hl 2 rfl) ?_
      refine lv_aload_n hx hb dX2_digest_115 rfl (lv_at hl 0 rfl) ?_
      refine gP (k := 0) S g 0 (by decide) q90 dX2_digest_116 ?_
      refine gBN (k := 1) S g (Or.inl rfl) 6 (by decide) qn71 dX2_digest_119 ?_
      rw [show ((dgF F n h) 1 6 : Int32) = nI n from hok1.1]
      refine lv_icmp_ge (tgt := 158) hx hb dX2_digest_122 (by decide) (fun c9 => absurd c9 (nI_ge (by omega) (by omega))) (fun c_122 => ?_)
      refine lv_aload_n hx hb dX2_digest_125 rfl (lv_at hl 0 rfl) ?_
      refine gP (k := 0) S g 0 (by decide) q90 dX2_digest_126 ?_
      refine lv_iload_n hx hb dX2_digest_129 rfl (lv_at hl 2 rfl) ?_
      refine g_cn (rest := []) g rfl (g_VN (n := 1) (As := [.int (nI i)]) S g (c_find_ok l G (dgF F n h) o 1 i n (Or.inl rfl) hok1.1 (by omega) hn8) (by decide) (cEb G _ o (Or.inl rfl)) rfl qn272 q196 qs5 q2 q197 ⟨by decide +kernel, by decide +kernel, by decide +kernel⟩ rfl ⟨Nat.le_of_ble_eq_true rfl, Nat.le_of_ble_eq_true rfl⟩ hl.1 (Nat.le_of_ble_eq_true rfl) rfl ⟨Nat.zero_le _, Nat.zero_le _⟩ dX2_digest_130) (fun H locs g => ?_)
      refine lv_astore (lv' := [(4, .ref (gA G (wb 1 i))), (0, .ref (gA G 0)), (1, .long (d)), (3, .int (nI i))]) hx hb dX2_digest_133 hl (by decide) rfl (fun ls hl => ?_)
      refine lv_aload hx hb dX2_digest_135 (lv_at hl 0 rfl) ?_
      refine lv_ifnonnull (tgt := 144) hx hb dX2_digest_137 (by decide) ?_
      refine lv_aload_n hx hb dX2_digest_144 rfl (lv_at hl 1 rfl) ?_
      refine lv_lload_n hx hb dX2_digest_145 rfl (lv_at hl 2 rfl) ?_
      refine lv_aload hx hb dX2_digest_146 (lv_at hl 0 rfl) ?_
      refine g_cl (rest := []) g (g_V (n := 2) (As := [.long (d), .ref (gA G (wb 1 i))]) S g (c_chainWalker l G ((dgF F n h)) o (wb 1 i) h d (wb_lo (Or.inl rfl) _) (wb_hi (Or.inl rfl) (by omega)) hok1.2.1 hh2) (by decide) (cE0 G _ o) rfl (lw_V q418 q420 qs18 q1 q421) ⟨rfl, by decide +kernel, by decide +kernel, by decide +kernel⟩ rfl ⟨Nat.le_of_ble_eq_true rfl, Nat.le_of_ble_eq_true rfl⟩ hl.1 (Nat.le_of_ble_eq_true rfl) rfl ⟨Nat.zero_le _, Nat.zero_le _⟩ dX2_digest_148) (fun H locs g => ?_)
      refine lv_lstore_n (lv' := [(1, .long (cwkI ((dgF F n h)) (wb 1 i) (suH h) (noH h) d)), (4, .ref (gA G (wb 1 i))), (0, .ref (gA G 0)), (3, .int (nI i))]) hx hb dX2_digest_151 rfl hl (by decide) rfl (fun ls hl => ?_)
      refine lv_iinc (v := nI (i + 1)) (lv' := [(3, .int (nI (i + 1))), (1, .long (cwkI ((dgF F n h)) (wb 1 i) (suH h) (noH h) d)), (4, .ref (gA G (wb 1 i))), (0, .ref (gA G 0))]) hx hb dX2_digest_152 hl (k := 3) rfl (nI_1 i) (by decide) rfl (fun ls hl => ?_)
      refine lv_goto (tgt := 114) hx hb dX2_digest_155 (by decide) ?_
      exact ih_114 (i + 1) _ _ _ _ (by omega) hok1 hres g (lv_sub hl [3, 1, 0] rfl)
  exact loop114 n 0 _ _ _ _ (by omega) (fiF_ok (beF_ok hok)) rfl g (lv_sub hl [2, 1, 0] rfl)
