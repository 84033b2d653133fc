set_option maxHeartbeats 4000000 in
set_option maxRecDepth 100000 in
theorem c_floorMod (l : Launch) (G : gT) (F : Fs) (o : Int64) (a : Nat) (ha : a < 2 ^ 31) : MI l yJ9_floorMod_7cf53 cJ9_floorMod_7cf53 3 (some .int) 0 0 [.int (nI a), .int 12] G (F) o (F) (nI (a % 12)) := by
  refine mk_G (own := "java/lang/Math") (Qs := (fun sz => QI G (F) o (nI (a % 12)) sz)) (by decide +kernel) rfl (Nat.le_of_ble_eq_true rfl) ?_
  intro p e s m args below meth c ls hr hk0 hnm S g hl
  have hl : lv_has ls 3 [(0, .int (nI a)), (1, .int 12)] := hl
  have hx := S.1
  have hb := S.2.1
  refine lv_iload_n hx hb dJ9_floorMod_7cf53_0 rfl (lv_at hl 0 rfl) ?_
  refine lv_iload_n hx hb dJ9_floorMod_7cf53_1 rfl (lv_at hl 1 rfl) ?_
  refine lv_irem hx hb dJ9_floorMod_7cf53_2 (by decide) ?_
  rw [show ((nI a) - (nI a) / (12) * (12) : Int32) = nI (a % 12) from pk_rem (d := 12) ha (by omega) (by omega)]
  refine lv_istore_n (lv' := [(2, .int (nI (a % 12))), (0, .int (nI a)), (1, .int 12)]) hx hb dJ9_floorMod_7cf53_3 rfl hl (by decide) rfl (fun ls hl => ?_)
  refine lv_iload_n hx hb dJ9_floorMod_7cf53_4 rfl (lv_at hl 1 rfl) ?_
  refine lv_iload_n hx hb dJ9_floorMod_7cf53_5 rfl (lv_at hl 2 rfl) ?_
  refine lv_ixor hx hb dJ9_floorMod_7cf53_6 ?_
  rw [show ((nI a) ^^^ (12) : Int32) = nI (a ^^^ 12) from nx_xor a 12]
  refine lv_if_ge (tgt := 18) hx hb dJ9_floorMod_7cf53_7 (by decide) (fun c_7 => ?_) (fun c9 => absurd (nI_pos' (Nat.xor_lt_two_pow (n := 31) ha (by omega))) c9)
  refine lv_iload_n hx hb dJ9_floorMod_7cf53_18 rfl (lv_at hl 0 rfl) ?_
  exact e_i S hr hk0 g (by first | rfl | (simp only [c_7, ↓reduceIte]; done) | (simp [c_7, ↓reduceIte]; done)) (by first | rfl | (simp only [c_7, ↓reduceIte]; done)) dJ9_floorMod_7cf53_19
set_option maxHeartbeats 4000000 in
set_option maxRecDepth 100000 in
theorem c_hourOfDay (l : Launch) (G : gT) (F : Fs) (o : Int64) (a : Nat) (ha : a < 2 ^ 31) : MI l yX2_hourOfDay cX2_hourOfDay 1 (some .int) 1 22 [.int (nI a)] G (F) o (F) (nI (a % 12)) := by
  refine mk_G (own := "ShadowPool") (Qs := (fun sz => QI G (F) o (nI (a % 12)) sz)) (by decide +kernel) rfl (Nat.le_of_ble_eq_true rfl) ?_
  intro p e s m args below meth c ls hr hk0 hnm S g hl
  have hl : lv_has ls 1 [(0, .int (nI a))] := hl
  have hx := S.1
  have hb := S.2.1
  refine lv_iload_n hx hb dX2_hourOfDay_0 rfl (lv_at hl 0 rfl) ?_
  refine lv_bipush (v := 12) hx hb dX2_hourOfDay_1 (by decide) ?_
  refine g_ci (rest := []) g (g_S (n := 2) (As := [.int (nI a), .int 12]) S g (c_floorMod l G (F) o a ha) (lw_S q183 q184 q11 q185) ⟨by decide +kernel, by decide +kernel, by decide +kernel⟩ rfl ⟨Nat.le_of_ble_eq_true rfl, Nat.le_of_ble_eq_true rfl⟩ hl.1 (Nat.le_of_ble_eq_true rfl) rfl ⟨Nat.zero_le _, Nat.zero_le _⟩ dX2_hourOfDay_3) (fun H locs g => ?_)
  exact e_i S hr hk0 g (by first | rfl | (simp only [↓reduceIte]; done) | (simp [↓reduceIte]; done)) (by first | rfl | (simp only [↓reduceIte]; done)) dX2_hourOfDay_6
set_option maxHeartbeats 4000000 in
set_option maxRecDepth 100000 in
theorem c_within (l : Launch) (G : gT) (F : Fs) (o : Int64) (v : Int32) (lo : Int32) (hi : Int32) : MI l yX2_within cX2_within 3 (some .boolean) 0 0 [.int v, .int lo, .int hi] G (F) o (F) (inR v lo hi) := by
  refine mk_G (own := "ShadowPool") (Qs := (fun sz => QI G (F) o (inR v lo hi) sz)) (by decide +kernel) rfl (Nat.le_of_ble_eq_true rfl) ?_
  intro p e s m args below meth c ls hr hk0 hnm S g hl
  have hl : lv_has ls 3 [(0, .int v), (1, .int lo), (2, .int hi)] := hl
  have hx := S.1
  have hb := S.2.1
  refine lv_iload_n hx hb dX2_within_0 rfl (lv_at hl 0 rfl) ?_
  refine lv_iload_n hx hb dX2_within_1 rfl (lv_at hl 1 rfl) ?_
  refine lv_icmp_lt (tgt := 14) hx hb dX2_within_2 (by decide) (fun c_2 => ?_) (fun c_2 => ?_)
  · refine lv_iconst (v := 0) hx hb dX2_within_14 (by decide) ?_
    exact e_z S hr hk0 g (by first | rfl | decide) (by first | rfl | (simp only [inR, c_2, ↓reduceIte]; done) | (simp [inR, c_2, ↓reduceIte]; done)) (by first | rfl | (simp only [inR, c_2, ↓reduceIte]; done)) dX2_within_15
  · refine lv_iload_n hx hb dX2_within_5 rfl (lv_at hl 0 rfl) ?_
    refine lv_iload_n hx hb dX2_within_6 rfl (lv_at hl 2 rfl) ?_
    refine lv_icmp_gt (tgt := 14) hx hb dX2_within_7 (by decide) (fun c_7 => ?_) (fun c_7 => ?_)
    · refine lv_iconst (v := 0) hx hb dX2_within_14 (by decide) ?_
      exact e_z S hr hk0 g (by first | rfl | decide) (by first | rfl | (simp only [inR, c_2, c_7, ↓reduceIte]; done) | (simp [inR, c_2, c_7, ↓reduceIte]; done)) (by first | rfl | (simp only [inR, c_2, c_7, ↓reduceIte]; done)) dX2_within_15
    · refine lv_iconst (v := 1) hx hb dX2_within_10 (by decide) ?_
      refine lv_goto (tgt := 15) hx hb dX2_within_11 (by decide) ?_
      exact e_z S hr hk0 g (by first | rfl | decide) (by first | rfl | (simp only [inR, c_2, c_7, ↓reduceIte]; done) | (simp [inR, c_2, c_7, ↓reduceIte]; done)) (by first | rfl | (simp only [inR, c_2, c_7, ↓reduceIte]; done)) dX2_within_15
set_option maxHeartbeats 4000000 in
set_option maxRecDepth 100000 in
theorem c_sunAt (l : Launch) (G : gT) (F : Fs) (o : Int64) (d : Int32) : MI l yX2_sunAt cX2_sunAt 1 (some .int) 0 0 [.int d] G (F) o (F) (sunAtI d) := by
  refine mk_G (own := "ShadowPool") (Qs := (fun sz => QI G (F) o (sunAtI d) sz)) (by decide +kernel) rfl (Nat.le_of_ble_eq_true rfl) ?_
  intro p e s m args below meth c ls hr hk0 hnm S g hl
  have hl : lv_has ls 1 [(0, .int d)] := hl
  have hx := S.1
  have hb := S.2.1
  refine lv_iload_n hx hb dX2_sunAt_0 rfl (lv_at hl 0 rfl) ?_
  refine lv_iconst (v := 5) hx hb dX2_sunAt_1 (by decide) ?_
  refine lv_icmp_gt (tgt := 11) hx hb dX2_sunAt_2 (by decide) (fun c_2 => ?_) (fun c_2 => ?_)
  · refine lv_bipush (v := 12) hx hb dX2_sunAt_11 (by decide) ?_
    refine lv_iload_n hx hb dX2_sunAt_13 rfl (lv_at hl 0 rfl) ?_
    refine lv_isub hx hb dX2_sunAt_14 ?_
    exact e_i S hr hk0 g (by first | rfl | (simp only [sunAtI, c_2, ↓reduceIte]; done) | (simp [sunAtI, c_2, ↓reduceIte]; done)) (by first | rfl | (simp only [sunAtI, c_2, ↓reduceIte]; done)) dX2_sunAt_15
  · refine lv_iload_n hx hb dX2_sunAt_5 rfl (lv_at hl 0 rfl) ?_
    refine lv_iconst (v := 1) hx hb dX2_sunAt_6 (by decide) ?_
    refine lv_iadd hx hb dX2_sunAt_7 ?_
    refine lv_goto (tgt := 15) hx hb dX2_sunAt_8 (by decide) ?_
    exact e_i S hr hk0 g (by first | rfl | (simp only [sunAtI, c_2, ↓reduceIte]; done) | (simp [sunAtI, c_2, ↓reduceIte]; done)) (by first | rfl | (simp only [sunAtI, c_2, ↓reduceIte]; done)) dX2_sunAt_15
set_option maxHeartbeats 4000000 in
set_option maxRecDepth 100000 in
theorem c_noonAt (l : Launch) (G : gT) (F : Fs) (o : Int64) (d : Int32) : MI l yX2_noonAt cX2_noonAt 1 (some .boolean) 0 0 [.int d] G (F) o (F) (noonAtI d) := by
  refine mk_G (own := "ShadowPool") (Qs := (fun sz => QI G (F) o (noonAtI d) sz)) (by decide +kernel) rfl (Nat.le_of_ble_eq_true rfl) ?_
  intro p e s m args below meth c ls hr hk0 hnm S g hl
  have hl : lv_has ls 1 [(0, .int d)] := hl
  have hx := S.1
  have hb := S.2.1
  refine lv_iload_n hx hb dX2_noonAt_0 rfl (lv_at hl 0 rfl) ?_
  refine lv_iconst (v := 5) hx hb dX2_noonAt_1 (by decide) ?_
  refine lv_icmp_lt (tgt := 15) hx hb dX2_noonAt_2 (by decide) (fun c_2 => ?_) (fun c_2 => ?_)
  · refine lv_iconst (v := 0) hx hb dX2_noonAt_15 (by decide) ?_
    exact e_z S hr hk0 g (by first | rfl | decide) (by first | rfl | (simp only [noonAtI, c_2, ↓reduceIte]; done) | (simp [noonAtI, c_2, ↓reduceIte]; done)) (by first | rfl | (simp only [noonAtI, c_2, ↓reduceIte]; done)) dX2_noonAt_16
  · refine lv_iload_n hx hb dX2_noonAt_5 rfl (lv_at hl 0 rfl) ?_
    refine lv_bipush (v := 6) hx hb dX2_noonAt_6 (by decide) ?_
    refine lv_icmp_gt (tgt := 15) hx hb dX2_noonAt_8 (by decide) (fun c_8 => ?_) (fun c_8 => ?_)
    · refine lv_iconst (v := 0) hx hb dX2_noonAt_15 (by decide) ?_
      exact e_z S hr hk0 g (by first | rfl | decide) (by first | rfl | (simp only [noonAtI, c_2, c_8, ↓reduceIte]; done) | (simp [noonAtI, c_2, c_8, ↓reduceIte]; done)) (by first | rfl | (simp only [noonAtI, c_2, c_8, ↓reduceIte]; done)) dX2_noonAt_16
    · refine lv_iconst (v := 1) hx hb dX2_noonAt_11 (by decide) ?_
      refine lv_goto (tgt := 16) hx hb dX2_noonAt_12 (by decide) ?_
      exact e_z S hr hk0 g (by first | rfl | decide) (by first | rfl | (simp only [noonAtI, c_2, c_8, ↓reduceIte]; done) | (simp [noonAtI, c_2, c_8, ↓reduceIte]; done)) (by first | rfl | (simp only [noonAtI, c_2, c_8, ↓reduceIte]; done)) dX2_noonAt_16
set_option maxHeartbeats 4000000 in
set_option maxRecDepth 100000 in
theorem c_shadowUnder (l : Launch) (G : gT) (F : Fs) (o : Int64) (k : Nat) (sun : Int32) (h1 : 5 ≤ k) (h2 : k < 21) (hs : 1 ≤ sun) : MI l yX1_shadowUnder cX1_shadowUnder 2 (some .int) 0 0 [.ref (gA G k), .int sun] G (F) o (F) (shI (F k 0) sun) := by
  refine mk_G (own := "ShadowPool$Walker") (Qs := (fun sz => QI G (F) o (shI (F k 0) sun) sz)) (by decide +kernel) rfl (Nat.le_of_ble_eq_true rfl) ?_
  intro p e s m args below meth c ls hr hk0 hnm S g hl
  have hl : lv_has ls 2 [(0, .ref (gA G k)), (1, .int sun)] := hl
  have hx := S.1
  have hb := S.2.1
  refine lv_iload_n hx hb dX1_shadowUnder_0 rfl (lv_at hl 1 rfl) ?_
  refine lv_iconst (v := 1) hx hb dX1_shadowUnder_1 (by decide) ?_
  refine lv_icmp_ge (tgt := 9) hx hb dX1_shadowUnder_2 (by decide) (fun c_2 => ?_) (fun c9 => absurd hs c9)
  refine lv_bipush (v := 6) hx hb dX1_shadowUnder_9 (by decide) ?_
  refine lv_aload_n hx hb dX1_shadowUnder_11 rfl (lv_at hl 0 rfl) ?_
  refine gW (k := k) S g h1 h2 0 (by decide) q33 dX1_shadowUnder_12 ?_
  refine lv_imul hx hb dX1_shadowUnder_15 ?_
  refine lv_iload_n hx hb dX1_shadowUnder_16 rfl (lv_at hl 1 rfl) ?_
  refine lv_idiv hx hb dX1_shadowUnder_17 (ne0_pos hs) ?_
  exact e_i S hr hk0 g (by first | rfl | (simp only [shI, c_2, ↓reduceIte]; done) | (simp [shI, c_2, ↓reduceIte]; done)) (by first | rfl | (simp only [shI, c_2, ↓reduceIte]; done)) dX1_shadowUnder_18
set_option maxHeartbeats 4000000 in
set_option maxRecDepth 100000 in
theorem c_costUnder (l : Launch) (G : gT) (F : Fs) (o : Int64) (k : Nat) (sun : Int32) (h1 : 5 ≤ k) (h2 : k < 21) (hs : 1 ≤ sun) : MI l yX1_costUnder cX1_costUnder 2 (some .int) 1 21 [.ref (gA G k), .int sun] G (F) o (F) (coI (F k 0) (F k 2) sun) := by
  refine mk_G (own := "ShadowPool$Walker") (Qs := (fun sz => QI G (F) o (coI (F k 0) (F k 2) sun) sz)) (by decide +kernel) rfl (Nat.le_of_ble_eq_true rfl) ?_
  intro p e s m args below meth c ls hr hk0 hnm S g hl
  have hl : lv_has ls 2 [(0, .ref (gA G k)), (1, .int sun)] := hl
  have hx := S.1
  have hb := S.2.1
  refine lv_iconst (v := 0) hx hb dX1_costUnder_0 (by decide) ?_
  refine lv_aload_n hx hb dX1_costUnder_1 rfl (lv_at hl 0 rfl) ?_
  refine lv_iload_n hx hb dX1_costUnder_2 rfl (lv_at hl 1 rfl) ?_
  refine g_ci (rest := [.int 0]) g (g_V (n := 1) (As := [.int sun]) S g (c_shadowUnder l G (F) o k sun h1 h2 hs) (Nat.lt_of_lt_of_le h2 (by decide)) (cEw G _ o h1 h2) rfl (lw_V q219 q221 qs9 q3 q222) ⟨rfl, by decide +kernel, by decide +kernel, by decide +kernel⟩ rfl ⟨Nat.le_of_ble_eq_true rfl, Nat.le_of_ble_eq_true rfl⟩ hl.1 (Nat.le_of_ble_eq_true rfl) rfl ⟨Nat.zero_le _, Nat.zero_le _⟩ dX1_costUnder_3) (fun H locs g => ?_)
  refine lv_iconst (v := 2) hx hb dX1_costUnder_6 (by decide) ?_
  refine lv_aload_n hx hb dX1_costUnder_7 rfl (lv_at hl 0 rfl) ?_
  refine gW (k := k) S g h1 h2 2 (by decide) q35 dX1_costUnder_8 ?_
  refine lv_imul hx hb dX1_costUnder_11 ?_
  refine lv_isub hx hb dX1_costUnder_12 ?_
  refine g_max S hl.1 q212 qMaxS q11 qMax (Nat.le_of_ble_eq_true rfl) (Nat.le_of_ble_eq_true rfl) (Nat.zero_le _) (Nat.zero_le _) dX1_costUnder_13 ?_
  exact e_i S hr hk0 g (by first | rfl | (simp only [coI, mx0, ↓reduceIte]; done) | (simp [coI, mx0, ↓reduceIte]; done)) (by first | rfl | (simp only [coI, mx0, ↓reduceIte]; done)) dX1_costUnder_16
set_option maxHeartbeats 4000000 in
set_option maxRecDepth 100000 in
theorem c_ownPart (l : Launch) (G : gT) (F : Fs) (o : Int64) (k : Nat) (cost : Int32) (noon : Int32) (h1 : 5 ≤ k) (h2 : k < 21) : MI l yX1_ownPart cX1_ownPart 3 (some .int) 1 21 [.ref (gA G k), .int cost, .int noon] G (F) o (F) (owI (F k 5) cost noon) := by
  refine mk_G (own := "ShadowPool$Walker") (Qs := (fun sz => QI G (F) o (owI (F k 5) cost noon) sz)) (by decide +kernel) rfl (Nat.le_of_ble_eq_true rfl) ?_
  intro p e s m args below meth c ls hr hk0 hnm S g hl
  have hl : lv_has ls 3 [(0, .ref (gA G k)), (1, .int cost), (2, .int noon)] := hl
  have hx := S.1
  have hb := S.2.1
  refine lv_aload_n hx hb dX1_ownPart_0 rfl (lv_at hl 0 rfl) ?_
  refine gW (k := k) S g h1 h2 5 (by decide) q42 dX1_ownPart_1 ?_
  refine lv_if_ne (tgt := 9) hx hb dX1_ownPart_4 (by decide) (fun c_4 => ?_) (fun c_4 => ?_)
  · refine lv_iload_n hx hb dX1_ownPart_9 rfl (lv_at hl 1 rfl) ?_
    refine lv_iload_n hx hb dX1_ownPart_10 rfl (lv_at hl 2 rfl) ?_
    refine lv_if_eq (tgt := 19) hx hb dX1_ownPart_11 (by decide) (fun c_11 => ?_) (fun c_11 => ?_)
    · refine lv_iconst (v := 3) hx hb dX1_ownPart_19 (by decide) ?_
      refine g_min S hl.1 q227 qMinS q11 qMin (Nat.le_of_ble_eq_true rfl) (Nat.le_of_ble_eq_true rfl) (Nat.zero_le _) (Nat.zero_le _) dX1_ownPart_20 ?_
      exact e_i S hr hk0 g (by first | rfl | (simp only [owI, c_4, c_11, ↓reduceIte]; done) | (simp [owI, c_4, c_11, ↓reduceIte]; done)) (by first | rfl | (simp only [owI, c_4, c_11, ↓reduceIte]; done)) dX1_ownPart_23
    · refine lv_bipush (v := 6) hx hb dX1_ownPart_14 (by decide) ?_
      refine lv_goto (tgt := 20) hx hb dX1_ownPart_16 (by decide) ?_
      refine g_min S hl.1 q227 qMinS q11 qMin (Nat.le_of_ble_eq_true rfl) (Nat.le_of_ble_eq_true rfl) (Nat.zero_le _) (Nat.zero_le _) dX1_ownPart_20 ?_
      exact e_i S hr hk0 g (by first | rfl | (simp only [owI, c_4, c_11, ↓reduceIte]; done) | (simp [owI, c_4, c_11, ↓reduceIte]; done)) (by first | rfl | (simp only [owI, c_4, c_11, ↓reduceIte]; done)) dX1_ownPart_23
  · refine lv_iload_n hx hb dX1_ownPart_7 rfl (lv_at hl 1 rfl) ?_
    exact e_i S hr hk0 g (by first | rfl | (simp only [owI, c_4, ↓reduceIte]; done) | (simp [owI, c_4, ↓reduceIte]; done)) (by first | rfl | (simp only [owI, c_4, ↓reduceIte]; done)) dX1_ownPart_8
set_option maxHeartbeats 4000000 in
set_option maxRecDepth 100000 in
theorem c_wobbleBehind (l : Launch) (G : gT) (F : Fs) (o : Int64) (k : Nat) (before : Int32) (noon : Int32) (h1 : 5 ≤ k) (h2 : k < 21) : MI l yX1_wobbleBehind cX1_wobbleBehind 4 (some .int) 1 21 [.ref (gA G k), .int before, .int noon] G (F) o (F) (woI (F k 0) (F k 1) before noon) := by
  refine mk_G (own := "ShadowPool$Walker") (Qs := (fun sz => QI G (F) o (woI (F k 0) (F k 1) before noon) sz)) (by decide +kernel) rfl (Nat.le_of_ble_eq_true rfl) ?_
  intro p e s m args below meth c ls hr hk0 hnm S g hl
  have hl : lv_has ls 4 [(0, .ref (gA G k)), (1, .int before), (2, .int noon)] := hl
  have hx := S.1
  have hb := S.2.1
  refine lv_aload_n hx hb dX1_wobbleBehind_0 rfl (lv_at hl 0 rfl) ?_
  refine gW (k := k) S g h1 h2 0 (by decide) q33 dX1_wobbleBehind_1 ?_
  refine lv_iconst (v := 5) hx hb dX1_wobbleBehind_4 (by decide) ?_
  refine lv_idiv hx hb dX1_wobbleBehind_5 (by decide) ?_
  refine lv_iload_n hx hb dX1_wobbleBehind_6 rfl (lv_at hl 2 rfl) ?_
  refine lv_if_eq (tgt := 14) hx hb dX1_wobbleBehind_7 (by decide) (fun c_7 => ?_) (fun c_7 => ?_)
  · refine lv_iconst (v := 1) hx hb dX1_wobbleBehind_14 (by decide) ?_
    refine lv_iadd hx hb dX1_wobbleBehind_15 ?_
    refine lv_istore_n (lv' := [(3, .int (((F k 0) / (5)) + (1))), (0, .ref (gA G k)), (1, .int before), (2, .int noon)]) hx hb dX1_wobbleBehind_16 rfl hl (by decide) rfl (fun ls hl => ?_)
    refine lv_iconst (v := 0) hx hb dX1_wobbleBehind_17 (by decide) ?_
    refine lv_iload_n hx hb dX1_wobbleBehind_18 rfl (lv_at hl 2 rfl) ?_
    refine lv_iload_n hx hb dX1_wobbleBehind_19 rfl (lv_at hl 0 rfl) ?_
    refine lv_iadd hx hb dX1_wobbleBehind_20 ?_
    refine lv_aload_n hx hb dX1_wobbleBehind_21 rfl (lv_at hl 1 rfl) ?_
    refine gW (k := k) S g h1 h2 1 (by decide) q34 dX1_wobbleBehind_22 ?_
    refine lv_isub hx hb dX1_wobbleBehind_25 ?_
    refine g_max S hl.1 q212 qMaxS q11 qMax (Nat.le_of_ble_eq_true rfl) (Nat.le_of_ble_eq_true rfl) (Nat.zero_le _) (Nat.zero_le _) dX1_wobbleBehind_26 ?_
    exact e_i S hr hk0 g (by first | rfl | (simp only [woI, mx0, c_7, ↓reduceIte]; done) | (simp [woI, mx0, c_7, ↓reduceIte]; done)) (by first | rfl | (simp only [woI, mx0, c_7, ↓reduceIte]; done)) dX1_wobbleBehind_29
  · refine lv_iconst (v := 2) hx hb dX1_wobbleBehind_10 (by decide) ?_
    refine lv_goto (tgt := 15) hx hb dX1_wobbleBehind_11 (by decide) ?_
    refine lv_iadd hx hb dX1_wobbleBehind_15 ?_
    refine lv_istore_n (lv' := [(3, .int (((F k 0) / (5)) + (2))), (0, .ref (gA G k)), (1, .int before), (2, .int noon)]) hx hb dX1_wobbleBehind_16 rfl hl (by decide) rfl (fun ls hl => ?_)
    refine lv_iconst (v := 0) hx hb dX1_wobbleBehind_17 (by decide) ?_
    refine lv_iload_n hx hb dX1_wobbleBehind_18 rfl (lv_at hl 2 rfl) ?_
    refine lv_iload_n hx hb dX1_wobbleBehind_19 rfl (lv_at hl 0 rfl) ?_
    refine lv_iadd hx hb dX1_wobbleBehind_20 ?_
    refine lv_aload_n hx hb dX1_wobbleBehind_21 rfl (lv_at hl 1 rfl) ?_
    refine gW (k := k) S g h1 h2 1 (by decide) q34 dX1_wobbleBehind_22 ?_
    refine lv_isub hx hb dX1_wobbleBehind_25 ?_
    refine g_max S hl.1 q212 qMaxS q11 qMax (Nat.le_of_ble_eq_true rfl) (Nat.le_of_ble_eq_true rfl) (Nat.zero_le _) (Nat.zero_le _) dX1_wobbleBehind_26 ?_
    exact e_i S hr hk0 g (by first | rfl | (simp only [woI, mx0, c_7, ↓reduceIte]; done) | (simp [woI, mx0, c_7, ↓reduceIte]; done)) (by first | rfl | (simp only [woI, mx0, c_7, ↓reduceIte]; done)) dX1_wobbleBehind_29
set_option maxHeartbeats 4000000 in
set_option maxRecDepth 100000 in
theorem c_fallsBehind (l : Launch) (G : gT) (F : Fs) (o : Int64) (k : Nat) (h : Nat) (h1 : 5 ≤ k) (h2 : k < 21) (hh : h < 2 ^ 30) : MI l yX1_fallsBehind cX1_fallsBehind 4 (some .int) 2 44 [.ref (gA G k), .int (nI h)] G (F) o (F) (faB (F k 0) (F k 1) h 100 0 (F k 3)) := by
  refine mk_G (own := "ShadowPool$Walker") (Qs := (fun sz => QI G (F) o (faB (F k 0) (F k 1) h 100 0 (F k 3)) sz)) (by decide +kernel) rfl (Nat.le_of_ble_eq_true rfl) ?_
  intro p e s m args below meth c ls hr hk0 hnm S g hl
  have hl : lv_has ls 4 [(0, .ref (gA G k)), (1, .int (nI h))] := hl
  have hx := S.1
  have hb := S.2.1
  refine lv_aload_n hx hb dX1_fallsBehind_0 rfl (lv_at hl 0 rfl) ?_
  refine gW (k := k) S g h1 h2 3 (by decide) q37 dX1_fallsBehind_1 ?_
  refine lv_istore_n (lv' := [(2, .int (F k 3)), (0, .ref (gA G k)), (1, .int (nI h))]) hx hb dX1_fallsBehind_4 rfl hl (by decide) rfl (fun ls hl => ?_)
  refine lv_iconst (v := 1) hx hb dX1_fallsBehind_5 (by decide) ?_
  refine lv_istore_n (lv' := [(3, .int 1), (2, .int (F k 3)), (0, .ref (gA G k)), (1, .int (nI h))]) hx hb dX1_fallsBehind_6 rfl hl (by decide) rfl (fun ls hl => ?_)
  have loop7 : ∀ (n_ : Nat) (i : Nat) (r : Int32) (H : Heap) (locs : List Loc) (ls : Array Slot) (hn : i + n_ = 100) (hres : faB (F k 0) (F k 1) h n_ i r = faB (F k 0) (F k 1) h 100 0 (F k 3)), GB G (F) o [] [] s H locs → lv_has ls 4 [(0, .ref (gA G k)), (1, .int (nI h)), (2, .int r), (3, .int (nI (i + 1)))] → W p l e (rmG 2 44) s m args below meth c H locs 0 0 (MQ below (QI G (F) o (faB (F k 0) (F k 1) h 100 0 (F k 3)) s.heap.size) args s 0 0 (GA G s.heap.size)) (F0 m 7 ls []) := by
    intro n_
    induction n_ with
    | zero =>
      intro i r H locs ls hn hres g hl
      refine lv_iload_n hx hb dX1_fallsBehind_7 rfl (lv_at hl 3 rfl) ?_
      refine lv_bipush (v := 100) hx hb dX1_fallsBehind_8 (by decide) ?_
      refine lv_icmp_gt (tgt := 44) hx hb dX1_fallsBehind_10 (by decide) (fun c_10 => ?_) (fun c9 => absurd (nI_lt (a := 100) (by omega) (by omega)) c9)
      refine lv_iconst (v := (-1)) hx hb dX1_fallsBehind_44 (by decide) ?_
      exact e_i S hr hk0 g hres rfl dX1_fallsBehind_45
    | succ n_ ih_7 =>
      intro i r H locs ls hn hres g hl
      refine lv_iload_n hx hb dX1_fallsBehind_7 rfl (lv_at hl 3 rfl) ?_
      refine lv_bipush (v := 100) hx hb dX1_fallsBehind_8 (by decide) ?_
      refine lv_icmp_gt (tgt := 44) hx hb dX1_fallsBehind_10 (by decide) (fun c9 => absurd c9 (nI_nlt (a := 100) (by omega) (by omega))) (fun c_10 => ?_)
      refine lv_aload_n hx hb dX1_fallsBehind_13 rfl (lv_at hl 0 rfl) ?_
      refine lv_iload_n hx hb dX1_fallsBehind_14 rfl (lv_at hl 2 rfl) ?_
      refine lv_iload_n hx hb dX1_fallsBehind_15 rfl (lv_at hl 1 rfl) ?_
      refine lv_iload_n hx hb dX1_fallsBehind_16 rfl (lv_at hl 3 rfl) ?_
      refine lv_iadd hx hb dX1_fallsBehind_17 ?_
      rw [show ((nI h) + (nI (i + 1)) : Int32) = nI (h + (i + 1)) from nI_add h (i + 1)]
      refine lv_iconst (v := 1) hx hb dX1_fallsBehind_18 (by decide) ?_
      refine lv_isub hx hb dX1_fallsBehind_19 ?_
      rw [show ((nI (h + (i + 1))) - (1) : Int32) = nI (h + i) from nI_pred (h + i)]
      refine g_ci (rest := [.int r, .ref (gA G k)]) g (g_SN (n := 1) (As := [.int (nI (h + i))]) S g (c_hourOfDay l G (F) o (h + i) (by omega)) qn363 q181 q1 q182 ⟨by decide +kernel, by decide +kernel, by decide +kernel⟩ rfl ⟨Nat.le_of_ble_eq_true rfl, Nat.le_of_ble_eq_true rfl⟩ hl.1 (Nat.le_of_ble_eq_true rfl) rfl ⟨Nat.zero_le _, Nat.zero_le _⟩ dX1_fallsBehind_20) (fun H locs g => ?_)
      refine g_ci (rest := [.int r, .ref (gA G k)]) g (g_SN (n := 1) (As := [.int (nI ((h + i) % 12))]) S g (c_noonAt l G (F) o (nI ((h + i) % 12))) qn364 q202 q1 q203 ⟨by decide +kernel, by decide +kernel, by decide +kernel⟩ rfl ⟨Nat.le_of_ble_eq_true rfl, Nat.le_of_ble_eq_true rfl⟩ hl.1 (Nat.le_of_ble_eq_true rfl) rfl ⟨Nat.zero_le _, Nat.zero_le _⟩ dX1_fallsBehind_23) (fun H locs g => ?_)
      refine g_ci (rest := []) g (g_V (n := 2) (As := [.int r, .int (noonAtI (nI ((h + i) % 12)))]) S g (c_wobbleBehind l G (F) o k r (noonAtI (nI ((h + i) % 12))) h1 h2) (Nat.lt_of_lt_of_le h2 (by decide)) (cEw G _ o h1 h2) rfl (lw_V q365 q210 qs7 q3 q211) ⟨rfl, by decide +kernel, by decide +kernel, by decide +kernel⟩ rfl ⟨Nat.le_of_ble_eq_true rfl, Nat.le_of_ble_eq_true rfl⟩ hl.1 (Nat.le_of_ble_eq_true rfl) rfl ⟨Nat.zero_le _, Nat.zero_le _⟩ dX1_fallsBehind_26) (fun H locs g => ?_)
      refine lv_istore_n (lv' := [(2, .int (woI (F k 0) (F k 1) r (noonAtI (nI ((h + i) % 12))))), (0, .ref (gA G k)), (1, .int (nI h)), (3, .int (nI (i + 1)))]) hx hb dX1_fallsBehind_29 rfl hl (by decide) rfl (fun ls hl => ?_)
      refine lv_iload_n hx hb dX1_fallsBehind_30 rfl (lv_at hl 0 rfl) ?_
      refine lv_bipush (v := 10) hx hb dX1_fallsBehind_31 (by decide) ?_
      refine lv_icmp_lt (tgt := 38) hx hb dX1_fallsBehind_33 (by decide) (fun c_33 => ?_) (fun c_33 => ?_)
      · refine lv_iinc (v := nI (i + 1 + 1)) (lv' := [(3, .int (nI (i + 1 + 1))), (2, .int (woI (F k 0) (F k 1) r (noonAtI (nI ((h + i) % 12))))), (0, .ref (gA G k)), (1, .int (nI h))]) hx hb dX1_fallsBehind_38 hl (k := 3) rfl (nI_1 (i + 1)) (by decide) rfl (fun ls hl => ?_)
        refine lv_goto (tgt := 7) hx hb dX1_fallsBehind_41 (by decide) ?_
        exact ih_7 (i + 1) _ _ _ _ (by omega) (by simpa only [faB, c_10, c_33, ↓reduceIte] using hres) g (lv_sub hl [2, 3, 1, 0] rfl)
      · refine lv_iload_n hx hb dX1_fallsBehind_36 rfl (lv_at hl 3 rfl) ?_
        exact e_i S hr hk0 g (by simpa only [faB, c_10, c_33, ↓reduceIte] using hres) rfl dX1_fallsBehind_37
  exact loop7 100 0 (F k 3) _ _ _ rfl rfl g (lv_sub hl [2, 3, 1, 0] rfl)
set_option maxHeartbeats 4000000 in
set_option maxRecDepth 100000 in
theorem c_fall (l : Launch) (G : gT) (F : Fs) (o : Int64) (k : Nat) (h1 : 5 ≤ k) (h2 : k < 21) : MV l yX1_fall cX1_fall 1 1 21 [.ref (gA G k)] G (F) o (fallF F k) := by
  refine mk_G (own := "ShadowPool$Walker") (Qs := (fun sz => QV G (fallF F k) o sz)) (by decide +kernel) rfl (Nat.le_of_ble_eq_true rfl) ?_
  intro p e s m args below meth c ls hr hk0 hnm S g hl
  have hl : lv_has ls 1 [(0, .ref (gA G k))] := hl
  have hx := S.1
  have hb := S.2.1
  refine lv_aload_n hx hb dX1_fall_0 rfl (lv_at hl 0 rfl) ?_
  refine lv_dup hx hb dX1_fall_1 rfl ?_
  refine gW (k := k) S g h1 h2 4 (by decide) q40 dX1_fall_2 ?_
  refine lv_iconst (v := 1) hx hb dX1_fall_5 (by decide) ?_
  refine lv_iadd hx hb dX1_fall_6 ?_
  refine gWp (k := k) S g h1 h2 4 (by decide) q40 dX1_fall_7 (fun H locs g => ?_)
  refine lv_aload_n hx hb dX1_fall_10 rfl (lv_at hl 0 rfl) ?_
  refine lv_iconst (v := 0) hx hb dX1_fall_11 (by decide) ?_
  refine lv_aload_n hx hb dX1_fall_12 rfl (lv_at hl 0 rfl) ?_
  refine gW (k := k) S g h1 h2 2 (by decide) q35 dX1_fall_13 ?_
  refine lv_iconst (v := 1) hx hb dX1_fall_16 (by decide) ?_
  refine lv_isub hx hb dX1_fall_17 ?_
  refine g_max S hl.1 q212 qMaxS q11 qMax (Nat.le_of_ble_eq_true rfl) (Nat.le_of_ble_eq_true rfl) (Nat.zero_le _) (Nat.zero_le _) dX1_fall_18 ?_
  refine gWp (k := k) S g h1 h2 2 (by decide) q35 dX1_fall_21 (fun H locs g => ?_)
  refine lv_aload_n hx hb dX1_fall_24 rfl (lv_at hl 0 rfl) ?_
  refine lv_iconst (v := 0) hx hb dX1_fall_25 (by decide) ?_
  refine gWp (k := k) S g h1 h2 3 (by decide) q37 dX1_fall_26 (fun H locs g => ?_)
  exact e_v S hr hk0 g rfl dX1_fall_29
set_option maxHeartbeats 4000000 in
set_option maxRecDepth 100000 in
theorem c_begin (l : Launch) (G : gT) (F : Fs) (o : Int64) (k : Nat) (h : Int32) (sk : Int32) (nt : Int32) (h1 : 5 ≤ k) (h2 : k < 21) : MV l yX1_begin cX1_begin 4 0 0 [.ref (gA G k), .int h, .int sk, .int nt] G (F) o (begF F k h sk nt) := by
  refine mk_G (own := "ShadowPool$Walker") (Qs := (fun sz => QV G (begF F k h sk nt) o sz)) (by decide +kernel) rfl (Nat.le_of_ble_eq_true rfl) ?_
  intro p e s m args below meth c ls hr hk0 hnm S g hl
  have hl : lv_has ls 4 [(0, .ref (gA G k)), (1, .int h), (2, .int sk), (3, .int nt)] := hl
  have hx := S.1
  have hb := S.2.1
  refine lv_aload_n hx hb dX1_begin_0 rfl (lv_at hl 0 rfl) ?_
  refine lv_iload_n hx hb dX1_begin_1 rfl (lv_at hl 1 rfl) ?_
  refine gWp (k := k) S g h1 h2 0 (by decide) q33 dX1_begin_2 (fun H locs g => ?_)
  refine lv_aload_n hx hb dX1_begin_5 rfl (lv_at hl 0 rfl) ?_
  refine lv_iload_n hx hb dX1_begin_6 rfl (lv_at hl 2 rfl) ?_
  refine gWp (k := k) S g h1 h2 1 (by decide) q34 dX1_begin_7 (fun H locs g => ?_)
  refine lv_aload_n hx hb dX1_begin_10 rfl (lv_at hl 0 rfl) ?_
  refine lv_iload_n hx hb dX1_begin_11 rfl (lv_at hl 3 rfl) ?_
  refine gWp (k := k) S g h1 h2 2 (by decide) q35 dX1_begin_12 (fun H locs g => ?_)
  refine lv_aload_n hx hb dX1_begin_15 rfl (lv_at hl 0 rfl) ?_
  refine lv_iconst (v := 0) hx hb dX1_begin_16 (by decide) ?_
  refine gWp (k := k) S g h1 h2 3 (by decide) q37 dX1_begin_17 (fun H locs g => ?_)
  refine lv_aload_n hx hb dX1_begin_20 rfl (lv_at hl 0 rfl) ?_
  refine lv_iconst (v := 0) hx hb dX1_begin_21 (by decide) ?_
  refine gWp (k := k) S g h1 h2 4 (by decide) q40 dX1_begin_22 (fun H locs g => ?_)
  refine lv_aload_n hx hb dX1_begin_25 rfl (lv_at hl 0 rfl) ?_
  refine lv_iconst (v := 1) hx hb dX1_begin_26 (by decide) ?_
  refine gWz (k := k) S g h1 h2 5 rfl (Or.inr rfl) q42 dX1_begin_27 (fun H locs g => ?_)
  exact e_v S hr hk0 g rfl dX1_begin_30
set_option maxHeartbeats 4000000 in
set_option maxRecDepth 100000 in
theorem c_copyWalker (l : Launch) (G : gT) (F : Fs) (o : Int64) (k : Nat) (k2 : Nat) (h1 : 5 ≤ k) (h2 : k < 21) (g1 : 5 ≤ k2) (g2 : k2 < 21) (hm : F k2 5 = 0 ∨ F k2 5 = 1) : MV l yX1_copyWalker cX1_copyWalker 2 0 0 [.ref (gA G k), .ref (gA G k2)] G (F) o (cpwF F k k2) := by
  refine mk_G (own := "ShadowPool$Walker") (Qs := (fun sz => QV G (cpwF F k k2) o sz)) (by decide +kernel) rfl (Nat.le_of_ble_eq_true rfl) ?_
  intro p e s m args below meth c ls hr hk0 hnm S g hl
  have hl : lv_has ls 2 [(0, .ref (gA G k)), (1, .ref (gA G k2))] := hl
  have hx := S.1
  have hb := S.2.1
  refine lv_aload_n hx hb dX1_copyWalker_0 rfl (lv_at hl 0 rfl) ?_
  refine lv_aload_n hx hb dX1_copyWalker_1 rfl (lv_at hl 1 rfl) ?_
  refine gW (k := k2) S g g1 g2 0 (by decide) q33 dX1_copyWalker_2 ?_
  refine gWp (k := k) S g h1 h2 0 (by decide) q33 dX1_copyWalker_5 (fun H locs g => ?_)
  rw [show up2 (F) (k) 0 (F k2 0) = cpw1 F k k2 from rfl] at g
  refine lv_aload_n hx hb dX1_copyWalker_8 rfl (lv_at hl 0 rfl) ?_
  refine lv_aload_n hx hb dX1_copyWalker_9 rfl (lv_at hl 1 rfl) ?_
  refine gW (k := k2) S g g1 g2 1 (by decide) q34 dX1_copyWalker_10 ?_
  refine gWp (k := k) S g h1 h2 1 (by decide) q34 dX1_copyWalker_13 (fun H locs g => ?_)
  rw [show up2 (cpw1 F k k2) (k) 1 ((cpw1 F k k2) k2 1) = cpw2 F k k2 from rfl] at g
  refine lv_aload_n hx hb dX1_copyWalker_16 rfl (lv_at hl 0 rfl) ?_
  refine lv_aload_n hx hb dX1_copyWalker_17 rfl (lv_at hl 1 rfl) ?_
  refine gW (k := k2) S g g1 g2 2 (by decide) q35 dX1_copyWalker_18 ?_
  refine gWp (k := k) S g h1 h2 2 (by decide) q35 dX1_copyWalker_21 (fun H locs g => ?_)
  rw [show up2 (cpw2 F k k2) (k) 2 ((cpw2 F k k2) k2 2) = cpw3 F k k2 from rfl] at g
  refine lv_aload_n hx hb dX1_copyWalker_24 rfl (lv_at hl 0 rfl) ?_
  refine lv_aload_n hx hb dX1_copyWalker_25 rfl (lv_at hl 1 rfl) ?_
  refine gW (k := k2) S g g1 g2 3 (by decide) q37 dX1_copyWalker_26 ?_
  refine gWp (k := k) S g h1 h2 3 (by decide) q37 dX1_copyWalker_29 (fun H locs g => ?_)
  rw [show up2 (cpw3 F k k2) (k) 3 ((cpw3 F k k2) k2 3) = cpw4 F k k2 from rfl] at g
  refine lv_aload_n hx hb dX1_copyWalker_32 rfl (lv_at hl 0 rfl) ?_
  refine lv_aload_n hx hb dX1_copyWalker_33 rfl (lv_at hl 1 rfl) ?_
  refine gW (k := k2) S g g1 g2 4 (by decide) q40 dX1_copyWalker_34 ?_
  refine gWp (k := k) S g h1 h2 4 (by decide) q40 dX1_copyWalker_37 (fun H locs g => ?_)
  rw [show up2 (cpw4 F k k2) (k) 4 ((cpw4 F k k2) k2 4) = cpw5 F k k2 from rfl] at g
  refine lv_aload_n hx hb dX1_copyWalker_40 rfl (lv_at hl 0 rfl) ?_
  refine lv_aload_n hx hb dX1_copyWalker_41 rfl (lv_at hl 1 rfl) ?_
  refine gW (k := k2) S g g1 g2 5 (by decide) q42 dX1_copyWalker_42 ?_
  refine gWz (k := k) S g h1 h2 5 rfl (by rw [cpw5_5]; exact hm) q42 dX1_copyWalker_45 (fun H locs g => ?_)
  exact e_v S hr hk0 g rfl dX1_copyWalker_48
set_option maxHeartbeats 4000000 in
set_option maxRecDepth 100000 in
theorem c_find_ok (l : Launch) (G : gT) (F : Fs) (o : Int64) (b : Nat) (j : Nat) (n : Nat) (hB : b = 1 ∨ b = 2) (hn : F b 6 = nI n) (hj : j < n) (hn8 : n ≤ 8) : MN l yX0_find cX0_find 2 (some (.object "ShadowPool$Walker")) 0 0 [.ref (gA G b), .int (nI j)] G (F) o (F) (some (gA G (wb b j))) := by
  refine mk_G (own := "ShadowPool$Book") (Qs := (fun sz => QN G (F) o (some (gA G (wb b j))) sz)) (by decide +kernel) rfl (Nat.le_of_ble_eq_true rfl) ?_
  intro p e s m args below meth c ls hr hk0 hnm S g hl
  have hl : lv_has ls 2 [(0, .ref (gA G b)), (1, .int (nI j))] := hl
  have hx := S.1
  have hb := S.2.1
  refine lv_iload_n hx hb dX0_find_0 rfl (lv_at hl 1 rfl) ?_
  refine lv_if_lt (tgt := 30) hx hb dX0_find_1 (by decide) (fun c9 => absurd c9 (nI_pos (by omega))) (fun c_1 => ?_)
  refine lv_iload_n hx hb dX0_find_4 rfl (lv_at hl 1 rfl) ?_
  refine lv_aload_n hx hb dX0_find_5 rfl (lv_at hl 0 rfl) ?_
  refine gB (k := b) S g hB 6 (by decide) q70 dX0_find_6 ?_
  rw [show (F b 6 : Int32) = nI n from hn]
  refine lv_icmp_ge (tgt := 30) hx hb dX0_find_9 (by decide) (fun c9 => absurd c9 (nI_ge hj (by omega))) (fun c_9 => ?_)
  refine lv_iload_n hx hb dX0_find_12 rfl (lv_at hl 1 rfl) ?_
  refine lv_aload_n hx hb dX0_find_13 rfl (lv_at hl 0 rfl) ?_
  refine gBr (k := b) S g hB 7 rfl q72 dX0_find_14 ?_
  refine gRowLen S g (b := b) hB dX0_find_17 ?_
  refine lv_icmp_ge (tgt := 30) hx hb dX0_find_18 (by decide) (fun c9 => absurd c9 (nI_ge (a := j) (b := 8) (by omega) (by omega))) (fun c_18 => ?_)
  refine lv_aload_n hx hb dX0_find_21 rfl (lv_at hl 0 rfl) ?_
  refine gBr (k := b) S g hB 7 rfl q72 dX0_find_22 ?_
  refine lv_iload_n hx hb dX0_find_25 rfl (lv_at hl 1 rfl) ?_
  refine gRow S g (b := b) hB (j) rfl (by omega) dX0_find_26 ?_
  refine lv_goto (tgt := 31) hx hb dX0_find_27 (by decide) ?_
  exact e_n S hr hk0 g rfl rfl dX0_find_31
set_option maxHeartbeats 4000000 in
set_option maxRecDepth 100000 in
theorem c_find_no (l : Launch) (G : gT) (F : Fs) (o : Int64) (b : Nat) (x : Int32) (n : Nat) (hB : b = 1 ∨ b = 2) (hn : F b 6 = nI n) (hxx : x < 0 ∨ nI n ≤ x) : MN l yX0_find cX0_find 2 (some (.object "ShadowPool$Walker")) 0 0 [.ref (gA G b), .int x] G (F) o (F) (none) := by
  refine mk_G (own := "ShadowPool$Book") (Qs := (fun sz => QN G (F) o (none) sz)) (by decide +kernel) rfl (Nat.le_of_ble_eq_true rfl) ?_
  intro p e s m args below meth c ls hr hk0 hnm S g hl
  have hl : lv_has ls 2 [(0, .ref (gA G b)), (1, .int x)] := hl
  have hx := S.1
  have hb := S.2.1
  refine lv_iload_n hx hb dX0_find_0 rfl (lv_at hl 1 rfl) ?_
  refine lv_if_lt (tgt := 30) hx hb dX0_find_1 (by decide) (fun c_1 => ?_) (fun c_1 => ?_)
  · refine lv_null hx hb dX0_find_30 ?_
    exact e_n S hr hk0 g rfl rfl dX0_find_31
  · refine lv_iload_n hx hb dX0_find_4 rfl (lv_at hl 1 rfl) ?_
    refine lv_aload_n hx hb dX0_find_5 rfl (lv_at hl 0 rfl) ?_
    refine gB (k := b) S g hB 6 (by decide) q70 dX0_find_6 ?_
    rw [show (F b 6 : Int32) = nI n from hn]
    refine lv_icmp_ge (tgt := 30) hx hb dX0_find_9 (by decide) (fun c_9 => ?_) (fun c9 => absurd (hxx.resolve_left c_1) c9)
    refine lv_null hx hb dX0_find_30 ?_
    exact e_n S hr hk0 g rfl rfl dX0_find_31
set_option maxHeartbeats 4000000 in
set_option maxRecDepth 100000 in
theorem c_enter_ok (l : Launch) (G : gT) (F : Fs) (o : Int64) (b : Nat) (n : Nat) (h : Int32) (sk : Int32) (nt : Int32) (hB : b = 1 ∨ b = 2) (hn : F b 6 = nI n) (hn8 : n < 8) : MI l yX0_enter cX0_enter 5 (some .int) 1 23 [.ref (gA G b), .int h, .int sk, .int nt] G (F) o (entF F b n h sk nt) (nI n) := by
  refine mk_G (own := "ShadowPool$Book") (Qs := (fun sz => QI G (entF F b n h sk nt) o (nI n) sz)) (by decide +kernel) rfl (Nat.le_of_ble_eq_true rfl) ?_
  intro p e s m args below meth c ls hr hk0 hnm S g hl
  have hl : lv_has ls 5 [(0, .ref (gA G b)), (1, .int h), (2, .int sk), (3, .int nt)] := hl
  have hx := S.1
  have hb := S.2.1
  refine lv_aload_n hx hb dX0_enter_0 rfl (lv_at hl 0 rfl) ?_
  refine gB (k := b) S g hB 6 (by decide) q70 dX0_enter_1 ?_
  rw [show (F b 6 : Int32) = nI n from hn]
  refine lv_istore (lv' := [(4, .int (nI n)), (0, .ref (gA G b)), (1, .int h), (2, .int sk), (3, .int nt)]) hx hb dX0_enter_4 hl (by decide) rfl (fun ls hl => ?_)
  refine lv_iload hx hb dX0_enter_6 (lv_at hl 0 rfl) ?_
  refine lv_if_lt (tgt := 31) hx hb dX0_enter_8 (by decide) (fun c9 => absurd c9 (nI_pos (by omega))) (fun c_8 => ?_)
  refine lv_iload hx hb dX0_enter_11 (lv_at hl 0 rfl) ?_
  refine lv_aload_n hx hb dX0_enter_13 rfl (lv_at hl 1 rfl) ?_
  refine gBr (k := b) S g hB 7 rfl q72 dX0_enter_14 ?_
  refine gRowLen S g (b := b) hB dX0_enter_17 ?_
  refine lv_icmp_ge (tgt := 31) hx hb dX0_enter_18 (by decide) (fun c9 => absurd c9 (nI_ge (a := n) (b := 8) (by omega) (by omega))) (fun c_18 => ?_)
  refine lv_aload_n hx hb dX0_enter_21 rfl (lv_at hl 1 rfl) ?_
  refine gBr (k := b) S g hB 7 rfl q72 dX0_enter_22 ?_
  refine lv_iload hx hb dX0_enter_25 (lv_at hl 0 rfl) ?_
  refine gRow S g (b := b) hB (n) rfl (by omega) dX0_enter_27 ?_
  refine lv_ifnonnull (tgt := 33) hx hb dX0_enter_28 (by decide) ?_
  refine lv_aload_n hx hb dX0_enter_33 rfl (lv_at hl 1 rfl) ?_
  refine gBr (k := b) S g hB 7 rfl q72 dX0_enter_34 ?_
  refine lv_iload hx hb dX0_enter_37 (lv_at hl 0 rfl) ?_
  refine gRow S g (b := b) hB (n) rfl (by omega) dX0_enter_39 ?_
  refine lv_iload_n hx hb dX0_enter_40 rfl (lv_at hl 2 rfl) ?_
  refine lv_iload_n hx hb dX0_enter_41 rfl (lv_at hl 3 rfl) ?_
  refine lv_iload_n hx hb dX0_enter_42 rfl (lv_at hl 4 rfl) ?_
  refine g_cv (rest := []) g (g_VN (n := 3) (As := [.int h, .int sk, .int nt]) S g (c_begin l G (F) o (wb b n) h sk nt (wb_lo hB n) (wb_hi hB hn8)) (Nat.lt_of_lt_of_le (wb_hi hB (by omega)) (by decide)) (cEw G _ o (wb_lo hB _) (wb_hi hB (by omega))) rfl qn553 q555 qs20 q3 q556 ⟨by decide +kernel, by decide +kernel, by decide +kernel⟩ rfl ⟨Nat.le_of_ble_eq_true rfl, Nat.le_of_ble_eq_true rfl⟩ hl.1 (Nat.le_of_ble_eq_true rfl) rfl ⟨Nat.zero_le _, Nat.zero_le _⟩ dX0_enter_43) (fun H locs g => ?_)
  refine lv_aload_n hx hb dX0_enter_46 rfl (lv_at hl 1 rfl) ?_
  refine lv_dup hx hb dX0_enter_47 rfl ?_
  refine gB (k := b) S g hB 6 (by decide) q70 dX0_enter_48 ?_
  refine lv_iconst (v := 1) hx hb dX0_enter_51 (by decide) ?_
  refine lv_iadd hx hb dX0_enter_52 ?_
  refine gBp (k := b) S g hB 6 (by decide) q70 dX0_enter_53 (fun H locs g => ?_)
  refine lv_iload hx hb dX0_enter_56 (lv_at hl 0 rfl) ?_
  exact e_i S hr hk0 g rfl rfl dX0_enter_58
set_option maxHeartbeats 4000000 in
set_option maxRecDepth 100000 in
theorem c_enter_no (l : Launch) (G : gT) (F : Fs) (o : Int64) (b : Nat) (h : Int32) (sk : Int32) (nt : Int32) (hB : b = 1 ∨ b = 2) (hn : F b 6 = nI 8) : MI l yX0_enter cX0_enter 5 (some .int) 0 0 [.ref (gA G b), .int h, .int sk, .int nt] G (F) o (F) (-1) := by
  refine mk_G (own := "ShadowPool$Book") (Qs := (fun sz => QI G (F) o (-1) sz)) (by decide +kernel) rfl (Nat.le_of_ble_eq_true rfl) ?_
  intro p e s m args below meth c ls hr hk0 hnm S g hl
  have hl : lv_has ls 5 [(0, .ref (gA G b)), (1, .int h), (2, .int sk), (3, .int nt)] := hl
  have hx := S.1
  have hb := S.2.1
  refine lv_aload_n hx hb dX0_enter_0 rfl (lv_at hl 0 rfl) ?_
  refine gB (k := b) S g hB 6 (by decide) q70 dX0_enter_1 ?_
  rw [show (F b 6 : Int32) = nI 8 from hn]
  refine lv_istore (lv' := [(4, .int (nI 8)), (0, .ref (gA G b)), (1, .int h), (2, .int sk), (3, .int nt)]) hx hb dX0_enter_4 hl (by decide) rfl (fun ls hl => ?_)
  refine lv_iload hx hb dX0_enter_6 (lv_at hl 0 rfl) ?_
  refine lv_if_lt (tgt := 31) hx hb dX0_enter_8 (by decide) (fun c9 => absurd c9 (nI_pos (by omega))) (fun c_8 => ?_)
  refine lv_iload hx hb dX0_enter_11 (lv_at hl 0 rfl) ?_
  refine lv_aload_n hx hb dX0_enter_13 rfl (lv_at hl 1 rfl) ?_
  refine gBr (k := b) S g hB 7 rfl q72 dX0_enter_14 ?_
  refine gRowLen S g (b := b) hB dX0_enter_17 ?_
  refine lv_icmp_ge (tgt := 31) hx hb dX0_enter_18 (by decide) (fun c_18 => ?_) (fun c9 => absurd (by decide) c9)
  refine lv_iconst (v := (-1)) hx hb dX0_enter_31 (by decide) ?_
  exact e_i S hr hk0 g rfl rfl dX0_enter_32
set_option maxHeartbeats 4000000 in
set_option maxRecDepth 100000 in
theorem c_copyFrom (l : Launch) (G : gT) (F : Fs) (o : Int64) (n : Nat) (hn : F 1 6 = nI n) (hn8 : n ≤ 8) (hm : ∀ j, j < 8 → F (wb 1 j) 5 = 0 ∨ F (wb 1 j) 5 = 1) : MV l yX0_copyFrom cX0_copyFrom 5 1 21 [.ref (gA G 2), .ref (gA G 1)] G (F) o (cpyF F n) := by
  refine mk_G (own := "ShadowPool$Book") (Qs := (fun sz => QV G (cpyF F n) o sz)) (by decide +kernel) rfl (Nat.le_of_ble_eq_true rfl) ?_
  intro p e s m args below meth c ls hr hk0 hnm S g hl
  have hl : lv_has ls 5 [(0, .ref (gA G 2)), (1, .ref (gA G 1))] := hl
  have hx := S.1
  have hb := S.2.1
  refine lv_aload_n hx hb dX0_copyFrom_0 rfl (lv_at hl 0 rfl) ?_
  refine lv_aload_n hx hb dX0_copyFrom_1 rfl (lv_at hl 1 rfl) ?_
  refine gB (k := 1) S g (Or.inl rfl) 0 (by decide) q58 dX0_copyFrom_2 ?_
  refine gBp (k := 2) S g (Or.inr rfl) 0 (by decide) q58 dX0_copyFrom_5 (fun H locs g => ?_)
  rw [show up2 (F) (2) 0 (F 1 0) = hdr1 F from rfl] at g
  refine lv_aload_n hx hb dX0_copyFrom_8 rfl (lv_at hl 0 rfl) ?_
  refine lv_aload_n hx hb dX0_copyFrom_9 rfl (lv_at hl 1 rfl) ?_
  refine gB (k := 1) S g (Or.inl rfl) 1 (by decide) q60 dX0_copyFrom_10 ?_
  refine gBp (k := 2) S g (Or.inr rfl) 1 (by decide) q60 dX0_copyFrom_13 (fun H locs g => ?_)
  rw [show up2 (hdr1 F) (2) 1 ((hdr1 F) 1 1) = hdr2 F from rfl] at g
  refine lv_aload_n hx hb dX0_copyFrom_16 rfl (lv_at hl 0 rfl) ?_
  refine lv_aload_n hx hb dX0_copyFrom_17 rfl (lv_at hl 1 rfl) ?_
  refine gB (k := 1) S g (Or.inl rfl) 2 (by decide) q62 dX0_copyFrom_18 ?_
  refine gBp (k := 2) S g (Or.inr rfl) 2 (by decide) q62 dX0_copyFrom_21 (fun H locs g => ?_)
  rw [show up2 (hdr2 F) (2) 2 ((hdr2 F) 1 2) = hdr3 F from rfl] at g
  refine lv_aload_n hx hb dX0_copyFrom_24 rfl (lv_at hl 0 rfl) ?_
  refine lv_aload_n hx hb dX0_copyFrom_25 rfl (lv_at hl 1 rfl) ?_
  refine gB (k := 1) S g (Or.inl rfl) 3 (by decide) q64 dX0_copyFrom_26 ?_
  refine gBp (k := 2) S g (Or.inr rfl) 3 (by decide) q64 dX0_copyFrom_29 (fun H locs g => ?_)
  rw [show up2 (hdr3 F) (2) 3 ((hdr3 F) 1 3) = hdr4 F from rfl] at g
  refine lv_aload_n hx hb dX0_copyFrom_32 rfl (lv_at hl 0 rfl) ?_
  refine lv_aload_n hx hb dX0_copyFrom_33 rfl (lv_at hl 1 rfl) ?_
  refine gB (k := 1) S g (Or.inl rfl) 4 (by decide) q66 dX0_copyFrom_34 ?_
  refine gBp (k := 2) S g (Or.inr rfl) 4 (by decide) q66 dX0_copyFrom_37 (fun H locs g => ?_)
  rw [show up2 (hdr4 F) (2) 4 ((hdr4 F) 1 4) = hdr5 F from rfl] at g
  refine lv_aload_n hx hb dX0_copyFrom_40 rfl (lv_at hl 0 rfl) ?_
  refine lv_aload_n hx hb dX0_copyFrom_41 rfl (lv_at hl 1 rfl) ?_
  refine gB (k := 1) S g (Or.inl rfl) 5 (by decide) q68 dX0_copyFrom_42 ?_
  refine gBp (k := 2) S g (Or.inr rfl) 5 (by decide) q68 dX0_copyFrom_45 (fun H locs g => ?_)
  rw [show up2 (hdr5 F) (2) 5 ((hdr5 F) 1 5) = hdr6 F from rfl] at g
  refine lv_aload_n hx hb dX0_copyFrom_48 rfl (lv_at hl 0 rfl) ?_
  refine lv_aload_n hx hb dX0_copyFrom_49 rfl (lv_at hl 1 rfl) ?_
  refine gB (k := 1) S g (Or.inl rfl) 6 (by decide) q70 dX0_copyFrom_50 ?_
  refine gBp (k := 2) S g (Or.inr rfl) 6 (by decide) q70 dX0_copyFrom_53 (fun H locs g => ?_)
  rw [show up2 (hdr6 F) (2) 6 ((hdr6 F) 1 6) = hdrF F from rfl] at g
  refine lv_iconst (v := 0) hx hb dX0_copyFrom_56 (by decide) ?_
  refine lv_istore_n (lv' := [(2, .int 0), (0, .ref (gA G 2)), (1, .ref (gA G 1))]) hx hb dX0_copyFrom_57 rfl hl (by decide) rfl (fun ls hl => ?_)
  have loop58 : ∀ (n_ : Nat) (i : Nat) (F1 : Fs) (H : Heap) (locs : List Loc) (ls : Array Slot) (hi : i + n_ = n) (hc1 : F1 1 6 = nI n) (hc2 : F1 2 6 = nI n) (hm1 : ∀ j, j < 8 → F1 (wb 1 j) 5 = 0 ∨ F1 (wb 1 j) 5 = 1) (hres : cpyL n_ i F1 = cpyF F n), GB G (F1) o [] [] s H locs → lv_has ls 5 [(0, .ref (gA G 2)), (1, .ref (gA G 1)), (2, .int (nI i))] → W p l e (rmG 1 21) s m args below meth c H locs 0 0 (MQ below (QV G (cpyF F n) o s.heap.size) args s 0 0 (GA G s.heap.size)) (F0 m 58 ls []) := by
    intro n_
    induction n_ with
    | zero =>
      intro i F1 H locs ls hi hc1 hc2 hm1 hres g hl
      refine lv_iload_n hx hb dX0_copyFrom_58 rfl (lv_at hl 2 rfl) ?_
      refine lv_aload_n hx hb dX0_copyFrom_59 rfl (lv_at hl 0 rfl) ?_
      refine gB (k := 2) S g (Or.inr rfl) 6 (by decide) q70 dX0_copyFrom_60 ?_
      rw [show (F1 2 6 : Int32) = nI n from hc2]
      refine lv_icmp_ge (tgt := 100) hx hb dX0_copyFrom_63 (by decide) (fun c_63 => ?_) (fun c9 => absurd (nI_le (by omega) (by omega)) c9)
      exact e_v S hr hk0 g hres dX0_copyFrom_100
    | succ n_ ih_58 =>
      intro i F1 H locs ls hi hc1 hc2 hm1 hres g hl
      refine lv_iload_n hx hb dX0_copyFrom_58 rfl (lv_at hl 2 rfl) ?_
      refine lv_aload_n hx hb dX0_copyFrom_59 rfl (lv_at hl 0 rfl) ?_
      refine gB (k := 2) S g (Or.inr rfl) 6 (by decide) q70 dX0_copyFrom_60 ?_
      rw [show (F1 2 6 : Int32) = nI n from hc2]
      refine lv_icmp_ge (tgt := 100) hx hb dX0_copyFrom_63 (by decide) (fun c9 => absurd c9 (nI_ge (by omega) (by omega))) (fun c_63 => ?_)
      refine lv_aload_n hx hb dX0_copyFrom_66 rfl (lv_at hl 0 rfl) ?_
      refine lv_iload_n hx hb dX0_copyFrom_67 rfl (lv_at hl 2 rfl) ?_
      refine g_cn (rest := []) g rfl (g_V (n := 1) (As := [.int (nI i)]) S g (c_find_ok l G (F1) o 2 i n (Or.inr rfl) hc2 (by omega) hn8) (by decide) (cEb G _ o (Or.inr rfl)) rfl (lw_V q194 q196 qs5 q2 q197) ⟨rfl, by decide +kernel, by decide +kernel, by decide +kernel⟩ rfl ⟨Nat.le_of_ble_eq_true rfl, Nat.le_of_ble_eq_true rfl⟩ hl.1 (Nat.le_of_ble_eq_true rfl) rfl ⟨Nat.zero_le _, Nat.zero_le _⟩ dX0_copyFrom_68) (fun H locs g => ?_)
      refine lv_astore_n (lv' := [(3, .ref (gA G (wb 2 i))), (0, .ref (gA G 2)), (1, .ref (gA G 1)), (2, .int (nI i))]) hx hb dX0_copyFrom_71 rfl hl (by decide) rfl (fun ls hl => ?_)
      refine lv_aload_n hx hb dX0_copyFrom_72 rfl (lv_at hl 2 rfl) ?_
      refine lv_iload_n hx hb dX0_copyFrom_73 rfl (lv_at hl 3 rfl) ?_
      refine g_cn (rest := []) g rfl (g_V (n := 1) (As := [.int (nI i)]) S g (c_find_ok l G (F1) o 1 i n (Or.inl rfl) hc1 (by omega) hn8) (by decide) (cEb G _ o (Or.inl rfl)) rfl (lw_V q194 q196 qs5 q2 q197) ⟨rfl, by decide +kernel, by decide +kernel, by decide +kernel⟩ rfl ⟨Nat.le_of_ble_eq_true rfl, Nat.le_of_ble_eq_true rfl⟩ hl.1 (Nat.le_of_ble_eq_true rfl) rfl ⟨Nat.zero_le _, Nat.zero_le _⟩ dX0_copyFrom_74) (fun H locs g => ?_)
      refine lv_astore (lv' := [(4, .ref (gA G (wb 1 i))), (3, .ref (gA G (wb 2 i))), (0, .ref (gA G 2)), (1, .ref (gA G 1)), (2, .int (nI i))]) hx hb dX0_copyFrom_77 hl (by decide) rfl (fun ls hl => ?_)
      refine lv_aload_n hx hb dX0_copyFrom_79 rfl (lv_at hl 1 rfl) ?_
      refine lv_ifnull hx hb dX0_copyFrom_80 ?_
      refine lv_aload hx hb dX0_copyFrom_83 (lv_at hl 0 rfl) ?_
      refine lv_ifnull hx hb dX0_copyFrom_85 ?_
      refine lv_aload_n hx hb dX0_copyFrom_88 rfl (lv_at hl 1 rfl) ?_
      refine lv_aload hx hb dX0_copyFrom_89 (lv_at hl 0 rfl) ?_
      refine g_cv (rest := []) g (g_VN (n := 1) (As := [.ref (gA G (wb 1 i))]) S g (c_copyWalker l G (F1) o (wb 2 i) (wb 1 i) (wb_lo (Or.inr rfl) _) (wb_hi (Or.inr rfl) (by omega)) (wb_lo (Or.inl rfl) _) (wb_hi (Or.inl rfl) (by omega)) (hm1 i (by omega))) (Nat.lt_of_lt_of_le (wb_hi (Or.inr rfl) (by omega)) (by decide)) (cEw G _ o (wb_lo (Or.inr rfl) _) (wb_hi (Or.inr rfl) (by omega))) rfl qn382 q384 qs17 q3 q385 ⟨by decide +kernel, by decide +kernel, by decide +kernel⟩ rfl ⟨Nat.le_of_ble_eq_true rfl, Nat.le_of_ble_eq_true rfl⟩ hl.1 (Nat.le_of_ble_eq_true rfl) rfl ⟨Nat.zero_le _, Nat.zero_le _⟩ dX0_copyFrom_91) (fun H locs g => ?_)
      refine lv_iinc (v := nI (i + 1)) (lv' := [(2, .int (nI (i + 1))), (4, .ref (gA G (wb 1 i))), (3, .ref (gA G (wb 2 i))), (0, .ref (gA G 2)), (1, .ref (gA G 1))]) hx hb dX0_copyFrom_94 hl (k := 4) rfl (nI_1 i) (by decide) rfl (fun ls hl => ?_)
      refine lv_goto (tgt := 58) hx hb dX0_copyFrom_97 (by decide) ?_
      exact ih_58 (i + 1) _ _ _ _ (by omega) (by rw [cpwF_ne _ _ _ (wb_ne (Or.inr rfl) (by decide))]; exact hc1) (by rw [cpwF_ne _ _ _ (wb_ne (Or.inr rfl) (by decide))]; exact hc2) (fun j hj => by rw [cpwF_ne _ _ _ (wb_ne2 hj)]; exact hm1 j hj) hres g (lv_sub hl [3, 4, 0] rfl)
  exact loop58 n 0 (hdrF F) _ _ _ (by omega) (by rw [hdrF_ne F (by decide)]; exact hn) (by rw [hdrF_eq F (by decide)]; exact hn) (fun j hj => by rw [hdrF_ne F (Ne.symm (wb_ne (Or.inl rfl) (by decide)))]; exact hm j hj) rfl g (lv_sub hl [1, 2, 0] rfl)
set_option maxHeartbeats 4000000 in
set_option maxRecDepth 100000 in
theorem c_countMembers (l : Launch) (G : gT) (F : Fs) (o : Int64) (b : Nat) (n : Nat) (hB : b = 1 ∨ b = 2) (hn : F b 6 = nI n) (hn8 : n ≤ 8) : MI l yX0_countMembers cX0_countMembers 4 (some .int) 1 21 [.ref (gA G b)] G (F) o (F) (cmL F b n 0 0) := by
  refine mk_G (own := "ShadowPool$Book") (Qs := (fun sz => QI G (F) o (cmL F b n 0 0) sz)) (by decide +kernel) rfl (Nat.le_of_ble_eq_true rfl) ?_
  intro p e s m args below meth c ls hr hk0 hnm S g hl
  have hl : lv_has ls 4 [(0, .ref (gA G b))] := hl
  have hx := S.1
  have hb := S.2.1
  refine lv_iconst (v := 0) hx hb dX0_countMembers_0 (by decide) ?_
  refine lv_istore_n (lv' := [(1, .int 0), (0, .ref (gA G b))]) hx hb dX0_countMembers_1 rfl hl (by decide) rfl (fun ls hl => ?_)
  refine lv_iconst (v := 0) hx hb dX0_countMembers_2 (by decide) ?_
  refine lv_istore_n (lv' := [(2, .int 0), (1, .int 0), (0, .ref (gA G b))]) hx hb dX0_countMembers_3 rfl hl (by decide) rfl (fun ls hl => ?_)
  have loop4 : ∀ (n_ : Nat) (i : Nat) (acc : Int32) (H : Heap) (locs : List Loc) (ls : Array Slot) (hi : i + n_ = n) (hres : cmL F b n_ i acc = cmL F b n 0 0), GB G (F) o [] [] s H locs → lv_has ls 4 [(0, .ref (gA G b)), (1, .int acc), (2, .int (nI i))] → W p l e (rmG 1 21) s m args below meth c H locs 0 0 (MQ below (QI G (F) o (cmL F b n 0 0) s.heap.size) args s 0 0 (GA G s.heap.size)) (F0 m 4 ls []) := by
    intro n_
    induction n_ with
    | zero =>
      intro i acc H locs ls hi hres g hl
      refine lv_iload_n hx hb dX0_countMembers_4 rfl (lv_at hl 2 rfl) ?_
      refine lv_aload_n hx hb dX0_countMembers_5 rfl (lv_at hl 0 rfl) ?_
      refine gB (k := b) S g hB 6 (by decide) q70 dX0_countMembers_6 ?_
      rw [show (F b 6 : Int32) = nI n from hn]
      refine lv_icmp_ge (tgt := 43) hx hb dX0_countMembers_9 (by decide) (fun c_9 => ?_) (fun c9 => absurd (nI_le (by omega) (by omega)) c9)
      refine lv_iload_n hx hb dX0_countMembers_43 rfl (lv_at hl 1 rfl) ?_
      exact e_i S hr hk0 g hres rfl dX0_countMembers_44
    | succ n_ ih_4 =>
      intro i acc H locs ls hi hres g hl
      refine lv_iload_n hx hb dX0_countMembers_4 rfl (lv_at hl 2 rfl) ?_
      refine lv_aload_n hx hb dX0_countMembers_5 rfl (lv_at hl 0 rfl) ?_
      refine gB (k := b) S g hB 6 (by decide) q70 dX0_countMembers_6 ?_
      rw [show (F b 6 : Int32) = nI n from hn]
      refine lv_icmp_ge (tgt := 43) hx hb dX0_countMembers_9 (by decide) (fun c9 => absurd c9 (nI_ge (by omega) (by omega))) (fun c_9 => ?_)
      refine lv_aload_n hx hb dX0_countMembers_12 rfl (lv_at hl 0 rfl) ?_
      refine lv_iload_n hx hb dX0_countMembers_13 rfl (lv_at hl 2 rfl) ?_
      refine g_cn (rest := []) g rfl (g_V (n := 1) (As := [.int (nI i)]) S g (c_find_ok l G (F) o b i n hB hn (by omega) hn8) (by rcases hB with h9 | h9 <;> omega) (cEb G _ o hB) rfl (lw_V q194 q196 qs5 q2 q197) ⟨rfl, by decide +kernel, by decide +kernel, by decide +kernel⟩ rfl ⟨Nat.le_of_ble_eq_true rfl, Nat.le_of_ble_eq_true rfl⟩ hl.1 (Nat.le_of_ble_eq_true rfl) rfl ⟨Nat.zero_le _, Nat.zero_le _⟩ dX0_countMembers_14) (fun H locs g => ?_)
      refine lv_astore_n (lv' := [(3, .ref (gA G (wb b i))), (0, .ref (gA G b)), (1, .int acc), (2, .int (nI i))]) hx hb dX0_countMembers_17 rfl hl (by decide) rfl (fun ls hl => ?_)
      refine lv_iload_n hx hb dX0_countMembers_18 rfl (lv_at hl 2 rfl) ?_
      refine lv_aload_n hx hb dX0_countMembers_19 rfl (lv_at hl 0 rfl) ?_
      refine lv_ifnull hx hb dX0_countMembers_20 ?_
      refine lv_aload_n hx hb dX0_countMembers_23 rfl (lv_at hl 0 rfl) ?_
      refine gWN (k := wb b i) S g (wb_lo hB _) (wb_hi hB (by omega)) 5 (by decide) qn44 dX0_countMembers_24 ?_
      refine lv_if_eq (tgt := 34) hx hb dX0_countMembers_27 (by decide) (fun c_27 => ?_) (fun c_27 => ?_)
      · refine lv_iconst (v := 0) hx hb dX0_countMembers_34 (by decide) ?_
        refine lv_iadd hx hb dX0_countMembers_35 ?_
        refine lv_istore_n (lv' := [(1, .int ((acc) + (0))), (3, .ref (gA G (wb b i))), (0, .ref (gA G b)), (2, .int (nI i))]) hx hb dX0_countMembers_36 rfl hl (by decide) rfl (fun ls hl => ?_)
        refine lv_iinc (v := nI (i + 1)) (lv' := [(2, .int (nI (i + 1))), (1, .int ((acc) + (0))), (3, .ref (gA G (wb b i))), (0, .ref (gA G b))]) hx hb dX0_countMembers_37 hl (k := 3) rfl (nI_1 i) (by decide) rfl (fun ls hl => ?_)
        refine lv_goto (tgt := 4) hx hb dX0_countMembers_40 (by decide) ?_
        exact ih_4 (i + 1) _ _ _ _ (by omega) (by simpa only [cmL, c_9, c_27, ↓reduceIte] using hres) g (lv_sub hl [3, 1, 0] rfl)
      · refine lv_iconst (v := 1) hx hb dX0_countMembers_30 (by decide) ?_
        refine lv_goto (tgt := 35) hx hb dX0_countMembers_31 (by decide) ?_
        refine lv_iadd hx hb dX0_countMembers_35 ?_
        refine lv_istore_n (lv' := [(1, .int ((acc) + (1))), (3, .ref (gA G (wb b i))), (0, .ref (gA G b)), (2, .int (nI i))]) hx hb dX0_countMembers_36 rfl hl (by decide) rfl (fun ls hl => ?_)
        refine lv_iinc (v := nI (i + 1)) (lv' := [(2, .int (nI (i + 1))), (1, .int ((acc) + (1))), (3, .ref (gA G (wb b i))), (0, .ref (gA G b))]) hx hb dX0_countMembers_37 hl (k := 3) rfl (nI_1 i) (by decide) rfl (fun ls hl => ?_)
        refine lv_goto (tgt := 4) hx hb dX0_countMembers_40 (by decide) ?_
        exact ih_4 (i + 1) _ _ _ _ (by omega) (by simpa only [cmL, c_9, c_27, ↓reduceIte] using hres) g (lv_sub hl [3, 1, 0] rfl)
  exact loop4 n 0 0 _ _ _ (by omega) rfl g (lv_sub hl [2, 1, 0] rfl)
set_option maxHeartbeats 4000000 in
set_option maxRecDepth 100000 in
theorem c_reinsuredPart (l : Launch) (G : gT) (F : Fs) (o : Int64) (b : Nat) (claim : Int32) (hB : b = 1 ∨ b = 2) : MI l yX0_reinsuredPart cX0_reinsuredPart 2 (some .int) 1 21 [.ref (gA G b), .int claim] G (F) o (F) (reI claim (F b 3) (F b 4)) := by
  refine mk_G (own := "ShadowPool$Book") (Qs := (fun sz => QI G (F) o (reI claim (F b 3) (F b 4)) sz)) (by decide +kernel) rfl (Nat.le_of_ble_eq_true rfl) ?_
  intro p e s m args below meth c ls hr hk0 hnm S g hl
  have hl : lv_has ls 2 [(0, .ref (gA G b)), (1, .int claim)] := hl
  have hx := S.1
  have hb := S.2.1
  refine lv_iconst (v := 0) hx hb dX0_reinsuredPart_0 (by decide) ?_
  refine lv_iload_n hx hb dX0_reinsuredPart_1 rfl (lv_at hl 1 rfl) ?_
  refine lv_aload_n hx hb dX0_reinsuredPart_2 rfl (lv_at hl 0 rfl) ?_
  refine gB (k := b) S g hB 3 (by decide) q64 dX0_reinsuredPart_3 ?_
  refine lv_isub hx hb dX0_reinsuredPart_6 ?_
  refine g_max S hl.1 q234 qMaxS q11 qMax (Nat.le_of_ble_eq_true rfl) (Nat.le_of_ble_eq_true rfl) (Nat.zero_le _) (Nat.zero_le _) dX0_reinsuredPart_7 ?_
  refine lv_aload_n hx hb dX0_reinsuredPart_10 rfl (lv_at hl 0 rfl) ?_
  refine gB (k := b) S g hB 4 (by decide) q66 dX0_reinsuredPart_11 ?_
  refine g_min S hl.1 q235 qMinS q11 qMin (Nat.le_of_ble_eq_true rfl) (Nat.le_of_ble_eq_true rfl) (Nat.zero_le _) (Nat.zero_le _) dX0_reinsuredPart_14 ?_
  exact e_i S hr hk0 g rfl rfl dX0_reinsuredPart_17
set_option maxHeartbeats 4000000 in
set_option maxRecDepth 100000 in
theorem c_payDues (l : Launch) (G : gT) (F : Fs) (o : Int64) (b : Nat) (n : Nat) (hB : b = 1 ∨ b = 2) (hn : F b 6 = nI n) (hn8 : n ≤ 8) : MV l yX0_payDues cX0_payDues 2 2 44 [.ref (gA G b)] G (F) o (payF F b n) := by
  refine mk_G (own := "ShadowPool$Book") (Qs := (fun sz => QV G (payF F b n) o sz)) (by decide +kernel) rfl (Nat.le_of_ble_eq_true rfl) ?_
  intro p e s m args below meth c ls hr hk0 hnm S g hl
  have hl : lv_has ls 2 [(0, .ref (gA G b))] := hl
  have hx := S.1
  have hb := S.2.1
  refine lv_aload_n hx hb dX0_payDues_0 rfl (lv_at hl 0 rfl) ?_
  refine lv_dup hx hb dX0_payDues_1 rfl ?_
  refine gB (k := b) S g hB 1 (by decide) q60 dX0_payDues_2 ?_
  refine lv_aload_n hx hb dX0_payDues_5 rfl (lv_at hl 0 rfl) ?_
  refine gB (k := b) S g hB 2 (by decide) q62 dX0_payDues_6 ?_
  refine lv_aload_n hx hb dX0_payDues_9 rfl (lv_at hl 0 rfl) ?_
  refine g_ci (rest := [.int (F b 2), .int (F b 1), .ref (gA G b)]) g (g_V (n := 0) (As := []) S g (c_countMembers l G (F) o b n hB hn hn8) (by rcases hB with h9 | h9 <;> omega) (cEb G _ o hB) rfl (lw_V q190 q192 qs4 q2 q193) ⟨rfl, by decide +kernel, by decide +kernel, by decide +kernel⟩ rfl ⟨Nat.le_of_ble_eq_true rfl, Nat.le_of_ble_eq_true rfl⟩ hl.1 (Nat.le_of_ble_eq_true rfl) rfl ⟨Nat.zero_le _, Nat.zero_le _⟩ dX0_payDues_10) (fun H locs g => ?_)
  refine lv_imul hx hb dX0_payDues_13 ?_
  refine lv_iadd hx hb dX0_payDues_14 ?_
  refine gBp (k := b) S g hB 1 (by decide) q60 dX0_payDues_15 (fun H locs g => ?_)
  rw [show up2 (F) (b) 1 ((F b 1) + ((F b 2) * (cmL F b n 0 0))) = pay1 F b n from rfl] at g
  refine lv_aload_n hx hb dX0_payDues_18 rfl (lv_at hl 0 rfl) ?_
  refine gB (k := b) S g hB 4 (by decide) q66 dX0_payDues_19 ?_
  refine lv_if_eq (tgt := 55) hx hb dX0_payDues_22 (by decide) (fun c_22 => ?_) (fun c_22 => ?_)
  · exact e_v S hr hk0 g (by first | rfl | (simp only [payF, c_22, ↓reduceIte]; done)) dX0_payDues_55
  · refine lv_aload_n hx hb dX0_payDues_25 rfl (lv_at hl 0 rfl) ?_
    refine gB (k := b) S g hB 4 (by decide) q66 dX0_payDues_26 ?_
    refine lv_bipush (v := 20) hx hb dX0_payDues_29 (by decide) ?_
    refine lv_idiv hx hb dX0_payDues_31 (by decide) ?_
    refine lv_iconst (v := 1) hx hb dX0_payDues_32 (by decide) ?_
    refine lv_iadd hx hb dX0_payDues_33 ?_
    refine lv_istore_n (lv' := [(1, .int ((((pay1 F b n) b 4) / (20)) + (1))), (0, .ref (gA G b))]) hx hb dX0_payDues_34 rfl hl (by decide) rfl (fun ls hl => ?_)
    refine lv_aload_n hx hb dX0_payDues_35 rfl (lv_at hl 1 rfl) ?_
    refine lv_dup hx hb dX0_payDues_36 rfl ?_
    refine gB (k := b) S g hB 1 (by decide) q60 dX0_payDues_37 ?_
    refine lv_iload_n hx hb dX0_payDues_40 rfl (lv_at hl 0 rfl) ?_
    refine lv_isub hx hb dX0_payDues_41 ?_
    refine gBp (k := b) S g hB 1 (by decide) q60 dX0_payDues_42 (fun H locs g => ?_)
    rw [show up2 (pay1 F b n) (b) 1 (((pay1 F b n) b 1) - ((((pay1 F b n) b 4) / (20)) + (1))) = pay2 F b n from rfl] at g
    refine lv_aload_n hx hb dX0_payDues_45 rfl (lv_at hl 1 rfl) ?_
    refine lv_dup hx hb dX0_payDues_46 rfl ?_
    refine gB (k := b) S g hB 5 (by decide) q68 dX0_payDues_47 ?_
    refine lv_iload_n hx hb dX0_payDues_50 rfl (lv_at hl 0 rfl) ?_
    refine lv_isub hx hb dX0_payDues_51 ?_
    refine gBp (k := b) S g hB 5 (by decide) q68 dX0_payDues_52 (fun H locs g => ?_)
    rw [show up2 (pay2 F b n) (b) 5 (((pay2 F b n) b 5) - ((((pay1 F b n) b 4) / (20)) + (1))) = pay3 F b n from rfl] at g
    exact e_v S hr hk0 g (by first | rfl | (simp only [payF, c_22, ↓reduceIte]; done)) dX0_payDues_55
set_option maxHeartbeats 4000000 in
set_option maxRecDepth 100000 in
theorem c_walk (l : Launch) (G : gT) (F : Fs) (o : Int64) (b : Nat) (k : Nat) (sun : Int32) (noon : Int32) (hB : b = 1 ∨ b = 2) (h1 : 5 ≤ k) (h2 : k < 21) (hs : 1 ≤ sun) : MI l yX0_walk cX0_walk 7 (some .boolean) 2 44 [.ref (gA G b), .ref (gA G k), .int sun, .int noon] G (F) o (wkF F b k sun noon) (wkR F k noon) := by
  refine mk_G (own := "ShadowPool$Book") (Qs := (fun sz => QI G (wkF F b k sun noon) o (wkR F k noon) sz)) (by decide +kernel) rfl (Nat.le_of_ble_eq_true rfl) ?_
  intro p e s m args below meth c ls hr hk0 hnm S g hl
  have hl : lv_has ls 7 [(0, .ref (gA G b)), (1, .ref (gA G k)), (2, .int sun), (3, .int noon)] := hl
  have hx := S.1
  have hb := S.2.1
  refine lv_aload_n hx hb dX0_walk_0 rfl (lv_at hl 1 rfl) ?_
  refine lv_aload_n hx hb dX0_walk_1 rfl (lv_at hl 1 rfl) ?_
  refine lv_aload_n hx hb dX0_walk_2 rfl (lv_at hl 1 rfl) ?_
  refine gWN (k := k) S g h1 h2 3 (by decide) qn39 dX0_walk_3 ?_
  refine lv_iload_n hx hb dX0_walk_6 rfl (lv_at hl 3 rfl) ?_
  refine g_ci (rest := [.ref (gA G k)]) g (g_VN (n := 2) (As := [.int (F k 3), .int noon]) S g (c_wobbleBehind l G (F) o k (F k 3) noon h1 h2) (Nat.lt_of_lt_of_le h2 (by decide)) (cEw G _ o h1 h2) rfl qn208 q210 qs7 q3 q211 ⟨by decide +kernel, by decide +kernel, by decide +kernel⟩ rfl ⟨Nat.le_of_ble_eq_true rfl, Nat.le_of_ble_eq_true rfl⟩ hl.1 (Nat.le_of_ble_eq_true rfl) rfl ⟨Nat.zero_le _, Nat.zero_le _⟩ dX0_walk_7) (fun H locs g => ?_)
  refine gWpN (k := k) S g h1 h2 3 (by decide) qn39 dX0_walk_10 (fun H locs g => ?_)
  rw [show up2 (F) (k) 3 (woI (F k 0) (F k 1) (F k 3) noon) = wk1 F k noon from rfl] at g
  refine lv_aload_n hx hb dX0_walk_13 rfl (lv_at hl 1 rfl) ?_
  refine gWN (k := k) S g h1 h2 3 (by decide) qn39 dX0_walk_14 ?_
  refine lv_bipush (v := 10) hx hb dX0_walk_17 (by decide) ?_
  refine lv_icmp_ge (tgt := 24) hx hb dX0_walk_19 (by decide) (fun c_19 => ?_) (fun c_19 => ?_)
  · refine lv_aload_n hx hb dX0_walk_24 rfl (lv_at hl 1 rfl) ?_
    refine lv_iload_n hx hb dX0_walk_25 rfl (lv_at hl 2 rfl) ?_
    refine g_ci (rest := []) g (g_VN (n := 1) (As := [.int sun]) S g (c_costUnder l G (wk1 F k noon) o k sun h1 h2 hs) (Nat.lt_of_lt_of_le h2 (by decide)) (cEw G _ o h1 h2) rfl qn215 q217 qs8 q3 q218 ⟨by decide +kernel, by decide +kernel, by decide +kernel⟩ rfl ⟨Nat.le_of_ble_eq_true rfl, Nat.le_of_ble_eq_true rfl⟩ hl.1 (Nat.le_of_ble_eq_true rfl) rfl ⟨Nat.zero_le _, Nat.zero_le _⟩ dX0_walk_26) (fun H locs g => ?_)
    rw [show (coI ((wk1 F k noon) k 0) ((wk1 F k noon) k 2) sun : Int32) = wkc F k sun noon from rfl]
    refine lv_istore (lv' := [(4, .int (wkc F k sun noon)), (0, .ref (gA G b)), (1, .ref (gA G k)), (2, .int sun), (3, .int noon)]) hx hb dX0_walk_29 hl (by decide) rfl (fun ls hl => ?_)
    refine lv_iload hx hb dX0_walk_31 (lv_at hl 0 rfl) ?_
    refine lv_aload_n hx hb dX0_walk_33 rfl (lv_at hl 2 rfl) ?_
    refine lv_iload hx hb dX0_walk_34 (lv_at hl 0 rfl) ?_
    refine lv_iload_n hx hb dX0_walk_36 rfl (lv_at hl 4 rfl) ?_
    refine g_ci (rest := [.int (wkc F k sun noon)]) g (g_VN (n := 2) (As := [.int (wkc F k sun noon), .int noon]) S g (c_ownPart l G ((wk1 F k noon)) o k (wkc F k sun noon) noon h1 h2) (Nat.lt_of_lt_of_le h2 (by decide)) (cEw G _ o h1 h2) rfl qn223 q225 qs10 q3 q226 ⟨by decide +kernel, by decide +kernel, by decide +kernel⟩ rfl ⟨Nat.le_of_ble_eq_true rfl, Nat.le_of_ble_eq_true rfl⟩ hl.1 (Nat.le_of_ble_eq_true rfl) rfl ⟨Nat.zero_le _, Nat.zero_le _⟩ dX0_walk_37) (fun H locs g => ?_)
    refine lv_isub hx hb dX0_walk_40 ?_
    rw [show ((wkc F k sun noon) - (owI (((wk1 F k noon)) k 5) (wkc F k sun noon) noon) : Int32) = wkl F k sun noon from rfl]
    refine lv_istore (lv' := [(5, .int (wkl F k sun noon)), (4, .int (wkc F k sun noon)), (0, .ref (gA G b)), (1, .ref (gA G k)), (2, .int sun), (3, .int noon)]) hx hb dX0_walk_41 hl (by decide) rfl (fun ls hl => ?_)
    refine lv_aload_n hx hb dX0_walk_43 rfl (lv_at hl 2 rfl) ?_
    refine lv_iload hx hb dX0_walk_44 (lv_at hl 0 rfl) ?_
    refine g_ci (rest := []) g (g_V (n := 1) (As := [.int (wkl F k sun noon)]) S g (c_reinsuredPart l G (((wk1 F k noon))) o b (wkl F k sun noon) hB) (by rcases hB with h9 | h9 <;> omega) (cEb G _ o hB) rfl (lw_V q230 q232 qs11 q2 q233) ⟨rfl, by decide +kernel, by decide +kernel, by decide +kernel⟩ rfl ⟨Nat.le_of_ble_eq_true rfl, Nat.le_of_ble_eq_true rfl⟩ hl.1 (Nat.le_of_ble_eq_true rfl) rfl ⟨Nat.zero_le _, Nat.zero_le _⟩ dX0_walk_46) (fun H locs g => ?_)
    rw [show (reI (wkl F k sun noon) ((((wk1 F k noon))) b 3) ((((wk1 F k noon))) b 4) : Int32) = wkr F b k sun noon from rfl]
    refine lv_istore (lv' := [(6, .int (wkr F b k sun noon)), (5, .int (wkl F k sun noon)), (4, .int (wkc F k sun noon)), (0, .ref (gA G b)), (1, .ref (gA G k)), (2, .int sun), (3, .int noon)]) hx hb dX0_walk_49 hl (by decide) rfl (fun ls hl => ?_)
    refine lv_aload_n hx hb dX0_walk_51 rfl (lv_at hl 3 rfl) ?_
    refine lv_dup hx hb dX0_walk_52 rfl ?_
    refine gB (k := b) S g hB 1 (by decide) q60 dX0_walk_53 ?_
    refine lv_iload hx hb dX0_walk_56 (lv_at hl 1 rfl) ?_
    refine lv_iload hx hb dX0_walk_58 (lv_at hl 0 rfl) ?_
    refine lv_isub hx hb dX0_walk_60 ?_
    refine lv_isub hx hb dX0_walk_61 ?_
    refine gBp (k := b) S g hB 1 (by decide) q60 dX0_walk_62 (fun H locs g => ?_)
    rw [show up2 ((((wk1 F k noon)))) (b) 1 ((((((wk1 F k noon)))) b 1) - ((wkl F k sun noon) - (wkr F b k sun noon))) = wk2 F b k sun noon from rfl] at g
    refine lv_aload_n hx hb dX0_walk_65 rfl (lv_at hl 3 rfl) ?_
    refine lv_dup hx hb dX0_walk_66 rfl ?_
    refine gB (k := b) S g hB 5 (by decide) q68 dX0_walk_67 ?_
    refine lv_iload hx hb dX0_walk_70 (lv_at hl 0 rfl) ?_
    refine lv_iadd hx hb dX0_walk_72 ?_
    refine gBp (k := b) S g hB 5 (by decide) q68 dX0_walk_73 (fun H locs g => ?_)
    rw [show up2 (wk2 F b k sun noon) (b) 5 (((wk2 F b k sun noon) b 5) + (wkr F b k sun noon)) = wk3 F b k sun noon from rfl] at g
    refine lv_aload_n hx hb dX0_walk_76 rfl (lv_at hl 4 rfl) ?_
    refine g_cv (rest := []) g (g_VN (n := 0) (As := []) S g (c_fall l G (wk3 F b k sun noon) o k h1 h2) (Nat.lt_of_lt_of_le h2 (by decide)) (cEw G _ o h1 h2) rfl qn236 q238 qs12 q3 q239 ⟨by decide +kernel, by decide +kernel, by decide +kernel⟩ rfl ⟨Nat.le_of_ble_eq_true rfl, Nat.le_of_ble_eq_true rfl⟩ hl.1 (Nat.le_of_ble_eq_true rfl) rfl ⟨Nat.zero_le _, Nat.zero_le _⟩ dX0_walk_77) (fun H locs g => ?_)
    refine lv_iconst (v := 1) hx hb dX0_walk_80 (by decide) ?_
    exact e_z S hr hk0 g (by first | rfl | decide) (by first | rfl | (simp only [wkR, wkF, c_19, ↓reduceIte]; done) | (simp [wkR, wkF, c_19, ↓reduceIte]; done)) (by first | rfl | (simp only [wkR, wkF, c_19, ↓reduceIte]; done)) dX0_walk_81
  · refine lv_iconst (v := 0) hx hb dX0_walk_22 (by decide) ?_
    exact e_z S hr hk0 g (by first | rfl | decide) (by first | rfl | (simp only [wkR, wkF, c_19, ↓reduceIte]; done) | (simp [wkR, wkF, c_19, ↓reduceIte]; done)) (by first | rfl | (simp only [wkR, wkF, c_19, ↓reduceIte]; done)) dX0_walk_23
set_option maxHeartbeats 4000000 in
set_option maxRecDepth 100000 in
theorem c_letOneHourGoBy (l : Launch) (G : gT) (F : Fs) (o : Int64) (b : Nat) (n : Nat) (h : Nat) (hB : b = 1 ∨ b = 2) (hn : F b 6 = nI n) (hn8 : n ≤ 8) (hh : F b 0 = nI h) (hh2 : h < 2 ^ 30) : MI l yX0_letOneHourGoBy cX0_letOneHourGoBy 5 (some .int) 3 70 [.ref (gA G b)] G (F) o (hrF F b n h) (hrR F b n h) := by
  refine mk_G (own := "ShadowPool$Book") (Qs := (fun sz => QI G (hrF F b n h) o (hrR F b n h) sz)) (by decide +kernel) rfl (Nat.le_of_ble_eq_true rfl) ?_
  intro p e s m args below meth c ls hr hk0 hnm S g hl
  have hl : lv_has ls 5 [(0, .ref (gA G b))] := hl
  have hx := S.1
  have hb := S.2.1
  refine lv_aload_n hx hb dX0_letOneHourGoBy_0 rfl (lv_at hl 0 rfl) ?_
  refine gB (k := b) S g hB 0 (by decide) q58 dX0_letOneHourGoBy_1 ?_
  rw [show (F b 0 : Int32) = nI h from hh]
  refine g_ci (rest := []) g (g_SN (n := 1) (As := [.int (nI h)]) S g (c_hourOfDay l G (F) o h (by omega)) qn180 q181 q1 q182 ⟨by decide +kernel, by decide +kernel, by decide +kernel⟩ rfl ⟨Nat.le_of_ble_eq_true rfl, Nat.le_of_ble_eq_true rfl⟩ hl.1 (Nat.le_of_ble_eq_true rfl) rfl ⟨Nat.zero_le _, Nat.zero_le _⟩ dX0_letOneHourGoBy_4) (fun H locs g => ?_)
  refine lv_istore_n (lv' := [(1, .int (nI (h % 12))), (0, .ref (gA G b))]) hx hb dX0_letOneHourGoBy_7 rfl hl (by decide) rfl (fun ls hl => ?_)
  refine lv_iload_n hx hb dX0_letOneHourGoBy_8 rfl (lv_at hl 0 rfl) ?_
  refine lv_if_ne (tgt := 16) hx hb dX0_letOneHourGoBy_9 (by decide) (fun c_9 => ?_) (fun c_9 => ?_)
  · refine lv_iconst (v := 0) hx hb dX0_letOneHourGoBy_16 (by decide) ?_
    refine lv_istore_n (lv' := [(2, .int 0), (1, .int (nI (h % 12))), (0, .ref (gA G b))]) hx hb dX0_letOneHourGoBy_17 rfl hl (by decide) rfl (fun ls hl => ?_)
    refine lv_iconst (v := 0) hx hb dX0_letOneHourGoBy_18 (by decide) ?_
    refine lv_istore_n (lv' := [(3, .int 0), (2, .int 0), (1, .int (nI (h % 12))), (0, .ref (gA G b))]) hx hb dX0_letOneHourGoBy_19 rfl hl (by decide) rfl (fun ls hl => ?_)
    have loop20 : ∀ (n_ : Nat) (i : Nat) (acc : Int32) (F1 : Fs) (H : Heap) (locs : List Loc) (ls : Array Slot) (hi : i + n_ = n) (hc : F1 b 6 = nI n) (hres : hrL b (sunAtI (nI (h % 12))) (noonAtI (nI (h % 12))) n_ i acc F1 = hr0 F b n h), GB G (F1) o [] [] s H locs → lv_has ls 5 [(0, .ref (gA G b)), (1, .int (nI (h % 12))), (2, .int acc), (3, .int (nI i))] → W p l e (rmG 3 70) s m args below meth c H locs 0 0 (MQ below (QI G (hrF F b n h) o (hrR F b n h) s.heap.size) args s 0 0 (GA G s.heap.size)) (F0 m 20 ls []) := by
      intro n_
      induction n_ with
      | zero =>
        intro i acc F1 H locs ls hi hc hres g hl
        refine lv_iload_n hx hb dX0_letOneHourGoBy_20 rfl (lv_at hl 3 rfl) ?_
        refine lv_aload_n hx hb dX0_letOneHourGoBy_21 rfl (lv_at hl 0 rfl) ?_
        refine gB (k := b) S g hB 6 (by decide) q70 dX0_letOneHourGoBy_22 ?_
        rw [show (F1 b 6 : Int32) = nI n from hc]
        refine lv_icmp_ge (tgt := 71) hx hb dX0_letOneHourGoBy_25 (by decide) (fun c_25 => ?_) (fun c9 => absurd (nI_le (by omega) (by omega)) c9)
        refine lv_aload_n hx hb dX0_letOneHourGoBy_71 rfl (lv_at hl 0 rfl) ?_
        refine lv_dup hx hb dX0_letOneHourGoBy_72 rfl ?_
        refine gB (k := b) S g hB 0 (by decide) q58 dX0_letOneHourGoBy_73 ?_
        refine lv_iconst (v := 1) hx hb dX0_letOneHourGoBy_76 (by decide) ?_
        refine lv_iadd hx hb dX0_letOneHourGoBy_77 ?_
        refine gBp (k := b) S g hB 0 (by decide) q58 dX0_letOneHourGoBy_78 (fun H locs g => ?_)
        refine lv_iload_n hx hb dX0_letOneHourGoBy_81 rfl (lv_at hl 2 rfl) ?_
        exact e_i S hr hk0 g (by rw [show hrR F b n h = (hr0 F b n h).1 from rfl, ← hres]; rfl) (by rw [show hrF F b n h = up2 (hr0 F b n h).2 b 0 ((hr0 F b n h).2 b 0 + 1) from rfl, ← hres]; rfl) dX0_letOneHourGoBy_82
      | succ n_ ih_20 =>
        intro i acc F1 H locs ls hi hc hres g hl
        refine lv_iload_n hx hb dX0_letOneHourGoBy_20 rfl (lv_at hl 3 rfl) ?_
        refine lv_aload_n hx hb dX0_letOneHourGoBy_21 rfl (lv_at hl 0 rfl) ?_
        refine gB (k := b) S g hB 6 (by decide) q70 dX0_letOneHourGoBy_22 ?_
        rw [show (F1 b 6 : Int32) = nI n from hc]
        refine lv_icmp_ge (tgt := 71) hx hb dX0_letOneHourGoBy_25 (by decide) (fun c9 => absurd c9 (nI_ge (by omega) (by omega))) (fun c_25 => ?_)
        refine lv_aload_n hx hb dX0_letOneHourGoBy_28 rfl (lv_at hl 0 rfl) ?_
        refine lv_iload_n hx hb dX0_letOneHourGoBy_29 rfl (lv_at hl 3 rfl) ?_
        refine g_cn (rest := []) g rfl (g_V (n := 1) (As := [.int (nI i)]) S g (c_find_ok l G (F1) o b i n hB hc (by omega) hn8) (by rcases hB with h9 | h9 <;> omega) (cEb G _ o hB) rfl (lw_V q194 q196 qs5 q2 q197) ⟨rfl, by decide +kernel, by decide +kernel, by decide +kernel⟩ rfl ⟨Nat.le_of_ble_eq_true rfl, Nat.le_of_ble_eq_true rfl⟩ hl.1 (Nat.le_of_ble_eq_true rfl) rfl ⟨Nat.zero_le _, Nat.zero_le _⟩ dX0_letOneHourGoBy_30) (fun H locs g => ?_)
        refine lv_astore (lv' := [(4, .ref (gA G (wb b i))), (0, .ref (gA G b)), (1, .int (nI (h % 12))), (2, .int acc), (3, .int (nI i))]) hx hb dX0_letOneHourGoBy_33 hl (by decide) rfl (fun ls hl => ?_)
        refine lv_iload_n hx hb dX0_letOneHourGoBy_35 rfl (lv_at hl 3 rfl) ?_
        refine lv_aload hx hb dX0_letOneHourGoBy_36 (lv_at hl 0 rfl) ?_
        refine lv_ifnull hx hb dX0_letOneHourGoBy_38 ?_
        refine lv_aload_n hx hb dX0_letOneHourGoBy_41 rfl (lv_at hl 1 rfl) ?_
        refine lv_aload hx hb dX0_letOneHourGoBy_42 (lv_at hl 0 rfl) ?_
        refine lv_iload_n hx hb dX0_letOneHourGoBy_44 rfl (lv_at hl 2 rfl) ?_
        refine g_ci (rest := [.ref (gA G (wb b i)), .ref (gA G b), .int acc]) g (g_SN (n := 1) (As := [.int (nI (h % 12))]) S g (c_sunAt l G (F1) o (nI (h % 12))) qn198 q199 q1 q200 ⟨by decide +kernel, by decide +kernel, by decide +kernel⟩ rfl ⟨Nat.le_of_ble_eq_true rfl, Nat.le_of_ble_eq_true rfl⟩ hl.1 (Nat.le_of_ble_eq_true rfl) rfl ⟨Nat.zero_le _, Nat.zero_le _⟩ dX0_letOneHourGoBy_45) (fun H locs g => ?_)
        refine lv_iload_n hx hb dX0_letOneHourGoBy_48 rfl (lv_at hl 2 rfl) ?_
        refine g_ci (rest := [.int (sunAtI (nI (h % 12))), .ref (gA G (wb b i)), .ref (gA G b), .int acc]) g (g_SN (n := 1) (As := [.int (nI (h % 12))]) S g (c_noonAt l G (F1) o (nI (h % 12))) qn201 q202 q1 q203 ⟨by decide +kernel, by decide +kernel, by decide +kernel⟩ rfl ⟨Nat.le_of_ble_eq_true rfl, Nat.le_of_ble_eq_true rfl⟩ hl.1 (Nat.le_of_ble_eq_true rfl) rfl ⟨Nat.zero_le _, Nat.zero_le _⟩ dX0_letOneHourGoBy_49) (fun H locs g => ?_)
        refine g_ci (rest := [.int acc]) g (g_V (n := 3) (As := [.ref (gA G (wb b i)), .int (sunAtI (nI (h % 12))), .int (noonAtI (nI (h % 12)))]) S g (c_walk l G (F1) o b (wb b i) (sunAtI (nI (h % 12))) (noonAtI (nI (h % 12))) hB (wb_lo hB _) (wb_hi hB (by omega)) (sun_pos h)) (by rcases hB with h9 | h9 <;> omega) (cEb G _ o hB) rfl (lw_V q204 q206 qs6 q2 q207) ⟨rfl, by decide +kernel, by decide +kernel, by decide +kernel⟩ rfl ⟨Nat.le_of_ble_eq_true rfl, Nat.le_of_ble_eq_true rfl⟩ hl.1 (Nat.le_of_ble_eq_true rfl) rfl ⟨Nat.zero_le _, Nat.zero_le _⟩ dX0_letOneHourGoBy_52) (fun H locs g => ?_)
        refine lv_if_eq (tgt := 62) hx hb dX0_letOneHourGoBy_55 (by decide) (fun c_55 => ?_) (fun c_55 => ?_)
        · refine lv_iconst (v := 0) hx hb dX0_letOneHourGoBy_62 (by decide) ?_
          refine lv_iadd hx hb dX0_letOneHourGoBy_63 ?_
          refine lv_istore_n (lv' := [(2, .int ((acc) + (0))), (4, .ref (gA G (wb b i))), (0, .ref (gA G b)), (1, .int (nI (h % 12))), (3, .int (nI i))]) hx hb dX0_letOneHourGoBy_64 rfl hl (by decide) rfl (fun ls hl => ?_)
          refine lv_iinc (v := nI (i + 1)) (lv' := [(3, .int (nI (i + 1))), (2, .int ((acc) + (0))), (4, .ref (gA G (wb b i))), (0, .ref (gA G b)), (1, .int (nI (h % 12)))]) hx hb dX0_letOneHourGoBy_65 hl (k := 4) rfl (nI_1 i) (by decide) rfl (fun ls hl => ?_)
          refine lv_goto (tgt := 20) hx hb dX0_letOneHourGoBy_68 (by decide) ?_
          exact ih_20 (i + 1) _ _ _ _ _ (by omega) (by rw [wk_ne _ _ _ _ _ (by omega) (wb_ne hB (by omega))]; exact hc) (by simpa only [hrL, c_25, c_55, ↓reduceIte] using hres) g (lv_sub hl [3, 4, 1, 0] rfl)
        · refine lv_iconst (v := 1) hx hb dX0_letOneHourGoBy_58 (by decide) ?_
          refine lv_goto (tgt := 63) hx hb dX0_letOneHourGoBy_59 (by decide) ?_
          refine lv_iadd hx hb dX0_letOneHourGoBy_63 ?_
          refine lv_istore_n (lv' := [(2, .int ((acc) + (1))), (4, .ref (gA G (wb b i))), (0, .ref (gA G b)), (1, .int (nI (h % 12))), (3, .int (nI i))]) hx hb dX0_letOneHourGoBy_64 rfl hl (by decide) rfl (fun ls hl => ?_)
          refine lv_iinc (v := nI (i + 1)) (lv' := [(3, .int (nI (i + 1))), (2, .int ((acc) + (1))), (4, .ref (gA G (wb b i))), (0, .ref (gA G b)), (1, .int (nI (h % 12)))]) hx hb dX0_letOneHourGoBy_65 hl (k := 4) rfl (nI_1 i) (by decide) rfl (fun ls hl => ?_)
          refine lv_goto (tgt := 20) hx hb dX0_letOneHourGoBy_68 (by decide) ?_
          exact ih_20 (i + 1) _ _ _ _ _ (by omega) (by rw [wk_ne _ _ _ _ _ (by omega) (wb_ne hB (by omega))]; exact hc) (by simpa only [hrL, c_25, c_55, ↓reduceIte] using hres) g (lv_sub hl [3, 4, 1, 0] rfl)
    exact loop20 n 0 0 _ _ _ _ (by omega) (by first | exact hn | (rw [pay_ne F b n (by omega)]; exact hn)) (by simp only [hr0, c_9, ↓reduceIte]) g (lv_sub hl [3, 2, 1, 0] rfl)
  · refine lv_aload_n hx hb dX0_letOneHourGoBy_12 rfl (lv_at hl 1 rfl) ?_
    refine g_cv (rest := []) g (g_V (n := 0) (As := []) S g (c_payDues l G (F) o b n hB hn hn8) (by rcases hB with h9 | h9 <;> omega) (cEb G _ o hB) rfl (lw_V q186 q188 qs3 q2 q189) ⟨rfl, by decide +kernel, by decide +kernel, by decide +kernel⟩ rfl ⟨Nat.le_of_ble_eq_true rfl, Nat.le_of_ble_eq_true rfl⟩ hl.1 (Nat.le_of_ble_eq_true rfl) rfl ⟨Nat.zero_le _, Nat.zero_le _⟩ dX0_letOneHourGoBy_13) (fun H locs g => ?_)
    refine lv_iconst (v := 0) hx hb dX0_letOneHourGoBy_16 (by decide) ?_
    refine lv_istore_n (lv' := [(2, .int 0), (1, .int (nI (h % 12))), (0, .ref (gA G b))]) hx hb dX0_letOneHourGoBy_17 rfl hl (by decide) rfl (fun ls hl => ?_)
    refine lv_iconst (v := 0) hx hb dX0_letOneHourGoBy_18 (by decide) ?_
    refine lv_istore_n (lv' := [(3, .int 0), (2, .int 0), (1, .int (nI (h % 12))), (0, .ref (gA G b))]) hx hb dX0_letOneHourGoBy_19 rfl hl (by decide) rfl (fun ls hl => ?_)
    have loop20 : ∀ (n_ : Nat) (i : Nat) (acc : Int32) (F1 : Fs) (H : Heap) (locs : List Loc) (ls : Array Slot) (hi : i + n_ = n) (hc : F1 b 6 = nI n) (hres : hrL b (sunAtI (nI (h % 12))) (noonAtI (nI (h % 12))) n_ i acc F1 = hr0 F b n h), GB G (F1) o [] [] s H locs → lv_has ls 5 [(0, .ref (gA G b)), (1, .int (nI (h % 12))), (2, .int acc), (3, .int (nI i))] → W p l e (rmG 3 70) s m args below meth c H locs 0 0 (MQ below (QI G (hrF F b n h) o (hrR F b n h) s.heap.size) args s 0 0 (GA G s.heap.size)) (F0 m 20 ls []) := by
      intro n_
      induction n_ with
      | zero =>
        intro i acc F1 H locs ls hi hc hres g hl
        refine lv_iload_n hx hb dX0_letOneHourGoBy_20 rfl (lv_at hl 3 rfl) ?_
        refine lv_aload_n hx hb dX0_letOneHourGoBy_21 rfl (lv_at hl 0 rfl) ?_
        refine gB (k := b) S g hB 6 (by decide) q70 dX0_letOneHourGoBy_22 ?_
        rw [show (F1 b 6 : Int32) = nI n from hc]
        refine lv_icmp_ge (tgt := 71) hx hb dX0_letOneHourGoBy_25 (by decide) (fun c_25 => ?_) (fun c9 => absurd (nI_le (by omega) (by omega)) c9)
        refine lv_aload_n hx hb dX0_letOneHourGoBy_71 rfl (lv_at hl 0 rfl) ?_
        refine lv_dup hx hb dX0_letOneHourGoBy_72 rfl ?_
        refine gB (k := b) S g hB 0 (by decide) q58 dX0_letOneHourGoBy_73 ?_
        refine lv_iconst (v := 1) hx hb dX0_letOneHourGoBy_76 (by decide) ?_
        refine lv_iadd hx hb dX0_letOneHourGoBy_77 ?_
        refine gBp (k := b) S g hB 0 (by decide) q58 dX0_letOneHourGoBy_78 (fun H locs g => ?_)
        refine lv_iload_n hx hb dX0_letOneHourGoBy_81 rfl (lv_at hl 2 rfl) ?_
        exact e_i S hr hk0 g (by rw [show hrR F b n h = (hr0 F b n h).1 from rfl, ← hres]; rfl) (by rw [show hrF F b n h = up2 (hr0 F b n h).2 b 0 ((hr0 F b n h).2 b 0 + 1) from rfl, ← hres]; rfl) dX0_letOneHourGoBy_82
      | succ n_ ih_20 =>
        intro i acc F1 H locs ls hi hc hres g hl
        refine lv_iload_n hx hb dX0_letOneHourGoBy_20 rfl (lv_at hl 3 rfl) ?_
        refine lv_aload_n hx hb dX0_letOneHourGoBy_21 rfl (lv_at hl 0 rfl) ?_
        refine gB (k := b) S g hB 6 (by decide) q70 dX0_letOneHourGoBy_22 ?_
        rw [show (F1 b 6 : Int32) = nI n from hc]
        refine lv_icmp_ge (tgt := 71) hx hb dX0_letOneHourGoBy_25 (by decide) (fun c9 => absurd c9 (nI_ge (by omega) (by omega))) (fun c_25 => ?_)
        refine lv_aload_n hx hb dX0_letOneHourGoBy_28 rfl (lv_at hl 0 rfl) ?_
        refine lv_iload_n hx hb dX0_letOneHourGoBy_29 rfl (lv_at hl 3 rfl) ?_
        refine g_cn (rest := []) g rfl (g_V (n := 1) (As := [.int (nI i)]) S g (c_find_ok l G (F1) o b i n hB hc (by omega) hn8) (by rcases hB with h9 | h9 <;> omega) (cEb G _ o hB) rfl (lw_V q194 q196 qs5 q2 q197) ⟨rfl, by decide +kernel, by decide +kernel, by decide +kernel⟩ rfl ⟨Nat.le_of_ble_eq_true rfl, Nat.le_of_ble_eq_true rfl⟩ hl.1 (Nat.le_of_ble_eq_true rfl) rfl ⟨Nat.zero_le _, Nat.zero_le _⟩ dX0_letOneHourGoBy_30) (fun H locs g => ?_)
        refine lv_astore (lv' := [(4, .ref (gA G (wb b i))), (0, .ref (gA G b)), (1, .int (nI (h % 12))), (2, .int acc), (3, .int (nI i))]) hx hb dX0_letOneHourGoBy_33 hl (by decide) rfl (fun ls hl => ?_)
        refine lv_iload_n hx hb dX0_letOneHourGoBy_35 rfl (lv_at hl 3 rfl) ?_
        refine lv_aload hx hb dX0_letOneHourGoBy_36 (lv_at hl 0 rfl) ?_
        refine lv_ifnull hx hb dX0_letOneHourGoBy_38 ?_
        refine lv_aload_n hx hb dX0_letOneHourGoBy_41 rfl (lv_at hl 1 rfl) ?_
        refine lv_aload hx hb dX0_letOneHourGoBy_42 (lv_at hl 0 rfl) ?_
        refine lv_iload_n hx hb dX0_letOneHourGoBy_44 rfl (lv_at hl 2 rfl) ?_
        refine g_ci (rest := [.ref (gA G (wb b i)), .ref (gA G b), .int acc]) g (g_SN (n := 1) (As := [.int (nI (h % 12))]) S g (c_sunAt l G (F1) o (nI (h % 12))) qn198 q199 q1 q200 ⟨by decide +kernel, by decide +kernel, by decide +kernel⟩ rfl ⟨Nat.le_of_ble_eq_true rfl, Nat.le_of_ble_eq_true rfl⟩ hl.1 (Nat.le_of_ble_eq_true rfl) rfl ⟨Nat.zero_le _, Nat.zero_le _⟩ dX0_letOneHourGoBy_45) (fun H locs g => ?_)
        refine lv_iload_n hx hb dX0_letOneHourGoBy_48 rfl (lv_at hl 2 rfl) ?_
        refine g_ci (rest := [.int (sunAtI (nI (h % 12))), .ref (gA G (wb b i)), .ref (gA G b), .int acc]) g (g_SN (n := 1) (As := [.int (nI (h % 12))]) S g (c_noonAt l G (F1) o (nI (h % 12))) qn201 q202 q1 q203 ⟨by decide +kernel, by decide +kernel, by decide +kernel⟩ rfl ⟨Nat.le_of_ble_eq_true rfl, Nat.le_of_ble_eq_true rfl⟩ hl.1 (Nat.le_of_ble_eq_true rfl) rfl ⟨Nat.zero_le _, Nat.zero_le _⟩ dX0_letOneHourGoBy_49) (fun H locs g => ?_)
        refine g_ci (rest := [.int acc]) g (g_V (n := 3) (As := [.ref (gA G (wb b i)), .int (sunAtI (nI (h % 12))), .int (noonAtI (nI (h % 12)))]) S g (c_walk l G (F1) o b (wb b i) (sunAtI (nI (h % 12))) (noonAtI (nI (h % 12))) hB (wb_lo hB _) (wb_hi hB (by omega)) (sun_pos h)) (by rcases hB with h9 | h9 <;> omega) (cEb G _ o hB) rfl (lw_V q204 q206 qs6 q2 q207) ⟨rfl, by decide +kernel, by decide +kernel, by decide +kernel⟩ rfl ⟨Nat.le_of_ble_eq_true rfl, Nat.le_of_ble_eq_true rfl⟩ hl.1 (Nat.le_of_ble_eq_true rfl) rfl ⟨Nat.zero_le _, Nat.zero_le _⟩ dX0_letOneHourGoBy_52) (fun H locs g => ?_)
        refine lv_if_eq (tgt := 62) hx hb dX0_letOneHourGoBy_55 (by decide) (fun c_55 => ?_) (fun c_55 => ?_)
        · refine lv_iconst (v := 0) hx hb dX0_letOneHourGoBy_62 (by decide) ?_
          refine lv_iadd hx hb dX0_letOneHourGoBy_63 ?_
          refine lv_istore_n (lv' := [(2, .int ((acc) + (0))), (4, .ref (gA G (wb b i))), (0, .ref (gA G b)), (1, .int (nI (h % 12))), (3, .int (nI i))]) hx hb dX0_letOneHourGoBy_64 rfl hl (by decide) rfl (fun ls hl => ?_)
          refine lv_iinc (v := nI (i + 1)) (lv' := [(3, .int (nI (i + 1))), (2, .int ((acc) + (0))), (4, .ref (gA G (wb b i))), (0, .ref (gA G b)), (1, .int (nI (h % 12)))]) hx hb dX0_letOneHourGoBy_65 hl (k := 4) rfl (nI_1 i) (by decide) rfl (fun ls hl => ?_)
          refine lv_goto (tgt := 20) hx hb dX0_letOneHourGoBy_68 (by decide) ?_
          exact ih_20 (i + 1) _ _ _ _ _ (by omega) (by rw [wk_ne _ _ _ _ _ (by omega) (wb_ne hB (by omega))]; exact hc) (by simpa only [hrL, c_25, c_55, ↓reduceIte] using hres) g (lv_sub hl [3, 4, 1, 0] rfl)
        · refine lv_iconst (v := 1) hx hb dX0_letOneHourGoBy_58 (by decide) ?_
          refine lv_goto (tgt := 63) hx hb dX0_letOneHourGoBy_59 (by decide) ?_
          refine lv_iadd hx hb dX0_letOneHourGoBy_63 ?_
          refine lv_istore_n (lv' := [(2, .int ((acc) + (1))), (4, .ref (gA G (wb b i))), (0, .ref (gA G b)), (1, .int (nI (h % 12))), (3, .int (nI i))]) hx hb dX0_letOneHourGoBy_64 rfl hl (by decide) rfl (fun ls hl => ?_)
          refine lv_iinc (v := nI (i + 1)) (lv' := [(3, .int (nI (i + 1))), (2, .int ((acc) + (1))), (4, .ref (gA G (wb b i))), (0, .ref (gA G b)), (1, .int (nI (h % 12)))]) hx hb dX0_letOneHourGoBy_65 hl (k := 4) rfl (nI_1 i) (by decide) rfl (fun ls hl => ?_)
          refine lv_goto (tgt := 20) hx hb dX0_letOneHourGoBy_68 (by decide) ?_
          exact ih_20 (i + 1) _ _ _ _ _ (by omega) (by rw [wk_ne _ _ _ _ _ (by omega) (wb_ne hB (by omega))]; exact hc) (by simpa only [hrL, c_25, c_55, ↓reduceIte] using hres) g (lv_sub hl [3, 4, 1, 0] rfl)
    exact loop20 n 0 0 _ _ _ _ (by omega) (by first | exact hn | (rw [pay_ne F b n (by omega)]; exact hn)) (by simp only [hr0, c_9, ↓reduceIte]) g (lv_sub hl [3, 2, 1, 0] rfl)
set_option maxHeartbeats 4000000 in
set_option maxRecDepth 100000 in
theorem c_letGoBy (l : Launch) (G : gT) (F : Fs) (o : Int64) (b : Nat) (n : Nat) (h : Nat) (t : Nat) (hB : b = 1 ∨ b = 2) (hn : F b 6 = nI n) (hn8 : n ≤ 8) (hh : F b 0 = nI h) (hh2 : h + t < 2 ^ 30) : MI l yX0_letGoBy cX0_letGoBy 4 (some .int) 4 94 [.ref (gA G b), .int (nI t)] G (F) o ((gbL b n t h 0 F).2) ((gbL b n t h 0 F).1) := by
  refine mk_G (own := "ShadowPool$Book") (Qs := (fun sz => QI G ((gbL b n t h 0 F).2) o ((gbL b n t h 0 F).1) sz)) (by decide +kernel) rfl (Nat.le_of_ble_eq_true rfl) ?_
  intro p e s m args below meth c ls hr hk0 hnm S g hl
  have hl : lv_has ls 4 [(0, .ref (gA G b)), (1, .int (nI t))] := hl
  have hx := S.1
  have hb := S.2.1
  refine lv_iconst (v := 0) hx hb dX0_letGoBy_0 (by decide) ?_
  refine lv_istore_n (lv' := [(2, .int 0), (0, .ref (gA G b)), (1, .int (nI t))]) hx hb dX0_letGoBy_1 rfl hl (by decide) rfl (fun ls hl => ?_)
  refine lv_iconst (v := 0) hx hb dX0_letGoBy_2 (by decide) ?_
  refine lv_istore_n (lv' := [(3, .int 0), (2, .int 0), (0, .ref (gA G b)), (1, .int (nI t))]) hx hb dX0_letGoBy_3 rfl hl (by decide) rfl (fun ls hl => ?_)
  have loop4 : ∀ (n_ : Nat) (i : Nat) (acc : Int32) (F1 : Fs) (H : Heap) (locs : List Loc) (ls : Array Slot) (hi : i + n_ = t) (hc : F1 b 6 = nI n) (hd : F1 b 0 = nI (h + i)) (hres : gbL b n n_ (h + i) acc F1 = gbL b n t h 0 F), GB G (F1) o [] [] s H locs → lv_has ls 4 [(0, .ref (gA G b)), (1, .int (nI t)), (2, .int acc), (3, .int (nI i))] → W p l e (rmG 4 94) s m args below meth c H locs 0 0 (MQ below (QI G ((gbL b n t h 0 F).2) o ((gbL b n t h 0 F).1) s.heap.size) args s 0 0 (GA G s.heap.size)) (F0 m 4 ls []) := by
    intro n_
    induction n_ with
    | zero =>
      intro i acc F1 H locs ls hi hc hd hres g hl
      refine lv_iload_n hx hb dX0_letGoBy_4 rfl (lv_at hl 3 rfl) ?_
      refine lv_iload_n hx hb dX0_letGoBy_5 rfl (lv_at hl 1 rfl) ?_
      refine lv_icmp_ge (tgt := 22) hx hb dX0_letGoBy_6 (by decide) (fun c_6 => ?_) (fun c9 => absurd (nI_le (by omega) (by omega)) c9)
      refine lv_iload_n hx hb dX0_letGoBy_22 rfl (lv_at hl 2 rfl) ?_
      exact e_i S hr hk0 g (by rw [← hres]; rfl) (by rw [← hres]; rfl) dX0_letGoBy_23
    | succ n_ ih_4 =>
      intro i acc F1 H locs ls hi hc hd hres g hl
      refine lv_iload_n hx hb dX0_letGoBy_4 rfl (lv_at hl 3 rfl) ?_
      refine lv_iload_n hx hb dX0_letGoBy_5 rfl (lv_at hl 1 rfl) ?_
      refine lv_icmp_ge (tgt := 22) hx hb dX0_letGoBy_6 (by decide) (fun c9 => absurd c9 (nI_ge (by omega) (by omega))) (fun c_6 => ?_)
      refine lv_iload_n hx hb dX0_letGoBy_9 rfl (lv_at hl 2 rfl) ?_
      refine lv_aload_n hx hb dX0_letGoBy_10 rfl (lv_at hl 0 rfl) ?_
      refine g_ci (rest := [.int acc]) g (g_V (n := 0) (As := []) S g (c_letOneHourGoBy l G (F1) o b n (h + i) hB hc hn8 hd (by omega)) (by rcases hB with h9 | h9 <;> omega) (cEb G _ o hB) rfl (lw_V q176 q178 qs2 q2 q179) ⟨rfl, by decide +kernel, by decide +kernel, by decide +kernel⟩ rfl ⟨Nat.le_of_ble_eq_true rfl, Nat.le_of_ble_eq_true rfl⟩ hl.1 (Nat.le_of_ble_eq_true rfl) rfl ⟨Nat.zero_le _, Nat.zero_le _⟩ dX0_letGoBy_11) (fun H locs g => ?_)
      refine lv_iadd hx hb dX0_letGoBy_14 ?_
      refine lv_istore_n (lv' := [(2, .int ((acc) + (hrR F1 b n (h + i)))), (0, .ref (gA G b)), (1, .int (nI t)), (3, .int (nI i))]) hx hb dX0_letGoBy_15 rfl hl (by decide) rfl (fun ls hl => ?_)
      refine lv_iinc (v := nI (i + 1)) (lv' := [(3, .int (nI (i + 1))), (2, .int ((acc) + (hrR F1 b n (h + i)))), (0, .ref (gA G b)), (1, .int (nI t))]) hx hb dX0_letGoBy_16 hl (k := 3) rfl (nI_1 i) (by decide) rfl (fun ls hl => ?_)
      refine lv_goto (tgt := 4) hx hb dX0_letGoBy_19 (by decide) ?_
      exact ih_4 (i + 1) _ _ _ _ _ (by omega) (by rw [hrF_ne _ _ _ _ (by omega) (fun q _ => wb_ne hB (by omega))]; exact hc) (by rw [hrF_hour _ _ _ _ hB, hd]; exact nI_1 (h + i)) hres g (lv_sub hl [2, 3, 1, 0] rfl)
  exact loop4 t 0 0 F _ _ _ (by omega) hn hh rfl g (lv_sub hl [2, 3, 1, 0] rfl)
