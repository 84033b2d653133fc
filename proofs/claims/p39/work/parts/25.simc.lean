set_option maxHeartbeats 4000000 in
set_option maxRecDepth 100000 in
theorem d_ofDay (l : Launch) (G : gT) (A : Nat → Nat) (n : Nat) (F : Fs) (b : Nat) (h : Nat) (hh : F b 0 = nI h) (hh2 : h < 2 ^ 29) : ∀ sz : Nat, Met l yX3_ofDay (wsG yX3_ofDay cX3_ofDay 1 (some .int)) (rmC 0 0 0 0) (va_Pc [.ref (A 0)] (preX G (swl G A n F b) sz)) (QXi G (fun (r : Int32) (_ : Unit) => r = nI (h % 12)) (fun (_ : Unit) => swl G A n F b) (swl G A n F b) sz) 0 0 (va_A (swl G A n F b) sz) := by
  refine mk_Y (own := "ShadowPoolLaw$Sim") (Qs := fun sz => QXi G (fun (r : Int32) (_ : Unit) => r = nI (h % 12)) (fun (_ : Unit) => swl G A n F b) (swl G A n F b) sz) (by decide +kernel) rfl (Nat.le_of_ble_eq_true rfl) ?_
  intro p e s m args below meth c ls hr hk0 hnm S g hl
  have hl : lv_has ls 1 [(0, .ref (A 0))] := hl
  have hx := S.1
  have hb := S.2.1
  have g := g.eqw (List.append_nil _).symm
  refine lv_aload_n hx hb dX3_ofDay_0 rfl (lv_at hl 0 rfl) ?_
  refine x_geti S g (List.mem_append_left _ (swl_m0 G _ _ _ _)) 0 (by decide) q434 dX3_ofDay_1 ?_
  rw [show (F b 0 : Int32) = nI h from hh]
  refine lv_bipush (v := 12) hx hb dX3_ofDay_4 (by decide) ?_
  refine lv_irem hx hb dX3_ofDay_6 (by decide) ?_
  rw [show ((nI h) - (nI h) / 12 * 12 : Int32) = nI (h % 12) from pk_rem (d := 12) (by omega) (by omega) (by omega)]
  have g := g.eqw (List.append_nil _)
  exact f_i (()) S hr hk0 g (by first | rfl | (simp only [↓reduceIte]; done) | (simp [↓reduceIte]; done)) dX3_ofDay_7
set_option maxHeartbeats 4000000 in
set_option maxRecDepth 100000 in
theorem d_sun (l : Launch) (G : gT) (A : Nat → Nat) (n : Nat) (F : Fs) (b : Nat) (h : Nat) (hh : F b 0 = nI h) (hh2 : h < 2 ^ 29) : ∀ sz : Nat, Met l yX3_sun (wsG yX3_sun cX3_sun 1 (some .int)) (rmC 1 20 0 0) (va_Pc [.ref (A 0)] (preX G (swl G A n F b) sz)) (QXi G (fun (r : Int32) (_ : Unit) => r = suH h) (fun (_ : Unit) => swl G A n F b) (swl G A n F b) sz) 0 0 (va_A (swl G A n F b) sz) := by
  refine mk_Y (own := "ShadowPoolLaw$Sim") (Qs := fun sz => QXi G (fun (r : Int32) (_ : Unit) => r = suH h) (fun (_ : Unit) => swl G A n F b) (swl G A n F b) sz) (by decide +kernel) rfl (Nat.le_of_ble_eq_true rfl) ?_
  intro p e s m args below meth c ls hr hk0 hnm S g hl
  have hl : lv_has ls 1 [(0, .ref (A 0))] := hl
  have hx := S.1
  have hb := S.2.1
  have g := g.eqw (List.append_nil _).symm
  refine lv_aload_n hx hb dX3_sun_0 rfl (lv_at hl 0 rfl) ?_
  refine y_ci (rest := []) g (y_V (nA := 0) (As := []) S g (d_ofDay l G A n F b h hh hh2) (swl_m0 G _ _ _ _) (lw_V q472 q473 q474 q4 q475) ⟨rfl, by decide +kernel, by decide +kernel, by decide +kernel⟩ rfl ⟨Nat.le_of_ble_eq_true rfl, Nat.le_of_ble_eq_true rfl⟩ hl.1 (Nat.le_of_ble_eq_true rfl) rfl ⟨Nat.le_of_ble_eq_true rfl, Nat.le_of_ble_eq_true rfl⟩ dX3_sun_1) (fun r9 u1_0 H locs hp9 g => ?_)
  subst hp9
  refine lv_bipush (v := 6) hx hb dX3_sun_4 (by decide) ?_
  refine lv_icmp_ge (tgt := 18) hx hb dX3_sun_6 (by decide) (fun c_6 => ?_) (fun c_6 => ?_)
  · refine lv_bipush (v := 12) hx hb dX3_sun_18 (by decide) ?_
    refine lv_aload_n hx hb dX3_sun_20 rfl (lv_at hl 0 rfl) ?_
    refine y_ci (rest := [.int 12]) g (y_V (nA := 0) (As := []) S g (d_ofDay l G A n F b h hh hh2) (swl_m0 G _ _ _ _) (lw_V q472 q473 q474 q4 q475) ⟨rfl, by decide +kernel, by decide +kernel, by decide +kernel⟩ rfl ⟨Nat.le_of_ble_eq_true rfl, Nat.le_of_ble_eq_true rfl⟩ hl.1 (Nat.le_of_ble_eq_true rfl) rfl ⟨Nat.le_of_ble_eq_true rfl, Nat.le_of_ble_eq_true rfl⟩ dX3_sun_21) (fun r9 u21_1 H locs hp9 g => ?_)
    subst hp9
    refine lv_isub hx hb dX3_sun_24 ?_
    have g := g.eqw (List.append_nil _)
    exact f_i (()) S hr hk0 g (si_hi h (Int32.not_lt.mpr c_6)) dX3_sun_25
  · refine lv_aload_n hx hb dX3_sun_9 rfl (lv_at hl 0 rfl) ?_
    refine y_ci (rest := []) g (y_V (nA := 0) (As := []) S g (d_ofDay l G A n F b h hh hh2) (swl_m0 G _ _ _ _) (lw_V q472 q473 q474 q4 q475) ⟨rfl, by decide +kernel, by decide +kernel, by decide +kernel⟩ rfl ⟨Nat.le_of_ble_eq_true rfl, Nat.le_of_ble_eq_true rfl⟩ hl.1 (Nat.le_of_ble_eq_true rfl) rfl ⟨Nat.le_of_ble_eq_true rfl, Nat.le_of_ble_eq_true rfl⟩ dX3_sun_10) (fun r9 u10_2 H locs hp9 g => ?_)
    subst hp9
    refine lv_iconst (v := 1) hx hb dX3_sun_13 (by decide) ?_
    refine lv_iadd hx hb dX3_sun_14 ?_
    refine lv_goto (tgt := 25) hx hb dX3_sun_15 (by decide) ?_
    have g := g.eqw (List.append_nil _)
    exact f_i (()) S hr hk0 g (si_lo h (Int32.not_le.mp c_6)) dX3_sun_25
set_option maxHeartbeats 4000000 in
set_option maxRecDepth 100000 in
theorem d_isNoon (l : Launch) (G : gT) (A : Nat → Nat) (n : Nat) (F : Fs) (b : Nat) (h : Nat) (hh : F b 0 = nI h) (hh2 : h < 2 ^ 29) : ∀ sz : Nat, Met l yX3_isNoon (wsG yX3_isNoon cX3_isNoon 1 (some .boolean)) (rmC 2 40 0 0) (va_Pc [.ref (A 0)] (preX G (swl G A n F b) sz)) (QXi G (fun (r : Int32) (_ : Unit) => r = noH h) (fun (_ : Unit) => swl G A n F b) (swl G A n F b) sz) 0 0 (va_A (swl G A n F b) sz) := by
  refine mk_Y (own := "ShadowPoolLaw$Sim") (Qs := fun sz => QXi G (fun (r : Int32) (_ : Unit) => r = noH h) (fun (_ : Unit) => swl G A n F b) (swl G A n F b) sz) (by decide +kernel) rfl (Nat.le_of_ble_eq_true rfl) ?_
  intro p e s m args below meth c ls hr hk0 hnm S g hl
  have hl : lv_has ls 1 [(0, .ref (A 0))] := hl
  have hx := S.1
  have hb := S.2.1
  have g := g.eqw (List.append_nil _).symm
  refine lv_aload_n hx hb dX3_isNoon_0 rfl (lv_at hl 0 rfl) ?_
  refine y_ci (rest := []) g (y_V (nA := 0) (As := []) S g (d_sun l G A n F b h hh hh2) (swl_m0 G _ _ _ _) (lw_V q480 q481 q482 q4 q483) ⟨rfl, by decide +kernel, by decide +kernel, by decide +kernel⟩ rfl ⟨Nat.le_of_ble_eq_true rfl, Nat.le_of_ble_eq_true rfl⟩ hl.1 (Nat.le_of_ble_eq_true rfl) rfl ⟨Nat.le_of_ble_eq_true rfl, Nat.le_of_ble_eq_true rfl⟩ dX3_isNoon_1) (fun r9 u1_0 H locs hp9 g => ?_)
  subst hp9
  refine lv_bipush (v := 6) hx hb dX3_isNoon_4 (by decide) ?_
  refine lv_icmp_ne (tgt := 13) hx hb dX3_isNoon_6 (by decide) (fun c_6 => ?_) (fun c_6 => ?_)
  · refine lv_iconst (v := 0) hx hb dX3_isNoon_13 (by decide) ?_
    have g := g.eqw (List.append_nil _)
    exact f_z (()) S hr hk0 g (by first | exact Or.inl rfl | exact Or.inr rfl) (si_nn h c_6) dX3_isNoon_14
  · refine lv_iconst (v := 1) hx hb dX3_isNoon_9 (by decide) ?_
    refine lv_goto (tgt := 14) hx hb dX3_isNoon_10 (by decide) ?_
    have g := g.eqw (List.append_nil _)
    exact f_z (()) S hr hk0 g (by first | exact Or.inl rfl | exact Or.inr rfl) (si_no h c_6) dX3_isNoon_14
set_option maxHeartbeats 4000000 in
set_option maxRecDepth 100000 in
theorem d_shadow (l : Launch) (G : gT) (A : Nat → Nat) (n : Nat) (F : Fs) (b : Nat) (h : Nat) (i : Nat) (hh : F b 0 = nI h) (hh2 : h < 2 ^ 29) (hi : i < n) (hn8 : n ≤ 8) : ∀ sz : Nat, Met l yX3_shadow (wsG yX3_shadow cX3_shadow 2 (some .int)) (rmC 2 40 0 0) (va_Pc [.ref (A 0), .ref (A (2 + i))] (preX G (swl G A n F b) sz)) (QXi G (fun (r : Int32) (_ : Unit) => r = shI (F (wb b i) 0) (suH h)) (fun (_ : Unit) => swl G A n F b) (swl G A n F b) sz) 0 0 (va_A (swl G A n F b) sz) := by
  refine mk_Y (own := "ShadowPoolLaw$Sim") (Qs := fun sz => QXi G (fun (r : Int32) (_ : Unit) => r = shI (F (wb b i) 0) (suH h)) (fun (_ : Unit) => swl G A n F b) (swl G A n F b) sz) (by decide +kernel) rfl (Nat.le_of_ble_eq_true rfl) ?_
  intro p e s m args below meth c ls hr hk0 hnm S g hl
  have hl : lv_has ls 2 [(0, .ref (A 0)), (1, .ref (A (2 + i)))] := hl
  have hx := S.1
  have hb := S.2.1
  have g := g.eqw (List.append_nil _).symm
  refine lv_aload_n hx hb dX3_shadow_0 rfl (lv_at hl 1 rfl) ?_
  refine lv_iconst (v := 0) hx hb dX3_shadow_1 (by decide) ?_
  refine x_rald S g (List.mem_append_left _ (swl_mr G _ _ _ (i := i) hi)) 0 0 rfl (by decide) rfl dX3_shadow_2 ?_
  refine lv_bipush (v := 6) hx hb dX3_shadow_3 (by decide) ?_
  refine lv_imul hx hb dX3_shadow_5 ?_
  refine lv_aload_n hx hb dX3_shadow_6 rfl (lv_at hl 0 rfl) ?_
  refine y_ci (rest := [.int ((F (wb b i) 0) * 6)]) g (y_V (nA := 0) (As := []) S g (d_sun l G A n F b h hh hh2) (swl_m0 G _ _ _ _) (lw_V q480 q481 q482 q4 q483) ⟨rfl, by decide +kernel, by decide +kernel, by decide +kernel⟩ rfl ⟨Nat.le_of_ble_eq_true rfl, Nat.le_of_ble_eq_true rfl⟩ hl.1 (Nat.le_of_ble_eq_true rfl) rfl ⟨Nat.le_of_ble_eq_true rfl, Nat.le_of_ble_eq_true rfl⟩ dX3_shadow_7) (fun r9 u7_0 H locs hp9 g => ?_)
  subst hp9
  refine lv_idiv hx hb dX3_shadow_10 (ne0_pos (sun_pos h)) ?_
  have g := g.eqw (List.append_nil _)
  exact f_i (()) S hr hk0 g (si_sh _ _) dX3_shadow_11
set_option maxHeartbeats 4000000 in
set_option maxRecDepth 100000 in
theorem d_parts (l : Launch) (G : gT) (A : Nat → Nat) (n : Nat) (F : Fs) (b : Nat) (h : Nat) (i : Nat) (hB : b = 1 ∨ b = 2) (hh : F b 0 = nI h) (hh2 : h < 2 ^ 29) (hi : i < n) (hn8 : n ≤ 8) (hw : Wc F (wb b i)) (hbf : Bf F b) : ∀ sz : Nat, Met l yX3_parts (wsG yX3_parts cX3_parts 7 (some (.array .int))) (rmC 3 61 1 4) (va_Pc [.ref (A 0), .ref (A (2 + i))] (preX G (swl G A n F b) sz)) (QXq G (fun (r : Option Nat) (u : Nat) => r = some u) (fun (u : Nat) => [(u, arrI G 4 (ptI F b (wb b i) h))] ++ swl G A n F b) (swl G A n F b) sz) 1 4 (va_A (swl G A n F b) sz) := by
  refine mk_Y (own := "ShadowPoolLaw$Sim") (Qs := fun sz => QXq G (fun (r : Option Nat) (u : Nat) => r = some u) (fun (u : Nat) => [(u, arrI G 4 (ptI F b (wb b i) h))] ++ swl G A n F b) (swl G A n F b) sz) (by decide +kernel) rfl (Nat.le_of_ble_eq_true rfl) ?_
  intro p e s m args below meth c ls hr hk0 hnm S g hl
  have hl : lv_has ls 7 [(0, .ref (A 0)), (1, .ref (A (2 + i)))] := hl
  have hx := S.1
  have hb := S.2.1
  have g := g.eqw (List.append_nil _).symm
  refine lv_aload_n hx hb dX3_parts_0 rfl (lv_at hl 0 rfl) ?_
  refine lv_aload_n hx hb dX3_parts_1 rfl (lv_at hl 1 rfl) ?_
  refine y_ci (rest := []) g (y_V (nA := 1) (As := [.ref (A (2 + i))]) S g (d_shadow l G A n F b h i hh hh2 hi hn8) (swl_m0 G _ _ _ _) (lw_V q488 q489 q490 q4 q491) ⟨rfl, by decide +kernel, by decide +kernel, by decide +kernel⟩ rfl ⟨Nat.le_of_ble_eq_true rfl, Nat.le_of_ble_eq_true rfl⟩ hl.1 (Nat.le_of_ble_eq_true rfl) rfl ⟨Nat.le_of_ble_eq_true rfl, Nat.le_of_ble_eq_true rfl⟩ dX3_parts_2) (fun r9 u2_0 H locs hp9 g => ?_)
  subst hp9
  refine lv_aload_n hx hb dX3_parts_5 rfl (lv_at hl 1 rfl) ?_
  refine lv_iconst (v := 2) hx hb dX3_parts_6 (by decide) ?_
  refine x_rald S g (List.mem_append_left _ (swl_mr G _ _ _ (i := i) hi)) 2 2 rfl (by decide) rfl dX3_parts_7 ?_
  refine lv_isub hx hb dX3_parts_8 ?_
  refine lv_aload_n hx hb dX3_parts_9 rfl (lv_at hl 1 rfl) ?_
  refine lv_iconst (v := 2) hx hb dX3_parts_10 (by decide) ?_
  refine x_rald S g (List.mem_append_left _ (swl_mr G _ _ _ (i := i) hi)) 2 2 rfl (by decide) rfl dX3_parts_11 ?_
  refine lv_isub hx hb dX3_parts_12 ?_
  rw [show (((shI (F (wb b i) 0) (suH h)) - (F (wb b i) 2)) - (F (wb b i) 2) : Int32) = shI (F (wb b i) 0) (suH h) - 2 * F (wb b i) 2 from ct_eq _ _]
  refine lv_istore_n (lv' := [(2, .int (shI (F (wb b i) 0) (suH h) - 2 * F (wb b i) 2)), (0, .ref (A 0)), (1, .ref (A (2 + i)))]) hx hb dX3_parts_13 rfl hl (by decide) rfl (fun ls hl => ?_)
  refine lv_iload_n hx hb dX3_parts_14 rfl (lv_at hl 0 rfl) ?_
  refine lv_if_gt (tgt := 22) hx hb dX3_parts_15 (by decide) (fun c_15 => ?_) (fun c_15 => ?_)
  · refine lv_aload_n hx hb dX3_parts_22 rfl (lv_at hl 2 rfl) ?_
    refine lv_iconst (v := 4) hx hb dX3_parts_23 (by decide) ?_
    refine x_rald S g (List.mem_append_left _ (swl_mr G _ _ _ (i := i) hi)) 4 5 rfl (by decide) rfl dX3_parts_24 ?_
    refine lv_if_ne (tgt := 48) hx hb dX3_parts_25 (by decide) (fun c_25 => ?_) (fun c_25 => ?_)
    · refine lv_aload_n hx hb dX3_parts_48 rfl (lv_at hl 1 rfl) ?_
      refine y_ci (rest := []) g (y_V (nA := 0) (As := []) S g (d_isNoon l G A n F b h hh hh2) (swl_m0 G _ _ _ _) (lw_V q476 q477 q478 q4 q479) ⟨rfl, by decide +kernel, by decide +kernel, by decide +kernel⟩ rfl ⟨Nat.le_of_ble_eq_true rfl, Nat.le_of_ble_eq_true rfl⟩ hl.1 (Nat.le_of_ble_eq_true rfl) rfl ⟨Nat.le_of_ble_eq_true rfl, Nat.le_of_ble_eq_true rfl⟩ dX3_parts_49) (fun r9 u49_1 H locs hp9 g => ?_)
      subst hp9
      refine lv_if_eq (tgt := 60) hx hb dX3_parts_52 (by decide) (fun c_52 => ?_) (fun c_52 => ?_)
      · refine lv_iconst (v := 3) hx hb dX3_parts_60 (by decide) ?_
        refine lv_topi (fun f9 ef9 => ?_)
        have ef9 := ef9.trans (fi_3 c_52)
        subst ef9
        refine lv_istore_n (lv' := [(3, .int (fiI h)), (2, .int (shI (F (wb b i) 0) (suH h) - 2 * F (wb b i) 2)), (0, .ref (A 0)), (1, .ref (A (2 + i)))]) hx hb dX3_parts_61 rfl hl (by decide) rfl (fun ls hl => ?_)
        refine lv_iload_n hx hb dX3_parts_62 rfl (lv_at hl 0 rfl) ?_
        refine lv_iload_n hx hb dX3_parts_63 rfl (lv_at hl 1 rfl) ?_
        refine lv_icmp_lt (tgt := 87) hx hb dX3_parts_64 (by decide) (fun c_64 => ?_) (fun c_64 => ?_)
        · obtain ⟨c9, hc9, ec9⟩ := cl_nat hw c_15 c_64
          obtain ⟨-, ⟨r9, hr9, er9⟩, -⟩ := id hbf
          refine lv_iload_n hx hb dX3_parts_87 rfl (lv_at hl 1 rfl) ?_
          refine lv_iload_n hx hb dX3_parts_88 rfl (lv_at hl 0 rfl) ?_
          refine lv_isub hx hb dX3_parts_89 ?_
          refine lv_istore (lv' := [(4, .int ((shI (F (wb b i) 0) (suH h) - 2 * F (wb b i) 2) - (fiI h))), (3, .int (fiI h)), (2, .int (shI (F (wb b i) 0) (suH h) - 2 * F (wb b i) 2)), (0, .ref (A 0)), (1, .ref (A (2 + i)))]) hx hb dX3_parts_90 hl (by decide) rfl (fun ls hl => ?_)
          refine lv_iload hx hb dX3_parts_92 (lv_at hl 0 rfl) ?_
          refine lv_aload_n hx hb dX3_parts_94 rfl (lv_at hl 3 rfl) ?_
          refine x_geti S g (List.mem_append_left _ (swl_m0 G _ _ _ _)) 3 (by decide) q439 dX3_parts_95 ?_
          refine lv_icmp_le (tgt := 111) hx hb dX3_parts_98 (by decide) (fun c_98 => ?_) (fun c_98 => ?_)
          · refine lv_iconst (v := 0) hx hb dX3_parts_111 (by decide) ?_
            refine lv_topi (fun a9 ea9 => ?_)
            have ea9 := ea9.trans (ab_n ec9 er9 (by omega) (by omega) c_98)
            subst ea9
            refine lv_istore (lv' := [(5, .int (mx0 (shI (F (wb b i) 0) (suH h) - 2 * F (wb b i) 2 - fiI h - F b 3))), (4, .int ((shI (F (wb b i) 0) (suH h) - 2 * F (wb b i) 2) - (fiI h))), (3, .int (fiI h)), (2, .int (shI (F (wb b i) 0) (suH h) - 2 * F (wb b i) 2)), (0, .ref (A 0)), (1, .ref (A (2 + i)))]) hx hb dX3_parts_112 hl (by decide) rfl (fun ls hl => ?_)
            refine lv_iload hx hb dX3_parts_114 (lv_at hl 0 rfl) ?_
            refine lv_aload_n hx hb dX3_parts_116 rfl (lv_at hl 4 rfl) ?_
            refine x_geti S g (List.mem_append_left _ (swl_m0 G _ _ _ _)) 4 (by decide) q441 dX3_parts_117 ?_
            refine lv_icmp_ge (tgt := 128) hx hb dX3_parts_120 (by decide) (fun c_120 => ?_) (fun c_120 => ?_)
            · refine lv_aload_n hx hb dX3_parts_128 rfl (lv_at hl 4 rfl) ?_
              refine x_geti S g (List.mem_append_left _ (swl_m0 G _ _ _ _)) 4 (by decide) q441 dX3_parts_129 ?_
              refine lv_topi (fun t9 et9 => ?_)
              have et9 := et9.trans (th_n c_120)
              refine lv_istore (lv' := [(6, .int t9), (5, .int (mx0 (shI (F (wb b i) 0) (suH h) - 2 * F (wb b i) 2 - fiI h - F b 3))), (4, .int ((shI (F (wb b i) 0) (suH h) - 2 * F (wb b i) 2) - (fiI h))), (3, .int (fiI h)), (2, .int (shI (F (wb b i) 0) (suH h) - 2 * F (wb b i) 2)), (0, .ref (A 0)), (1, .ref (A (2 + i)))]) hx hb dX3_parts_132 hl (by decide) rfl (fun ls hl => ?_)
              refine lv_iconst (v := 4) hx hb dX3_parts_134 (by decide) ?_
              refine x_newa (len := 4) S g q467 rfl (by omega) (Nat.le_of_ble_eq_true rfl) (Nat.le_of_ble_eq_true rfl) dX3_parts_135 (fun q135_2 H g => ?_)
              refine lv_dup hx hb dX3_parts_137 rfl ?_
              refine lv_iconst (v := 0) hx hb dX3_parts_138 (by decide) ?_
              refine lv_iload_n hx hb dX3_parts_139 rfl (lv_at hl 4 rfl) ?_
              refine x_iast S g (by omega) 0 rfl (by decide) dX3_parts_140 (fun H locs g => ?_)
              refine lv_dup hx hb dX3_parts_141 rfl ?_
              refine lv_iconst (v := 1) hx hb dX3_parts_142 (by decide) ?_
              refine lv_iload_n hx hb dX3_parts_143 rfl (lv_at hl 3 rfl) ?_
              refine x_iast S g (by omega) 1 rfl (by decide) dX3_parts_144 (fun H locs g => ?_)
              refine lv_dup hx hb dX3_parts_145 rfl ?_
              refine lv_iconst (v := 2) hx hb dX3_parts_146 (by decide) ?_
              refine lv_iload hx hb dX3_parts_147 (lv_at hl 2 rfl) ?_
              refine lv_iload hx hb dX3_parts_149 (lv_at hl 0 rfl) ?_
              refine lv_isub hx hb dX3_parts_151 ?_
              refine x_iast S g (by omega) 2 rfl (by decide) dX3_parts_152 (fun H locs g => ?_)
              refine lv_dup hx hb dX3_parts_153 rfl ?_
              refine lv_iconst (v := 3) hx hb dX3_parts_154 (by decide) ?_
              refine lv_iload hx hb dX3_parts_155 (lv_at hl 0 rfl) ?_
              refine x_iast S g (by omega) 3 rfl (by decide) dX3_parts_157 (fun H locs g => ?_)
              rw [show (upd (upd (upd (upd (fun _ => 0) 0 (shI (F (wb b i) 0) (suH h) - 2 * F (wb b i) 2)) 1 (fiI h)) 2 (((shI (F (wb b i) 0) (suH h) - 2 * F (wb b i) 2) - (fiI h)) - t9)) 3 t9 : Nat → Int32) = ptI F b (wb b i) h from (show up4 (shI (F (wb b i) 0) (suH h) - 2 * F (wb b i) 2) (fiI h) (shI (F (wb b i) 0) (suH h) - 2 * F (wb b i) 2 - fiI h - t9) t9 = _ from pt_c c_15 c_25 c_64 et9)] at g
              refine W.widen (k := 1) (n := 4) (by omega) (by omega) ?_
              have g := g.eqw (show _ = [(q135_2, arrI G 4 (ptI F b (wb b i) h))] ++ swl G A n F b from by simp only [List.append_nil, List.append_assoc])
              exact f_q q135_2 S hr (Or.inr ⟨_, rfl⟩) hk0 g rfl dX3_parts_158
            · refine lv_iload hx hb dX3_parts_123 (lv_at hl 0 rfl) ?_
              refine lv_goto (tgt := 132) hx hb dX3_parts_125 (by decide) ?_
              refine lv_topi (fun t9 et9 => ?_)
              have et9 := et9.trans (th_y c_120)
              refine lv_istore (lv' := [(6, .int t9), (5, .int (mx0 (shI (F (wb b i) 0) (suH h) - 2 * F (wb b i) 2 - fiI h - F b 3))), (4, .int ((shI (F (wb b i) 0) (suH h) - 2 * F (wb b i) 2) - (fiI h))), (3, .int (fiI h)), (2, .int (shI (F (wb b i) 0) (suH h) - 2 * F (wb b i) 2)), (0, .ref (A 0)), (1, .ref (A (2 + i)))]) hx hb dX3_parts_132 hl (by decide) rfl (fun ls hl => ?_)
              refine lv_iconst (v := 4) hx hb dX3_parts_134 (by decide) ?_
              refine x_newa (len := 4) S g q467 rfl (by omega) (Nat.le_of_ble_eq_true rfl) (Nat.le_of_ble_eq_true rfl) dX3_parts_135 (fun q135_3 H g => ?_)
              refine lv_dup hx hb dX3_parts_137 rfl ?_
              refine lv_iconst (v := 0) hx hb dX3_parts_138 (by decide) ?_
              refine lv_iload_n hx hb dX3_parts_139 rfl (lv_at hl 4 rfl) ?_
              refine x_iast S g (by omega) 0 rfl (by decide) dX3_parts_140 (fun H locs g => ?_)
              refine lv_dup hx hb dX3_parts_141 rfl ?_
              refine lv_iconst (v := 1) hx hb dX3_parts_142 (by decide) ?_
              refine lv_iload_n hx hb dX3_parts_143 rfl (lv_at hl 3 rfl) ?_
              refine x_iast S g (by omega) 1 rfl (by decide) dX3_parts_144 (fun H locs g => ?_)
              refine lv_dup hx hb dX3_parts_145 rfl ?_
              refine lv_iconst (v := 2) hx hb dX3_parts_146 (by decide) ?_
              refine lv_iload hx hb dX3_parts_147 (lv_at hl 2 rfl) ?_
              refine lv_iload hx hb dX3_parts_149 (lv_at hl 0 rfl) ?_
              refine lv_isub hx hb dX3_parts_151 ?_
              refine x_iast S g (by omega) 2 rfl (by decide) dX3_parts_152 (fun H locs g => ?_)
              refine lv_dup hx hb dX3_parts_153 rfl ?_
              refine lv_iconst (v := 3) hx hb dX3_parts_154 (by decide) ?_
              refine lv_iload hx hb dX3_parts_155 (lv_at hl 0 rfl) ?_
              refine x_iast S g (by omega) 3 rfl (by decide) dX3_parts_157 (fun H locs g => ?_)
              rw [show (upd (upd (upd (upd (fun _ => 0) 0 (shI (F (wb b i) 0) (suH h) - 2 * F (wb b i) 2)) 1 (fiI h)) 2 (((shI (F (wb b i) 0) (suH h) - 2 * F (wb b i) 2) - (fiI h)) - t9)) 3 t9 : Nat → Int32) = ptI F b (wb b i) h from (show up4 (shI (F (wb b i) 0) (suH h) - 2 * F (wb b i) 2) (fiI h) (shI (F (wb b i) 0) (suH h) - 2 * F (wb b i) 2 - fiI h - t9) t9 = _ from pt_c c_15 c_25 c_64 et9)] at g
              refine W.widen (k := 1) (n := 4) (by omega) (by omega) ?_
              have g := g.eqw (show _ = [(q135_3, arrI G 4 (ptI F b (wb b i) h))] ++ swl G A n F b from by simp only [List.append_nil, List.append_assoc])
              exact f_q q135_3 S hr (Or.inr ⟨_, rfl⟩) hk0 g rfl dX3_parts_158
          · refine lv_iload hx hb dX3_parts_101 (lv_at hl 0 rfl) ?_
            refine lv_aload_n hx hb dX3_parts_103 rfl (lv_at hl 3 rfl) ?_
            refine x_geti S g (List.mem_append_left _ (swl_m0 G _ _ _ _)) 3 (by decide) q439 dX3_parts_104 ?_
            refine lv_isub hx hb dX3_parts_107 ?_
            refine lv_goto (tgt := 112) hx hb dX3_parts_108 (by decide) ?_
            refine lv_topi (fun a9 ea9 => ?_)
            have ea9 := ea9.trans (ab_y ec9 er9 (by omega) (by omega) c_98)
            subst ea9
            refine lv_istore (lv' := [(5, .int (mx0 (shI (F (wb b i) 0) (suH h) - 2 * F (wb b i) 2 - fiI h - F b 3))), (4, .int ((shI (F (wb b i) 0) (suH h) - 2 * F (wb b i) 2) - (fiI h))), (3, .int (fiI h)), (2, .int (shI (F (wb b i) 0) (suH h) - 2 * F (wb b i) 2)), (0, .ref (A 0)), (1, .ref (A (2 + i)))]) hx hb dX3_parts_112 hl (by decide) rfl (fun ls hl => ?_)
            refine lv_iload hx hb dX3_parts_114 (lv_at hl 0 rfl) ?_
            refine lv_aload_n hx hb dX3_parts_116 rfl (lv_at hl 4 rfl) ?_
            refine x_geti S g (List.mem_append_left _ (swl_m0 G _ _ _ _)) 4 (by decide) q441 dX3_parts_117 ?_
            refine lv_icmp_ge (tgt := 128) hx hb dX3_parts_120 (by decide) (fun c_120 => ?_) (fun c_120 => ?_)
            · refine lv_aload_n hx hb dX3_parts_128 rfl (lv_at hl 4 rfl) ?_
              refine x_geti S g (List.mem_append_left _ (swl_m0 G _ _ _ _)) 4 (by decide) q441 dX3_parts_129 ?_
              refine lv_topi (fun t9 et9 => ?_)
              have et9 := et9.trans (th_n c_120)
              refine lv_istore (lv' := [(6, .int t9), (5, .int (mx0 (shI (F (wb b i) 0) (suH h) - 2 * F (wb b i) 2 - fiI h - F b 3))), (4, .int ((shI (F (wb b i) 0) (suH h) - 2 * F (wb b i) 2) - (fiI h))), (3, .int (fiI h)), (2, .int (shI (F (wb b i) 0) (suH h) - 2 * F (wb b i) 2)), (0, .ref (A 0)), (1, .ref (A (2 + i)))]) hx hb dX3_parts_132 hl (by decide) rfl (fun ls hl => ?_)
              refine lv_iconst (v := 4) hx hb dX3_parts_134 (by decide) ?_
              refine x_newa (len := 4) S g q467 rfl (by omega) (Nat.le_of_ble_eq_true rfl) (Nat.le_of_ble_eq_true rfl) dX3_parts_135 (fun q135_4 H g => ?_)
              refine lv_dup hx hb dX3_parts_137 rfl ?_
              refine lv_iconst (v := 0) hx hb dX3_parts_138 (by decide) ?_
              refine lv_iload_n hx hb dX3_parts_139 rfl (lv_at hl 4 rfl) ?_
              refine x_iast S g (by omega) 0 rfl (by decide) dX3_parts_140 (fun H locs g => ?_)
              refine lv_dup hx hb dX3_parts_141 rfl ?_
              refine lv_iconst (v := 1) hx hb dX3_parts_142 (by decide) ?_
              refine lv_iload_n hx hb dX3_parts_143 rfl (lv_at hl 3 rfl) ?_
              refine x_iast S g (by omega) 1 rfl (by decide) dX3_parts_144 (fun H locs g => ?_)
              refine lv_dup hx hb dX3_parts_145 rfl ?_
              refine lv_iconst (v := 2) hx hb dX3_parts_146 (by decide) ?_
              refine lv_iload hx hb dX3_parts_147 (lv_at hl 2 rfl) ?_
              refine lv_iload hx hb dX3_parts_149 (lv_at hl 0 rfl) ?_
              refine lv_isub hx hb dX3_parts_151 ?_
              refine x_iast S g (by omega) 2 rfl (by decide) dX3_parts_152 (fun H locs g => ?_)
              refine lv_dup hx hb dX3_parts_153 rfl ?_
              refine lv_iconst (v := 3) hx hb dX3_parts_154 (by decide) ?_
              refine lv_iload hx hb dX3_parts_155 (lv_at hl 0 rfl) ?_
              refine x_iast S g (by omega) 3 rfl (by decide) dX3_parts_157 (fun H locs g => ?_)
              rw [show (upd (upd (upd (upd (fun _ => 0) 0 (shI (F (wb b i) 0) (suH h) - 2 * F (wb b i) 2)) 1 (fiI h)) 2 (((shI (F (wb b i) 0) (suH h) - 2 * F (wb b i) 2) - (fiI h)) - t9)) 3 t9 : Nat → Int32) = ptI F b (wb b i) h from (show up4 (shI (F (wb b i) 0) (suH h) - 2 * F (wb b i) 2) (fiI h) (shI (F (wb b i) 0) (suH h) - 2 * F (wb b i) 2 - fiI h - t9) t9 = _ from pt_c c_15 c_25 c_64 et9)] at g
              refine W.widen (k := 1) (n := 4) (by omega) (by omega) ?_
              have g := g.eqw (show _ = [(q135_4, arrI G 4 (ptI F b (wb b i) h))] ++ swl G A n F b from by simp only [List.append_nil, List.append_assoc])
              exact f_q q135_4 S hr (Or.inr ⟨_, rfl⟩) hk0 g rfl dX3_parts_158
            · refine lv_iload hx hb dX3_parts_123 (lv_at hl 0 rfl) ?_
              refine lv_goto (tgt := 132) hx hb dX3_parts_125 (by decide) ?_
              refine lv_topi (fun t9 et9 => ?_)
              have et9 := et9.trans (th_y c_120)
              refine lv_istore (lv' := [(6, .int t9), (5, .int (mx0 (shI (F (wb b i) 0) (suH h) - 2 * F (wb b i) 2 - fiI h - F b 3))), (4, .int ((shI (F (wb b i) 0) (suH h) - 2 * F (wb b i) 2) - (fiI h))), (3, .int (fiI h)), (2, .int (shI (F (wb b i) 0) (suH h) - 2 * F (wb b i) 2)), (0, .ref (A 0)), (1, .ref (A (2 + i)))]) hx hb dX3_parts_132 hl (by decide) rfl (fun ls hl => ?_)
              refine lv_iconst (v := 4) hx hb dX3_parts_134 (by decide) ?_
              refine x_newa (len := 4) S g q467 rfl (by omega) (Nat.le_of_ble_eq_true rfl) (Nat.le_of_ble_eq_true rfl) dX3_parts_135 (fun q135_5 H g => ?_)
              refine lv_dup hx hb dX3_parts_137 rfl ?_
              refine lv_iconst (v := 0) hx hb dX3_parts_138 (by decide) ?_
              refine lv_iload_n hx hb dX3_parts_139 rfl (lv_at hl 4 rfl) ?_
              refine x_iast S g (by omega) 0 rfl (by decide) dX3_parts_140 (fun H locs g => ?_)
              refine lv_dup hx hb dX3_parts_141 rfl ?_
              refine lv_iconst (v := 1) hx hb dX3_parts_142 (by decide) ?_
              refine lv_iload_n hx hb dX3_parts_143 rfl (lv_at hl 3 rfl) ?_
              refine x_iast S g (by omega) 1 rfl (by decide) dX3_parts_144 (fun H locs g => ?_)
              refine lv_dup hx hb dX3_parts_145 rfl ?_
              refine lv_iconst (v := 2) hx hb dX3_parts_146 (by decide) ?_
              refine lv_iload hx hb dX3_parts_147 (lv_at hl 2 rfl) ?_
              refine lv_iload hx hb dX3_parts_149 (lv_at hl 0 rfl) ?_
              refine lv_isub hx hb dX3_parts_151 ?_
              refine x_iast S g (by omega) 2 rfl (by decide) dX3_parts_152 (fun H locs g => ?_)
              refine lv_dup hx hb dX3_parts_153 rfl ?_
              refine lv_iconst (v := 3) hx hb dX3_parts_154 (by decide) ?_
              refine lv_iload hx hb dX3_parts_155 (lv_at hl 0 rfl) ?_
              refine x_iast S g (by omega) 3 rfl (by decide) dX3_parts_157 (fun H locs g => ?_)
              rw [show (upd (upd (upd (upd (fun _ => 0) 0 (shI (F (wb b i) 0) (suH h) - 2 * F (wb b i) 2)) 1 (fiI h)) 2 (((shI (F (wb b i) 0) (suH h) - 2 * F (wb b i) 2) - (fiI h)) - t9)) 3 t9 : Nat → Int32) = ptI F b (wb b i) h from (show up4 (shI (F (wb b i) 0) (suH h) - 2 * F (wb b i) 2) (fiI h) (shI (F (wb b i) 0) (suH h) - 2 * F (wb b i) 2 - fiI h - t9) t9 = _ from pt_c c_15 c_25 c_64 et9)] at g
              refine W.widen (k := 1) (n := 4) (by omega) (by omega) ?_
              have g := g.eqw (show _ = [(q135_5, arrI G 4 (ptI F b (wb b i) h))] ++ swl G A n F b from by simp only [List.append_nil, List.append_assoc])
              exact f_q q135_5 S hr (Or.inr ⟨_, rfl⟩) hk0 g rfl dX3_parts_158
        · refine lv_iconst (v := 4) hx hb dX3_parts_67 (by decide) ?_
          refine x_newa (len := 4) S g q467 rfl (by omega) (Nat.le_of_ble_eq_true rfl) (Nat.le_of_ble_eq_true rfl) dX3_parts_68 (fun q68_6 H g => ?_)
          refine lv_dup hx hb dX3_parts_70 rfl ?_
          refine lv_iconst (v := 0) hx hb dX3_parts_71 (by decide) ?_
          refine lv_iload_n hx hb dX3_parts_72 rfl (lv_at hl 1 rfl) ?_
          refine x_iast S g (by omega) 0 rfl (by decide) dX3_parts_73 (fun H locs g => ?_)
          refine lv_dup hx hb dX3_parts_74 rfl ?_
          refine lv_iconst (v := 1) hx hb dX3_parts_75 (by decide) ?_
          refine lv_iload_n hx hb dX3_parts_76 rfl (lv_at hl 1 rfl) ?_
          refine x_iast S g (by omega) 1 rfl (by decide) dX3_parts_77 (fun H locs g => ?_)
          refine lv_dup hx hb dX3_parts_78 rfl ?_
          refine lv_iconst (v := 2) hx hb dX3_parts_79 (by decide) ?_
          refine lv_iconst (v := 0) hx hb dX3_parts_80 (by decide) ?_
          refine x_iast S g (by omega) 2 rfl (by decide) dX3_parts_81 (fun H locs g => ?_)
          refine lv_dup hx hb dX3_parts_82 rfl ?_
          refine lv_iconst (v := 3) hx hb dX3_parts_83 (by decide) ?_
          refine lv_iconst (v := 0) hx hb dX3_parts_84 (by decide) ?_
          refine x_iast S g (by omega) 3 rfl (by decide) dX3_parts_85 (fun H locs g => ?_)
          rw [show (upd (upd (upd (upd (fun _ => 0) 0 (shI (F (wb b i) 0) (suH h) - 2 * F (wb b i) 2)) 1 (shI (F (wb b i) 0) (suH h) - 2 * F (wb b i) 2)) 2 0) 3 0 : Nat → Int32) = ptI F b (wb b i) h from (show up4 (shI (F (wb b i) 0) (suH h) - 2 * F (wb b i) 2) (shI (F (wb b i) 0) (suH h) - 2 * F (wb b i) 2) 0 0 = _ from pt_a hw hbf c_15 (Or.inr ⟨c_25, c_64⟩))] at g
          refine W.widen (k := 1) (n := 4) (by omega) (by omega) ?_
          have g := g.eqw (show _ = [(q68_6, arrI G 4 (ptI F b (wb b i) h))] ++ swl G A n F b from by simp only [List.append_nil, List.append_assoc])
          exact f_q q68_6 S hr (Or.inr ⟨_, rfl⟩) hk0 g rfl dX3_parts_86
      · refine lv_bipush (v := 6) hx hb dX3_parts_55 (by decide) ?_
        refine lv_goto (tgt := 61) hx hb dX3_parts_57 (by decide) ?_
        refine lv_topi (fun f9 ef9 => ?_)
        have ef9 := ef9.trans (fi_6 c_52)
        subst ef9
        refine lv_istore_n (lv' := [(3, .int (fiI h)), (2, .int (shI (F (wb b i) 0) (suH h) - 2 * F (wb b i) 2)), (0, .ref (A 0)), (1, .ref (A (2 + i)))]) hx hb dX3_parts_61 rfl hl (by decide) rfl (fun ls hl => ?_)
        refine lv_iload_n hx hb dX3_parts_62 rfl (lv_at hl 0 rfl) ?_
        refine lv_iload_n hx hb dX3_parts_63 rfl (lv_at hl 1 rfl) ?_
        refine lv_icmp_lt (tgt := 87) hx hb dX3_parts_64 (by decide) (fun c_64 => ?_) (fun c_64 => ?_)
        · obtain ⟨c9, hc9, ec9⟩ := cl_nat hw c_15 c_64
          obtain ⟨-, ⟨r9, hr9, er9⟩, -⟩ := id hbf
          refine lv_iload_n hx hb dX3_parts_87 rfl (lv_at hl 1 rfl) ?_
          refine lv_iload_n hx hb dX3_parts_88 rfl (lv_at hl 0 rfl) ?_
          refine lv_isub hx hb dX3_parts_89 ?_
          refine lv_istore (lv' := [(4, .int ((shI (F (wb b i) 0) (suH h) - 2 * F (wb b i) 2) - (fiI h))), (3, .int (fiI h)), (2, .int (shI (F (wb b i) 0) (suH h) - 2 * F (wb b i) 2)), (0, .ref (A 0)), (1, .ref (A (2 + i)))]) hx hb dX3_parts_90 hl (by decide) rfl (fun ls hl => ?_)
          refine lv_iload hx hb dX3_parts_92 (lv_at hl 0 rfl) ?_
          refine lv_aload_n hx hb dX3_parts_94 rfl (lv_at hl 3 rfl) ?_
          refine x_geti S g (List.mem_append_left _ (swl_m0 G _ _ _ _)) 3 (by decide) q439 dX3_parts_95 ?_
          refine lv_icmp_le (tgt := 111) hx hb dX3_parts_98 (by decide) (fun c_98 => ?_) (fun c_98 => ?_)
          · refine lv_iconst (v := 0) hx hb dX3_parts_111 (by decide) ?_
            refine lv_topi (fun a9 ea9 => ?_)
            have ea9 := ea9.trans (ab_n ec9 er9 (by omega) (by omega) c_98)
            subst ea9
            refine lv_istore (lv' := [(5, .int (mx0 (shI (F (wb b i) 0) (suH h) - 2 * F (wb b i) 2 - fiI h - F b 3))), (4, .int ((shI (F (wb b i) 0) (suH h) - 2 * F (wb b i) 2) - (fiI h))), (3, .int (fiI h)), (2, .int (shI (F (wb b i) 0) (suH h) - 2 * F (wb b i) 2)), (0, .ref (A 0)), (1, .ref (A (2 + i)))]) hx hb dX3_parts_112 hl (by decide) rfl (fun ls hl => ?_)
            refine lv_iload hx hb dX3_parts_114 (lv_at hl 0 rfl) ?_
            refine lv_aload_n hx hb dX3_parts_116 rfl (lv_at hl 4 rfl) ?_
            refine x_geti S g (List.mem_append_left _ (swl_m0 G _ _ _ _)) 4 (by decide) q441 dX3_parts_117 ?_
            refine lv_icmp_ge (tgt := 128) hx hb dX3_parts_120 (by decide) (fun c_120 => ?_) (fun c_120 => ?_)
            · refine lv_aload_n hx hb dX3_parts_128 rfl (lv_at hl 4 rfl) ?_
              refine x_geti S g (List.mem_append_left _ (swl_m0 G _ _ _ _)) 4 (by decide) q441 dX3_parts_129 ?_
              refine lv_topi (fun t9 et9 => ?_)
              have et9 := et9.trans (th_n c_120)
              refine lv_istore (lv' := [(6, .int t9), (5, .int (mx0 (shI (F (wb b i) 0) (suH h) - 2 * F (wb b i) 2 - fiI h - F b 3))), (4, .int ((shI (F (wb b i) 0) (suH h) - 2 * F (wb b i) 2) - (fiI h))), (3, .int (fiI h)), (2, .int (shI (F (wb b i) 0) (suH h) - 2 * F (wb b i) 2)), (0, .ref (A 0)), (1, .ref (A (2 + i)))]) hx hb dX3_parts_132 hl (by decide) rfl (fun ls hl => ?_)
              refine lv_iconst (v := 4) hx hb dX3_parts_134 (by decide) ?_
              refine x_newa (len := 4) S g q467 rfl (by omega) (Nat.le_of_ble_eq_true rfl) (Nat.le_of_ble_eq_true rfl) dX3_parts_135 (fun q135_7 H g => ?_)
              refine lv_dup hx hb dX3_parts_137 rfl ?_
              refine lv_iconst (v := 0) hx hb dX3_parts_138 (by decide) ?_
              refine lv_iload_n hx hb dX3_parts_139 rfl (lv_at hl 4 rfl) ?_
              refine x_iast S g (by omega) 0 rfl (by decide) dX3_parts_140 (fun H locs g => ?_)
              refine lv_dup hx hb dX3_parts_141 rfl ?_
              refine lv_iconst (v := 1) hx hb dX3_parts_142 (by decide) ?_
              refine lv_iload_n hx hb dX3_parts_143 rfl (lv_at hl 3 rfl) ?_
              refine x_iast S g (by omega) 1 rfl (by decide) dX3_parts_144 (fun H locs g => ?_)
              refine lv_dup hx hb dX3_parts_145 rfl ?_
              refine lv_iconst (v := 2) hx hb dX3_parts_146 (by decide) ?_
              refine lv_iload hx hb dX3_parts_147 (lv_at hl 2 rfl) ?_
              refine lv_iload hx hb dX3_parts_149 (lv_at hl 0 rfl) ?_
              refine lv_isub hx hb dX3_parts_151 ?_
              refine x_iast S g (by omega) 2 rfl (by decide) dX3_parts_152 (fun H locs g => ?_)
              refine lv_dup hx hb dX3_parts_153 rfl ?_
              refine lv_iconst (v := 3) hx hb dX3_parts_154 (by decide) ?_
              refine lv_iload hx hb dX3_parts_155 (lv_at hl 0 rfl) ?_
              refine x_iast S g (by omega) 3 rfl (by decide) dX3_parts_157 (fun H locs g => ?_)
              rw [show (upd (upd (upd (upd (fun _ => 0) 0 (shI (F (wb b i) 0) (suH h) - 2 * F (wb b i) 2)) 1 (fiI h)) 2 (((shI (F (wb b i) 0) (suH h) - 2 * F (wb b i) 2) - (fiI h)) - t9)) 3 t9 : Nat → Int32) = ptI F b (wb b i) h from (show up4 (shI (F (wb b i) 0) (suH h) - 2 * F (wb b i) 2) (fiI h) (shI (F (wb b i) 0) (suH h) - 2 * F (wb b i) 2 - fiI h - t9) t9 = _ from pt_c c_15 c_25 c_64 et9)] at g
              refine W.widen (k := 1) (n := 4) (by omega) (by omega) ?_
              have g := g.eqw (show _ = [(q135_7, arrI G 4 (ptI F b (wb b i) h))] ++ swl G A n F b from by simp only [List.append_nil, List.append_assoc])
              exact f_q q135_7 S hr (Or.inr ⟨_, rfl⟩) hk0 g rfl dX3_parts_158
            · refine lv_iload hx hb dX3_parts_123 (lv_at hl 0 rfl) ?_
              refine lv_goto (tgt := 132) hx hb dX3_parts_125 (by decide) ?_
              refine lv_topi (fun t9 et9 => ?_)
              have et9 := et9.trans (th_y c_120)
              refine lv_istore (lv' := [(6, .int t9), (5, .int (mx0 (shI (F (wb b i) 0) (suH h) - 2 * F (wb b i) 2 - fiI h - F b 3))), (4, .int ((shI (F (wb b i) 0) (suH h) - 2 * F (wb b i) 2) - (fiI h))), (3, .int (fiI h)), (2, .int (shI (F (wb b i) 0) (suH h) - 2 * F (wb b i) 2)), (0, .ref (A 0)), (1, .ref (A (2 + i)))]) hx hb dX3_parts_132 hl (by decide) rfl (fun ls hl => ?_)
              refine lv_iconst (v := 4) hx hb dX3_parts_134 (by decide) ?_
              refine x_newa (len := 4) S g q467 rfl (by omega) (Nat.le_of_ble_eq_true rfl) (Nat.le_of_ble_eq_true rfl) dX3_parts_135 (fun q135_8 H g => ?_)
              refine lv_dup hx hb dX3_parts_137 rfl ?_
              refine lv_iconst (v := 0) hx hb dX3_parts_138 (by decide) ?_
              refine lv_iload_n hx hb dX3_parts_139 rfl (lv_at hl 4 rfl) ?_
              refine x_iast S g (by omega) 0 rfl (by decide) dX3_parts_140 (fun H locs g => ?_)
              refine lv_dup hx hb dX3_parts_141 rfl ?_
              refine lv_iconst (v := 1) hx hb dX3_parts_142 (by decide) ?_
              refine lv_iload_n hx hb dX3_parts_143 rfl (lv_at hl 3 rfl) ?_
              refine x_iast S g (by omega) 1 rfl (by decide) dX3_parts_144 (fun H locs g => ?_)
              refine lv_dup hx hb dX3_parts_145 rfl ?_
              refine lv_iconst (v := 2) hx hb dX3_parts_146 (by decide) ?_
              refine lv_iload hx hb dX3_parts_147 (lv_at hl 2 rfl) ?_
              refine lv_iload hx hb dX3_parts_149 (lv_at hl 0 rfl) ?_
              refine lv_isub hx hb dX3_parts_151 ?_
              refine x_iast S g (by omega) 2 rfl (by decide) dX3_parts_152 (fun H locs g => ?_)
              refine lv_dup hx hb dX3_parts_153 rfl ?_
              refine lv_iconst (v := 3) hx hb dX3_parts_154 (by decide) ?_
              refine lv_iload hx hb dX3_parts_155 (lv_at hl 0 rfl) ?_
              refine x_iast S g (by omega) 3 rfl (by decide) dX3_parts_157 (fun H locs g => ?_)
              rw [show (upd (upd (upd (upd (fun _ => 0) 0 (shI (F (wb b i) 0) (suH h) - 2 * F (wb b i) 2)) 1 (fiI h)) 2 (((shI (F (wb b i) 0) (suH h) - 2 * F (wb b i) 2) - (fiI h)) - t9)) 3 t9 : Nat → Int32) = ptI F b (wb b i) h from (show up4 (shI (F (wb b i) 0) (suH h) - 2 * F (wb b i) 2) (fiI h) (shI (F (wb b i) 0) (suH h) - 2 * F (wb b i) 2 - fiI h - t9) t9 = _ from pt_c c_15 c_25 c_64 et9)] at g
              refine W.widen (k := 1) (n := 4) (by omega) (by omega) ?_
              have g := g.eqw (show _ = [(q135_8, arrI G 4 (ptI F b (wb b i) h))] ++ swl G A n F b from by simp only [List.append_nil, List.append_assoc])
              exact f_q q135_8 S hr (Or.inr ⟨_, rfl⟩) hk0 g rfl dX3_parts_158
          · refine lv_iload hx hb dX3_parts_101 (lv_at hl 0 rfl) ?_
            refine lv_aload_n hx hb dX3_parts_103 rfl (lv_at hl 3 rfl) ?_
            refine x_geti S g (List.mem_append_left _ (swl_m0 G _ _ _ _)) 3 (by decide) q439 dX3_parts_104 ?_
            refine lv_isub hx hb dX3_parts_107 ?_
            refine lv_goto (tgt := 112) hx hb dX3_parts_108 (by decide) ?_
            refine lv_topi (fun a9 ea9 => ?_)
            have ea9 := ea9.trans (ab_y ec9 er9 (by omega) (by omega) c_98)
            subst ea9
            refine lv_istore (lv' := [(5, .int (mx0 (shI (F (wb b i) 0) (suH h) - 2 * F (wb b i) 2 - fiI h - F b 3))), (4, .int ((shI (F (wb b i) 0) (suH h) - 2 * F (wb b i) 2) - (fiI h))), (3, .int (fiI h)), (2, .int (shI (F (wb b i) 0) (suH h) - 2 * F (wb b i) 2)), (0, .ref (A 0)), (1, .ref (A (2 + i)))]) hx hb dX3_parts_112 hl (by decide) rfl (fun ls hl => ?_)
            refine lv_iload hx hb dX3_parts_114 (lv_at hl 0 rfl) ?_
            refine lv_aload_n hx hb dX3_parts_116 rfl (lv_at hl 4 rfl) ?_
            refine x_geti S g (List.mem_append_left _ (swl_m0 G _ _ _ _)) 4 (by decide) q441 dX3_parts_117 ?_
            refine lv_icmp_ge (tgt := 128) hx hb dX3_parts_120 (by decide) (fun c_120 => ?_) (fun c_120 => ?_)
            · refine lv_aload_n hx hb dX3_parts_128 rfl (lv_at hl 4 rfl) ?_
              refine x_geti S g (List.mem_append_left _ (swl_m0 G _ _ _ _)) 4 (by decide) q441 dX3_parts_129 ?_
              refine lv_topi (fun t9 et9 => ?_)
              have et9 := et9.trans (th_n c_120)
              refine lv_istore (lv' := [(6, .int t9), (5, .int (mx0 (shI (F (wb b i) 0) (suH h) - 2 * F (wb b i) 2 - fiI h - F b 3))), (4, .int ((shI (F (wb b i) 0) (suH h) - 2 * F (wb b i) 2) - (fiI h))), (3, .int (fiI h)), (2, .int (shI (F (wb b i) 0) (suH h) - 2 * F (wb b i) 2)), (0, .ref (A 0)), (1, .ref (A (2 + i)))]) hx hb dX3_parts_132 hl (by decide) rfl (fun ls hl => ?_)
              refine lv_iconst (v := 4) hx hb dX3_parts_134 (by decide) ?_
              refine x_newa (len := 4) S g q467 rfl (by omega) (Nat.le_of_ble_eq_true rfl) (Nat.le_of_ble_eq_true rfl) dX3_parts_135 (fun q135_9 H g => ?_)
              refine lv_dup hx hb dX3_parts_137 rfl ?_
              refine lv_iconst (v := 0) hx hb dX3_parts_138 (by decide) ?_
              refine lv_iload_n hx hb dX3_parts_139 rfl (lv_at hl 4 rfl) ?_
              refine x_iast S g (by omega) 0 rfl (by decide) dX3_parts_140 (fun H locs g => ?_)
              refine lv_dup hx hb dX3_parts_141 rfl ?_
              refine lv_iconst (v := 1) hx hb dX3_parts_142 (by decide) ?_
              refine lv_iload_n hx hb dX3_parts_143 rfl (lv_at hl 3 rfl) ?_
              refine x_iast S g (by omega) 1 rfl (by decide) dX3_parts_144 (fun H locs g => ?_)
              refine lv_dup hx hb dX3_parts_145 rfl ?_
              refine lv_iconst (v := 2) hx hb dX3_parts_146 (by decide) ?_
              refine lv_iload hx hb dX3_parts_147 (lv_at hl 2 rfl) ?_
              refine lv_iload hx hb dX3_parts_149 (lv_at hl 0 rfl) ?_
              refine lv_isub hx hb dX3_parts_151 ?_
              refine x_iast S g (by omega) 2 rfl (by decide) dX3_parts_152 (fun H locs g => ?_)
              refine lv_dup hx hb dX3_parts_153 rfl ?_
              refine lv_iconst (v := 3) hx hb dX3_parts_154 (by decide) ?_
              refine lv_iload hx hb dX3_parts_155 (lv_at hl 0 rfl) ?_
              refine x_iast S g (by omega) 3 rfl (by decide) dX3_parts_157 (fun H locs g => ?_)
              rw [show (upd (upd (upd (upd (fun _ => 0) 0 (shI (F (wb b i) 0) (suH h) - 2 * F (wb b i) 2)) 1 (fiI h)) 2 (((shI (F (wb b i) 0) (suH h) - 2 * F (wb b i) 2) - (fiI h)) - t9)) 3 t9 : Nat → Int32) = ptI F b (wb b i) h from (show up4 (shI (F (wb b i) 0) (suH h) - 2 * F (wb b i) 2) (fiI h) (shI (F (wb b i) 0) (suH h) - 2 * F (wb b i) 2 - fiI h - t9) t9 = _ from pt_c c_15 c_25 c_64 et9)] at g
              refine W.widen (k := 1) (n := 4) (by omega) (by omega) ?_
              have g := g.eqw (show _ = [(q135_9, arrI G 4 (ptI F b (wb b i) h))] ++ swl G A n F b from by simp only [List.append_nil, List.append_assoc])
              exact f_q q135_9 S hr (Or.inr ⟨_, rfl⟩) hk0 g rfl dX3_parts_158
            · refine lv_iload hx hb dX3_parts_123 (lv_at hl 0 rfl) ?_
              refine lv_goto (tgt := 132) hx hb dX3_parts_125 (by decide) ?_
              refine lv_topi (fun t9 et9 => ?_)
              have et9 := et9.trans (th_y c_120)
              refine lv_istore (lv' := [(6, .int t9), (5, .int (mx0 (shI (F (wb b i) 0) (suH h) - 2 * F (wb b i) 2 - fiI h - F b 3))), (4, .int ((shI (F (wb b i) 0) (suH h) - 2 * F (wb b i) 2) - (fiI h))), (3, .int (fiI h)), (2, .int (shI (F (wb b i) 0) (suH h) - 2 * F (wb b i) 2)), (0, .ref (A 0)), (1, .ref (A (2 + i)))]) hx hb dX3_parts_132 hl (by decide) rfl (fun ls hl => ?_)
              refine lv_iconst (v := 4) hx hb dX3_parts_134 (by decide) ?_
              refine x_newa (len := 4) S g q467 rfl (by omega) (Nat.le_of_ble_eq_true rfl) (Nat.le_of_ble_eq_true rfl) dX3_parts_135 (fun q135_10 H g => ?_)
              refine lv_dup hx hb dX3_parts_137 rfl ?_
              refine lv_iconst (v := 0) hx hb dX3_parts_138 (by decide) ?_
              refine lv_iload_n hx hb dX3_parts_139 rfl (lv_at hl 4 rfl) ?_
              refine x_iast S g (by omega) 0 rfl (by decide) dX3_parts_140 (fun H locs g => ?_)
              refine lv_dup hx hb dX3_parts_141 rfl ?_
              refine lv_iconst (v := 1) hx hb dX3_parts_142 (by decide) ?_
              refine lv_iload_n hx hb dX3_parts_143 rfl (lv_at hl 3 rfl) ?_
              refine x_iast S g (by omega) 1 rfl (by decide) dX3_parts_144 (fun H locs g => ?_)
              refine lv_dup hx hb dX3_parts_145 rfl ?_
              refine lv_iconst (v := 2) hx hb dX3_parts_146 (by decide) ?_
              refine lv_iload hx hb dX3_parts_147 (lv_at hl 2 rfl) ?_
              refine lv_iload hx hb dX3_parts_149 (lv_at hl 0 rfl) ?_
              refine lv_isub hx hb dX3_parts_151 ?_
              refine x_iast S g (by omega) 2 rfl (by decide) dX3_parts_152 (fun H locs g => ?_)
              refine lv_dup hx hb dX3_parts_153 rfl ?_
              refine lv_iconst (v := 3) hx hb dX3_parts_154 (by decide) ?_
              refine lv_iload hx hb dX3_parts_155 (lv_at hl 0 rfl) ?_
              refine x_iast S g (by omega) 3 rfl (by decide) dX3_parts_157 (fun H locs g => ?_)
              rw [show (upd (upd (upd (upd (fun _ => 0) 0 (shI (F (wb b i) 0) (suH h) - 2 * F (wb b i) 2)) 1 (fiI h)) 2 (((shI (F (wb b i) 0) (suH h) - 2 * F (wb b i) 2) - (fiI h)) - t9)) 3 t9 : Nat → Int32) = ptI F b (wb b i) h from (show up4 (shI (F (wb b i) 0) (suH h) - 2 * F (wb b i) 2) (fiI h) (shI (F (wb b i) 0) (suH h) - 2 * F (wb b i) 2 - fiI h - t9) t9 = _ from pt_c c_15 c_25 c_64 et9)] at g
              refine W.widen (k := 1) (n := 4) (by omega) (by omega) ?_
              have g := g.eqw (show _ = [(q135_10, arrI G 4 (ptI F b (wb b i) h))] ++ swl G A n F b from by simp only [List.append_nil, List.append_assoc])
              exact f_q q135_10 S hr (Or.inr ⟨_, rfl⟩) hk0 g rfl dX3_parts_158
        · refine lv_iconst (v := 4) hx hb dX3_parts_67 (by decide) ?_
          refine x_newa (len := 4) S g q467 rfl (by omega) (Nat.le_of_ble_eq_true rfl) (Nat.le_of_ble_eq_true rfl) dX3_parts_68 (fun q68_11 H g => ?_)
          refine lv_dup hx hb dX3_parts_70 rfl ?_
          refine lv_iconst (v := 0) hx hb dX3_parts_71 (by decide) ?_
          refine lv_iload_n hx hb dX3_parts_72 rfl (lv_at hl 1 rfl) ?_
          refine x_iast S g (by omega) 0 rfl (by decide) dX3_parts_73 (fun H locs g => ?_)
          refine lv_dup hx hb dX3_parts_74 rfl ?_
          refine lv_iconst (v := 1) hx hb dX3_parts_75 (by decide) ?_
          refine lv_iload_n hx hb dX3_parts_76 rfl (lv_at hl 1 rfl) ?_
          refine x_iast S g (by omega) 1 rfl (by decide) dX3_parts_77 (fun H locs g => ?_)
          refine lv_dup hx hb dX3_parts_78 rfl ?_
          refine lv_iconst (v := 2) hx hb dX3_parts_79 (by decide) ?_
          refine lv_iconst (v := 0) hx hb dX3_parts_80 (by decide) ?_
          refine x_iast S g (by omega) 2 rfl (by decide) dX3_parts_81 (fun H locs g => ?_)
          refine lv_dup hx hb dX3_parts_82 rfl ?_
          refine lv_iconst (v := 3) hx hb dX3_parts_83 (by decide) ?_
          refine lv_iconst (v := 0) hx hb dX3_parts_84 (by decide) ?_
          refine x_iast S g (by omega) 3 rfl (by decide) dX3_parts_85 (fun H locs g => ?_)
          rw [show (upd (upd (upd (upd (fun _ => 0) 0 (shI (F (wb b i) 0) (suH h) - 2 * F (wb b i) 2)) 1 (shI (F (wb b i) 0) (suH h) - 2 * F (wb b i) 2)) 2 0) 3 0 : Nat → Int32) = ptI F b (wb b i) h from (show up4 (shI (F (wb b i) 0) (suH h) - 2 * F (wb b i) 2) (shI (F (wb b i) 0) (suH h) - 2 * F (wb b i) 2) 0 0 = _ from pt_a hw hbf c_15 (Or.inr ⟨c_25, c_64⟩))] at g
          refine W.widen (k := 1) (n := 4) (by omega) (by omega) ?_
          have g := g.eqw (show _ = [(q68_11, arrI G 4 (ptI F b (wb b i) h))] ++ swl G A n F b from by simp only [List.append_nil, List.append_assoc])
          exact f_q q68_11 S hr (Or.inr ⟨_, rfl⟩) hk0 g rfl dX3_parts_86
    · refine lv_iconst (v := 4) hx hb dX3_parts_28 (by decide) ?_
      refine x_newa (len := 4) S g q467 rfl (by omega) (Nat.le_of_ble_eq_true rfl) (Nat.le_of_ble_eq_true rfl) dX3_parts_29 (fun q29_12 H g => ?_)
      refine lv_dup hx hb dX3_parts_31 rfl ?_
      refine lv_iconst (v := 0) hx hb dX3_parts_32 (by decide) ?_
      refine lv_iload_n hx hb dX3_parts_33 rfl (lv_at hl 0 rfl) ?_
      refine x_iast S g (by omega) 0 rfl (by decide) dX3_parts_34 (fun H locs g => ?_)
      refine lv_dup hx hb dX3_parts_35 rfl ?_
      refine lv_iconst (v := 1) hx hb dX3_parts_36 (by decide) ?_
      refine lv_iload_n hx hb dX3_parts_37 rfl (lv_at hl 0 rfl) ?_
      refine x_iast S g (by omega) 1 rfl (by decide) dX3_parts_38 (fun H locs g => ?_)
      refine lv_dup hx hb dX3_parts_39 rfl ?_
      refine lv_iconst (v := 2) hx hb dX3_parts_40 (by decide) ?_
      refine lv_iconst (v := 0) hx hb dX3_parts_41 (by decide) ?_
      refine x_iast S g (by omega) 2 rfl (by decide) dX3_parts_42 (fun H locs g => ?_)
      refine lv_dup hx hb dX3_parts_43 rfl ?_
      refine lv_iconst (v := 3) hx hb dX3_parts_44 (by decide) ?_
      refine lv_iconst (v := 0) hx hb dX3_parts_45 (by decide) ?_
      refine x_iast S g (by omega) 3 rfl (by decide) dX3_parts_46 (fun H locs g => ?_)
      rw [show (upd (upd (upd (upd (fun _ => 0) 0 (shI (F (wb b i) 0) (suH h) - 2 * F (wb b i) 2)) 1 (shI (F (wb b i) 0) (suH h) - 2 * F (wb b i) 2)) 2 0) 3 0 : Nat → Int32) = ptI F b (wb b i) h from (show up4 (shI (F (wb b i) 0) (suH h) - 2 * F (wb b i) 2) (shI (F (wb b i) 0) (suH h) - 2 * F (wb b i) 2) 0 0 = _ from pt_a hw hbf c_15 (Or.inl c_25))] at g
      refine W.widen (k := 1) (n := 4) (by omega) (by omega) ?_
      have g := g.eqw (show _ = [(q29_12, arrI G 4 (ptI F b (wb b i) h))] ++ swl G A n F b from by simp only [List.append_nil, List.append_assoc])
      exact f_q q29_12 S hr (Or.inr ⟨_, rfl⟩) hk0 g rfl dX3_parts_47
  · refine lv_iconst (v := 4) hx hb dX3_parts_18 (by decide) ?_
    refine x_newa (len := 4) S g q467 rfl (by omega) (Nat.le_of_ble_eq_true rfl) (Nat.le_of_ble_eq_true rfl) dX3_parts_19 (fun q19_13 H g => ?_)
    rw [show (fun _ : Nat => (0 : Int32)) = ptI F b (wb b i) h from pt_z hw hbf c_15] at g
    refine W.widen (k := 1) (n := 4) (by omega) (by omega) ?_
    have g := g.eqw (show _ = [(q19_13, arrI G 4 (ptI F b (wb b i) h))] ++ swl G A n F b from by simp only [List.append_nil, List.append_assoc])
    exact f_q q19_13 S hr (Or.inr ⟨_, rfl⟩) hk0 g rfl dX3_parts_21
set_option maxHeartbeats 4000000 in
set_option maxRecDepth 100000 in
theorem d_pass (l : Launch) (G : gT) (A : Nat → Nat) (n : Nat) (F : Fs) (b : Nat) (h : Nat) (hB : b = 1 ∨ b = 2) (hh2 : h < 2 ^ 29) (hK : Bk F b n h) : ∀ sz : Nat, Met l yX3_pass (wsG yX3_pass cX3_pass 7 (some .int)) (rmC 4 87 8 32) (va_Pc [.ref (A 0)] (preX G (swl G A n F b) sz)) (QXi G (fun (r : Int32) (_ : Unit) => r = hrR F b n h) (fun (_ : Unit) => swl G A n (hrF F b n h) b) (swl G A n F b) sz) 8 32 (va_A (swl G A n F b) sz) := by
  refine mk_Y (own := "ShadowPoolLaw$Sim") (Qs := fun sz => QXi G (fun (r : Int32) (_ : Unit) => r = hrR F b n h) (fun (_ : Unit) => swl G A n (hrF F b n h) b) (swl G A n F b) sz) (by decide +kernel) rfl (Nat.le_of_ble_eq_true rfl) ?_
  intro p e s m args below meth c ls hr hk0 hnm S g hl
  have hl : lv_has ls 7 [(0, .ref (A 0))] := hl
  have hx := S.1
  have hb := S.2.1
  have g := g.eqw (List.append_nil _).symm
  obtain ⟨hn8, hcn, hh, hbf, hwk⟩ := id hK
  have join101 : ∀ (F1 : Fs) (H : Heap) (locs : List Loc) (ls : Array Slot) (hF1 : F1 = if nI (h % 12) = 0 then payF F b n else F), GX G (va_A (swl G A n F b) s.heap.size) (swl G A n F1 b ++ []) s H locs → lv_has ls 7 [(0, .ref (A 0))] → W p l e (rmC 4 87 8 32) s m args below meth c H locs (0) (0) (MQ below (QXi G (fun (r : Int32) (_ : Unit) => r = hrR F b n h) (fun (_ : Unit) => swl G A n (hrF F b n h) b) (swl G A n F b) s.heap.size) args s 8 32 (va_A (swl G A n F b) s.heap.size)) (F0 m 101 ls []) := by
    intro F1 H locs ls hF1 g hl
    obtain ⟨h01, hb1, -, hw1⟩ := hr_start hB hK hF1
    refine lv_iconst (v := 0) hx hb dX3_pass_101 (by decide) ?_
    refine lv_istore_n (lv' := [(1, .int 0), (0, .ref (A 0))]) hx hb dX3_pass_102 rfl hl (by decide) rfl (fun ls hl => ?_)
    refine lv_aload_n hx hb dX3_pass_103 rfl (lv_at hl 1 rfl) ?_
    refine x_geta S g (List.mem_append_left _ (swl_m0 G _ _ _ _)) q444 dX3_pass_104 ?_
    refine lv_astore_n (lv' := [(2, .ref (A 1)), (1, .int 0), (0, .ref (A 0))]) hx hb dX3_pass_107 rfl hl (by decide) rfl (fun ls hl => ?_)
    refine lv_aload_n hx hb dX3_pass_108 rfl (lv_at hl 0 rfl) ?_
    refine x_alen S g (List.mem_append_left _ (swl_m1 G _ _ _ _)) 2 rfl dX3_pass_109 ?_
    refine lv_istore_n (lv' := [(3, .int (nI n)), (2, .ref (A 1)), (1, .int 0), (0, .ref (A 0))]) hx hb dX3_pass_110 rfl hl (by decide) rfl (fun ls hl => ?_)
    refine lv_iconst (v := 0) hx hb dX3_pass_111 (by decide) ?_
    refine lv_istore (lv' := [(4, .int 0), (3, .int (nI n)), (2, .ref (A 1)), (1, .int 0), (0, .ref (A 0))]) hx hb dX3_pass_112 hl (by decide) rfl (fun ls hl => ?_)
    have loop114 : ∀ (n_ : Nat) (i : Nat) (acc : Int32) (F2 : Fs) (H : Heap) (locs : List Loc) (ls : Array Slot) (hi : i + n_ = n) (h0 : F2 b 0 = nI h) (hb2 : Bf F2 b) (hw2 : ∀ j, i ≤ j → j < n → Wk F2 (wb b j) h) (hres : hrL b (suH h) (noH h) n_ i acc F2 = hr0 F b n h), GX G (va_A (swl G A n F b) s.heap.size) (swl G A n F2 b ++ []) s H locs → lv_has ls 7 [(0, .ref (A 0)), (1, .int acc), (2, .ref (A 1)), (3, .int (nI n)), (4, .int (nI i))] → W p l e (rmC 4 87 8 32) s m args below meth c H locs (i) (4 * i) (MQ below (QXi G (fun (r : Int32) (_ : Unit) => r = hrR F b n h) (fun (_ : Unit) => swl G A n (hrF F b n h) b) (swl G A n F b) s.heap.size) args s 8 32 (va_A (swl G A n F b) s.heap.size)) (F0 m 114 ls []) := by
      intro n_
      induction n_ with
      | zero =>
        intro i acc F2 H locs ls hi h0 hb2 hw2 hres g hl
        refine lv_iload hx hb dX3_pass_114 (lv_at hl 4 rfl) ?_
        refine lv_iload_n hx hb dX3_pass_116 rfl (lv_at hl 3 rfl) ?_
        refine lv_icmp_ge (tgt := 256) hx hb dX3_pass_117 (by decide) (fun c_117 => ?_) (fun c9 => absurd (nI_le (by omega) (by omega)) c9)
        refine lv_aload_n hx hb dX3_pass_256 rfl (lv_at hl 0 rfl) ?_
        refine lv_dup hx hb dX3_pass_257 rfl ?_
        refine x_geti S g (List.mem_append_left _ (swl_m0 G _ _ _ _)) 0 (by decide) q434 dX3_pass_258 ?_
        refine lv_iconst (v := 1) hx hb dX3_pass_261 (by decide) ?_
        refine lv_iadd hx hb dX3_pass_262 ?_
        refine x_puti S g hB 0 (by decide) q434 dX3_pass_263 (fun H locs g => ?_)
        have g := g.eqw (show swl G A n (up2 F2 b 0 ((F2 b 0) + 1)) b ++ [] = swl G A n (hrF F b n h) b ++ [] from by rw [(show up2 F2 b 0 (F2 b 0 + 1) = hrF F b n h from by rw [show hrF F b n h = up2 (hr0 F b n h).2 b 0 ((hr0 F b n h).2 b 0 + 1) from rfl, ← hres]; rfl)])
        refine lv_iload_n hx hb dX3_pass_266 rfl (lv_at hl 1 rfl) ?_
        refine W.widen (k := 8) (n := 32) (by omega) (by omega) ?_
        have g := g.eqw (List.append_nil _)
        exact f_i (()) S hr hk0 g (by rw [show hrR F b n h = (hr0 F b n h).1 from rfl, ← hres]; rfl) dX3_pass_267
      | succ n_ ih_114 =>
        intro i acc F2 H locs ls hi h0 hb2 hw2 hres g hl
        have hin : i < n := by omega
        have hwi := hw2 i (Nat.le_refl _) hin
        have hwc := hwi.c
        have hkb : wb b i ≠ b := fun e => by have := wb_lo hB i; omega
        have join169 : ∀ (H : Heap) (locs : List Loc) (ls : Array Slot), GX G (va_A (swl G A n F b) s.heap.size) (swl G A n (wk1 F2 (wb b i) (noH h)) b ++ []) s H locs → lv_has ls 7 [(0, .ref (A 0)), (1, .int acc), (2, .ref (A 1)), (3, .int (nI n)), (4, .int (nI i)), (5, .ref (A (2 + i)))] → W p l e (rmC 4 87 8 32) s m args below meth c H locs (i) (4 * i) (MQ below (QXi G (fun (r : Int32) (_ : Unit) => r = hrR F b n h) (fun (_ : Unit) => swl G A n (hrF F b n h) b) (swl G A n F b) s.heap.size) args s 8 32 (va_A (swl G A n F b) s.heap.size)) (F0 m 169 ls []) := by
          intro  H locs ls  g hl
          have h02 : wk1 F2 (wb b i) (noH h) b 0 = nI h := (wk1_b hkb).trans h0
          have hb3 : Bf (wk1 F2 (wb b i) (noH h)) b := hb2.same (wk1_b hkb) (wk1_b hkb) (wk1_b hkb)
          refine lv_aload hx hb dX3_pass_169 (lv_at hl 5 rfl) ?_
          refine lv_iconst (v := 3) hx hb dX3_pass_171 (by decide) ?_
          refine x_rald S g (List.mem_append_left _ (swl_mr G _ _ _ (i := i) (by omega))) 3 3 rfl (by decide) rfl dX3_pass_172 ?_
          refine lv_bipush (v := 10) hx hb dX3_pass_173 (by decide) ?_
          refine lv_icmp_ge (tgt := 181) hx hb dX3_pass_175 (by decide) (fun c_175 => ?_) (fun c_175 => ?_)
          · refine lv_aload_n hx hb dX3_pass_181 rfl (lv_at hl 0 rfl) ?_
            refine lv_aload hx hb dX3_pass_182 (lv_at hl 5 rfl) ?_
            refine y_cq (rest := []) g (y_V (nA := 1) (As := [.ref (A (2 + i))]) S g (d_parts l G A n (wk1 F2 (wb b i) (noH h)) b h i hB h02 hh2 hin hn8 (wk_c1 hwc) hb3) (swl_m0 G _ _ _ _) (lw_V q484 q485 q486 q4 q487) ⟨rfl, by decide +kernel, by decide +kernel, by decide +kernel⟩ rfl ⟨Nat.le_of_ble_eq_true rfl, Nat.le_of_ble_eq_true rfl⟩ hl.1 (Nat.le_of_ble_eq_true rfl) rfl ⟨by show i + 1 ≤ 8; omega, by show 4 * i + 4 ≤ 32; omega⟩ dX3_pass_184) (fun r9 u184_0 H locs hp9 g => ?_)
            have g := g.eqw (List.append_assoc _ _ _)
            subst hp9
            refine lv_astore (lv' := [(6, .ref u184_0), (0, .ref (A 0)), (1, .int acc), (2, .ref (A 1)), (3, .int (nI n)), (4, .int (nI i)), (5, .ref (A (2 + i)))]) hx hb dX3_pass_187 hl (by decide) rfl (fun ls hl => ?_)
            refine lv_aload_n hx hb dX3_pass_189 rfl (lv_at hl 1 rfl) ?_
            refine lv_dup hx hb dX3_pass_190 rfl ?_
            refine x_geti S g (List.mem_append_right _ (List.mem_append_left _ (swl_m0 G _ _ _ _))) 1 (by decide) q435 dX3_pass_191 ?_
            refine lv_aload hx hb dX3_pass_194 (lv_at hl 0 rfl) ?_
            refine lv_iconst (v := 2) hx hb dX3_pass_196 (by decide) ?_
            refine x_iald S g (List.mem_append_left _ List.mem_cons_self) (by omega) 2 rfl (by decide) dX3_pass_197 ?_
            refine lv_isub hx hb dX3_pass_198 ?_
            have g := g.perm (pm2 _ _ _ )
            refine x_puti S g hB 1 (by decide) q435 dX3_pass_199 (fun H locs g => ?_)
            have g := g.eqw (show swl G A n (up2 ((wk1 F2 (wb b i) (noH h))) b 1 ((((wk1 F2 (wb b i) (noH h))) b 1) - ((ptI (wk1 F2 (wb b i) (noH h)) b (wb b i) h) 2))) b ++ ([(u184_0, arrI G 4 (ptI (wk1 F2 (wb b i) (noH h)) b (wb b i) h))] ++ []) = swl G A n (wk2 F2 b (wb b i) (suH h) (noH h)) b ++ ([(u184_0, arrI G 4 (ptI (wk1 F2 (wb b i) (noH h)) b (wb b i) h))] ++ []) from by rw [w2_eq])
            refine lv_aload_n hx hb dX3_pass_202 rfl (lv_at hl 1 rfl) ?_
            refine lv_dup hx hb dX3_pass_203 rfl ?_
            refine x_geti S g (List.mem_append_left _ (swl_m0 G _ _ _ _)) 5 (by decide) q443 dX3_pass_204 ?_
            refine lv_aload hx hb dX3_pass_207 (lv_at hl 0 rfl) ?_
            refine lv_iconst (v := 3) hx hb dX3_pass_209 (by decide) ?_
            refine x_iald S g (List.mem_append_right _ (List.mem_append_left _ List.mem_cons_self)) (by omega) 3 rfl (by decide) dX3_pass_210 ?_
            refine lv_iadd hx hb dX3_pass_211 ?_
            refine x_puti S g hB 5 (by decide) q443 dX3_pass_212 (fun H locs g => ?_)
            have g := g.eqw (show swl G A n (up2 (wk2 F2 b (wb b i) (suH h) (noH h)) b 5 (((wk2 F2 b (wb b i) (suH h) (noH h)) b 5) + ((ptI (wk1 F2 (wb b i) (noH h)) b (wb b i) h) 3))) b ++ ([(u184_0, arrI G 4 (ptI (wk1 F2 (wb b i) (noH h)) b (wb b i) h))] ++ []) = swl G A n (wk3 F2 b (wb b i) (suH h) (noH h)) b ++ ([(u184_0, arrI G 4 (ptI (wk1 F2 (wb b i) (noH h)) b (wb b i) h))] ++ []) from by rw [w3_eq])
            refine lv_aload hx hb dX3_pass_215 (lv_at hl 6 rfl) ?_
            refine lv_iconst (v := 2) hx hb dX3_pass_217 (by decide) ?_
            refine lv_dup2_11 hx hb dX3_pass_218 rfl rfl ?_
            refine x_rald S g (List.mem_append_left _ (swl_mr G _ _ _ (i := i) (by omega))) 2 2 rfl (by decide) rfl dX3_pass_219 ?_
            refine lv_aload hx hb dX3_pass_220 (lv_at hl 6 rfl) ?_
            refine lv_iconst (v := 2) hx hb dX3_pass_222 (by decide) ?_
            refine x_rald S g (List.mem_append_left _ (swl_mr G _ _ _ (i := i) (by omega))) 2 2 rfl (by decide) rfl dX3_pass_223 ?_
            refine lv_if_le (tgt := 231) hx hb dX3_pass_224 (by decide) (fun c_224 => ?_) (fun c_224 => ?_)
            · refine lv_iconst (v := 0) hx hb dX3_pass_231 (by decide) ?_
              refine lv_isub hx hb dX3_pass_232 ?_
              refine x_rst S g hB (q := i) (by omega) 2 2 rfl (by decide) rfl dX3_pass_233 (fun H locs g => ?_)
              refine lv_aload hx hb dX3_pass_234 (lv_at hl 6 rfl) ?_
              refine lv_iconst (v := 3) hx hb dX3_pass_236 (by decide) ?_
              refine lv_iconst (v := 0) hx hb dX3_pass_237 (by decide) ?_
              refine x_rst S g hB (q := i) (by omega) 3 3 rfl (by decide) rfl dX3_pass_238 (fun H locs g => ?_)
              refine lv_aload hx hb dX3_pass_239 (lv_at hl 6 rfl) ?_
              refine lv_iconst (v := 5) hx hb dX3_pass_241 (by decide) ?_
              refine lv_dup2_11 hx hb dX3_pass_242 rfl rfl ?_
              refine x_rald S g (List.mem_append_left _ (swl_mr G _ _ _ (i := i) (by omega))) 5 4 rfl (by decide) rfl dX3_pass_243 ?_
              refine lv_iconst (v := 1) hx hb dX3_pass_244 (by decide) ?_
              refine lv_iadd hx hb dX3_pass_245 ?_
              refine x_rst S g hB (q := i) (by omega) 5 4 rfl (by decide) rfl dX3_pass_246 (fun H locs g => ?_)
              have g := g.eqw (show swl G A n (up2 (up2 (up2 (wk3 F2 b (wb b i) (suH h) (noH h)) (wb b i) 2 (((wk3 F2 b (wb b i) (suH h) (noH h)) (wb b i) 2) - 0)) (wb b i) 3 0) (wb b i) 4 (((up2 (up2 (wk3 F2 b (wb b i) (suH h) (noH h)) (wb b i) 2 (((wk3 F2 b (wb b i) (suH h) (noH h)) (wb b i) 2) - 0)) (wb b i) 3 0) (wb b i) 4) + 1)) b ++ ([(u184_0, arrI G 4 (ptI (wk1 F2 (wb b i) (noH h)) b (wb b i) h))] ++ []) = swl G A n (fallF (wk3 F2 b (wb b i) (suH h) (noH h)) (wb b i)) b ++ ([(u184_0, arrI G 4 (ptI (wk1 F2 (wb b i) (noH h)) b (wb b i) h))] ++ []) from by rw [fl_eq (nt_n (wk_c3 hwc hkb) c_224)])
              refine lv_iinc (v := acc + 1) (lv' := [(1, .int (acc + 1)), (6, .ref u184_0), (0, .ref (A 0)), (2, .ref (A 1)), (3, .int (nI n)), (4, .int (nI i)), (5, .ref (A (2 + i)))]) hx hb dX3_pass_247 hl (k := 2) rfl rfl (by decide) rfl (fun ls hl => ?_)
              refine lv_iinc (v := nI (i + 1)) (lv' := [(4, .int (nI (i + 1))), (1, .int (acc + 1)), (6, .ref u184_0), (0, .ref (A 0)), (2, .ref (A 1)), (3, .int (nI n)), (5, .ref (A (2 + i)))]) hx hb dX3_pass_250 hl (k := 5) rfl (nI_1 i) (by decide) rfl (fun ls hl => ?_)
              refine lv_goto (tgt := 114) hx hb dX3_pass_253 (by decide) ?_
              obtain ⟨e9, b9, w9⟩ := hr_step (n := n) (i := i) hB (wkF_fl c_175).symm h0 hb2 hw2
              have g := g.sl (List.Sublist.append (List.Sublist.refl _) (List.nil_sublist _))
              refine W.widen (k := i + 1) (n := 4 * (i + 1)) (by omega) (by omega) ?_
              exact ih_114 (i + 1) (acc + 1) (fallF (wk3 F2 b (wb b i) (suH h) (noH h)) (wb b i)) _ _ _ (by omega) e9 b9 w9 (hr_y c_175 hres) g (lv_sub hl [3, 1, 4, 5, 0] rfl)
            · refine lv_iconst (v := 1) hx hb dX3_pass_227 (by decide) ?_
              refine lv_goto (tgt := 232) hx hb dX3_pass_228 (by decide) ?_
              refine lv_isub hx hb dX3_pass_232 ?_
              refine x_rst S g hB (q := i) (by omega) 2 2 rfl (by decide) rfl dX3_pass_233 (fun H locs g => ?_)
              refine lv_aload hx hb dX3_pass_234 (lv_at hl 6 rfl) ?_
              refine lv_iconst (v := 3) hx hb dX3_pass_236 (by decide) ?_
              refine lv_iconst (v := 0) hx hb dX3_pass_237 (by decide) ?_
              refine x_rst S g hB (q := i) (by omega) 3 3 rfl (by decide) rfl dX3_pass_238 (fun H locs g => ?_)
              refine lv_aload hx hb dX3_pass_239 (lv_at hl 6 rfl) ?_
              refine lv_iconst (v := 5) hx hb dX3_pass_241 (by decide) ?_
              refine lv_dup2_11 hx hb dX3_pass_242 rfl rfl ?_
              refine x_rald S g (List.mem_append_left _ (swl_mr G _ _ _ (i := i) (by omega))) 5 4 rfl (by decide) rfl dX3_pass_243 ?_
              refine lv_iconst (v := 1) hx hb dX3_pass_244 (by decide) ?_
              refine lv_iadd hx hb dX3_pass_245 ?_
              refine x_rst S g hB (q := i) (by omega) 5 4 rfl (by decide) rfl dX3_pass_246 (fun H locs g => ?_)
              have g := g.eqw (show swl G A n (up2 (up2 (up2 (wk3 F2 b (wb b i) (suH h) (noH h)) (wb b i) 2 (((wk3 F2 b (wb b i) (suH h) (noH h)) (wb b i) 2) - 1)) (wb b i) 3 0) (wb b i) 4 (((up2 (up2 (wk3 F2 b (wb b i) (suH h) (noH h)) (wb b i) 2 (((wk3 F2 b (wb b i) (suH h) (noH h)) (wb b i) 2) - 1)) (wb b i) 3 0) (wb b i) 4) + 1)) b ++ ([(u184_0, arrI G 4 (ptI (wk1 F2 (wb b i) (noH h)) b (wb b i) h))] ++ []) = swl G A n (fallF (wk3 F2 b (wb b i) (suH h) (noH h)) (wb b i)) b ++ ([(u184_0, arrI G 4 (ptI (wk1 F2 (wb b i) (noH h)) b (wb b i) h))] ++ []) from by rw [fl_eq (nt_y (wk_c3 hwc hkb) c_224)])
              refine lv_iinc (v := acc + 1) (lv' := [(1, .int (acc + 1)), (6, .ref u184_0), (0, .ref (A 0)), (2, .ref (A 1)), (3, .int (nI n)), (4, .int (nI i)), (5, .ref (A (2 + i)))]) hx hb dX3_pass_247 hl (k := 2) rfl rfl (by decide) rfl (fun ls hl => ?_)
              refine lv_iinc (v := nI (i + 1)) (lv' := [(4, .int (nI (i + 1))), (1, .int (acc + 1)), (6, .ref u184_0), (0, .ref (A 0)), (2, .ref (A 1)), (3, .int (nI n)), (5, .ref (A (2 + i)))]) hx hb dX3_pass_250 hl (k := 5) rfl (nI_1 i) (by decide) rfl (fun ls hl => ?_)
              refine lv_goto (tgt := 114) hx hb dX3_pass_253 (by decide) ?_
              obtain ⟨e9, b9, w9⟩ := hr_step (n := n) (i := i) hB (wkF_fl c_175).symm h0 hb2 hw2
              have g := g.sl (List.Sublist.append (List.Sublist.refl _) (List.nil_sublist _))
              refine W.widen (k := i + 1) (n := 4 * (i + 1)) (by omega) (by omega) ?_
              exact ih_114 (i + 1) (acc + 1) (fallF (wk3 F2 b (wb b i) (suH h) (noH h)) (wb b i)) _ _ _ (by omega) e9 b9 w9 (hr_y c_175 hres) g (lv_sub hl [3, 1, 4, 5, 0] rfl)
          · refine lv_goto (tgt := 250) hx hb dX3_pass_178 (by decide) ?_
            refine lv_iinc (v := nI (i + 1)) (lv' := [(4, .int (nI (i + 1))), (0, .ref (A 0)), (1, .int acc), (2, .ref (A 1)), (3, .int (nI n)), (5, .ref (A (2 + i)))]) hx hb dX3_pass_250 hl (k := 4) rfl (nI_1 i) (by decide) rfl (fun ls hl => ?_)
            refine lv_goto (tgt := 114) hx hb dX3_pass_253 (by decide) ?_
            obtain ⟨e9, b9, w9⟩ := hr_step (n := n) (i := i) hB (wkF_no c_175).symm h0 hb2 hw2
            refine W.widen (k := i + 1) (n := 4 * (i + 1)) (by omega) (by omega) ?_
            exact ih_114 (i + 1) (acc) (wk1 F2 (wb b i) (noH h)) _ _ _ (by omega) e9 b9 w9 (hr_n c_175 hres) g (lv_sub hl [1, 2, 3, 4, 0] rfl)
        refine lv_iload hx hb dX3_pass_114 (lv_at hl 4 rfl) ?_
        refine lv_iload_n hx hb dX3_pass_116 rfl (lv_at hl 3 rfl) ?_
        refine lv_icmp_ge (tgt := 256) hx hb dX3_pass_117 (by decide) (fun c9 => absurd c9 (nI_ge (by omega) (by omega))) (fun c_117 => ?_)
        refine lv_aload_n hx hb dX3_pass_120 rfl (lv_at hl 2 rfl) ?_
        refine lv_iload hx hb dX3_pass_121 (lv_at hl 4 rfl) ?_
        refine x_aald (v := A (2 + i)) S g (List.mem_append_left _ (swl_m1 G _ _ _ _)) (by omega) i rfl (by omega) rfl dX3_pass_123 ?_
        refine lv_astore (lv' := [(5, .ref (A (2 + i))), (0, .ref (A 0)), (1, .int acc), (2, .ref (A 1)), (3, .int (nI n)), (4, .int (nI i))]) hx hb dX3_pass_124 hl (by decide) rfl (fun ls hl => ?_)
        refine lv_aload hx hb dX3_pass_126 (lv_at hl 0 rfl) ?_
        refine lv_iconst (v := 3) hx hb dX3_pass_128 (by decide) ?_
        refine lv_dup2_11 hx hb dX3_pass_129 rfl rfl ?_
        refine x_rald S g (List.mem_append_left _ (swl_mr G _ _ _ (i := i) (by omega))) 3 3 rfl (by decide) rfl dX3_pass_130 ?_
        refine lv_aload hx hb dX3_pass_131 (lv_at hl 0 rfl) ?_
        refine lv_iconst (v := 0) hx hb dX3_pass_133 (by decide) ?_
        refine x_rald S g (List.mem_append_left _ (swl_mr G _ _ _ (i := i) (by omega))) 0 0 rfl (by decide) rfl dX3_pass_134 ?_
        refine lv_iconst (v := 5) hx hb dX3_pass_135 (by decide) ?_
        refine lv_idiv hx hb dX3_pass_136 (by decide) ?_
        refine lv_aload_n hx hb dX3_pass_137 rfl (lv_at hl 1 rfl) ?_
        refine y_ci (rest := [.int ((F2 (wb b i) 0) / 5), .int (F2 (wb b i) 3), .int 3, .ref (A (2 + i))]) g (y_V (nA := 0) (As := []) S g (d_isNoon l G A n F2 b h h0 hh2) (swl_m0 G _ _ _ _) (lw_V q476 q477 q478 q4 q479) ⟨rfl, by decide +kernel, by decide +kernel, by decide +kernel⟩ rfl ⟨Nat.le_of_ble_eq_true rfl, Nat.le_of_ble_eq_true rfl⟩ hl.1 (Nat.le_of_ble_eq_true rfl) rfl ⟨by show i + 0 ≤ 8; omega, by show 4 * i + 0 ≤ 32; omega⟩ dX3_pass_138) (fun r9 u138_1 H locs hp9 g => ?_)
        subst hp9
        refine lv_if_eq (tgt := 148) hx hb dX3_pass_141 (by decide) (fun c_141 => ?_) (fun c_141 => ?_)
        · refine lv_iconst (v := 1) hx hb dX3_pass_148 (by decide) ?_
          refine lv_iadd hx hb dX3_pass_149 ?_
          refine lv_aload hx hb dX3_pass_150 (lv_at hl 0 rfl) ?_
          refine lv_iconst (v := 1) hx hb dX3_pass_152 (by decide) ?_
          refine x_rald S g (List.mem_append_left _ (swl_mr G _ _ _ (i := i) (by omega))) 1 1 rfl (by decide) rfl dX3_pass_153 ?_
          refine lv_isub hx hb dX3_pass_154 ?_
          refine lv_iadd hx hb dX3_pass_155 ?_
          refine x_rst S g hB (q := i) (by omega) 3 3 rfl (by decide) rfl dX3_pass_156 (fun H locs g => ?_)
          refine lv_aload hx hb dX3_pass_157 (lv_at hl 0 rfl) ?_
          refine lv_iconst (v := 3) hx hb dX3_pass_159 (by decide) ?_
          refine x_rald S g (List.mem_append_left _ (swl_mr G _ _ _ (i := i) (by omega))) 3 3 rfl (by decide) rfl dX3_pass_160 ?_
          rw [show ((up2 F2 (wb b i) 3 ((F2 (wb b i) 3) + ((((F2 (wb b i) 0) / 5) + 1) - (F2 (wb b i) 1)))) (wb b i) 3 : Int32) = (F2 (wb b i) 3) + ((((F2 (wb b i) 0) / 5) + 1) - (F2 (wb b i) 1)) from (up2_s _ _ _ _)]
          refine lv_if_ge (tgt := 169) hx hb dX3_pass_161 (by decide) (fun c_161 => ?_) (fun c_161 => ?_)
          · have g := g.eqw (show swl G A n (up2 F2 (wb b i) 3 ((F2 (wb b i) 3) + ((((F2 (wb b i) 0) / 5) + 1) - (F2 (wb b i) 1)))) b ++ [] = swl G A n (wk1 F2 (wb b i) (noH h)) b ++ [] from by rw [wk_y c_161 (Or.inl ⟨c_141, rfl⟩)])
            exact join169  _ _ _  g (lv_sub hl [1, 2, 3, 4, 5, 0] rfl)
          · refine lv_aload hx hb dX3_pass_164 (lv_at hl 0 rfl) ?_
            refine lv_iconst (v := 3) hx hb dX3_pass_166 (by decide) ?_
            refine lv_iconst (v := 0) hx hb dX3_pass_167 (by decide) ?_
            refine x_rst S g hB (q := i) (by omega) 3 3 rfl (by decide) rfl dX3_pass_168 (fun H locs g => ?_)
            have g := g.eqw (show swl G A n (up2 (up2 F2 (wb b i) 3 ((F2 (wb b i) 3) + ((((F2 (wb b i) 0) / 5) + 1) - (F2 (wb b i) 1)))) (wb b i) 3 0) b ++ [] = swl G A n (wk1 F2 (wb b i) (noH h)) b ++ [] from by rw [wk_z c_161 (Or.inl ⟨c_141, rfl⟩)])
            exact join169  _ _ _  g (lv_sub hl [1, 2, 3, 4, 5, 0] rfl)
        · refine lv_iconst (v := 2) hx hb dX3_pass_144 (by decide) ?_
          refine lv_goto (tgt := 149) hx hb dX3_pass_145 (by decide) ?_
          refine lv_iadd hx hb dX3_pass_149 ?_
          refine lv_aload hx hb dX3_pass_150 (lv_at hl 0 rfl) ?_
          refine lv_iconst (v := 1) hx hb dX3_pass_152 (by decide) ?_
          refine x_rald S g (List.mem_append_left _ (swl_mr G _ _ _ (i := i) (by omega))) 1 1 rfl (by decide) rfl dX3_pass_153 ?_
          refine lv_isub hx hb dX3_pass_154 ?_
          refine lv_iadd hx hb dX3_pass_155 ?_
          refine x_rst S g hB (q := i) (by omega) 3 3 rfl (by decide) rfl dX3_pass_156 (fun H locs g => ?_)
          refine lv_aload hx hb dX3_pass_157 (lv_at hl 0 rfl) ?_
          refine lv_iconst (v := 3) hx hb dX3_pass_159 (by decide) ?_
          refine x_rald S g (List.mem_append_left _ (swl_mr G _ _ _ (i := i) (by omega))) 3 3 rfl (by decide) rfl dX3_pass_160 ?_
          rw [show ((up2 F2 (wb b i) 3 ((F2 (wb b i) 3) + ((((F2 (wb b i) 0) / 5) + 2) - (F2 (wb b i) 1)))) (wb b i) 3 : Int32) = (F2 (wb b i) 3) + ((((F2 (wb b i) 0) / 5) + 2) - (F2 (wb b i) 1)) from (up2_s _ _ _ _)]
          refine lv_if_ge (tgt := 169) hx hb dX3_pass_161 (by decide) (fun c_161 => ?_) (fun c_161 => ?_)
          · have g := g.eqw (show swl G A n (up2 F2 (wb b i) 3 ((F2 (wb b i) 3) + ((((F2 (wb b i) 0) / 5) + 2) - (F2 (wb b i) 1)))) b ++ [] = swl G A n (wk1 F2 (wb b i) (noH h)) b ++ [] from by rw [wk_y c_161 (Or.inr ⟨c_141, rfl⟩)])
            exact join169  _ _ _  g (lv_sub hl [1, 2, 3, 4, 5, 0] rfl)
          · refine lv_aload hx hb dX3_pass_164 (lv_at hl 0 rfl) ?_
            refine lv_iconst (v := 3) hx hb dX3_pass_166 (by decide) ?_
            refine lv_iconst (v := 0) hx hb dX3_pass_167 (by decide) ?_
            refine x_rst S g hB (q := i) (by omega) 3 3 rfl (by decide) rfl dX3_pass_168 (fun H locs g => ?_)
            have g := g.eqw (show swl G A n (up2 (up2 F2 (wb b i) 3 ((F2 (wb b i) 3) + ((((F2 (wb b i) 0) / 5) + 2) - (F2 (wb b i) 1)))) (wb b i) 3 0) b ++ [] = swl G A n (wk1 F2 (wb b i) (noH h)) b ++ [] from by rw [wk_z c_161 (Or.inr ⟨c_141, rfl⟩)])
            exact join169  _ _ _  g (lv_sub hl [1, 2, 3, 4, 5, 0] rfl)
    exact loop114 n 0 0 F1 _ _ _ (by omega) h01 hb1 (fun j _ hj => hw1 j hj) (by rw [hF1]; rfl) g (lv_sub hl [4, 3, 2, 1, 0] rfl)
  refine lv_aload_n hx hb dX3_pass_0 rfl (lv_at hl 0 rfl) ?_
  refine y_ci (rest := []) g (y_V (nA := 0) (As := []) S g (d_ofDay l G A n F b h hh hh2) (swl_m0 G _ _ _ _) (lw_V q472 q473 q474 q4 q475) ⟨rfl, by decide +kernel, by decide +kernel, by decide +kernel⟩ rfl ⟨Nat.le_of_ble_eq_true rfl, Nat.le_of_ble_eq_true rfl⟩ hl.1 (Nat.le_of_ble_eq_true rfl) rfl ⟨Nat.le_of_ble_eq_true rfl, Nat.le_of_ble_eq_true rfl⟩ dX3_pass_1) (fun r9 u1_2 H locs hp9 g => ?_)
  subst hp9
  refine lv_if_ne (tgt := 101) hx hb dX3_pass_4 (by decide) (fun c_4 => ?_) (fun c_4 => ?_)
  · exact join101 F _ _ _ (if_neg c_4).symm g (lv_sub hl [0] rfl)
  · refine lv_aload_n hx hb dX3_pass_7 rfl (lv_at hl 0 rfl) ?_
    refine x_geta S g (List.mem_append_left _ (swl_m0 G _ _ _ _)) q444 dX3_pass_8 ?_
    refine lv_astore_n (lv' := [(1, .ref (A 1)), (0, .ref (A 0))]) hx hb dX3_pass_11 rfl hl (by decide) rfl (fun ls hl => ?_)
    refine lv_aload_n hx hb dX3_pass_12 rfl (lv_at hl 0 rfl) ?_
    refine x_alen S g (List.mem_append_left _ (swl_m1 G _ _ _ _)) 2 rfl dX3_pass_13 ?_
    refine lv_istore_n (lv' := [(2, .int (nI n)), (1, .ref (A 1)), (0, .ref (A 0))]) hx hb dX3_pass_14 rfl hl (by decide) rfl (fun ls hl => ?_)
    refine lv_iconst (v := 0) hx hb dX3_pass_15 (by decide) ?_
    refine lv_istore_n (lv' := [(3, .int 0), (2, .int (nI n)), (1, .ref (A 1)), (0, .ref (A 0))]) hx hb dX3_pass_16 rfl hl (by decide) rfl (fun ls hl => ?_)
    have loop17 : ∀ (n_ : Nat) (i : Nat) (v : Int32) (H : Heap) (locs : List Loc) (ls : Array Slot) (hi : i + n_ = n) (hv : v + F b 2 * cmL F b n_ i 0 = F b 1 + F b 2 * cmL F b n 0 0), GX G (va_A (swl G A n F b) s.heap.size) (swl G A n (up2 F b 1 v) b ++ []) s H locs → lv_has ls 7 [(0, .ref (A 0)), (1, .ref (A 1)), (2, .int (nI n)), (3, .int (nI i))] → W p l e (rmC 4 87 8 32) s m args below meth c H locs (0) (0) (MQ below (QXi G (fun (r : Int32) (_ : Unit) => r = hrR F b n h) (fun (_ : Unit) => swl G A n (hrF F b n h) b) (swl G A n F b) s.heap.size) args s 8 32 (va_A (swl G A n F b) s.heap.size)) (F0 m 17 ls []) := by
      intro n_
      induction n_ with
      | zero =>
        intro i v H locs ls hi hv g hl
        refine lv_iload_n hx hb dX3_pass_17 rfl (lv_at hl 3 rfl) ?_
        refine lv_iload_n hx hb dX3_pass_18 rfl (lv_at hl 2 rfl) ?_
        refine lv_icmp_ge (tgt := 58) hx hb dX3_pass_19 (by decide) (fun c_19 => ?_) (fun c9 => absurd (nI_le (by omega) (by omega)) c9)
        have g := g.eqw (show swl G A n (up2 F b 1 v) b ++ [] = swl G A n (pay1 F b n) b ++ [] from by rw [rt_end hv])
        refine lv_aload_n hx hb dX3_pass_58 rfl (lv_at hl 0 rfl) ?_
        refine x_geti S g (List.mem_append_left _ (swl_m0 G _ _ _ _)) 4 (by decide) q441 dX3_pass_59 ?_
        refine lv_if_le (tgt := 101) hx hb dX3_pass_62 (by decide) (fun c_62 => ?_) (fun c_62 => ?_)
        · exact join101 (pay1 F b n) _ _ _ (by rw [if_pos c_4, py_n hbf c_62]) g (lv_sub hl [0] rfl)
        · refine lv_aload_n hx hb dX3_pass_65 rfl (lv_at hl 0 rfl) ?_
          refine lv_dup hx hb dX3_pass_66 rfl ?_
          refine x_geti S g (List.mem_append_left _ (swl_m0 G _ _ _ _)) 1 (by decide) q435 dX3_pass_67 ?_
          refine lv_iconst (v := 1) hx hb dX3_pass_70 (by decide) ?_
          refine lv_aload_n hx hb dX3_pass_71 rfl (lv_at hl 0 rfl) ?_
          refine x_geti S g (List.mem_append_left _ (swl_m0 G _ _ _ _)) 4 (by decide) q441 dX3_pass_72 ?_
          refine lv_bipush (v := 20) hx hb dX3_pass_75 (by decide) ?_
          refine lv_idiv hx hb dX3_pass_77 (by decide) ?_
          refine lv_iadd hx hb dX3_pass_78 ?_
          refine lv_isub hx hb dX3_pass_79 ?_
          refine x_puti S g hB 1 (by decide) q435 dX3_pass_80 (fun H locs g => ?_)
          refine lv_aload_n hx hb dX3_pass_83 rfl (lv_at hl 0 rfl) ?_
          refine lv_dup hx hb dX3_pass_84 rfl ?_
          refine x_geti S g (List.mem_append_left _ (swl_m0 G _ _ _ _)) 5 (by decide) q443 dX3_pass_85 ?_
          refine lv_iconst (v := 1) hx hb dX3_pass_88 (by decide) ?_
          refine lv_aload_n hx hb dX3_pass_89 rfl (lv_at hl 0 rfl) ?_
          refine x_geti S g (List.mem_append_left _ (swl_m0 G _ _ _ _)) 4 (by decide) q441 dX3_pass_90 ?_
          rw [show ((up2 (pay1 F b n) b 1 (((pay1 F b n) b 1) - (1 + (((pay1 F b n) b 4) / 20)))) b 4 : Int32) = pay1 F b n b 4 from (up2_ne _ _ (by omega))]
          refine lv_bipush (v := 20) hx hb dX3_pass_93 (by decide) ?_
          refine lv_idiv hx hb dX3_pass_95 (by decide) ?_
          refine lv_iadd hx hb dX3_pass_96 ?_
          refine lv_isub hx hb dX3_pass_97 ?_
          refine x_puti S g hB 5 (by decide) q443 dX3_pass_98 (fun H locs g => ?_)
          have g := g.eqw (show swl G A n (up2 (up2 (pay1 F b n) b 1 (((pay1 F b n) b 1) - (1 + (((pay1 F b n) b 4) / 20)))) b 5 (((up2 (pay1 F b n) b 1 (((pay1 F b n) b 1) - (1 + (((pay1 F b n) b 4) / 20)))) b 5) - (1 + ((pay1 F b n b 4) / 20)))) b ++ [] = swl G A n (payF F b n) b ++ [] from by rw [py_eq (py_y c_62)])
          exact join101 (payF F b n) _ _ _ (if_pos c_4).symm g (lv_sub hl [0] rfl)
      | succ n_ ih_17 =>
        intro i v H locs ls hi hv g hl
        have hin : i < n := by omega
        have hkb : wb b i ≠ b := fun e => by have := wb_lo hB i; omega
        refine lv_iload_n hx hb dX3_pass_17 rfl (lv_at hl 3 rfl) ?_
        refine lv_iload_n hx hb dX3_pass_18 rfl (lv_at hl 2 rfl) ?_
        refine lv_icmp_ge (tgt := 58) hx hb dX3_pass_19 (by decide) (fun c9 => absurd c9 (nI_ge (by omega) (by omega))) (fun c_19 => ?_)
        refine lv_aload_n hx hb dX3_pass_22 rfl (lv_at hl 1 rfl) ?_
        refine lv_iload_n hx hb dX3_pass_23 rfl (lv_at hl 3 rfl) ?_
        refine x_aald (v := A (2 + i)) S g (List.mem_append_left _ (swl_m1 G _ _ _ _)) (by omega) i rfl (by omega) rfl dX3_pass_24 ?_
        refine lv_astore (lv' := [(4, .ref (A (2 + i))), (0, .ref (A 0)), (1, .ref (A 1)), (2, .int (nI n)), (3, .int (nI i))]) hx hb dX3_pass_25 hl (by decide) rfl (fun ls hl => ?_)
        refine lv_aload_n hx hb dX3_pass_27 rfl (lv_at hl 1 rfl) ?_
        refine lv_dup hx hb dX3_pass_28 rfl ?_
        refine x_geti S g (List.mem_append_left _ (swl_m0 G _ _ _ _)) 1 (by decide) q435 dX3_pass_29 ?_
        rw [show ((up2 F b 1 v) b 1 : Int32) = v from (up2_s _ _ _ _)]
        refine lv_aload hx hb dX3_pass_32 (lv_at hl 0 rfl) ?_
        refine lv_iconst (v := 4) hx hb dX3_pass_34 (by decide) ?_
        refine x_rald S g (List.mem_append_left _ (swl_mr G _ _ _ (i := i) (by omega))) 4 5 rfl (by decide) rfl dX3_pass_35 ?_
        rw [show ((up2 F b 1 v) (wb b i) 5 : Int32) = F (wb b i) 5 from (up2_ne _ _ (fun z => hkb z.1))]
        refine lv_iconst (v := 1) hx hb dX3_pass_36 (by decide) ?_
        refine lv_icmp_ne (tgt := 47) hx hb dX3_pass_37 (by decide) (fun c_37 => ?_) (fun c_37 => ?_)
        · refine lv_iconst (v := 0) hx hb dX3_pass_47 (by decide) ?_
          refine lv_iadd hx hb dX3_pass_48 ?_
          refine x_puti S g hB 1 (by decide) q435 dX3_pass_49 (fun H locs g => ?_)
          have g := g.eqw (show swl G A n (up2 (up2 F b 1 v) b 1 (v + 0)) b ++ [] = swl G A n (up2 F b 1 (v + 0)) b ++ [] from by rw [up2_up2])
          refine lv_iinc (v := nI (i + 1)) (lv' := [(3, .int (nI (i + 1))), (4, .ref (A (2 + i))), (0, .ref (A 0)), (1, .ref (A 1)), (2, .int (nI n))]) hx hb dX3_pass_52 hl (k := 4) rfl (nI_1 i) (by decide) rfl (fun ls hl => ?_)
          refine lv_goto (tgt := 17) hx hb dX3_pass_55 (by decide) ?_
          exact ih_17 (i + 1) (v + 0) _ _ _ (by omega) (rt_n ((hwk i hin).mem.resolve_right c_37) hv) g (lv_sub hl [2, 3, 4, 0] rfl)
        · refine lv_aload_n hx hb dX3_pass_40 rfl (lv_at hl 1 rfl) ?_
          refine x_geti S g (List.mem_append_left _ (swl_m0 G _ _ _ _)) 2 (by decide) q437 dX3_pass_41 ?_
          rw [show ((up2 F b 1 v) b 2 : Int32) = F b 2 from (up2_ne _ _ (by omega))]
          refine lv_goto (tgt := 48) hx hb dX3_pass_44 (by decide) ?_
          refine lv_iadd hx hb dX3_pass_48 ?_
          refine x_puti S g hB 1 (by decide) q435 dX3_pass_49 (fun H locs g => ?_)
          have g := g.eqw (show swl G A n (up2 (up2 F b 1 v) b 1 (v + (F b 2))) b ++ [] = swl G A n (up2 F b 1 (v + (F b 2))) b ++ [] from by rw [up2_up2])
          refine lv_iinc (v := nI (i + 1)) (lv' := [(3, .int (nI (i + 1))), (4, .ref (A (2 + i))), (0, .ref (A 0)), (1, .ref (A 1)), (2, .int (nI n))]) hx hb dX3_pass_52 hl (k := 4) rfl (nI_1 i) (by decide) rfl (fun ls hl => ?_)
          refine lv_goto (tgt := 17) hx hb dX3_pass_55 (by decide) ?_
          exact ih_17 (i + 1) (v + F b 2) _ _ _ (by omega) (rt_y c_37 hv) g (lv_sub hl [2, 3, 4, 0] rfl)
    have g := g.eqw (show swl G A n F b ++ [] = swl G A n (up2 F b 1 (F b 1)) b ++ [] from by rw [up2_id])
    exact loop17 n 0 (F b 1) _ _ _ (by omega) rfl g (lv_sub hl [3, 2, 1, 0] rfl)
set_option maxHeartbeats 4000000 in
set_option maxRecDepth 100000 in
theorem d_passN (l : Launch) (G : gT) (A : Nat → Nat) (n : Nat) (F : Fs) (b : Nat) (h : Nat) (t : Nat) (hB : b = 1 ∨ b = 2) (hh2 : h + t < 2 ^ 29) (ht : t ≤ 60) (hK : Bk F b n h) : ∀ sz : Nat, Met l yX3_pass_ (wsG yX3_pass_ cX3_pass_ 4 (some .int)) (rmC 5 113 480 1920) (va_Pc [.ref (A 0), .int (nI t)] (preX G (swl G A n F b) sz)) (QXi G (fun (r : Int32) (_ : Unit) => r = (gbL b n t h 0 F).1) (fun (_ : Unit) => swl G A n ((gbL b n t h 0 F).2) b) (swl G A n F b) sz) 480 1920 (va_A (swl G A n F b) sz) := by
  refine mk_Y (own := "ShadowPoolLaw$Sim") (Qs := fun sz => QXi G (fun (r : Int32) (_ : Unit) => r = (gbL b n t h 0 F).1) (fun (_ : Unit) => swl G A n ((gbL b n t h 0 F).2) b) (swl G A n F b) sz) (by decide +kernel) rfl (Nat.le_of_ble_eq_true rfl) ?_
  intro p e s m args below meth c ls hr hk0 hnm S g hl
  have hl : lv_has ls 4 [(0, .ref (A 0)), (1, .int (nI t))] := hl
  have hx := S.1
  have hb := S.2.1
  have g := g.eqw (List.append_nil _).symm
  refine lv_iconst (v := 0) hx hb dX3_pass__0 (by decide) ?_
  refine lv_istore_n (lv' := [(2, .int 0), (0, .ref (A 0)), (1, .int (nI t))]) hx hb dX3_pass__1 rfl hl (by decide) rfl (fun ls hl => ?_)
  refine lv_iconst (v := 0) hx hb dX3_pass__2 (by decide) ?_
  refine lv_istore_n (lv' := [(3, .int 0), (2, .int 0), (0, .ref (A 0)), (1, .int (nI t))]) hx hb dX3_pass__3 rfl hl (by decide) rfl (fun ls hl => ?_)
  have loop4 : ∀ (n_ : Nat) (i : Nat) (acc : Int32) (F1 : Fs) (H : Heap) (locs : List Loc) (ls : Array Slot) (hi : i + n_ = t) (hK1 : Bk F1 b n (h + i)) (hres : gbL b n n_ (h + i) acc F1 = gbL b n t h 0 F), GX G (va_A (swl G A n F b) s.heap.size) (swl G A n F1 b ++ []) s H locs → lv_has ls 4 [(0, .ref (A 0)), (1, .int (nI t)), (2, .int acc), (3, .int (nI i))] → W p l e (rmC 5 113 480 1920) s m args below meth c H locs (8 * i) (32 * i) (MQ below (QXi G (fun (r : Int32) (_ : Unit) => r = (gbL b n t h 0 F).1) (fun (_ : Unit) => swl G A n ((gbL b n t h 0 F).2) b) (swl G A n F b) s.heap.size) args s 480 1920 (va_A (swl G A n F b) s.heap.size)) (F0 m 4 ls []) := by
    intro n_
    induction n_ with
    | zero =>
      intro i acc F1 H locs ls hi hK1 hres g hl
      refine lv_iload_n hx hb dX3_pass__4 rfl (lv_at hl 3 rfl) ?_
      refine lv_iload_n hx hb dX3_pass__5 rfl (lv_at hl 1 rfl) ?_
      refine lv_icmp_ge (tgt := 22) hx hb dX3_pass__6 (by decide) (fun c_6 => ?_) (fun c9 => absurd (nI_le (by omega) (by omega)) c9)
      refine lv_iload_n hx hb dX3_pass__22 rfl (lv_at hl 2 rfl) ?_
      have g := g.eqw (show swl G A n F1 b ++ [] = swl G A n (gbL b n t h 0 F).2 b ++ [] from by rw [← hres]; rfl)
      refine W.widen (k := 480) (n := 1920) (by omega) (by omega) ?_
      have g := g.eqw (List.append_nil _)
      exact f_i (()) S hr hk0 g (by rw [← hres]; rfl) dX3_pass__23
    | succ n_ ih_4 =>
      intro i acc F1 H locs ls hi hK1 hres g hl
      refine lv_iload_n hx hb dX3_pass__4 rfl (lv_at hl 3 rfl) ?_
      refine lv_iload_n hx hb dX3_pass__5 rfl (lv_at hl 1 rfl) ?_
      refine lv_icmp_ge (tgt := 22) hx hb dX3_pass__6 (by decide) (fun c9 => absurd c9 (nI_ge (by omega) (by omega))) (fun c_6 => ?_)
      refine lv_iload_n hx hb dX3_pass__9 rfl (lv_at hl 2 rfl) ?_
      refine lv_aload_n hx hb dX3_pass__10 rfl (lv_at hl 0 rfl) ?_
      refine y_ci (rest := [.int acc]) g (y_V (nA := 0) (As := []) S g (d_pass l G A n F1 b (h + i) hB (by omega) hK1) (swl_m0 G _ _ _ _) (lw_V q496 q469 q470 q4 q471) ⟨rfl, by decide +kernel, by decide +kernel, by decide +kernel⟩ rfl ⟨Nat.le_of_ble_eq_true rfl, Nat.le_of_ble_eq_true rfl⟩ hl.1 (Nat.le_of_ble_eq_true rfl) rfl ⟨by show 8 * i + 8 ≤ 480; omega, by show 32 * i + 32 ≤ 1920; omega⟩ dX3_pass__11) (fun r9 u11_0 H locs hp9 g => ?_)
      subst hp9
      refine lv_iadd hx hb dX3_pass__14 ?_
      refine lv_istore_n (lv' := [(2, .int (acc + (hrR F1 b n (h + i)))), (0, .ref (A 0)), (1, .int (nI t)), (3, .int (nI i))]) hx hb dX3_pass__15 rfl hl (by decide) rfl (fun ls hl => ?_)
      refine lv_iinc (v := nI (i + 1)) (lv' := [(3, .int (nI (i + 1))), (2, .int (acc + (hrR F1 b n (h + i)))), (0, .ref (A 0)), (1, .int (nI t))]) hx hb dX3_pass__16 hl (k := 3) rfl (nI_1 i) (by decide) rfl (fun ls hl => ?_)
      refine lv_goto (tgt := 4) hx hb dX3_pass__19 (by decide) ?_
      refine W.widen (k := 8 * (i + 1)) (n := 32 * (i + 1)) (by omega) (by omega) ?_
      exact ih_4 (i + 1) _ _ _ _ _ (by omega) (by have h9 := bk_hour hB hK1; rw [show h + (i + 1) = h + i + 1 by omega]; exact h9) hres g (lv_sub hl [2, 3, 1, 0] rfl)
  exact loop4 t 0 0 F _ _ _ (by omega) hK rfl g (lv_sub hl [2, 3, 1, 0] rfl)
