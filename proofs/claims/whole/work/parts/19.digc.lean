set_option maxHeartbeats 4000000 in
set_option maxRecDepth 100000 in
theorem m_digest (l : Launch) (G : gT) (F : Fs) (o : Int64) (n : Nat) (h : Nat) (hok : okM F n h) (hn8 : n ≤ 8) (hh2 : h < 2 ^ 28) : MLc l yX3_digest cX3_digest 10 11 237 9 76 [.ref (gA G 21)] G (F) o (dmF F n h) (dmI F n h) := by
  refine mk_GC (own := "ShadowPoolModel") (Qs := (fun sz => QL G (dmF F n h) o (dmI F n h) sz)) (by decide +kernel) rfl (Nat.le_of_ble_eq_true rfl) ?_
  intro p e s m args below meth c ls hr hk0 hnm S g hl
  have hl : lv_has ls 10 [(0, .ref (gA G 21))] := hl
  have hx := S.1
  have hb := S.2.1
  refine lv_aload_n hx hb dX3_digest_0 rfl (lv_at hl 0 rfl) ?_
  refine lv_iconst (v := 0) hx hb dX3_digest_1 (by decide) ?_
  refine gMp (k := 0) S g 0 (by decide) q544 dX3_digest_2 (fun H locs g => ?_)
  rw [show up2 (F) (21) 0 (0) = dm0 F from rfl] at g
  refine lv_bipush (v := 12) hx hb dX3_digest_5 (by decide) ?_
  have g := g.drop
  refine g_newa (N' := 12) S g q569 (by decide) (by decide) (by decide) (by decide) (by decide) dX3_digest_7 (fun q7_ cA7_ H g => ?_)
  refine lv_dup hx hb dX3_digest_9 rfl ?_
  refine lv_iconst (v := 0) hx hb dX3_digest_10 (by decide) ?_
  refine lv_aload_n hx hb dX3_digest_11 rfl (lv_at hl 0 rfl) ?_
  refine gMr (k := 0) S g 6 (by decide) q550 dX3_digest_12 ?_
  refine lv_iconst (v := 0) hx hb dX3_digest_15 (by decide) ?_
  refine gAn (k := 25) S g (Or.inl rfl) (0) rfl (by decide) dX3_digest_16 ?_
  refine g_xst S g (by decide) (0) rfl (by decide) dX3_digest_17 (fun H locs g => ?_)
  refine lv_dup hx hb dX3_digest_18 rfl ?_
  refine lv_iconst (v := 1) hx hb dX3_digest_19 (by decide) ?_
  refine lv_aload_n hx hb dX3_digest_20 rfl (lv_at hl 0 rfl) ?_
  refine g_ci (rest := [.int 1, .ref q7_, .ref q7_]) g (g_V (n := 0) (As := []) S g (m_sunNow l G (dm0 F) o h (okM_th hok 0).2 (by omega)) (by decide) (cEm G _ o) rfl (lw_V q651 q653 qs32 q4 q654) ⟨rfl, by decide +kernel, by decide +kernel, by decide +kernel⟩ rfl ⟨Nat.le_of_ble_eq_true rfl, Nat.le_of_ble_eq_true rfl⟩ hl.1 (Nat.le_of_ble_eq_true rfl) rfl ⟨(by show _ ≤ 9; omega), (by show _ ≤ 76; omega)⟩ dX3_digest_21) (fun H locs g => ?_)
  refine g_xst S g (by decide) (1) rfl (by decide) dX3_digest_24 (fun H locs g => ?_)
  refine lv_dup hx hb dX3_digest_25 rfl ?_
  refine lv_iconst (v := 2) hx hb dX3_digest_26 (by decide) ?_
  refine lv_aload_n hx hb dX3_digest_27 rfl (lv_at hl 0 rfl) ?_
  refine gM (k := 0) S g 1 (by decide) q545 dX3_digest_28 ?_
  refine g_xst S g (by decide) (2) rfl (by decide) dX3_digest_31 (fun H locs g => ?_)
  refine lv_dup hx hb dX3_digest_32 rfl ?_
  refine lv_iconst (v := 3) hx hb dX3_digest_33 (by decide) ?_
  refine lv_aload_n hx hb dX3_digest_34 rfl (lv_at hl 0 rfl) ?_
  refine g_ci (rest := [.int 3, .ref q7_, .ref q7_]) g (g_V (n := 0) (As := []) S g (m_in l G ((dm0 F)) o n (okM_th hok 0).1 hn8) (by decide) (cEm G _ o) rfl (lw_V q626 q628 qs26 q4 q629) ⟨rfl, by decide +kernel, by decide +kernel, by decide +kernel⟩ rfl ⟨Nat.le_of_ble_eq_true rfl, Nat.le_of_ble_eq_true rfl⟩ hl.1 (Nat.le_of_ble_eq_true rfl) rfl ⟨(by show _ ≤ 9; omega), (by show _ ≤ 76; omega)⟩ dX3_digest_35) (fun H locs g => ?_)
  refine g_xst S g (by decide) (3) rfl (by decide) dX3_digest_38 (fun H locs g => ?_)
  refine lv_dup hx hb dX3_digest_39 rfl ?_
  refine lv_iconst (v := 4) hx hb dX3_digest_40 (by decide) ?_
  refine lv_aload_n hx hb dX3_digest_41 rfl (lv_at hl 0 rfl) ?_
  refine gMr (k := 0) S g 6 (by decide) q550 dX3_digest_42 ?_
  refine lv_iconst (v := 1) hx hb dX3_digest_45 (by decide) ?_
  refine gAn (k := 25) S g (Or.inl rfl) (1) rfl (by decide) dX3_digest_46 ?_
  refine g_xst S g (by decide) (4) rfl (by decide) dX3_digest_47 (fun H locs g => ?_)
  refine lv_dup hx hb dX3_digest_48 rfl ?_
  refine lv_iconst (v := 5) hx hb dX3_digest_49 (by decide) ?_
  refine lv_aload_n hx hb dX3_digest_50 rfl (lv_at hl 0 rfl) ?_
  refine gMr (k := 0) S g 6 (by decide) q550 dX3_digest_51 ?_
  refine lv_iconst (v := 2) hx hb dX3_digest_54 (by decide) ?_
  refine gAn (k := 25) S g (Or.inl rfl) (2) rfl (by decide) dX3_digest_55 ?_
  refine g_xst S g (by decide) (5) rfl (by decide) dX3_digest_56 (fun H locs g => ?_)
  refine lv_dup hx hb dX3_digest_57 rfl ?_
  refine lv_bipush (v := 6) hx hb dX3_digest_58 (by decide) ?_
  refine lv_aload_n hx hb dX3_digest_60 rfl (lv_at hl 0 rfl) ?_
  refine gM (k := 0) S g 2 (by decide) q546 dX3_digest_61 ?_
  refine g_xst S g (by decide) (6) rfl (by decide) dX3_digest_64 (fun H locs g => ?_)
  refine lv_dup hx hb dX3_digest_65 rfl ?_
  refine lv_bipush (v := 7) hx hb dX3_digest_66 (by decide) ?_
  refine lv_aload_n hx hb dX3_digest_68 rfl (lv_at hl 0 rfl) ?_
  refine gMr (k := 0) S g 6 (by decide) q550 dX3_digest_69 ?_
  refine lv_iconst (v := 3) hx hb dX3_digest_72 (by decide) ?_
  refine gAn (k := 25) S g (Or.inl rfl) (3) rfl (by decide) dX3_digest_73 ?_
  refine g_xst S g (by decide) (7) rfl (by decide) dX3_digest_74 (fun H locs g => ?_)
  refine lv_dup hx hb dX3_digest_75 rfl ?_
  refine lv_bipush (v := 8) hx hb dX3_digest_76 (by decide) ?_
  refine lv_aload_n hx hb dX3_digest_78 rfl (lv_at hl 0 rfl) ?_
  refine gMr (k := 0) S g 6 (by decide) q550 dX3_digest_79 ?_
  refine lv_iconst (v := 4) hx hb dX3_digest_82 (by decide) ?_
  refine gAn (k := 25) S g (Or.inl rfl) (4) rfl (by decide) dX3_digest_83 ?_
  refine g_xst S g (by decide) (8) rfl (by decide) dX3_digest_84 (fun H locs g => ?_)
  refine lv_dup hx hb dX3_digest_85 rfl ?_
  refine lv_bipush (v := 9) hx hb dX3_digest_86 (by decide) ?_
  refine lv_aload_n hx hb dX3_digest_88 rfl (lv_at hl 0 rfl) ?_
  refine g_ci (rest := [.int 9, .ref q7_, .ref q7_]) g (g_V (n := 0) (As := []) S g (m_next l G (((dm0 F))) o n h (okM_th hok 0) hn8 hh2) (by decide) (cEm G _ o) rfl (lw_V q777 q779 qs39 q4 q780) ⟨rfl, by decide +kernel, by decide +kernel, by decide +kernel⟩ rfl ⟨Nat.le_of_ble_eq_true rfl, Nat.le_of_ble_eq_true rfl⟩ hl.1 (Nat.le_of_ble_eq_true rfl) rfl ⟨(by show _ ≤ 9; omega), (by show _ ≤ 76; omega)⟩ dX3_digest_89) (fun H locs g => ?_)
  rw [show nmF (((dm0 F))) n h = dm1 F n h from rfl] at g
  refine g_xst S g (by decide) (9) rfl (by decide) dX3_digest_92 (fun H locs g => ?_)
  refine lv_dup hx hb dX3_digest_93 rfl ?_
  refine lv_bipush (v := 10) hx hb dX3_digest_94 (by decide) ?_
  refine lv_aload_n hx hb dX3_digest_96 rfl (lv_at hl 0 rfl) ?_
  refine g_ci (rest := [.int 10, .ref q7_, .ref q7_]) g (g_V (n := 0) (As := []) S g (m_best l G (dm1 F n h) o n h (okM_nm (okM_th hok 0)) hn8 hh2) (by decide) (cEm G _ o) rfl (lw_V q797 q799 qs41 q4 q800) ⟨rfl, by decide +kernel, by decide +kernel, by decide +kernel⟩ rfl ⟨Nat.le_of_ble_eq_true rfl, Nat.le_of_ble_eq_true rfl⟩ hl.1 (Nat.le_of_ble_eq_true rfl) rfl ⟨(by show _ ≤ 9; omega), (by show _ ≤ 76; omega)⟩ dX3_digest_97) (fun H locs g => ?_)
  rw [show (bmF (dm1 F n h) n h).2 = dm2 F n h from rfl] at g
  refine g_xst S g (by decide) (10) rfl (by decide) dX3_digest_100 (fun H locs g => ?_)
  refine lv_dup hx hb dX3_digest_101 rfl ?_
  refine lv_bipush (v := 11) hx hb dX3_digest_102 (by decide) ?_
  refine lv_aload_n hx hb dX3_digest_104 rfl (lv_at hl 0 rfl) ?_
  refine g_ci (rest := [.int 11, .ref q7_, .ref q7_]) g (g_V (n := 0) (As := []) S g (m_fair l G (dm2 F n h) o n h (okM_bm (okM_nm (okM_th hok 0))) hn8 hh2) (by decide) (cEm G _ o) rfl (lw_V q805 q807 qs42 q4 q808) ⟨rfl, by decide +kernel, by decide +kernel, by decide +kernel⟩ rfl ⟨Nat.le_of_ble_eq_true rfl, Nat.le_of_ble_eq_true rfl⟩ hl.1 (Nat.le_of_ble_eq_true rfl) rfl ⟨(by show _ ≤ 9; omega), (by show _ ≤ 76; omega)⟩ dX3_digest_105) (fun H locs g => ?_)
  rw [show (amF (dm2 F n h) n h).2 = dmF F n h from rfl] at g
  refine g_xst S g (by decide) (11) rfl (by decide) dX3_digest_108 (fun H locs g => ?_)
  refine lv_astore_n (lv' := [(1, .ref q7_), (0, .ref (gA G 21))]) hx hb dX3_digest_109 rfl hl (by decide) rfl (fun ls hl => ?_)
  refine lv_ldc2 (v := 2069) hx hb S.2.2.2.1 (S.2.2.2.2 _ q817) dX3_digest_110 ?_
  refine lv_lstore_n (lv' := [(2, .long (2069)), (1, .ref q7_), (0, .ref (gA G 21))]) hx hb dX3_digest_113 rfl hl (by decide) rfl (fun ls hl => ?_)
  refine lv_aload_n hx hb dX3_digest_114 rfl (lv_at hl 1 rfl) ?_
  refine lv_astore (lv' := [(4, .ref q7_), (2, .long (2069)), (1, .ref q7_), (0, .ref (gA G 21))]) hx hb dX3_digest_115 hl (by decide) rfl (fun ls hl => ?_)
  refine lv_aload hx hb dX3_digest_117 (lv_at hl 0 rfl) ?_
  refine g_xlen S g dX3_digest_119 ?_
  refine lv_istore (lv' := [(5, .int (nI 12)), (4, .ref q7_), (2, .long (2069)), (1, .ref q7_), (0, .ref (gA G 21))]) hx hb dX3_digest_120 hl (by decide) rfl (fun ls hl => ?_)
  refine lv_iconst (v := 0) hx hb dX3_digest_122 (by decide) ?_
  refine lv_istore (lv' := [(6, .int 0), (5, .int (nI 12)), (4, .ref q7_), (2, .long (2069)), (1, .ref q7_), (0, .ref (gA G 21))]) hx hb dX3_digest_123 hl (by decide) rfl (fun ls hl => ?_)
  have loop125 : ∀ (n_ : Nat) (k : Nat) (d : Int64) (H : Heap) (locs : List Loc) (ls : Array Slot) (hk : k + n_ = 12) (hd : dxL (dma F n h) n_ k d = dxL (dma F n h) 12 0 2069), GB G (dmF F n h) o [(q7_, .inl (cA7_, 12, .inl (dma F n h)))] [(cA7_, .int)] s H locs → lv_has ls 10 [(0, .ref (gA G 21)), (2, .long (d)), (4, .ref q7_), (5, .int (nI 12)), (6, .int (nI k))] → W p l e (rmC 11 237 9 76) s m args below meth c H locs (0 + 1) (0 + 12) (MQ below (QL G (dmF F n h) o (dmI F n h) s.heap.size) args s 9 76 (GA G s.heap.size)) (F0 m 125 ls []) := by
    intro n_
    induction n_ with
    | zero =>
      intro k d H locs ls hk hd g hl
      refine lv_iload hx hb dX3_digest_125 (lv_at hl 4 rfl) ?_
      refine lv_iload hx hb dX3_digest_127 (lv_at hl 3 rfl) ?_
      refine lv_icmp_ge (tgt := 155) hx hb dX3_digest_129 (by decide) (fun c_129 => ?_) (fun c9 => absurd (nI_le (by omega) (by omega)) c9)
      refine lv_iconst (v := 0) hx hb dX3_digest_155 (by decide) ?_
      refine lv_istore (lv' := [(4, .int 0), (0, .ref (gA G 21)), (2, .long (d)), (5, .int (nI 12)), (6, .int (nI k))]) hx hb dX3_digest_156 hl (by decide) rfl (fun ls hl => ?_)
      have loop158 : ∀ (n_ : Nat) (i : Nat) (d : Int64) (H : Heap) (locs : List Loc) (ls : Array Slot) (hi : i + n_ = n) (hc : okM (dmF F n h) n h) (hres : dmL (dmF F n h) h n_ i d = dmI F n h), GB G (dmF F n h) o [] [] s H locs → lv_has ls 10 [(0, .ref (gA G 21)), (2, .long (d)), (4, .int (nI i))] → W p l e (rmC 11 237 9 76) s m args below meth c H locs (1 + i) (12 + 8 * i) (MQ below (QL G (dmF F n h) o (dmI F n h) s.heap.size) args s 9 76 (GA G s.heap.size)) (F0 m 158 ls []) := by
        intro n_
        induction n_ with
        | zero =>
          intro i d H locs ls hi hc hres g hl
          refine lv_iload hx hb dX3_digest_158 (lv_at hl 2 rfl) ?_
          refine lv_aload_n hx hb dX3_digest_160 rfl (lv_at hl 0 rfl) ?_
          refine gM (k := 0) S g 1 (by decide) q545 dX3_digest_161 ?_
          rw [show ((dmF F n h) 21 1 : Int32) = nI n from hc.1]
          refine lv_icmp_ge (tgt := 315) hx hb dX3_digest_164 (by decide) (fun c_164 => ?_) (fun c9 => absurd (nI_le (by omega) (by omega)) c9)
          refine lv_lload_n hx hb dX3_digest_315 rfl (lv_at hl 1 rfl) ?_
          refine W.widen (k := 9) (n := 76) (by omega) (by omega) ?_
          exact e_lc S hr hk0 g hres rfl dX3_digest_316
        | succ n_ ih_158 =>
          intro i d H locs ls hi hc hres g hl
          refine lv_iload hx hb dX3_digest_158 (lv_at hl 2 rfl) ?_
          refine lv_aload_n hx hb dX3_digest_160 rfl (lv_at hl 0 rfl) ?_
          refine gM (k := 0) S g 1 (by decide) q545 dX3_digest_161 ?_
          rw [show ((dmF F n h) 21 1 : Int32) = nI n from hc.1]
          refine lv_icmp_ge (tgt := 315) hx hb dX3_digest_164 (by decide) (fun c9 => absurd c9 (nI_ge (by omega) (by omega))) (fun c_164 => ?_)
          refine lv_bipush (v := 8) hx hb dX3_digest_167 (by decide) ?_
          have g := g.drop
          refine g_newa (N' := 8) S g q569 (by decide) (by decide) (by decide) (by show _ ≤ 9; omega) (by show _ ≤ 76; omega) dX3_digest_169 (fun q169_ cA169_ H g => ?_)
          refine lv_dup hx hb dX3_digest_171 rfl ?_
          refine lv_iconst (v := 0) hx hb dX3_digest_172 (by decide) ?_
          refine lv_aload_n hx hb dX3_digest_173 rfl (lv_at hl 0 rfl) ?_
          refine gMr (k := 0) S g 5 (by decide) q549 dX3_digest_174 ?_
          refine lv_iload hx hb dX3_digest_177 (lv_at hl 2 rfl) ?_
          refine g_zald S g (i) rfl (by omega) dX3_digest_179 ?_
          refine lv_if_eq (tgt := 187) hx hb dX3_digest_180 (by decide) (fun c_180 => ?_) (fun c_180 => ?_)
          · refine lv_iconst (v := 0) hx hb dX3_digest_187 (by decide) ?_
            refine g_xst S g (by decide) (0) rfl (by decide) dX3_digest_188 (fun H locs g => ?_)
            rw [show (upd (fun _ => 0) 0 0 : Nat → Int32) = upd (fun _ => 0) 0 (if dmF F n h 24 i = 0 then 0 else 1) from by simp only [c_180, ↓reduceIte]] at g
            refine lv_dup hx hb dX3_digest_189 rfl ?_
            refine lv_iconst (v := 1) hx hb dX3_digest_190 (by decide) ?_
            refine lv_aload_n hx hb dX3_digest_191 rfl (lv_at hl 0 rfl) ?_
            refine gMr (k := 0) S g 6 (by decide) q550 dX3_digest_192 ?_
            refine lv_iconst (v := 5) hx hb dX3_digest_195 (by decide) ?_
            refine lv_iload hx hb dX3_digest_196 (lv_at hl 2 rfl) ?_
            refine lv_iadd hx hb dX3_digest_198 ?_
            refine gAn (k := 25) S g (Or.inl rfl) (5 + i) (nI_add 5 i) (by omega) dX3_digest_199 ?_
            refine g_xst S g (by decide) (1) rfl (by decide) dX3_digest_200 (fun H locs g => ?_)
            refine lv_dup hx hb dX3_digest_201 rfl ?_
            refine lv_iconst (v := 2) hx hb dX3_digest_202 (by decide) ?_
            refine lv_aload_n hx hb dX3_digest_203 rfl (lv_at hl 0 rfl) ?_
            refine gMr (k := 0) S g 6 (by decide) q550 dX3_digest_204 ?_
            refine lv_bipush (v := 13) hx hb dX3_digest_207 (by decide) ?_
            refine lv_iload hx hb dX3_digest_209 (lv_at hl 2 rfl) ?_
            refine lv_iadd hx hb dX3_digest_211 ?_
            refine gAn (k := 25) S g (Or.inl rfl) (13 + i) (nI_add 13 i) (by omega) dX3_digest_212 ?_
            refine g_xst S g (by decide) (2) rfl (by decide) dX3_digest_213 (fun H locs g => ?_)
            refine lv_dup hx hb dX3_digest_214 rfl ?_
            refine lv_iconst (v := 3) hx hb dX3_digest_215 (by decide) ?_
            refine lv_aload_n hx hb dX3_digest_216 rfl (lv_at hl 0 rfl) ?_
            refine gMr (k := 0) S g 6 (by decide) q550 dX3_digest_217 ?_
            refine lv_bipush (v := 21) hx hb dX3_digest_220 (by decide) ?_
            refine lv_iload hx hb dX3_digest_222 (lv_at hl 2 rfl) ?_
            refine lv_iadd hx hb dX3_digest_224 ?_
            refine gAn (k := 25) S g (Or.inl rfl) (21 + i) (nI_add 21 i) (by omega) dX3_digest_225 ?_
            refine g_xst S g (by decide) (3) rfl (by decide) dX3_digest_226 (fun H locs g => ?_)
            refine lv_dup hx hb dX3_digest_227 rfl ?_
            refine lv_iconst (v := 4) hx hb dX3_digest_228 (by decide) ?_
            refine lv_aload_n hx hb dX3_digest_229 rfl (lv_at hl 0 rfl) ?_
            refine lv_iload hx hb dX3_digest_230 (lv_at hl 2 rfl) ?_
            refine g_ci (rest := [.int 4, .ref q169_, .ref q169_]) g (g_V (n := 1) (As := [.int (nI i)]) S g (m_shadow l G (dmF F n h) o i h (by omega) hc.2 (by omega)) (by decide) (cEm G _ o) rfl (lw_V q647 q649 qs31 q4 q650) ⟨rfl, by decide +kernel, by decide +kernel, by decide +kernel⟩ rfl ⟨Nat.le_of_ble_eq_true rfl, Nat.le_of_ble_eq_true rfl⟩ hl.1 (Nat.le_of_ble_eq_true rfl) rfl ⟨(by show _ ≤ 9; omega), (by show _ ≤ 76; omega)⟩ dX3_digest_232) (fun H locs g => ?_)
            refine g_xst S g (by decide) (4) rfl (by decide) dX3_digest_235 (fun H locs g => ?_)
            refine lv_dup hx hb dX3_digest_236 rfl ?_
            refine lv_iconst (v := 5) hx hb dX3_digest_237 (by decide) ?_
            refine lv_aload_n hx hb dX3_digest_238 rfl (lv_at hl 0 rfl) ?_
            refine lv_iload hx hb dX3_digest_239 (lv_at hl 2 rfl) ?_
            refine g_ci (rest := [.int 5, .ref q169_, .ref q169_]) g (g_V (n := 1) (As := [.int (nI i)]) S g (m_cost l G ((dmF F n h)) o i h (by omega) hc.2 (by omega)) (by decide) (cEm G _ o) rfl (lw_V q643 q645 qs30 q4 q646) ⟨rfl, by decide +kernel, by decide +kernel, by decide +kernel⟩ rfl ⟨Nat.le_of_ble_eq_true rfl, Nat.le_of_ble_eq_true rfl⟩ hl.1 (Nat.le_of_ble_eq_true rfl) rfl ⟨(by show _ ≤ 9; omega), (by show _ ≤ 76; omega)⟩ dX3_digest_241) (fun H locs g => ?_)
            refine g_xst S g (by decide) (5) rfl (by decide) dX3_digest_244 (fun H locs g => ?_)
            refine lv_dup hx hb dX3_digest_245 rfl ?_
            refine lv_bipush (v := 6) hx hb dX3_digest_246 (by decide) ?_
            refine lv_aload_n hx hb dX3_digest_248 rfl (lv_at hl 0 rfl) ?_
            refine lv_iload hx hb dX3_digest_249 (lv_at hl 2 rfl) ?_
            refine g_ci (rest := [.int 6, .ref q169_, .ref q169_]) g (g_V (n := 1) (As := [.int (nI i)]) S g (m_pooled l G (((dmF F n h))) o i h (by omega) hc.2 (by omega)) (by decide) (cEm G _ o) rfl (lw_V q639 q641 qs29 q4 q642) ⟨rfl, by decide +kernel, by decide +kernel, by decide +kernel⟩ rfl ⟨Nat.le_of_ble_eq_true rfl, Nat.le_of_ble_eq_true rfl⟩ hl.1 (Nat.le_of_ble_eq_true rfl) rfl ⟨(by show _ ≤ 9; omega), (by show _ ≤ 76; omega)⟩ dX3_digest_251) (fun H locs g => ?_)
            refine g_xst S g (by decide) (6) rfl (by decide) dX3_digest_254 (fun H locs g => ?_)
            refine lv_dup hx hb dX3_digest_255 rfl ?_
            refine lv_bipush (v := 7) hx hb dX3_digest_256 (by decide) ?_
            refine lv_aload_n hx hb dX3_digest_258 rfl (lv_at hl 0 rfl) ?_
            refine lv_iload hx hb dX3_digest_259 (lv_at hl 2 rfl) ?_
            refine g_ci (rest := [.int 7, .ref q169_, .ref q169_]) g (g_V (n := 1) (As := [.int (nI i)]) S g (m_reinsured l G ((((dmF F n h)))) o i h (by omega) hc.2 (by omega)) (by decide) (cEm G _ o) rfl (lw_V q662 q664 qs34 q4 q665) ⟨rfl, by decide +kernel, by decide +kernel, by decide +kernel⟩ rfl ⟨Nat.le_of_ble_eq_true rfl, Nat.le_of_ble_eq_true rfl⟩ hl.1 (Nat.le_of_ble_eq_true rfl) rfl ⟨(by show _ ≤ 9; omega), (by show _ ≤ 76; omega)⟩ dX3_digest_261) (fun H locs g => ?_)
            refine g_xst S g (by decide) (7) rfl (by decide) dX3_digest_264 (fun H locs g => ?_)
            refine lv_astore (lv' := [(5, .ref q169_), (0, .ref (gA G 21)), (2, .long (d)), (4, .int (nI i))]) hx hb dX3_digest_265 hl (by decide) rfl (fun ls hl => ?_)
            refine lv_aload hx hb dX3_digest_267 (lv_at hl 0 rfl) ?_
            refine lv_astore (lv' := [(6, .ref q169_), (5, .ref q169_), (0, .ref (gA G 21)), (2, .long (d)), (4, .int (nI i))]) hx hb dX3_digest_269 hl (by decide) rfl (fun ls hl => ?_)
            refine lv_aload hx hb dX3_digest_271 (lv_at hl 0 rfl) ?_
            refine g_xlen S g dX3_digest_273 ?_
            refine lv_istore (lv' := [(7, .int (nI 8)), (6, .ref q169_), (5, .ref q169_), (0, .ref (gA G 21)), (2, .long (d)), (4, .int (nI i))]) hx hb dX3_digest_274 hl (by decide) rfl (fun ls hl => ?_)
            refine lv_iconst (v := 0) hx hb dX3_digest_276 (by decide) ?_
            refine lv_istore (lv' := [(8, .int 0), (7, .int (nI 8)), (6, .ref q169_), (5, .ref q169_), (0, .ref (gA G 21)), (2, .long (d)), (4, .int (nI i))]) hx hb dX3_digest_277 hl (by decide) rfl (fun ls hl => ?_)
            have loop279 : ∀ (n_ : Nat) (k : Nat) (d2 : Int64) (H : Heap) (locs : List Loc) (ls : Array Slot) (hk : k + n_ = 8) (hd : dxL (dmw (dmF F n h) i h) n_ k d2 = dxL (dmw (dmF F n h) i h) 8 0 d), GB G (dmF F n h) o [(q169_, .inl (cA169_, 8, .inl (dmw (dmF F n h) i h)))] [(cA169_, .int)] s H locs → lv_has ls 10 [(0, .ref (gA G 21)), (2, .long (d2)), (4, .int (nI i)), (6, .ref q169_), (7, .int (nI 8)), (8, .int (nI k))] → W p l e (rmC 11 237 9 76) s m args below meth c H locs (1 + i + 1) (12 + 8 * i + 8) (MQ below (QL G (dmF F n h) o (dmI F n h) s.heap.size) args s 9 76 (GA G s.heap.size)) (F0 m 279 ls []) := by
              intro n_
              induction n_ with
              | zero =>
                intro k d2 H locs ls hk hd g hl
                refine lv_iload hx hb dX3_digest_279 (lv_at hl 5 rfl) ?_
                refine lv_iload hx hb dX3_digest_281 (lv_at hl 4 rfl) ?_
                refine lv_icmp_ge (tgt := 309) hx hb dX3_digest_283 (by decide) (fun c_283 => ?_) (fun c9 => absurd (nI_le (by omega) (by omega)) c9)
                refine lv_iinc (v := nI (i + 1)) (lv' := [(4, .int (nI (i + 1))), (0, .ref (gA G 21)), (2, .long (d2)), (6, .ref q169_), (7, .int (nI 8)), (8, .int (nI k))]) hx hb dX3_digest_309 hl (k := 2) rfl (nI_1 i) (by decide) rfl (fun ls hl => ?_)
                refine lv_goto (tgt := 158) hx hb dX3_digest_312 (by decide) ?_
                have g := g.drop
                refine W.cs (cells' := 1 + (i + 1)) (slots' := 12 + 8 * (i + 1)) (by omega) (by omega) ?_
                exact ih_158 (i + 1) _ _ _ _ (by omega) hc (by rw [← hres, dmL, ← hd]; rfl) g (lv_sub hl [1, 2, 0] rfl)
              | succ n_ ih_279 =>
                intro k d2 H locs ls hk hd g hl
                refine lv_iload hx hb dX3_digest_279 (lv_at hl 5 rfl) ?_
                refine lv_iload hx hb dX3_digest_281 (lv_at hl 4 rfl) ?_
                refine lv_icmp_ge (tgt := 309) hx hb dX3_digest_283 (by decide) (fun c9 => absurd c9 (nI_ge (by omega) (by omega))) (fun c_283 => ?_)
                refine lv_aload hx hb dX3_digest_286 (lv_at hl 3 rfl) ?_
                refine lv_iload hx hb dX3_digest_288 (lv_at hl 5 rfl) ?_
                refine g_xld S g (by decide) (k) rfl (by omega) dX3_digest_290 ?_
                refine lv_istore (lv' := [(9, .int (dmw (dmF F n h) i h (k))), (0, .ref (gA G 21)), (2, .long (d2)), (4, .int (nI i)), (6, .ref q169_), (7, .int (nI 8)), (8, .int (nI k))]) hx hb dX3_digest_291 hl (by decide) rfl (fun ls hl => ?_)
                refine lv_lload_n hx hb dX3_digest_293 rfl (lv_at hl 2 rfl) ?_
                refine lv_ldc2 (v := 31) hx hb S.2.2.2.1 (S.2.2.2.2 _ q818) dX3_digest_294 ?_
                refine lv_lmul hx hb dX3_digest_297 ?_
                refine lv_iload hx hb dX3_digest_298 (lv_at hl 0 rfl) ?_
                refine lv_i2l (v := (dmw (dmF F n h) i h (k)).toInt64) hx hb dX3_digest_300 rfl ?_
                refine lv_ladd hx hb dX3_digest_301 ?_
                refine lv_lstore_n (lv' := [(2, .long (((d2) * (31)) + ((dmw (dmF F n h) i h (k)).toInt64))), (9, .int (dmw (dmF F n h) i h (k))), (0, .ref (gA G 21)), (4, .int (nI i)), (6, .ref q169_), (7, .int (nI 8)), (8, .int (nI k))]) hx hb dX3_digest_302 rfl hl (by decide) rfl (fun ls hl => ?_)
                refine lv_iinc (v := nI (k + 1)) (lv' := [(8, .int (nI (k + 1))), (2, .long (((d2) * (31)) + ((dmw (dmF F n h) i h (k)).toInt64))), (9, .int (dmw (dmF F n h) i h (k))), (0, .ref (gA G 21)), (4, .int (nI i)), (6, .ref q169_), (7, .int (nI 8))]) hx hb dX3_digest_303 hl (k := 6) rfl (nI_1 k) (by decide) rfl (fun ls hl => ?_)
                refine lv_goto (tgt := 279) hx hb dX3_digest_306 (by decide) ?_
                exact ih_279 (k + 1) _ _ _ _ (by omega) hd g (lv_sub hl [3, 1, 4, 5, 6, 0] rfl)
            exact loop279 8 0 d _ _ _ rfl rfl g (lv_sub hl [4, 5, 6, 2, 1, 0] rfl)
          · refine lv_iconst (v := 1) hx hb dX3_digest_183 (by decide) ?_
            refine lv_goto (tgt := 188) hx hb dX3_digest_184 (by decide) ?_
            refine g_xst S g (by decide) (0) rfl (by decide) dX3_digest_188 (fun H locs g => ?_)
            rw [show (upd (fun _ => 0) 0 1 : Nat → Int32) = upd (fun _ => 0) 0 (if dmF F n h 24 i = 0 then 0 else 1) from by simp only [c_180, ↓reduceIte]] at g
            refine lv_dup hx hb dX3_digest_189 rfl ?_
            refine lv_iconst (v := 1) hx hb dX3_digest_190 (by decide) ?_
            refine lv_aload_n hx hb dX3_digest_191 rfl (lv_at hl 0 rfl) ?_
            refine gMr (k := 0) S g 6 (by decide) q550 dX3_digest_192 ?_
            refine lv_iconst (v := 5) hx hb dX3_digest_195 (by decide) ?_
            refine lv_iload hx hb dX3_digest_196 (lv_at hl 2 rfl) ?_
            refine lv_iadd hx hb dX3_digest_198 ?_
            refine gAn (k := 25) S g (Or.inl rfl) (5 + i) (nI_add 5 i) (by omega) dX3_digest_199 ?_
            refine g_xst S g (by decide) (1) rfl (by decide) dX3_digest_200 (fun H locs g => ?_)
            refine lv_dup hx hb dX3_digest_201 rfl ?_
            refine lv_iconst (v := 2) hx hb dX3_digest_202 (by decide) ?_
            refine lv_aload_n hx hb dX3_digest_203 rfl (lv_at hl 0 rfl) ?_
            refine gMr (k := 0) S g 6 (by decide) q550 dX3_digest_204 ?_
            refine lv_bipush (v := 13) hx hb dX3_digest_207 (by decide) ?_
            refine lv_iload hx hb dX3_digest_209 (lv_at hl 2 rfl) ?_
            refine lv_iadd hx hb dX3_digest_211 ?_
            refine gAn (k := 25) S g (Or.inl rfl) (13 + i) (nI_add 13 i) (by omega) dX3_digest_212 ?_
            refine g_xst S g (by decide) (2) rfl (by decide) dX3_digest_213 (fun H locs g => ?_)
            refine lv_dup hx hb dX3_digest_214 rfl ?_
            refine lv_iconst (v := 3) hx hb dX3_digest_215 (by decide) ?_
            refine lv_aload_n hx hb dX3_digest_216 rfl (lv_at hl 0 rfl) ?_
            refine gMr (k := 0) S g 6 (by decide) q550 dX3_digest_217 ?_
            refine lv_bipush (v := 21) hx hb dX3_digest_220 (by decide) ?_
            refine lv_iload hx hb dX3_digest_222 (lv_at hl 2 rfl) ?_
            refine lv_iadd hx hb dX3_digest_224 ?_
            refine gAn (k := 25) S g (Or.inl rfl) (21 + i) (nI_add 21 i) (by omega) dX3_digest_225 ?_
            refine g_xst S g (by decide) (3) rfl (by decide) dX3_digest_226 (fun H locs g => ?_)
            refine lv_dup hx hb dX3_digest_227 rfl ?_
            refine lv_iconst (v := 4) hx hb dX3_digest_228 (by decide) ?_
            refine lv_aload_n hx hb dX3_digest_229 rfl (lv_at hl 0 rfl) ?_
            refine lv_iload hx hb dX3_digest_230 (lv_at hl 2 rfl) ?_
            refine g_ci (rest := [.int 4, .ref q169_, .ref q169_]) g (g_V (n := 1) (As := [.int (nI i)]) S g (m_shadow l G (dmF F n h) o i h (by omega) hc.2 (by omega)) (by decide) (cEm G _ o) rfl (lw_V q647 q649 qs31 q4 q650) ⟨rfl, by decide +kernel, by decide +kernel, by decide +kernel⟩ rfl ⟨Nat.le_of_ble_eq_true rfl, Nat.le_of_ble_eq_true rfl⟩ hl.1 (Nat.le_of_ble_eq_true rfl) rfl ⟨(by show _ ≤ 9; omega), (by show _ ≤ 76; omega)⟩ dX3_digest_232) (fun H locs g => ?_)
            refine g_xst S g (by decide) (4) rfl (by decide) dX3_digest_235 (fun H locs g => ?_)
            refine lv_dup hx hb dX3_digest_236 rfl ?_
            refine lv_iconst (v := 5) hx hb dX3_digest_237 (by decide) ?_
            refine lv_aload_n hx hb dX3_digest_238 rfl (lv_at hl 0 rfl) ?_
            refine lv_iload hx hb dX3_digest_239 (lv_at hl 2 rfl) ?_
            refine g_ci (rest := [.int 5, .ref q169_, .ref q169_]) g (g_V (n := 1) (As := [.int (nI i)]) S g (m_cost l G ((dmF F n h)) o i h (by omega) hc.2 (by omega)) (by decide) (cEm G _ o) rfl (lw_V q643 q645 qs30 q4 q646) ⟨rfl, by decide +kernel, by decide +kernel, by decide +kernel⟩ rfl ⟨Nat.le_of_ble_eq_true rfl, Nat.le_of_ble_eq_true rfl⟩ hl.1 (Nat.le_of_ble_eq_true rfl) rfl ⟨(by show _ ≤ 9; omega), (by show _ ≤ 76; omega)⟩ dX3_digest_241) (fun H locs g => ?_)
            refine g_xst S g (by decide) (5) rfl (by decide) dX3_digest_244 (fun H locs g => ?_)
            refine lv_dup hx hb dX3_digest_245 rfl ?_
            refine lv_bipush (v := 6) hx hb dX3_digest_246 (by decide) ?_
            refine lv_aload_n hx hb dX3_digest_248 rfl (lv_at hl 0 rfl) ?_
            refine lv_iload hx hb dX3_digest_249 (lv_at hl 2 rfl) ?_
            refine g_ci (rest := [.int 6, .ref q169_, .ref q169_]) g (g_V (n := 1) (As := [.int (nI i)]) S g (m_pooled l G (((dmF F n h))) o i h (by omega) hc.2 (by omega)) (by decide) (cEm G _ o) rfl (lw_V q639 q641 qs29 q4 q642) ⟨rfl, by decide +kernel, by decide +kernel, by decide +kernel⟩ rfl ⟨Nat.le_of_ble_eq_true rfl, Nat.le_of_ble_eq_true rfl⟩ hl.1 (Nat.le_of_ble_eq_true rfl) rfl ⟨(by show _ ≤ 9; omega), (by show _ ≤ 76; omega)⟩ dX3_digest_251) (fun H locs g => ?_)
            refine g_xst S g (by decide) (6) rfl (by decide) dX3_digest_254 (fun H locs g => ?_)
            refine lv_dup hx hb dX3_digest_255 rfl ?_
            refine lv_bipush (v := 7) hx hb dX3_digest_256 (by decide) ?_
            refine lv_aload_n hx hb dX3_digest_258 rfl (lv_at hl 0 rfl) ?_
            refine lv_iload hx hb dX3_digest_259 (lv_at hl 2 rfl) ?_
            refine g_ci (rest := [.int 7, .ref q169_, .ref q169_]) g (g_V (n := 1) (As := [.int (nI i)]) S g (m_reinsured l G ((((dmF F n h)))) o i h (by omega) hc.2 (by omega)) (by decide) (cEm G _ o) rfl (lw_V q662 q664 qs34 q4 q665) ⟨rfl, by decide +kernel, by decide +kernel, by decide +kernel⟩ rfl ⟨Nat.le_of_ble_eq_true rfl, Nat.le_of_ble_eq_true rfl⟩ hl.1 (Nat.le_of_ble_eq_true rfl) rfl ⟨(by show _ ≤ 9; omega), (by show _ ≤ 76; omega)⟩ dX3_digest_261) (fun H locs g => ?_)
            refine g_xst S g (by decide) (7) rfl (by decide) dX3_digest_264 (fun H locs g => ?_)
            refine lv_astore (lv' := [(5, .ref q169_), (0, .ref (gA G 21)), (2, .long (d)), (4, .int (nI i))]) hx hb dX3_digest_265 hl (by decide) rfl (fun ls hl => ?_)
            refine lv_aload hx hb dX3_digest_267 (lv_at hl 0 rfl) ?_
            refine lv_astore (lv' := [(6, .ref q169_), (5, .ref q169_), (0, .ref (gA G 21)), (2, .long (d)), (4, .int (nI i))]) hx hb dX3_digest_269 hl (by decide) rfl (fun ls hl => ?_)
            refine lv_aload hx hb dX3_digest_271 (lv_at hl 0 rfl) ?_
            refine g_xlen S g dX3_digest_273 ?_
            refine lv_istore (lv' := [(7, .int (nI 8)), (6, .ref q169_), (5, .ref q169_), (0, .ref (gA G 21)), (2, .long (d)), (4, .int (nI i))]) hx hb dX3_digest_274 hl (by decide) rfl (fun ls hl => ?_)
            refine lv_iconst (v := 0) hx hb dX3_digest_276 (by decide) ?_
            refine lv_istore (lv' := [(8, .int 0), (7, .int (nI 8)), (6, .ref q169_), (5, .ref q169_), (0, .ref (gA G 21)), (2, .long (d)), (4, .int (nI i))]) hx hb dX3_digest_277 hl (by decide) rfl (fun ls hl => ?_)
            have loop279 : ∀ (n_ : Nat) (k : Nat) (d2 : Int64) (H : Heap) (locs : List Loc) (ls : Array Slot) (hk : k + n_ = 8) (hd : dxL (dmw (dmF F n h) i h) n_ k d2 = dxL (dmw (dmF F n h) i h) 8 0 d), GB G (dmF F n h) o [(q169_, .inl (cA169_, 8, .inl (dmw (dmF F n h) i h)))] [(cA169_, .int)] s H locs → lv_has ls 10 [(0, .ref (gA G 21)), (2, .long (d2)), (4, .int (nI i)), (6, .ref q169_), (7, .int (nI 8)), (8, .int (nI k))] → W p l e (rmC 11 237 9 76) s m args below meth c H locs (1 + i + 1) (12 + 8 * i + 8) (MQ below (QL G (dmF F n h) o (dmI F n h) s.heap.size) args s 9 76 (GA G s.heap.size)) (F0 m 279 ls []) := by
              intro n_
              induction n_ with
              | zero =>
                intro k d2 H locs ls hk hd g hl
                refine lv_iload hx hb dX3_digest_279 (lv_at hl 5 rfl) ?_
                refine lv_iload hx hb dX3_digest_281 (lv_at hl 4 rfl) ?_
                refine lv_icmp_ge (tgt := 309) hx hb dX3_digest_283 (by decide) (fun c_283 => ?_) (fun c9 => absurd (nI_le (by omega) (by omega)) c9)
                refine lv_iinc (v := nI (i + 1)) (lv' := [(4, .int (nI (i + 1))), (0, .ref (gA G 21)), (2, .long (d2)), (6, .ref q169_), (7, .int (nI 8)), (8, .int (nI k))]) hx hb dX3_digest_309 hl (k := 2) rfl (nI_1 i) (by decide) rfl (fun ls hl => ?_)
                refine lv_goto (tgt := 158) hx hb dX3_digest_312 (by decide) ?_
                have g := g.drop
                refine W.cs (cells' := 1 + (i + 1)) (slots' := 12 + 8 * (i + 1)) (by omega) (by omega) ?_
                exact ih_158 (i + 1) _ _ _ _ (by omega) hc (by rw [← hres, dmL, ← hd]; rfl) g (lv_sub hl [1, 2, 0] rfl)
              | succ n_ ih_279 =>
                intro k d2 H locs ls hk hd g hl
                refine lv_iload hx hb dX3_digest_279 (lv_at hl 5 rfl) ?_
                refine lv_iload hx hb dX3_digest_281 (lv_at hl 4 rfl) ?_
                refine lv_icmp_ge (tgt := 309) hx hb dX3_digest_283 (by decide) (fun c9 => absurd c9 (nI_ge (by omega) (by omega))) (fun c_283 => ?_)
                refine lv_aload hx hb dX3_digest_286 (lv_at hl 3 rfl) ?_
                refine lv_iload hx hb dX3_digest_288 (lv_at hl 5 rfl) ?_
                refine g_xld S g (by decide) (k) rfl (by omega) dX3_digest_290 ?_
                refine lv_istore (lv' := [(9, .int (dmw (dmF F n h) i h (k))), (0, .ref (gA G 21)), (2, .long (d2)), (4, .int (nI i)), (6, .ref q169_), (7, .int (nI 8)), (8, .int (nI k))]) hx hb dX3_digest_291 hl (by decide) rfl (fun ls hl => ?_)
                refine lv_lload_n hx hb dX3_digest_293 rfl (lv_at hl 2 rfl) ?_
                refine lv_ldc2 (v := 31) hx hb S.2.2.2.1 (S.2.2.2.2 _ q818) dX3_digest_294 ?_
                refine lv_lmul hx hb dX3_digest_297 ?_
                refine lv_iload hx hb dX3_digest_298 (lv_at hl 0 rfl) ?_
                refine lv_i2l (v := (dmw (dmF F n h) i h (k)).toInt64) hx hb dX3_digest_300 rfl ?_
                refine lv_ladd hx hb dX3_digest_301 ?_
                refine lv_lstore_n (lv' := [(2, .long (((d2) * (31)) + ((dmw (dmF F n h) i h (k)).toInt64))), (9, .int (dmw (dmF F n h) i h (k))), (0, .ref (gA G 21)), (4, .int (nI i)), (6, .ref q169_), (7, .int (nI 8)), (8, .int (nI k))]) hx hb dX3_digest_302 rfl hl (by decide) rfl (fun ls hl => ?_)
                refine lv_iinc (v := nI (k + 1)) (lv' := [(8, .int (nI (k + 1))), (2, .long (((d2) * (31)) + ((dmw (dmF F n h) i h (k)).toInt64))), (9, .int (dmw (dmF F n h) i h (k))), (0, .ref (gA G 21)), (4, .int (nI i)), (6, .ref q169_), (7, .int (nI 8))]) hx hb dX3_digest_303 hl (k := 6) rfl (nI_1 k) (by decide) rfl (fun ls hl => ?_)
                refine lv_goto (tgt := 279) hx hb dX3_digest_306 (by decide) ?_
                exact ih_279 (k + 1) _ _ _ _ (by omega) hd g (lv_sub hl [3, 1, 4, 5, 6, 0] rfl)
            exact loop279 8 0 d _ _ _ rfl rfl g (lv_sub hl [4, 5, 6, 2, 1, 0] rfl)
      have g := g.drop
      refine W.cs (cells' := 1 + 0) (slots' := 12 + 8 * 0) rfl rfl ?_
      exact loop158 n 0 _ _ _ _ (by omega) (okM_am (okM_bm (okM_nm (okM_th hok 0)))) (by rw [dmI, ← hd]; rfl) g (lv_sub hl [1, 2, 0] rfl)
    | succ n_ ih_125 =>
      intro k d H locs ls hk hd g hl
      refine lv_iload hx hb dX3_digest_125 (lv_at hl 4 rfl) ?_
      refine lv_iload hx hb dX3_digest_127 (lv_at hl 3 rfl) ?_
      refine lv_icmp_ge (tgt := 155) hx hb dX3_digest_129 (by decide) (fun c9 => absurd c9 (nI_ge (by omega) (by omega))) (fun c_129 => ?_)
      refine lv_aload hx hb dX3_digest_132 (lv_at hl 2 rfl) ?_
      refine lv_iload hx hb dX3_digest_134 (lv_at hl 4 rfl) ?_
      refine g_xld S g (by decide) (k) rfl (by omega) dX3_digest_136 ?_
      refine lv_istore (lv' := [(7, .int (dma F n h (k))), (0, .ref (gA G 21)), (2, .long (d)), (4, .ref q7_), (5, .int (nI 12)), (6, .int (nI k))]) hx hb dX3_digest_137 hl (by decide) rfl (fun ls hl => ?_)
      refine lv_lload_n hx hb dX3_digest_139 rfl (lv_at hl 2 rfl) ?_
      refine lv_ldc2 (v := 31) hx hb S.2.2.2.1 (S.2.2.2.2 _ q818) dX3_digest_140 ?_
      refine lv_lmul hx hb dX3_digest_143 ?_
      refine lv_iload hx hb dX3_digest_144 (lv_at hl 0 rfl) ?_
      refine lv_i2l (v := (dma F n h (k)).toInt64) hx hb dX3_digest_146 rfl ?_
      refine lv_ladd hx hb dX3_digest_147 ?_
      refine lv_lstore_n (lv' := [(2, .long (((d) * (31)) + ((dma F n h (k)).toInt64))), (7, .int (dma F n h (k))), (0, .ref (gA G 21)), (4, .ref q7_), (5, .int (nI 12)), (6, .int (nI k))]) hx hb dX3_digest_148 rfl hl (by decide) rfl (fun ls hl => ?_)
      refine lv_iinc (v := nI (k + 1)) (lv' := [(6, .int (nI (k + 1))), (2, .long (((d) * (31)) + ((dma F n h (k)).toInt64))), (7, .int (dma F n h (k))), (0, .ref (gA G 21)), (4, .ref q7_), (5, .int (nI 12))]) hx hb dX3_digest_149 hl (k := 5) rfl (nI_1 k) (by decide) rfl (fun ls hl => ?_)
      refine lv_goto (tgt := 125) hx hb dX3_digest_152 (by decide) ?_
      exact ih_125 (k + 1) _ _ _ _ (by omega) hd g (lv_sub hl [3, 1, 4, 5, 0] rfl)
  exact loop125 12 0 2069 _ _ _ rfl rfl g (lv_sub hl [5, 3, 2, 1, 0] rfl)
