/-! the law's hours, walked -/
theorem ru_five {F : Fs} {n h k : Nat} {x : Int32} (H : Ru F n h x) (hk : k + 1 ≤ 100) : (x ≤ 0 ∧ ¬ 0 ≤ x ∧ 0 ≤ Hh F n h (k + 1) 1 1) ∨ (x ≤ 0 ∧ 0 ≤ x) ∨ (¬ x ≤ 0 ∧ x < nI (k + 1) ∧ 0 ≤ x) ∨ (¬ x ≤ 0 ∧ ¬ x < nI (k + 1) ∧ 0 ≤ Hh F n h (k + 1) 1 1 ∧ ¬ nI (k + 1) = x ∧ 0 ≤ x) ∨ (¬ x ≤ 0 ∧ ¬ x < nI (k + 1) ∧ ¬ 0 ≤ Hh F n h (k + 1) 1 1 ∧ nI (k + 1) = x ∧ 0 ≤ x) := by
  rcases H with ⟨rfl, a⟩ | ⟨r, hr, rfl, a, b⟩
  · exact Or.inl ⟨by decide, by decide, Int32.not_lt.mp (a (k + 1) hk)⟩
  · have p0 : 0 ≤ nI r := nI_pos' (by omega)
    by_cases e0 : r = 0
    · subst e0
      exact Or.inr (Or.inl ⟨by decide, by decide⟩)
    · have q0 : ¬ nI r ≤ 0 := fun z => e0 (by have := (nI_leI (a := r) (b := 0) (by omega) (by omega)).mp z; omega)
      by_cases e1 : r < k + 1
      · exact Or.inr (Or.inr (Or.inl ⟨q0, (nI_ltI (by omega) (by omega)).mpr e1, p0⟩))
      · have q1 : ¬ nI r < nI (k + 1) := fun z => e1 ((nI_ltI (by omega) (by omega)).mp z)
        by_cases e2 : k + 1 = r
        · subst e2
          exact Or.inr (Or.inr (Or.inr (Or.inr ⟨q0, q1, Int32.not_le.mpr a, rfl, p0⟩)))
        · exact Or.inr (Or.inr (Or.inr (Or.inl ⟨q0, q1, Int32.not_lt.mp (b (k + 1) (by omega)), fun z => e2 ((nI_eq (by omega) (by omega)).mp z), p0⟩)))
set_option maxHeartbeats 4000000 in
set_option maxRecDepth 100000 in
theorem seg_H1 {p : Program} {l : Launch} {e : Env} {s : State} {m : MethodId} {args : Array Value} {below : List Frame} {meth : Method} {c : Code} {cells slots : Nat} {Q : State → Prop} {G : gT} {Z : Nat → Prop} {b9 L9 : Nat} {xs9 : Nat → Int32} (hfl : l.stackTraces = false) (S : CallFix p m c cL_law 36 s args lw_all "ShadowPoolLaw") (hX9 : va_X b9 L9 xs9 s s.heap) (hX9l : b9 < s.heap.size) (hX9n : ¬ Z b9) (A : Nat → Nat) (F : Fs) (n : Nat) (h : Nat) (hIn : In F n h) (hh : h ≤ 8000) (t : Nat) (T : Nat) (k : Nat) (v17 : Int32) (xr : Int32) (xn : Int32) (xo : Int32) (xf : Int32) (xs : Int32) (xl : Int32) (xi : Int32) {H : Heap} {locs : List Loc} {ls : Array Slot} (g : GX G Z (wld G F 0 ++ (swl G A n F 1 ++ [])) s H locs) (hl : lv_has ls 36 [(0, .ref b9), (1, .ref (gA G 0)), (2, .ref (A 0)), (3, .int (nI t)), (7, .int (nI n)), (16, .int (nI T)), (17, .int v17), (18, .int xr), (19, .int xn), (20, .int xo), (21, .int xf), (22, .int xs), (23, .int xl), (24, .int xi), (25, .int (nI (k + 1)))]) (hc1 : cells + 5 ≤ 1112399) (hc2 : slots + 40 ≤ 5764272) (K : ∀ (y1 : Nat) (y2 : Nat) (y3 : Nat) (y4 : Nat) (y5 : Nat) (f1 : Nat → Int32) (f2 : Nat → Int32) (f3 : Nat → Int32) (f4 : Nat → Int32) (f5 : Nat → Int32) (H : Heap) (locs : List Loc) (ls : Array Slot), Ar F h n f1 f2 f3 f4 f5 → GX G Z (wld G F 0 ++ (swl G A n F 1 ++ ([(y1, arrI G n f1)] ++ ([(y2, arrI G n f2)] ++ ([(y3, arrI G n f3)] ++ ([(y4, arrI G n f4)] ++ ([(y5, arrI G n f5)] ++ []))))))) s H locs → lv_has ls 36 [(0, .ref b9), (1, .ref (gA G 0)), (2, .ref (A 0)), (3, .int (nI t)), (7, .int (nI n)), (16, .int (nI T)), (17, .int v17), (18, .int xr), (19, .int xn), (20, .int xo), (21, .int xf), (22, .int xs), (23, .int xl), (24, .int xi), (25, .int (nI (k + 1))), (26, .int ((Pw F n h 0).2 1 1)), (27, .int ((Pw F n h 0).2 1 5)), (28, .ref y1), (29, .ref y2), (30, .ref y3), (31, .ref y4), (32, .ref y5)] → W p l e room_1 s m args below meth c H locs (cells + 5) (slots + 40) Q (F0 m 1076 ls [])) : W p l e room_1 s m args below meth c H locs cells slots Q (F0 m 893 ls []) := by
  have hx := S.1
  have hb := S.2.1
  have hn8 := hIn.n8
  refine lv_aload_n hx hb dL_law_893 rfl (lv_at hl 1 rfl) ?_
  refine x_ci (rest := []) g (x_V (nA := 0) (As := []) S g (c_fund l G F 0 ) (lw_V q335 q336 q337 q1 q338) ⟨rfl, by decide +kernel, by decide +kernel, by decide +kernel⟩ rfl ⟨Nat.le_of_ble_eq_true rfl, Nat.le_of_ble_eq_true rfl⟩ hl.1 (Nat.le_of_ble_eq_true rfl) rfl ⟨by show cells + 0 ≤ 1112399; omega, by show slots + 0 ≤ 5764272; omega⟩ dL_law_894) (fun H locs g => ?_)
  refine lv_istore (lv' := [(26, .int (F 1 1)), (0, .ref b9), (1, .ref (gA G 0)), (2, .ref (A 0)), (3, .int (nI t)), (7, .int (nI n)), (16, .int (nI T)), (17, .int v17), (18, .int xr), (19, .int xn), (20, .int xo), (21, .int xf), (22, .int xs), (23, .int xl), (24, .int xi), (25, .int (nI (k + 1)))]) hx hb dL_law_897 hl (by decide) rfl (fun ls hl => ?_)
  refine lv_aload_n hx hb dL_law_899 rfl (lv_at hl 2 rfl) ?_
  refine x_ci (rest := []) g (x_V (nA := 0) (As := []) S g (c_reinsurersLoss l G F 0 ) (lw_V q351 q352 q353 q1 q354) ⟨rfl, by decide +kernel, by decide +kernel, by decide +kernel⟩ rfl ⟨Nat.le_of_ble_eq_true rfl, Nat.le_of_ble_eq_true rfl⟩ hl.1 (Nat.le_of_ble_eq_true rfl) rfl ⟨by show cells + 0 ≤ 1112399; omega, by show slots + 0 ≤ 5764272; omega⟩ dL_law_900) (fun H locs g => ?_)
  refine lv_istore (lv' := [(27, .int (F 1 5)), (26, .int (F 1 1)), (0, .ref b9), (1, .ref (gA G 0)), (2, .ref (A 0)), (3, .int (nI t)), (7, .int (nI n)), (16, .int (nI T)), (17, .int v17), (18, .int xr), (19, .int xn), (20, .int xo), (21, .int xf), (22, .int xs), (23, .int xl), (24, .int xi), (25, .int (nI (k + 1)))]) hx hb dL_law_903 hl (by decide) rfl (fun ls hl => ?_)
  refine lv_iload hx hb dL_law_905 (lv_at hl 6 rfl) ?_
  refine x_newa (len := n) S g q467 rfl (by omega) (by show cells + 1 ≤ 1112399; omega) (by show slots + n ≤ 5764272; omega) dL_law_907 (fun q907_0 H g => ?_)
  refine lv_astore (lv' := [(28, .ref q907_0), (27, .int (F 1 5)), (26, .int (F 1 1)), (0, .ref b9), (1, .ref (gA G 0)), (2, .ref (A 0)), (3, .int (nI t)), (7, .int (nI n)), (16, .int (nI T)), (17, .int v17), (18, .int xr), (19, .int xn), (20, .int xo), (21, .int xf), (22, .int xs), (23, .int xl), (24, .int xi), (25, .int (nI (k + 1)))]) hx hb dL_law_909 hl (by decide) rfl (fun ls hl => ?_)
  refine lv_iload hx hb dL_law_911 (lv_at hl 7 rfl) ?_
  refine x_newa (len := n) S g q467 rfl (by omega) (by show cells + 1 + 1 ≤ 1112399; omega) (by show slots + n + n ≤ 5764272; omega) dL_law_913 (fun q913_1 H g => ?_)
  refine lv_astore (lv' := [(29, .ref q913_1), (28, .ref q907_0), (27, .int (F 1 5)), (26, .int (F 1 1)), (0, .ref b9), (1, .ref (gA G 0)), (2, .ref (A 0)), (3, .int (nI t)), (7, .int (nI n)), (16, .int (nI T)), (17, .int v17), (18, .int xr), (19, .int xn), (20, .int xo), (21, .int xf), (22, .int xs), (23, .int xl), (24, .int xi), (25, .int (nI (k + 1)))]) hx hb dL_law_915 hl (by decide) rfl (fun ls hl => ?_)
  refine lv_iload hx hb dL_law_917 (lv_at hl 8 rfl) ?_
  refine x_newa (len := n) S g q467 rfl (by omega) (by show cells + 1 + 1 + 1 ≤ 1112399; omega) (by show slots + n + n + n ≤ 5764272; omega) dL_law_919 (fun q919_2 H g => ?_)
  refine lv_astore (lv' := [(30, .ref q919_2), (29, .ref q913_1), (28, .ref q907_0), (27, .int (F 1 5)), (26, .int (F 1 1)), (0, .ref b9), (1, .ref (gA G 0)), (2, .ref (A 0)), (3, .int (nI t)), (7, .int (nI n)), (16, .int (nI T)), (17, .int v17), (18, .int xr), (19, .int xn), (20, .int xo), (21, .int xf), (22, .int xs), (23, .int xl), (24, .int xi), (25, .int (nI (k + 1)))]) hx hb dL_law_921 hl (by decide) rfl (fun ls hl => ?_)
  refine lv_iload hx hb dL_law_923 (lv_at hl 9 rfl) ?_
  refine x_newa (len := n) S g q467 rfl (by omega) (by show cells + 1 + 1 + 1 + 1 ≤ 1112399; omega) (by show slots + n + n + n + n ≤ 5764272; omega) dL_law_925 (fun q925_3 H g => ?_)
  refine lv_astore (lv' := [(31, .ref q925_3), (30, .ref q919_2), (29, .ref q913_1), (28, .ref q907_0), (27, .int (F 1 5)), (26, .int (F 1 1)), (0, .ref b9), (1, .ref (gA G 0)), (2, .ref (A 0)), (3, .int (nI t)), (7, .int (nI n)), (16, .int (nI T)), (17, .int v17), (18, .int xr), (19, .int xn), (20, .int xo), (21, .int xf), (22, .int xs), (23, .int xl), (24, .int xi), (25, .int (nI (k + 1)))]) hx hb dL_law_927 hl (by decide) rfl (fun ls hl => ?_)
  refine lv_iload hx hb dL_law_929 (lv_at hl 10 rfl) ?_
  refine x_newa (len := n) S g q467 rfl (by omega) (by show cells + 1 + 1 + 1 + 1 + 1 ≤ 1112399; omega) (by show slots + n + n + n + n + n ≤ 5764272; omega) dL_law_931 (fun q931_4 H g => ?_)
  refine lv_astore (lv' := [(32, .ref q931_4), (31, .ref q925_3), (30, .ref q919_2), (29, .ref q913_1), (28, .ref q907_0), (27, .int (F 1 5)), (26, .int (F 1 1)), (0, .ref b9), (1, .ref (gA G 0)), (2, .ref (A 0)), (3, .int (nI t)), (7, .int (nI n)), (16, .int (nI T)), (17, .int v17), (18, .int xr), (19, .int xn), (20, .int xo), (21, .int xf), (22, .int xs), (23, .int xl), (24, .int xi), (25, .int (nI (k + 1)))]) hx hb dL_law_933 hl (by decide) rfl (fun ls hl => ?_)
  refine lv_iconst (v := 0) hx hb dL_law_935 (by decide) ?_
  refine lv_istore (lv' := [(33, .int 0), (32, .ref q931_4), (31, .ref q925_3), (30, .ref q919_2), (29, .ref q913_1), (28, .ref q907_0), (27, .int (F 1 5)), (26, .int (F 1 1)), (0, .ref b9), (1, .ref (gA G 0)), (2, .ref (A 0)), (3, .int (nI t)), (7, .int (nI n)), (16, .int (nI T)), (17, .int v17), (18, .int xr), (19, .int xn), (20, .int xo), (21, .int xf), (22, .int xs), (23, .int xl), (24, .int xi), (25, .int (nI (k + 1)))]) hx hb dL_law_936 hl (by decide) rfl (fun ls hl => ?_)
  have loop938 : ∀ (n_ : Nat) (i : Nat) (f1 : Nat → Int32) (f2 : Nat → Int32) (f3 : Nat → Int32) (f4 : Nat → Int32) (f5 : Nat → Int32) (H : Heap) (locs : List Loc) (ls : Array Slot) (hi : i + n_ = n) (ha : Ar F h i f1 f2 f3 f4 f5), GX G Z (wld G F 0 ++ (swl G A n F 1 ++ ([(q907_0, arrI G n f1)] ++ ([(q913_1, arrI G n f2)] ++ ([(q919_2, arrI G n f3)] ++ ([(q925_3, arrI G n f4)] ++ ([(q931_4, arrI G n f5)] ++ []))))))) s H locs → lv_has ls 36 [(0, .ref b9), (1, .ref (gA G 0)), (2, .ref (A 0)), (3, .int (nI t)), (7, .int (nI n)), (16, .int (nI T)), (17, .int v17), (18, .int xr), (19, .int xn), (20, .int xo), (21, .int xf), (22, .int xs), (23, .int xl), (24, .int xi), (25, .int (nI (k + 1))), (26, .int (F 1 1)), (27, .int (F 1 5)), (28, .ref q907_0), (29, .ref q913_1), (30, .ref q919_2), (31, .ref q925_3), (32, .ref q931_4), (33, .int (nI i))] → W p l e room_1 s m args below meth c H locs (cells + 1 + 1 + 1 + 1 + 1) (slots + n + n + n + n + n) Q (F0 m 938 ls []) := by
    intro n_
    induction n_ with
    | zero =>
      intro i f1 f2 f3 f4 f5 H locs ls hi ha g hl
      refine lv_iload hx hb dL_law_938 (lv_at hl 22 rfl) ?_
      refine lv_iload hx hb dL_law_940 (lv_at hl 4 rfl) ?_
      refine lv_icmp_ge (tgt := 1006) hx hb dL_law_942 (by decide) (fun c_942 => ?_) (fun c9 => absurd (nI_le (by omega) (by omega)) c9)
      refine lv_aload_n hx hb dL_law_1006 rfl (lv_at hl 1 rfl) ?_
      refine x_ci (rest := []) g (x_V (nA := 0) (As := []) S g (c_hour l G F 0 ) (lw_V q240 q241 q242 q1 q243) ⟨rfl, by decide +kernel, by decide +kernel, by decide +kernel⟩ rfl ⟨Nat.le_of_ble_eq_true rfl, Nat.le_of_ble_eq_true rfl⟩ hl.1 (Nat.le_of_ble_eq_true rfl) rfl ⟨by show cells + 1 + 1 + 1 + 1 + 1 + 0 ≤ 1112399; omega, by show slots + n + n + n + n + n + 0 ≤ 5764272; omega⟩ dL_law_1007) (fun H locs g => ?_)
      rw [show (F 1 0 : Int32) = nI h from hIn.c0]
      refine lv_bipush (v := 12) hx hb dL_law_1010 (by decide) ?_
      refine lv_irem hx hb dL_law_1012 (by decide) ?_
      rw [show ((nI h) - (nI h) / 12 * 12 : Int32) = nI (h % 12) from pk_rem (d := 12) (by omega) (by omega) (by omega)]
      refine lv_if_ne (tgt := 1076) hx hb dL_law_1013 (by decide) (fun c_1013 => ?_) (fun c_1013 => ?_)
      · refine W.widen (k := cells + 5) (n := slots + 40) (by omega) (by omega) ?_
        exact K q907_0 q913_1 q919_2 q925_3 q931_4 f1 f2 f3 f4 f5 _ _ _ ((show i = n by omega) ▸ ha) g (lv_sub hl [0, 1, 2, 3, 4, 5, 6, 7, 8, 9, 10, 11, 12, 13, 14, 15, 16, 17, 18, 19, 20, 21] (by rw [pw_0 c_1013]; rfl))
      · refine lv_iload hx hb dL_law_1016 (lv_at hl 15 rfl) ?_
        refine lv_aload_n hx hb dL_law_1018 rfl (lv_at hl 1 rfl) ?_
        refine x_ci (rest := [.int (F 1 1)]) g (x_V (nA := 0) (As := []) S g (c_rate l G F 0 ) (lw_V q339 q340 q341 q1 q342) ⟨rfl, by decide +kernel, by decide +kernel, by decide +kernel⟩ rfl ⟨Nat.le_of_ble_eq_true rfl, Nat.le_of_ble_eq_true rfl⟩ hl.1 (Nat.le_of_ble_eq_true rfl) rfl ⟨by show cells + 1 + 1 + 1 + 1 + 1 + 0 ≤ 1112399; omega, by show slots + n + n + n + n + n + 0 ≤ 5764272; omega⟩ dL_law_1019) (fun H locs g => ?_)
        refine lv_aload_n hx hb dL_law_1022 rfl (lv_at hl 1 rfl) ?_
        refine x_ci (rest := [.int (F 1 2), .int (F 1 1)]) g (x_V (nA := 0) (As := []) S g (c_members l G F 0 n hIn.c6 hn8) (lw_V q263 q264 q265 q1 q266) ⟨rfl, by decide +kernel, by decide +kernel, by decide +kernel⟩ rfl ⟨Nat.le_of_ble_eq_true rfl, Nat.le_of_ble_eq_true rfl⟩ hl.1 (Nat.le_of_ble_eq_true rfl) rfl ⟨by show cells + 1 + 1 + 1 + 1 + 1 + 0 ≤ 1112399; omega, by show slots + n + n + n + n + n + 0 ≤ 5764272; omega⟩ dL_law_1023) (fun H locs g => ?_)
        refine lv_imul hx hb dL_law_1026 ?_
        refine lv_aload_n hx hb dL_law_1027 rfl (lv_at hl 1 rfl) ?_
        refine x_ci (rest := [.int ((F 1 2) * (cmL F 1 n 0 0)), .int (F 1 1)]) g (x_V (nA := 0) (As := []) S g (c_limit l G F 0 ) (lw_V q347 q348 q349 q1 q350) ⟨rfl, by decide +kernel, by decide +kernel, by decide +kernel⟩ rfl ⟨Nat.le_of_ble_eq_true rfl, Nat.le_of_ble_eq_true rfl⟩ hl.1 (Nat.le_of_ble_eq_true rfl) rfl ⟨by show cells + 1 + 1 + 1 + 1 + 1 + 0 ≤ 1112399; omega, by show slots + n + n + n + n + n + 0 ≤ 5764272; omega⟩ dL_law_1028) (fun H locs g => ?_)
        refine lv_if_le (tgt := 1046) hx hb dL_law_1031 (by decide) (fun c_1031 => ?_) (fun c_1031 => ?_)
        · refine lv_iconst (v := 0) hx hb dL_law_1046 (by decide) ?_
          refine lv_isub hx hb dL_law_1047 ?_
          refine lv_iadd hx hb dL_law_1048 ?_
          rw [show ((F 1 1) + (((F 1 2) * (cmL F 1 n 0 0)) - 0) : Int32) = (Pw F n h 0).2 1 1 from (pf_0 c_1013 hIn.bf c_1031)]
          refine lv_istore (lv' := [(26, .int ((Pw F n h 0).2 1 1)), (0, .ref b9), (1, .ref (gA G 0)), (2, .ref (A 0)), (3, .int (nI t)), (7, .int (nI n)), (16, .int (nI T)), (17, .int v17), (18, .int xr), (19, .int xn), (20, .int xo), (21, .int xf), (22, .int xs), (23, .int xl), (24, .int xi), (25, .int (nI (k + 1))), (27, .int (F 1 5)), (28, .ref q907_0), (29, .ref q913_1), (30, .ref q919_2), (31, .ref q925_3), (32, .ref q931_4), (33, .int (nI i))]) hx hb dL_law_1049 hl (by decide) rfl (fun ls hl => ?_)
          refine lv_iload hx hb dL_law_1051 (lv_at hl 16 rfl) ?_
          refine lv_aload_n hx hb dL_law_1053 rfl (lv_at hl 2 rfl) ?_
          refine x_ci (rest := [.int (F 1 5)]) g (x_V (nA := 0) (As := []) S g (c_limit l G F 0 ) (lw_V q347 q348 q349 q1 q350) ⟨rfl, by decide +kernel, by decide +kernel, by decide +kernel⟩ rfl ⟨Nat.le_of_ble_eq_true rfl, Nat.le_of_ble_eq_true rfl⟩ hl.1 (Nat.le_of_ble_eq_true rfl) rfl ⟨by show cells + 1 + 1 + 1 + 1 + 1 + 0 ≤ 1112399; omega, by show slots + n + n + n + n + n + 0 ≤ 5764272; omega⟩ dL_law_1054) (fun H locs g => ?_)
          refine lv_if_le (tgt := 1072) hx hb dL_law_1057 (by decide) (fun c_1057 => ?_) (fun c9 => absurd c_1031 c9)
          refine lv_iconst (v := 0) hx hb dL_law_1072 (by decide) ?_
          refine lv_isub hx hb dL_law_1073 ?_
          rw [show ((F 1 5) - 0 : Int32) = (Pw F n h 0).2 1 5 from (pl_0 c_1013 hIn.bf c_1031)]
          refine lv_istore (lv' := [(27, .int ((Pw F n h 0).2 1 5)), (26, .int ((Pw F n h 0).2 1 1)), (0, .ref b9), (1, .ref (gA G 0)), (2, .ref (A 0)), (3, .int (nI t)), (7, .int (nI n)), (16, .int (nI T)), (17, .int v17), (18, .int xr), (19, .int xn), (20, .int xo), (21, .int xf), (22, .int xs), (23, .int xl), (24, .int xi), (25, .int (nI (k + 1))), (28, .ref q907_0), (29, .ref q913_1), (30, .ref q919_2), (31, .ref q925_3), (32, .ref q931_4), (33, .int (nI i))]) hx hb dL_law_1074 hl (by decide) rfl (fun ls hl => ?_)
          refine W.widen (k := cells + 5) (n := slots + 40) (by omega) (by omega) ?_
          exact K q907_0 q913_1 q919_2 q925_3 q931_4 f1 f2 f3 f4 f5 _ _ _ ((show i = n by omega) ▸ ha) g (lv_sub hl [2, 3, 4, 5, 6, 7, 8, 9, 10, 11, 12, 13, 14, 15, 16, 1, 0, 17, 18, 19, 20, 21] rfl)
        · refine lv_aload_n hx hb dL_law_1034 rfl (lv_at hl 1 rfl) ?_
          refine x_ci (rest := [.int ((F 1 2) * (cmL F 1 n 0 0)), .int (F 1 1)]) g (x_V (nA := 0) (As := []) S g (c_limit l G F 0 ) (lw_V q347 q348 q349 q1 q350) ⟨rfl, by decide +kernel, by decide +kernel, by decide +kernel⟩ rfl ⟨Nat.le_of_ble_eq_true rfl, Nat.le_of_ble_eq_true rfl⟩ hl.1 (Nat.le_of_ble_eq_true rfl) rfl ⟨by show cells + 1 + 1 + 1 + 1 + 1 + 0 ≤ 1112399; omega, by show slots + n + n + n + n + n + 0 ≤ 5764272; omega⟩ dL_law_1035) (fun H locs g => ?_)
          refine lv_bipush (v := 20) hx hb dL_law_1038 (by decide) ?_
          refine lv_idiv hx hb dL_law_1040 (by decide) ?_
          refine lv_iconst (v := 1) hx hb dL_law_1041 (by decide) ?_
          refine lv_iadd hx hb dL_law_1042 ?_
          refine lv_goto (tgt := 1047) hx hb dL_law_1043 (by decide) ?_
          refine lv_isub hx hb dL_law_1047 ?_
          refine lv_iadd hx hb dL_law_1048 ?_
          rw [show ((F 1 1) + (((F 1 2) * (cmL F 1 n 0 0)) - (((F 1 4) / 20) + 1)) : Int32) = (Pw F n h 0).2 1 1 from (pf_1 c_1013 c_1031)]
          refine lv_istore (lv' := [(26, .int ((Pw F n h 0).2 1 1)), (0, .ref b9), (1, .ref (gA G 0)), (2, .ref (A 0)), (3, .int (nI t)), (7, .int (nI n)), (16, .int (nI T)), (17, .int v17), (18, .int xr), (19, .int xn), (20, .int xo), (21, .int xf), (22, .int xs), (23, .int xl), (24, .int xi), (25, .int (nI (k + 1))), (27, .int (F 1 5)), (28, .ref q907_0), (29, .ref q913_1), (30, .ref q919_2), (31, .ref q925_3), (32, .ref q931_4), (33, .int (nI i))]) hx hb dL_law_1049 hl (by decide) rfl (fun ls hl => ?_)
          refine lv_iload hx hb dL_law_1051 (lv_at hl 16 rfl) ?_
          refine lv_aload_n hx hb dL_law_1053 rfl (lv_at hl 2 rfl) ?_
          refine x_ci (rest := [.int (F 1 5)]) g (x_V (nA := 0) (As := []) S g (c_limit l G F 0 ) (lw_V q347 q348 q349 q1 q350) ⟨rfl, by decide +kernel, by decide +kernel, by decide +kernel⟩ rfl ⟨Nat.le_of_ble_eq_true rfl, Nat.le_of_ble_eq_true rfl⟩ hl.1 (Nat.le_of_ble_eq_true rfl) rfl ⟨by show cells + 1 + 1 + 1 + 1 + 1 + 0 ≤ 1112399; omega, by show slots + n + n + n + n + n + 0 ≤ 5764272; omega⟩ dL_law_1054) (fun H locs g => ?_)
          refine lv_if_le (tgt := 1072) hx hb dL_law_1057 (by decide) (fun c9 => absurd c9 c_1031) (fun c_1057 => ?_)
          refine lv_aload_n hx hb dL_law_1060 rfl (lv_at hl 2 rfl) ?_
          refine x_ci (rest := [.int (F 1 5)]) g (x_V (nA := 0) (As := []) S g (c_limit l G F 0 ) (lw_V q347 q348 q349 q1 q350) ⟨rfl, by decide +kernel, by decide +kernel, by decide +kernel⟩ rfl ⟨Nat.le_of_ble_eq_true rfl, Nat.le_of_ble_eq_true rfl⟩ hl.1 (Nat.le_of_ble_eq_true rfl) rfl ⟨by show cells + 1 + 1 + 1 + 1 + 1 + 0 ≤ 1112399; omega, by show slots + n + n + n + n + n + 0 ≤ 5764272; omega⟩ dL_law_1061) (fun H locs g => ?_)
          refine lv_bipush (v := 20) hx hb dL_law_1064 (by decide) ?_
          refine lv_idiv hx hb dL_law_1066 (by decide) ?_
          refine lv_iconst (v := 1) hx hb dL_law_1067 (by decide) ?_
          refine lv_iadd hx hb dL_law_1068 ?_
          refine lv_goto (tgt := 1073) hx hb dL_law_1069 (by decide) ?_
          refine lv_isub hx hb dL_law_1073 ?_
          rw [show ((F 1 5) - (((F 1 4) / 20) + 1) : Int32) = (Pw F n h 0).2 1 5 from (pl_1 c_1013 c_1031)]
          refine lv_istore (lv' := [(27, .int ((Pw F n h 0).2 1 5)), (26, .int ((Pw F n h 0).2 1 1)), (0, .ref b9), (1, .ref (gA G 0)), (2, .ref (A 0)), (3, .int (nI t)), (7, .int (nI n)), (16, .int (nI T)), (17, .int v17), (18, .int xr), (19, .int xn), (20, .int xo), (21, .int xf), (22, .int xs), (23, .int xl), (24, .int xi), (25, .int (nI (k + 1))), (28, .ref q907_0), (29, .ref q913_1), (30, .ref q919_2), (31, .ref q925_3), (32, .ref q931_4), (33, .int (nI i))]) hx hb dL_law_1074 hl (by decide) rfl (fun ls hl => ?_)
          refine W.widen (k := cells + 5) (n := slots + 40) (by omega) (by omega) ?_
          exact K q907_0 q913_1 q919_2 q925_3 q931_4 f1 f2 f3 f4 f5 _ _ _ ((show i = n by omega) ▸ ha) g (lv_sub hl [2, 3, 4, 5, 6, 7, 8, 9, 10, 11, 12, 13, 14, 15, 16, 1, 0, 17, 18, 19, 20, 21] rfl)
    | succ n_ ih_938 =>
      intro i f1 f2 f3 f4 f5 H locs ls hi ha g hl
      have hin : i < n := by omega
      refine lv_iload hx hb dL_law_938 (lv_at hl 22 rfl) ?_
      refine lv_iload hx hb dL_law_940 (lv_at hl 4 rfl) ?_
      refine lv_icmp_ge (tgt := 1006) hx hb dL_law_942 (by decide) (fun c9 => absurd c9 (nI_ge (by omega) (by omega))) (fun c_942 => ?_)
      refine lv_aload hx hb dL_law_945 (lv_at hl 17 rfl) ?_
      refine lv_iload hx hb dL_law_947 (lv_at hl 22 rfl) ?_
      refine lv_aload_n hx hb dL_law_949 rfl (lv_at hl 1 rfl) ?_
      refine lv_iload hx hb dL_law_950 (lv_at hl 22 rfl) ?_
      refine x_ci (rest := [.int (nI i), .ref q907_0]) g (x_V (nA := 1) (As := [.int (nI i)]) S g (c_wobbleOf_ok l G F 0 i n hIn.c6 hin hn8) (lw_V q293 q294 q295 q1 q296) ⟨rfl, by decide +kernel, by decide +kernel, by decide +kernel⟩ rfl ⟨Nat.le_of_ble_eq_true rfl, Nat.le_of_ble_eq_true rfl⟩ hl.1 (Nat.le_of_ble_eq_true rfl) rfl ⟨by show cells + 1 + 1 + 1 + 1 + 1 + 0 ≤ 1112399; omega, by show slots + n + n + n + n + n + 0 ≤ 5764272; omega⟩ dL_law_952) (fun H locs g => ?_)
      have g := g.perm (pm3 _ _ _ _ )
      refine x_iast S g (by omega) i rfl (by omega) dL_law_955 (fun H locs g => ?_)
      refine lv_aload hx hb dL_law_956 (lv_at hl 18 rfl) ?_
      refine lv_iload hx hb dL_law_958 (lv_at hl 22 rfl) ?_
      refine lv_aload_n hx hb dL_law_960 rfl (lv_at hl 1 rfl) ?_
      refine lv_iload hx hb dL_law_961 (lv_at hl 22 rfl) ?_
      have g := g.perm (pm2 _ _ _ )
      refine x_ci (rest := [.int (nI i), .ref q913_1]) g (x_V (nA := 1) (As := [.int (nI i)]) S g (c_fallsOf_ok l G F 0 i n hIn.c6 hin hn8) (lw_V q297 q298 q299 q1 q300) ⟨rfl, by decide +kernel, by decide +kernel, by decide +kernel⟩ rfl ⟨Nat.le_of_ble_eq_true rfl, Nat.le_of_ble_eq_true rfl⟩ hl.1 (Nat.le_of_ble_eq_true rfl) rfl ⟨by show cells + 1 + 1 + 1 + 1 + 1 + 0 ≤ 1112399; omega, by show slots + n + n + n + n + n + 0 ≤ 5764272; omega⟩ dL_law_963) (fun H locs g => ?_)
      have g := g.perm (pm4 _ _ _ _ _ )
      refine x_iast S g (by omega) i rfl (by omega) dL_law_966 (fun H locs g => ?_)
      refine lv_aload hx hb dL_law_967 (lv_at hl 19 rfl) ?_
      refine lv_iload hx hb dL_law_969 (lv_at hl 22 rfl) ?_
      refine lv_aload_n hx hb dL_law_971 rfl (lv_at hl 1 rfl) ?_
      refine lv_iload hx hb dL_law_972 (lv_at hl 22 rfl) ?_
      have g := g.perm (pm2 _ _ _ )
      refine x_ci (rest := [.int (nI i), .ref q919_2]) g (x_V (nA := 1) (As := [.int (nI i)]) S g (c_netOf_ok l G F 0 i n hIn.c6 hin hn8) (lw_V q289 q290 q291 q1 q292) ⟨rfl, by decide +kernel, by decide +kernel, by decide +kernel⟩ rfl ⟨Nat.le_of_ble_eq_true rfl, Nat.le_of_ble_eq_true rfl⟩ hl.1 (Nat.le_of_ble_eq_true rfl) rfl ⟨by show cells + 1 + 1 + 1 + 1 + 1 + 0 ≤ 1112399; omega, by show slots + n + n + n + n + n + 0 ≤ 5764272; omega⟩ dL_law_974) (fun H locs g => ?_)
      have g := g.perm (pm5 _ _ _ _ _ _ )
      refine x_iast S g (by omega) i rfl (by omega) dL_law_977 (fun H locs g => ?_)
      refine lv_aload hx hb dL_law_978 (lv_at hl 20 rfl) ?_
      refine lv_iload hx hb dL_law_980 (lv_at hl 22 rfl) ?_
      refine lv_aload_n hx hb dL_law_982 rfl (lv_at hl 1 rfl) ?_
      refine lv_iload hx hb dL_law_983 (lv_at hl 22 rfl) ?_
      have g := g.perm (pm2 _ _ _ )
      refine x_ci (rest := [.int (nI i), .ref q925_3]) g (x_V (nA := 1) (As := [.int (nI i)]) S g (c_poolPartOf_ok l G F 0 i n h hIn.c6 hin hn8 hIn.c0 (by omega)) (lw_V q322 q323 q324 q1 q325) ⟨rfl, by decide +kernel, by decide +kernel, by decide +kernel⟩ rfl ⟨Nat.le_of_ble_eq_true rfl, Nat.le_of_ble_eq_true rfl⟩ hl.1 (Nat.le_of_ble_eq_true rfl) rfl ⟨by show cells + 1 + 1 + 1 + 1 + 1 + 0 ≤ 1112399; omega, by show slots + n + n + n + n + n + 0 ≤ 5764272; omega⟩ dL_law_985) (fun H locs g => ?_)
      have g := g.perm (pm6 _ _ _ _ _ _ _ )
      refine x_iast S g (by omega) i rfl (by omega) dL_law_988 (fun H locs g => ?_)
      refine lv_aload hx hb dL_law_989 (lv_at hl 21 rfl) ?_
      refine lv_iload hx hb dL_law_991 (lv_at hl 22 rfl) ?_
      refine lv_aload_n hx hb dL_law_993 rfl (lv_at hl 1 rfl) ?_
      refine lv_iload hx hb dL_law_994 (lv_at hl 22 rfl) ?_
      have g := g.perm (pm2 _ _ _ )
      refine x_ci (rest := [.int (nI i), .ref q931_4]) g (x_V (nA := 1) (As := [.int (nI i)]) S g (c_reinsuredPartOf_ok l G F 0 i n h hIn.c6 hin hn8 hIn.c0 (by omega)) (lw_V q331 q332 q333 q1 q334) ⟨rfl, by decide +kernel, by decide +kernel, by decide +kernel⟩ rfl ⟨Nat.le_of_ble_eq_true rfl, Nat.le_of_ble_eq_true rfl⟩ hl.1 (Nat.le_of_ble_eq_true rfl) rfl ⟨by show cells + 1 + 1 + 1 + 1 + 1 + 0 ≤ 1112399; omega, by show slots + n + n + n + n + n + 0 ≤ 5764272; omega⟩ dL_law_996) (fun H locs g => ?_)
      have g := g.perm (pm7 _ _ _ _ _ _ _ _ )
      refine x_iast S g (by omega) i rfl (by omega) dL_law_999 (fun H locs g => ?_)
      refine lv_iinc (v := nI (i + 1)) (lv' := [(33, .int (nI (i + 1))), (0, .ref b9), (1, .ref (gA G 0)), (2, .ref (A 0)), (3, .int (nI t)), (7, .int (nI n)), (16, .int (nI T)), (17, .int v17), (18, .int xr), (19, .int xn), (20, .int xo), (21, .int xf), (22, .int xs), (23, .int xl), (24, .int xi), (25, .int (nI (k + 1))), (26, .int (F 1 1)), (27, .int (F 1 5)), (28, .ref q907_0), (29, .ref q913_1), (30, .ref q919_2), (31, .ref q925_3), (32, .ref q931_4)]) hx hb dL_law_1000 hl (k := 22) rfl (nI_1 i) (by decide) rfl (fun ls hl => ?_)
      refine lv_goto (tgt := 938) hx hb dL_law_1003 (by decide) ?_
      have g := g.perm (pm3 _ _ _ _ )
      have g := g.perm (pm4 _ _ _ _ _ )
      have g := g.perm (pm5 _ _ _ _ _ _ )
      have g := g.perm (pm6 _ _ _ _ _ _ _ )
      have g := g.perm (pm7 _ _ _ _ _ _ _ _ )
      have g := g.perm (pm7 _ _ _ _ _ _ _ _ )
      exact ih_938 (i + 1) _ _ _ _ _ _ _ _ (by omega) ha.up g (lv_sub hl [1, 2, 3, 4, 5, 6, 7, 8, 9, 10, 11, 12, 13, 14, 15, 16, 17, 18, 19, 20, 21, 22, 0] rfl)
  have g := g.perm (pm2 _ _ _ )
  have g := g.perm (pm3 _ _ _ _ )
  have g := g.perm (pm4 _ _ _ _ _ )
  have g := g.perm (pm5 _ _ _ _ _ _ )
  have g := g.perm (pm7 _ _ _ _ _ _ _ _ )
  have g := g.perm (pm7 _ _ _ _ _ _ _ _ )
  exact loop938 n 0 _ _ _ _ _ _ _ _ (by omega) (fun j hj => absurd hj (Nat.not_lt_zero j)) g (lv_sub hl [8, 9, 10, 11, 12, 13, 14, 15, 16, 17, 18, 19, 20, 21, 22, 7, 6, 5, 4, 3, 2, 1, 0] rfl)
set_option maxHeartbeats 4000000 in
set_option maxRecDepth 100000 in
theorem seg_H2 {p : Program} {l : Launch} {e : Env} {s : State} {m : MethodId} {args : Array Value} {below : List Frame} {meth : Method} {c : Code} {cells slots : Nat} {Q : State → Prop} {G : gT} {Z : Nat → Prop} {b9 L9 : Nat} {xs9 : Nat → Int32} (hfl : l.stackTraces = false) (S : CallFix p m c cL_law 36 s args lw_all "ShadowPoolLaw") (hX9 : va_X b9 L9 xs9 s s.heap) (hX9l : b9 < s.heap.size) (hX9n : ¬ Z b9) (A : Nat → Nat) (F : Fs) (n : Nat) (h : Nat) (hIn : In F n h) (hh : h ≤ 8000) (t : Nat) (T : Nat) (k : Nat) (v17 : Int32) (xr : Int32) (xn : Int32) (xo : Int32) (xf : Int32) (xs : Int32) (xl : Int32) (xi : Int32) (y1 : Nat) (y2 : Nat) (y3 : Nat) (y4 : Nat) (y5 : Nat) (f1 : Nat → Int32) (f2 : Nat → Int32) (f3 : Nat → Int32) (f4 : Nat → Int32) (f5 : Nat → Int32) (F9 : Fs) (eF9 : hrF F 1 n h = F9) {H : Heap} {locs : List Loc} {ls : Array Slot} (g : GX G Z (wld G F 0 ++ (swl G A n F 1 ++ ([(y1, arrI G n f1)] ++ ([(y2, arrI G n f2)] ++ ([(y3, arrI G n f3)] ++ ([(y4, arrI G n f4)] ++ ([(y5, arrI G n f5)] ++ []))))))) s H locs) (hl : lv_has ls 36 [(0, .ref b9), (1, .ref (gA G 0)), (2, .ref (A 0)), (3, .int (nI t)), (7, .int (nI n)), (16, .int (nI T)), (17, .int v17), (18, .int xr), (19, .int xn), (20, .int xo), (21, .int xf), (22, .int xs), (23, .int xl), (24, .int xi), (25, .int (nI (k + 1))), (26, .int ((Pw F n h 0).2 1 1)), (27, .int ((Pw F n h 0).2 1 5)), (28, .ref y1), (29, .ref y2), (30, .ref y3), (31, .ref y4), (32, .ref y5)]) (hc1 : cells + 8 ≤ 1112399) (hc2 : slots + 32 ≤ 5764272) (K : ∀ (H : Heap) (locs : List Loc) (ls : Array Slot), GX G Z (wld G F9 0 ++ (swl G A n F9 1 ++ ([(y1, arrI G n f1)] ++ ([(y2, arrI G n f2)] ++ ([(y3, arrI G n f3)] ++ ([(y4, arrI G n f4)] ++ ([(y5, arrI G n f5)] ++ []))))))) s H locs → lv_has ls 36 [(0, .ref b9), (1, .ref (gA G 0)), (2, .ref (A 0)), (3, .int (nI t)), (7, .int (nI n)), (16, .int (nI T)), (17, .int v17), (18, .int xr), (19, .int xn), (20, .int xo), (21, .int xf), (22, .int xs), (23, .int xl), (24, .int xi), (25, .int (nI (k + 1))), (26, .int ((Pw F n h 0).2 1 1)), (27, .int ((Pw F n h 0).2 1 5)), (28, .ref y1), (29, .ref y2), (30, .ref y3), (31, .ref y4), (32, .ref y5), (33, .int (hrR F 1 n h))] → W p l e room_1 s m args below meth c H locs (cells + 8) (slots + 32) Q (F0 m 1094 ls [])) : W p l e room_1 s m args below meth c H locs cells slots Q (F0 m 1076 ls []) := by
  have hx := S.1
  have hb := S.2.1
  have hn8 := hIn.n8
  refine lv_aload_n hx hb dL_law_1076 rfl (lv_at hl 1 rfl) ?_
  refine lv_iconst (v := 1) hx hb dL_law_1077 (by decide) ?_
  refine x_ci (rest := []) g (x_V (nA := 1) (As := [.int 1]) S g (c_pass_ok l G F 0 1 n h hIn.ok hn8 (by omega) (by decide) (by decide)) (lw_V q97 q98 q99 q1 q100) ⟨rfl, by decide +kernel, by decide +kernel, by decide +kernel⟩ rfl ⟨Nat.le_of_ble_eq_true rfl, Nat.le_of_ble_eq_true rfl⟩ hl.1 (Nat.le_of_ble_eq_true rfl) rfl ⟨by show cells + 0 ≤ 1112399; omega, by show slots + 0 ≤ 5764272; omega⟩ dL_law_1078) (fun H locs g => ?_)
  rw [show ((gbL 1 n 1 h 0 F).1 : Int32) = hrR F 1 n h from (ps_1 F n h)]
  have g := g.eqw (show wld G ((gbL 1 n 1 h 0 F).2) 0 ++ (swl G A n F 1 ++ ([(y1, arrI G n f1)] ++ ([(y2, arrI G n f2)] ++ ([(y3, arrI G n f3)] ++ ([(y4, arrI G n f4)] ++ ([(y5, arrI G n f5)] ++ [])))))) = wld G F9 0 ++ (swl G A n F 1 ++ ([(y1, arrI G n f1)] ++ ([(y2, arrI G n f2)] ++ ([(y3, arrI G n f3)] ++ ([(y4, arrI G n f4)] ++ ([(y5, arrI G n f5)] ++ [])))))) from by rw [show (gbL 1 n 1 h 0 F).2 = F9 from eF9])
  refine lv_istore (lv' := [(33, .int (hrR F 1 n h)), (0, .ref b9), (1, .ref (gA G 0)), (2, .ref (A 0)), (3, .int (nI t)), (7, .int (nI n)), (16, .int (nI T)), (17, .int v17), (18, .int xr), (19, .int xn), (20, .int xo), (21, .int xf), (22, .int xs), (23, .int xl), (24, .int xi), (25, .int (nI (k + 1))), (26, .int ((Pw F n h 0).2 1 1)), (27, .int ((Pw F n h 0).2 1 5)), (28, .ref y1), (29, .ref y2), (30, .ref y3), (31, .ref y4), (32, .ref y5)]) hx hb dL_law_1081 hl (by decide) rfl (fun ls hl => ?_)
  refine lv_iload hx hb dL_law_1083 (lv_at hl 0 rfl) ?_
  refine lv_aload_n hx hb dL_law_1085 rfl (lv_at hl 3 rfl) ?_
  have g := g.perm (pm2 _ _ _ )
  refine y_ci (rest := [.int (hrR F 1 n h)]) g (y_V (nA := 0) (As := []) S g (d_pass l G A n F 1 h (Or.inl rfl) (by omega) hIn.1) (swl_m0 G _ _ _ _) (lw_V q468 q469 q470 q4 q471) ⟨rfl, by decide +kernel, by decide +kernel, by decide +kernel⟩ rfl ⟨Nat.le_of_ble_eq_true rfl, Nat.le_of_ble_eq_true rfl⟩ hl.1 (Nat.le_of_ble_eq_true rfl) rfl ⟨by show cells + 8 ≤ 1112399; omega, by show slots + 32 ≤ 5764272; omega⟩ dL_law_1086) (fun r9 u1086_0 H locs hp9 g => ?_)
  subst hp9
  have g := g.eqw (show swl G A n (hrF F 1 n h) 1 ++ (wld G F9 0 ++ ([(y1, arrI G n f1)] ++ ([(y2, arrI G n f2)] ++ ([(y3, arrI G n f3)] ++ ([(y4, arrI G n f4)] ++ ([(y5, arrI G n f5)] ++ [])))))) = swl G A n F9 1 ++ (wld G F9 0 ++ ([(y1, arrI G n f1)] ++ ([(y2, arrI G n f2)] ++ ([(y3, arrI G n f3)] ++ ([(y4, arrI G n f4)] ++ ([(y5, arrI G n f5)] ++ [])))))) from by rw [eF9])
  refine lv_icmp_eq (tgt := 1094) hx hb dL_law_1089 (by decide) (fun c_1089 => ?_) (fun c9 => absurd rfl c9)
  have g := g.perm (pm7 _ _ _ _ _ _ _ _ )
  have g := g.perm (pm7 _ _ _ _ _ _ _ _ )
  have g := g.perm (pm7 _ _ _ _ _ _ _ _ )
  have g := g.perm (pm7 _ _ _ _ _ _ _ _ )
  have g := g.perm (pm7 _ _ _ _ _ _ _ _ )
  have g := g.perm (pm6 _ _ _ _ _ _ _ )
  have g := g.perm (pm7 _ _ _ _ _ _ _ _ )
  refine W.widen (k := cells + 8) (n := slots + 32) (by omega) (by omega) ?_
  exact K  _ _ _  g (lv_sub hl [1, 2, 3, 4, 5, 6, 7, 8, 9, 10, 11, 12, 13, 14, 15, 16, 17, 18, 19, 20, 21, 22, 0] rfl)
set_option maxHeartbeats 4000000 in
set_option maxRecDepth 100000 in
theorem seg_H3 {p : Program} {l : Launch} {e : Env} {s : State} {m : MethodId} {args : Array Value} {below : List Frame} {meth : Method} {c : Code} {cells slots : Nat} {Q : State → Prop} {G : gT} {Z : Nat → Prop} {b9 L9 : Nat} {xs9 : Nat → Int32} (hfl : l.stackTraces = false) (S : CallFix p m c cL_law 36 s args lw_all "ShadowPoolLaw") (hX9 : va_X b9 L9 xs9 s s.heap) (hX9l : b9 < s.heap.size) (hX9n : ¬ Z b9) (A : Nat → Nat) (F : Fs) (n : Nat) (h : Nat) (hIn : In F n h) (hh : h ≤ 8000) (t : Nat) (T : Nat) (k : Nat) (v17 : Int32) (xr : Int32) (xn : Int32) (xo : Int32) (xf : Int32) (xs : Int32) (xl : Int32) (xi : Int32) (y1 : Nat) (y2 : Nat) (y3 : Nat) (y4 : Nat) (y5 : Nat) (f1 : Nat → Int32) (f2 : Nat → Int32) (f3 : Nat → Int32) (f4 : Nat → Int32) (f5 : Nat → Int32) (F9 : Fs) (eF9 : hrF F 1 n h = F9) (Fb : Fs) (h0 : Nat) (hk : k < 100) (eF : F = Hh Fb n h0 k) (eh : h = h0 + k) (hI9 : In F9 n (h + 1)) (ha : Ar F h n f1 f2 f3 f4 f5) (hnx : Nx Fb n h0 xn xs) (hxi : Fi Fb n h0 k xi) {H : Heap} {locs : List Loc} {ls : Array Slot} (g : GX G Z (wld G F9 0 ++ (swl G A n F9 1 ++ ([(y1, arrI G n f1)] ++ ([(y2, arrI G n f2)] ++ ([(y3, arrI G n f3)] ++ ([(y4, arrI G n f4)] ++ ([(y5, arrI G n f5)] ++ []))))))) s H locs) (hl : lv_has ls 36 [(0, .ref b9), (1, .ref (gA G 0)), (2, .ref (A 0)), (3, .int (nI t)), (7, .int (nI n)), (16, .int (nI T)), (17, .int v17), (18, .int xr), (19, .int xn), (20, .int xo), (21, .int xf), (22, .int xs), (23, .int xl), (24, .int xi), (25, .int (nI (k + 1))), (26, .int ((Pw F n h 0).2 1 1)), (27, .int ((Pw F n h 0).2 1 5)), (28, .ref y1), (29, .ref y2), (30, .ref y3), (31, .ref y4), (32, .ref y5), (33, .int (hrR F 1 n h))]) (hc1 : cells + 0 ≤ 1112399) (hc2 : slots + 0 ≤ 5764272) (K : ∀ (i : Nat) (xj : Int32) (H : Heap) (locs : List Loc) (ls : Array Slot), i = n → Fi2 Fb n h0 k i xj → GX G Z (wld G F9 0 ++ (swl G A n F9 1 ++ ([(y1, arrI G n f1)] ++ ([(y2, arrI G n f2)] ++ ([(y3, arrI G n f3)] ++ ([(y4, arrI G n f4)] ++ ([(y5, arrI G n f5)] ++ []))))))) s H locs → lv_has ls 36 [(0, .ref b9), (1, .ref (gA G 0)), (2, .ref (A 0)), (3, .int (nI t)), (7, .int (nI n)), (16, .int (nI T)), (17, .int v17), (18, .int xr), (19, .int xn), (20, .int xo), (21, .int xf), (22, .int xs), (23, .int xl), (24, .int xj), (25, .int (nI (k + 1))), (26, .int ((Pw F n h i).2 1 1)), (27, .int ((Pw F n h i).2 1 5)), (28, .ref y1), (29, .ref y2), (30, .ref y3), (31, .ref y4), (32, .ref y5), (33, .int (hrR F 1 n h - (Pw F n h i).1))] → W p l e room_1 s m args below meth c H locs (cells + 0) (slots + 0) Q (F0 m 1310 ls [])) : W p l e room_1 s m args below meth c H locs cells slots Q (F0 m 1094 ls []) := by
  have hx := S.1
  have hb := S.2.1
  have hn8 := hIn.n8
  have efl : ∀ i, flH Fb n h0 k i ↔ fl F h i := fun i => by rw [eF, eh]; exact Iff.rfl
  refine lv_iconst (v := 0) hx hb dL_law_1094 (by decide) ?_
  refine lv_istore (lv' := [(34, .int 0), (0, .ref b9), (1, .ref (gA G 0)), (2, .ref (A 0)), (3, .int (nI t)), (7, .int (nI n)), (16, .int (nI T)), (17, .int v17), (18, .int xr), (19, .int xn), (20, .int xo), (21, .int xf), (22, .int xs), (23, .int xl), (24, .int xi), (25, .int (nI (k + 1))), (26, .int ((Pw F n h 0).2 1 1)), (27, .int ((Pw F n h 0).2 1 5)), (28, .ref y1), (29, .ref y2), (30, .ref y3), (31, .ref y4), (32, .ref y5), (33, .int (hrR F 1 n h))]) hx hb dL_law_1095 hl (by decide) rfl (fun ls hl => ?_)
  have loop1097 : ∀ (n_ : Nat) (i : Nat) (xj : Int32) (H : Heap) (locs : List Loc) (ls : Array Slot) (hi : i + n_ = n) (hF : Fi2 Fb n h0 k i xj), GX G Z (wld G F9 0 ++ (swl G A n F9 1 ++ ([(y1, arrI G n f1)] ++ ([(y2, arrI G n f2)] ++ ([(y3, arrI G n f3)] ++ ([(y4, arrI G n f4)] ++ ([(y5, arrI G n f5)] ++ []))))))) s H locs → lv_has ls 36 [(0, .ref b9), (1, .ref (gA G 0)), (2, .ref (A 0)), (3, .int (nI t)), (7, .int (nI n)), (16, .int (nI T)), (17, .int v17), (18, .int xr), (19, .int xn), (20, .int xo), (21, .int xf), (22, .int xs), (23, .int xl), (24, .int xj), (25, .int (nI (k + 1))), (26, .int ((Pw F n h i).2 1 1)), (27, .int ((Pw F n h i).2 1 5)), (28, .ref y1), (29, .ref y2), (30, .ref y3), (31, .ref y4), (32, .ref y5), (33, .int (hrR F 1 n h - (Pw F n h i).1)), (34, .int (nI i))] → W p l e room_1 s m args below meth c H locs (cells) (slots) Q (F0 m 1097 ls []) := by
    intro n_
    induction n_ with
    | zero =>
      intro i xj H locs ls hi hF g hl
      refine lv_iload hx hb dL_law_1097 (lv_at hl 23 rfl) ?_
      refine lv_iload hx hb dL_law_1099 (lv_at hl 4 rfl) ?_
      refine lv_icmp_ge (tgt := 1310) hx hb dL_law_1101 (by decide) (fun c_1101 => ?_) (fun c9 => absurd (nI_le (by omega) (by omega)) c9)
      refine W.widen (k := cells + 0) (n := slots + 0) (by omega) (by omega) ?_
      exact K i xj _ _ _ (by omega) hF g (lv_sub hl [0, 1, 2, 3, 4, 5, 6, 7, 8, 9, 10, 11, 12, 13, 14, 15, 16, 17, 18, 19, 20, 21, 22] rfl)
    | succ n_ ih_1097 =>
      intro i xj H locs ls hi hF g hl
      have hin : i < n := by omega
      obtain ⟨a, nt, wo, f, m9, r, l9, S9, co9, o9, q9, t9, ⟨b1, b2, b3, b4, b5, b6, b7, b8, b9_⟩, e0, e2, e3, e4, e5, er, el, eS, ec, eo, eq, et, k1, k2, k3, k4, k5, k6, k7, k8, k9, k10⟩ := wk_all hIn hin
      obtain ⟨w9, hw9, ew9⟩ := hI9.wo hin
      refine lv_iload hx hb dL_law_1097 (lv_at hl 23 rfl) ?_
      refine lv_iload hx hb dL_law_1099 (lv_at hl 4 rfl) ?_
      refine lv_icmp_ge (tgt := 1310) hx hb dL_law_1101 (by decide) (fun c9 => absurd c9 (nI_ge (by omega) (by omega))) (fun c_1101 => ?_)
      rcases fl_dec F h i with hf | hf
      · have hP := Pw_y (n := n) hf
        obtain ⟨g3, g4, g2⟩ := (hr_in (n := n) hin).1 hf
        rw [eF9] at g2 g3 g4
        refine lv_aload_n hx hb dL_law_1104 rfl (lv_at hl 1 rfl) ?_
        refine lv_iload hx hb dL_law_1105 (lv_at hl 23 rfl) ?_
        refine x_ci (rest := []) g (x_V (nA := 1) (As := [.int (nI i)]) S g (c_fallsOf_ok l G F9 0 i n hI9.c6 hin hn8) (lw_V q297 q298 q299 q1 q300) ⟨rfl, by decide +kernel, by decide +kernel, by decide +kernel⟩ rfl ⟨Nat.le_of_ble_eq_true rfl, Nat.le_of_ble_eq_true rfl⟩ hl.1 (Nat.le_of_ble_eq_true rfl) rfl ⟨by show cells + 0 ≤ 1112399; omega, by show slots + 0 ≤ 5764272; omega⟩ dL_law_1107) (fun H locs g => ?_)
        rw [show (F9 (wb 1 i) 4 : Int32) = nI (f + 1) from (g4.trans (by rw [e4]; exact nI_1 f))]
        refine lv_aload hx hb dL_law_1110 (lv_at hl 18 rfl) ?_
        refine lv_iload hx hb dL_law_1112 (lv_at hl 23 rfl) ?_
        refine x_iald S g (List.mem_append_right _ (List.mem_append_right _ (List.mem_append_right _ (List.mem_append_left _ List.mem_cons_self)))) (by omega) i rfl (by omega) dL_law_1114 ?_
        rw [show (f2 i : Int32) = nI f from ((ha i hin).2.1.trans e4)]
        refine lv_icmp_le (tgt := 1122) hx hb dL_law_1115 (by decide) (fun c9 => absurd c9 (fun z9 => absurd ((nI_leI (a := (f + 1)) (b := f) (by omega) (by omega)).mp z9) (by omega))) (fun c_1115 => ?_)
        refine lv_iconst (v := 1) hx hb dL_law_1118 (by decide) ?_
        refine lv_goto (tgt := 1123) hx hb dL_law_1119 (by decide) ?_
        refine lv_istore (lv' := [(35, .int 1), (0, .ref b9), (1, .ref (gA G 0)), (2, .ref (A 0)), (3, .int (nI t)), (7, .int (nI n)), (16, .int (nI T)), (17, .int v17), (18, .int xr), (19, .int xn), (20, .int xo), (21, .int xf), (22, .int xs), (23, .int xl), (24, .int xj), (25, .int (nI (k + 1))), (26, .int ((Pw F n h i).2 1 1)), (27, .int ((Pw F n h i).2 1 5)), (28, .ref y1), (29, .ref y2), (30, .ref y3), (31, .ref y4), (32, .ref y5), (33, .int (hrR F 1 n h - (Pw F n h i).1)), (34, .int (nI i))]) hx hb dL_law_1123 hl (by decide) rfl (fun ls hl => ?_)
        refine lv_iload hx hb dL_law_1125 (lv_at hl 23 rfl) ?_
        refine lv_iload hx hb dL_law_1127 (lv_at hl 0 rfl) ?_
        refine lv_if_eq (tgt := 1136) hx hb dL_law_1129 (by decide) (fun c9 => absurd c9 (by decide)) (fun c_1129 => ?_)
        refine lv_iconst (v := 1) hx hb dL_law_1132 (by decide) ?_
        refine lv_goto (tgt := 1137) hx hb dL_law_1133 (by decide) ?_
        refine lv_isub hx hb dL_law_1137 ?_
        rw [show ((hrR F 1 n h - (Pw F n h i).1) - 1 : Int32) = hrR F 1 n h - (Pw F n h (i + 1)).1 from (by rw [hP.1]; grind)]
        refine lv_istore (lv' := [(33, .int (hrR F 1 n h - (Pw F n h (i + 1)).1)), (35, .int 1), (0, .ref b9), (1, .ref (gA G 0)), (2, .ref (A 0)), (3, .int (nI t)), (7, .int (nI n)), (16, .int (nI T)), (17, .int v17), (18, .int xr), (19, .int xn), (20, .int xo), (21, .int xf), (22, .int xs), (23, .int xl), (24, .int xj), (25, .int (nI (k + 1))), (26, .int ((Pw F n h i).2 1 1)), (27, .int ((Pw F n h i).2 1 5)), (28, .ref y1), (29, .ref y2), (30, .ref y3), (31, .ref y4), (32, .ref y5), (34, .int (nI i))]) hx hb dL_law_1138 hl (by decide) rfl (fun ls hl => ?_)
        refine lv_iload hx hb dL_law_1140 (lv_at hl 17 rfl) ?_
        refine lv_iload hx hb dL_law_1142 (lv_at hl 1 rfl) ?_
        refine lv_if_eq (tgt := 1155) hx hb dL_law_1144 (by decide) (fun c9 => absurd c9 (by decide)) (fun c_1144 => ?_)
        refine lv_aload hx hb dL_law_1147 (lv_at hl 22 rfl) ?_
        refine lv_iload hx hb dL_law_1149 (lv_at hl 24 rfl) ?_
        refine x_iald S g (List.mem_append_right _ (List.mem_append_right _ (List.mem_append_right _ (List.mem_append_right _ (List.mem_append_right _ (List.mem_append_left _ List.mem_cons_self)))))) (by omega) i rfl (by omega) dL_law_1151 ?_
        rw [show (f4 i : Int32) = clI F (wb 1 i) (suH h) (noH h) - reI (clI F (wb 1 i) (suH h) (noH h)) (F 1 3) (F 1 4) from (ha i hin).2.2.2.1]
        refine lv_goto (tgt := 1156) hx hb dL_law_1152 (by decide) ?_
        refine lv_isub hx hb dL_law_1156 ?_
        rw [show (((Pw F n h i).2 1 1) - (clI F (wb 1 i) (suH h) (noH h) - reI (clI F (wb 1 i) (suH h) (noH h)) (F 1 3) (F 1 4)) : Int32) = (Pw F n h (i + 1)).2 1 1 from hP.2.1.symm]
        refine lv_istore (lv' := [(26, .int ((Pw F n h (i + 1)).2 1 1)), (33, .int (hrR F 1 n h - (Pw F n h (i + 1)).1)), (35, .int 1), (0, .ref b9), (1, .ref (gA G 0)), (2, .ref (A 0)), (3, .int (nI t)), (7, .int (nI n)), (16, .int (nI T)), (17, .int v17), (18, .int xr), (19, .int xn), (20, .int xo), (21, .int xf), (22, .int xs), (23, .int xl), (24, .int xj), (25, .int (nI (k + 1))), (27, .int ((Pw F n h i).2 1 5)), (28, .ref y1), (29, .ref y2), (30, .ref y3), (31, .ref y4), (32, .ref y5), (34, .int (nI i))]) hx hb dL_law_1157 hl (by decide) rfl (fun ls hl => ?_)
        refine lv_iload hx hb dL_law_1159 (lv_at hl 18 rfl) ?_
        refine lv_iload hx hb dL_law_1161 (lv_at hl 2 rfl) ?_
        refine lv_if_eq (tgt := 1174) hx hb dL_law_1163 (by decide) (fun c9 => absurd c9 (by decide)) (fun c_1163 => ?_)
        refine lv_aload hx hb dL_law_1166 (lv_at hl 23 rfl) ?_
        refine lv_iload hx hb dL_law_1168 (lv_at hl 24 rfl) ?_
        refine x_iald S g (List.mem_append_right _ (List.mem_append_right _ (List.mem_append_right _ (List.mem_append_right _ (List.mem_append_right _ (List.mem_append_right _ (List.mem_append_left _ List.mem_cons_self))))))) (by omega) i rfl (by omega) dL_law_1170 ?_
        rw [show (f5 i : Int32) = reI (clI F (wb 1 i) (suH h) (noH h)) (F 1 3) (F 1 4) from (ha i hin).2.2.2.2]
        refine lv_goto (tgt := 1175) hx hb dL_law_1171 (by decide) ?_
        refine lv_iadd hx hb dL_law_1175 ?_
        rw [show (((Pw F n h i).2 1 5) + (reI (clI F (wb 1 i) (suH h) (noH h)) (F 1 3) (F 1 4)) : Int32) = (Pw F n h (i + 1)).2 1 5 from hP.2.2.symm]
        refine lv_istore (lv' := [(27, .int ((Pw F n h (i + 1)).2 1 5)), (26, .int ((Pw F n h (i + 1)).2 1 1)), (33, .int (hrR F 1 n h - (Pw F n h (i + 1)).1)), (35, .int 1), (0, .ref b9), (1, .ref (gA G 0)), (2, .ref (A 0)), (3, .int (nI t)), (7, .int (nI n)), (16, .int (nI T)), (17, .int v17), (18, .int xr), (19, .int xn), (20, .int xo), (21, .int xf), (22, .int xs), (23, .int xl), (24, .int xj), (25, .int (nI (k + 1))), (28, .ref y1), (29, .ref y2), (30, .ref y3), (31, .ref y4), (32, .ref y5), (34, .int (nI i))]) hx hb dL_law_1176 hl (by decide) rfl (fun ls hl => ?_)
        refine lv_aload_n hx hb dL_law_1178 rfl (lv_at hl 5 rfl) ?_
        refine lv_iload hx hb dL_law_1179 (lv_at hl 24 rfl) ?_
        refine x_ci (rest := []) g (x_V (nA := 1) (As := [.int (nI i)]) S g (c_fallsOf_ok l G F9 0 i n hI9.c6 hin hn8) (lw_V q297 q298 q299 q1 q300) ⟨rfl, by decide +kernel, by decide +kernel, by decide +kernel⟩ rfl ⟨Nat.le_of_ble_eq_true rfl, Nat.le_of_ble_eq_true rfl⟩ hl.1 (Nat.le_of_ble_eq_true rfl) rfl ⟨by show cells + 0 ≤ 1112399; omega, by show slots + 0 ≤ 5764272; omega⟩ dL_law_1181) (fun H locs g => ?_)
        rw [show (F9 (wb 1 i) 4 : Int32) = nI (f + 1) from (g4.trans (by rw [e4]; exact nI_1 f))]
        refine lv_aload hx hb dL_law_1184 (lv_at hl 20 rfl) ?_
        refine lv_iload hx hb dL_law_1186 (lv_at hl 24 rfl) ?_
        refine x_iald S g (List.mem_append_right _ (List.mem_append_right _ (List.mem_append_right _ (List.mem_append_left _ List.mem_cons_self)))) (by omega) i rfl (by omega) dL_law_1188 ?_
        rw [show (f2 i : Int32) = nI f from ((ha i hin).2.1.trans e4)]
        refine lv_iconst (v := 1) hx hb dL_law_1189 (by decide) ?_
        refine lv_iadd hx hb dL_law_1190 ?_
        rw [show ((nI f) + 1 : Int32) = nI (f + 1) from (nI_1 f)]
        refine lv_icmp_gt (tgt := 1261) hx hb dL_law_1191 (by decide) (fun c9 => absurd c9 (fun z9 => absurd ((nI_ltI (a := (f + 1)) (b := (f + 1)) (by omega) (by omega)).mp z9) (by omega))) (fun c_1191 => ?_)
        refine lv_aload_n hx hb dL_law_1194 rfl (lv_at hl 5 rfl) ?_
        refine lv_iload hx hb dL_law_1195 (lv_at hl 24 rfl) ?_
        refine x_ci (rest := []) g (x_V (nA := 1) (As := [.int (nI i)]) S g (c_netOf_ok l G F9 0 i n hI9.c6 hin hn8) (lw_V q289 q290 q291 q1 q292) ⟨rfl, by decide +kernel, by decide +kernel, by decide +kernel⟩ rfl ⟨Nat.le_of_ble_eq_true rfl, Nat.le_of_ble_eq_true rfl⟩ hl.1 (Nat.le_of_ble_eq_true rfl) rfl ⟨by show cells + 0 ≤ 1112399; omega, by show slots + 0 ≤ 5764272; omega⟩ dL_law_1197) (fun H locs g => ?_)
        rw [show (F9 (wb 1 i) 2 : Int32) = nI (nt - 1) from (g2.trans (by rw [e2]; exact mx0_sub (a := nt) (b := 1) (by omega) (by omega)))]
        refine lv_iload hx hb dL_law_1200 (lv_at hl 3 rfl) ?_
        refine lv_if_eq (tgt := 1219) hx hb dL_law_1202 (by decide) (fun c9 => absurd c9 (by decide)) (fun c_1202 => ?_)
        refine lv_iconst (v := 0) hx hb dL_law_1205 (by decide) ?_
        refine lv_aload hx hb dL_law_1206 (lv_at hl 21 rfl) ?_
        refine lv_iload hx hb dL_law_1208 (lv_at hl 24 rfl) ?_
        refine x_iald S g (List.mem_append_right _ (List.mem_append_right _ (List.mem_append_right _ (List.mem_append_right _ (List.mem_append_left _ List.mem_cons_self))))) (by omega) i rfl (by omega) dL_law_1210 ?_
        rw [show (f3 i : Int32) = nI nt from ((ha i hin).2.2.1.trans e2)]
        refine lv_iconst (v := 1) hx hb dL_law_1211 (by decide) ?_
        refine lv_isub hx hb dL_law_1212 ?_
        refine g_max S hl.1 q604 qMaxS q11 qMax (Nat.le_of_ble_eq_true rfl) (Nat.le_of_ble_eq_true rfl) (by show cells + 0 ≤ 1112399; omega) (by show slots + 0 ≤ 5764272; omega) dL_law_1213 ?_
        rw [show (if 0 < ((nI nt) - 1) then ((nI nt) - 1) else 0 : Int32) = nI (nt - 1) from (mx0_sub (a := nt) (b := 1) (by omega) (by omega))]
        refine lv_goto (tgt := 1224) hx hb dL_law_1216 (by decide) ?_
        refine lv_icmp_ne (tgt := 1261) hx hb dL_law_1224 (by decide) (fun c9 => absurd rfl c9) (fun c_1224 => ?_)
        refine lv_iload hx hb dL_law_1227 (lv_at hl 3 rfl) ?_
        refine lv_if_eq (tgt := 1241) hx hb dL_law_1229 (by decide) (fun c9 => absurd c9 (by decide)) (fun c_1229 => ?_)
        refine lv_aload_n hx hb dL_law_1232 rfl (lv_at hl 5 rfl) ?_
        refine lv_iload hx hb dL_law_1233 (lv_at hl 24 rfl) ?_
        refine x_ci (rest := []) g (x_V (nA := 1) (As := [.int (nI i)]) S g (c_wobbleOf_ok l G F9 0 i n hI9.c6 hin hn8) (lw_V q293 q294 q295 q1 q296) ⟨rfl, by decide +kernel, by decide +kernel, by decide +kernel⟩ rfl ⟨Nat.le_of_ble_eq_true rfl, Nat.le_of_ble_eq_true rfl⟩ hl.1 (Nat.le_of_ble_eq_true rfl) rfl ⟨by show cells + 0 ≤ 1112399; omega, by show slots + 0 ≤ 5764272; omega⟩ dL_law_1235) (fun H locs g => ?_)
        rw [show (F9 (wb 1 i) 3 : Int32) = 0 from g3]
        refine lv_if_ne (tgt := 1261) hx hb dL_law_1238 (by decide) (fun c9 => absurd rfl c9) (fun c_1238 => ?_)
        refine lv_aload_n hx hb dL_law_1241 rfl (lv_at hl 5 rfl) ?_
        refine lv_iload hx hb dL_law_1242 (lv_at hl 24 rfl) ?_
        refine x_ci (rest := []) g (x_V (nA := 1) (As := [.int (nI i)]) S g (c_wobbleOf_ok l G F9 0 i n hI9.c6 hin hn8) (lw_V q293 q294 q295 q1 q296) ⟨rfl, by decide +kernel, by decide +kernel, by decide +kernel⟩ rfl ⟨Nat.le_of_ble_eq_true rfl, Nat.le_of_ble_eq_true rfl⟩ hl.1 (Nat.le_of_ble_eq_true rfl) rfl ⟨by show cells + 0 ≤ 1112399; omega, by show slots + 0 ≤ 5764272; omega⟩ dL_law_1244) (fun H locs g => ?_)
        rw [show (F9 (wb 1 i) 3 : Int32) = nI w9 from ew9]
        refine lv_aload hx hb dL_law_1247 (lv_at hl 19 rfl) ?_
        refine lv_iload hx hb dL_law_1249 (lv_at hl 24 rfl) ?_
        refine x_iald S g (List.mem_append_right _ (List.mem_append_right _ (List.mem_append_left _ List.mem_cons_self))) (by omega) i rfl (by omega) dL_law_1251 ?_
        rw [show (f1 i : Int32) = nI wo from ((ha i hin).1.trans e3)]
        refine lv_isub hx hb dL_law_1252 ?_
        refine x_abs S hl.1 q601 qAbsS q11 qAbs (Nat.le_of_ble_eq_true rfl) (Nat.le_of_ble_eq_true rfl) (by show cells + 0 ≤ 1112399; omega) (by show slots + 0 ≤ 5764272; omega) dL_law_1253 ?_
        refine lv_bipush (v := 10) hx hb dL_law_1256 (by decide) ?_
        refine lv_icmp_le (tgt := 1263) hx hb dL_law_1258 (by decide) (fun c_1258 => ?_) (fun c9 => absurd (ab_le hw9 b3) c9)
        rcases hF with ex | ⟨ex, hF1, hF2⟩
        · rw [ex] at hl
          refine lv_iload hx hb dL_law_1263 (lv_at hl 3 rfl) ?_
          refine lv_if_eq (tgt := 1289) hx hb dL_law_1265 (by decide) (fun c9 => absurd c9 (by decide)) (fun c_1265 => ?_)
          refine lv_iload hx hb dL_law_1268 (lv_at hl 17 rfl) ?_
          refine lv_if_eq (tgt := 1289) hx hb dL_law_1270 (by decide) (fun c_1270 => ?_) (fun c9 => absurd rfl c9)
          refine lv_iload hx hb dL_law_1289 (lv_at hl 17 rfl) ?_
          refine lv_iload hx hb dL_law_1291 (lv_at hl 3 rfl) ?_
          refine lv_if_ne (tgt := 1300) hx hb dL_law_1293 (by decide) (fun c_1293 => ?_) (fun c9 => absurd c9 (by decide))
          refine lv_iconst (v := 0) hx hb dL_law_1300 (by decide) ?_
          refine lv_iand hx hb dL_law_1301 ?_
          rw [show (0 &&& 0 : Int32) = 0 from (by decide)]
          refine lv_istore (lv' := [(24, .int 0), (27, .int ((Pw F n h (i + 1)).2 1 5)), (26, .int ((Pw F n h (i + 1)).2 1 1)), (33, .int (hrR F 1 n h - (Pw F n h (i + 1)).1)), (35, .int 1), (0, .ref b9), (1, .ref (gA G 0)), (2, .ref (A 0)), (3, .int (nI t)), (7, .int (nI n)), (16, .int (nI T)), (17, .int v17), (18, .int xr), (19, .int xn), (20, .int xo), (21, .int xf), (22, .int xs), (23, .int xl), (25, .int (nI (k + 1))), (28, .ref y1), (29, .ref y2), (30, .ref y3), (31, .ref y4), (32, .ref y5), (34, .int (nI i))]) hx hb dL_law_1302 hl (by decide) rfl (fun ls hl => ?_)
          refine lv_iinc (v := nI (i + 1)) (lv' := [(34, .int (nI (i + 1))), (24, .int 0), (27, .int ((Pw F n h (i + 1)).2 1 5)), (26, .int ((Pw F n h (i + 1)).2 1 1)), (33, .int (hrR F 1 n h - (Pw F n h (i + 1)).1)), (35, .int 1), (0, .ref b9), (1, .ref (gA G 0)), (2, .ref (A 0)), (3, .int (nI t)), (7, .int (nI n)), (16, .int (nI T)), (17, .int v17), (18, .int xr), (19, .int xn), (20, .int xo), (21, .int xf), (22, .int xs), (23, .int xl), (25, .int (nI (k + 1))), (28, .ref y1), (29, .ref y2), (30, .ref y3), (31, .ref y4), (32, .ref y5)]) hx hb dL_law_1304 hl (k := 24) rfl (nI_1 i) (by decide) rfl (fun ls hl => ?_)
          refine lv_goto (tgt := 1097) hx hb dL_law_1307 (by decide) ?_
          exact ih_1097 (i + 1) 0 _ _ _ (by omega) (Or.inl rfl) g (lv_sub hl [6, 7, 8, 9, 10, 11, 12, 13, 14, 15, 16, 17, 18, 1, 19, 3, 2, 20, 21, 22, 23, 24, 4, 0] rfl)
        · rw [ex] at hl
          refine lv_iload hx hb dL_law_1263 (lv_at hl 3 rfl) ?_
          refine lv_if_eq (tgt := 1289) hx hb dL_law_1265 (by decide) (fun c9 => absurd c9 (by decide)) (fun c_1265 => ?_)
          refine lv_iload hx hb dL_law_1268 (lv_at hl 17 rfl) ?_
          refine lv_if_eq (tgt := 1289) hx hb dL_law_1270 (by decide) (fun c9 => absurd c9 (by decide)) (fun c_1270 => ?_)
          refine lv_iload hx hb dL_law_1273 (lv_at hl 24 rfl) ?_
          refine lv_iload hx hb dL_law_1275 (lv_at hl 12 rfl) ?_
          refine lv_icmp_ne (tgt := 1287) hx hb dL_law_1277 (by decide) (fun c9 => absurd (nx_first hnx hF1 hF2 hin hk ((efl i).mpr hf)).1 c9) (fun c_1277 => ?_)
          refine lv_iload hx hb dL_law_1280 (lv_at hl 18 rfl) ?_
          refine lv_iload hx hb dL_law_1282 (lv_at hl 15 rfl) ?_
          refine lv_icmp_eq (tgt := 1289) hx hb dL_law_1284 (by decide) (fun c_1284 => ?_) (fun c9 => absurd (nx_first hnx hF1 hF2 hin hk ((efl i).mpr hf)).2 c9)
          refine lv_iload hx hb dL_law_1289 (lv_at hl 17 rfl) ?_
          refine lv_iload hx hb dL_law_1291 (lv_at hl 3 rfl) ?_
          refine lv_if_ne (tgt := 1300) hx hb dL_law_1293 (by decide) (fun c_1293 => ?_) (fun c9 => absurd c9 (by decide))
          refine lv_iconst (v := 0) hx hb dL_law_1300 (by decide) ?_
          refine lv_iand hx hb dL_law_1301 ?_
          rw [show (1 &&& 0 : Int32) = 0 from (by decide)]
          refine lv_istore (lv' := [(24, .int 0), (27, .int ((Pw F n h (i + 1)).2 1 5)), (26, .int ((Pw F n h (i + 1)).2 1 1)), (33, .int (hrR F 1 n h - (Pw F n h (i + 1)).1)), (35, .int 1), (0, .ref b9), (1, .ref (gA G 0)), (2, .ref (A 0)), (3, .int (nI t)), (7, .int (nI n)), (16, .int (nI T)), (17, .int v17), (18, .int xr), (19, .int xn), (20, .int xo), (21, .int xf), (22, .int xs), (23, .int xl), (25, .int (nI (k + 1))), (28, .ref y1), (29, .ref y2), (30, .ref y3), (31, .ref y4), (32, .ref y5), (34, .int (nI i))]) hx hb dL_law_1302 hl (by decide) rfl (fun ls hl => ?_)
          refine lv_iinc (v := nI (i + 1)) (lv' := [(34, .int (nI (i + 1))), (24, .int 0), (27, .int ((Pw F n h (i + 1)).2 1 5)), (26, .int ((Pw F n h (i + 1)).2 1 1)), (33, .int (hrR F 1 n h - (Pw F n h (i + 1)).1)), (35, .int 1), (0, .ref b9), (1, .ref (gA G 0)), (2, .ref (A 0)), (3, .int (nI t)), (7, .int (nI n)), (16, .int (nI T)), (17, .int v17), (18, .int xr), (19, .int xn), (20, .int xo), (21, .int xf), (22, .int xs), (23, .int xl), (25, .int (nI (k + 1))), (28, .ref y1), (29, .ref y2), (30, .ref y3), (31, .ref y4), (32, .ref y5)]) hx hb dL_law_1304 hl (k := 24) rfl (nI_1 i) (by decide) rfl (fun ls hl => ?_)
          refine lv_goto (tgt := 1097) hx hb dL_law_1307 (by decide) ?_
          exact ih_1097 (i + 1) 0 _ _ _ (by omega) (Or.inl rfl) g (lv_sub hl [6, 7, 8, 9, 10, 11, 12, 13, 14, 15, 16, 17, 18, 1, 19, 3, 2, 20, 21, 22, 23, 24, 4, 0] rfl)
      · have hP := Pw_n (n := n) hf
        obtain ⟨g3, g4, g2⟩ := (hr_in (n := n) hin).2.1 hf
        rw [eF9] at g2 g3 g4
        refine lv_aload_n hx hb dL_law_1104 rfl (lv_at hl 1 rfl) ?_
        refine lv_iload hx hb dL_law_1105 (lv_at hl 23 rfl) ?_
        refine x_ci (rest := []) g (x_V (nA := 1) (As := [.int (nI i)]) S g (c_fallsOf_ok l G F9 0 i n hI9.c6 hin hn8) (lw_V q297 q298 q299 q1 q300) ⟨rfl, by decide +kernel, by decide +kernel, by decide +kernel⟩ rfl ⟨Nat.le_of_ble_eq_true rfl, Nat.le_of_ble_eq_true rfl⟩ hl.1 (Nat.le_of_ble_eq_true rfl) rfl ⟨by show cells + 0 ≤ 1112399; omega, by show slots + 0 ≤ 5764272; omega⟩ dL_law_1107) (fun H locs g => ?_)
        rw [show (F9 (wb 1 i) 4 : Int32) = nI f from (g4.trans e4)]
        refine lv_aload hx hb dL_law_1110 (lv_at hl 18 rfl) ?_
        refine lv_iload hx hb dL_law_1112 (lv_at hl 23 rfl) ?_
        refine x_iald S g (List.mem_append_right _ (List.mem_append_right _ (List.mem_append_right _ (List.mem_append_left _ List.mem_cons_self)))) (by omega) i rfl (by omega) dL_law_1114 ?_
        rw [show (f2 i : Int32) = nI f from ((ha i hin).2.1.trans e4)]
        refine lv_icmp_le (tgt := 1122) hx hb dL_law_1115 (by decide) (fun c_1115 => ?_) (fun c9 => absurd ((nI_leI (a := f) (b := f) (by omega) (by omega)).mpr (by omega)) c9)
        refine lv_iconst (v := 0) hx hb dL_law_1122 (by decide) ?_
        refine lv_istore (lv' := [(35, .int 0), (0, .ref b9), (1, .ref (gA G 0)), (2, .ref (A 0)), (3, .int (nI t)), (7, .int (nI n)), (16, .int (nI T)), (17, .int v17), (18, .int xr), (19, .int xn), (20, .int xo), (21, .int xf), (22, .int xs), (23, .int xl), (24, .int xj), (25, .int (nI (k + 1))), (26, .int ((Pw F n h i).2 1 1)), (27, .int ((Pw F n h i).2 1 5)), (28, .ref y1), (29, .ref y2), (30, .ref y3), (31, .ref y4), (32, .ref y5), (33, .int (hrR F 1 n h - (Pw F n h i).1)), (34, .int (nI i))]) hx hb dL_law_1123 hl (by decide) rfl (fun ls hl => ?_)
        refine lv_iload hx hb dL_law_1125 (lv_at hl 23 rfl) ?_
        refine lv_iload hx hb dL_law_1127 (lv_at hl 0 rfl) ?_
        refine lv_if_eq (tgt := 1136) hx hb dL_law_1129 (by decide) (fun c_1129 => ?_) (fun c9 => absurd rfl c9)
        refine lv_iconst (v := 0) hx hb dL_law_1136 (by decide) ?_
        refine lv_isub hx hb dL_law_1137 ?_
        rw [show ((hrR F 1 n h - (Pw F n h i).1) - 0 : Int32) = hrR F 1 n h - (Pw F n h (i + 1)).1 from (by rw [hP.1]; grind)]
        refine lv_istore (lv' := [(33, .int (hrR F 1 n h - (Pw F n h (i + 1)).1)), (35, .int 0), (0, .ref b9), (1, .ref (gA G 0)), (2, .ref (A 0)), (3, .int (nI t)), (7, .int (nI n)), (16, .int (nI T)), (17, .int v17), (18, .int xr), (19, .int xn), (20, .int xo), (21, .int xf), (22, .int xs), (23, .int xl), (24, .int xj), (25, .int (nI (k + 1))), (26, .int ((Pw F n h i).2 1 1)), (27, .int ((Pw F n h i).2 1 5)), (28, .ref y1), (29, .ref y2), (30, .ref y3), (31, .ref y4), (32, .ref y5), (34, .int (nI i))]) hx hb dL_law_1138 hl (by decide) rfl (fun ls hl => ?_)
        refine lv_iload hx hb dL_law_1140 (lv_at hl 17 rfl) ?_
        refine lv_iload hx hb dL_law_1142 (lv_at hl 1 rfl) ?_
        refine lv_if_eq (tgt := 1155) hx hb dL_law_1144 (by decide) (fun c_1144 => ?_) (fun c9 => absurd rfl c9)
        refine lv_iconst (v := 0) hx hb dL_law_1155 (by decide) ?_
        refine lv_isub hx hb dL_law_1156 ?_
        rw [show (((Pw F n h i).2 1 1) - 0 : Int32) = (Pw F n h (i + 1)).2 1 1 from (by rw [hP.2.1]; grind)]
        refine lv_istore (lv' := [(26, .int ((Pw F n h (i + 1)).2 1 1)), (33, .int (hrR F 1 n h - (Pw F n h (i + 1)).1)), (35, .int 0), (0, .ref b9), (1, .ref (gA G 0)), (2, .ref (A 0)), (3, .int (nI t)), (7, .int (nI n)), (16, .int (nI T)), (17, .int v17), (18, .int xr), (19, .int xn), (20, .int xo), (21, .int xf), (22, .int xs), (23, .int xl), (24, .int xj), (25, .int (nI (k + 1))), (27, .int ((Pw F n h i).2 1 5)), (28, .ref y1), (29, .ref y2), (30, .ref y3), (31, .ref y4), (32, .ref y5), (34, .int (nI i))]) hx hb dL_law_1157 hl (by decide) rfl (fun ls hl => ?_)
        refine lv_iload hx hb dL_law_1159 (lv_at hl 18 rfl) ?_
        refine lv_iload hx hb dL_law_1161 (lv_at hl 2 rfl) ?_
        refine lv_if_eq (tgt := 1174) hx hb dL_law_1163 (by decide) (fun c_1163 => ?_) (fun c9 => absurd rfl c9)
        refine lv_iconst (v := 0) hx hb dL_law_1174 (by decide) ?_
        refine lv_iadd hx hb dL_law_1175 ?_
        rw [show (((Pw F n h i).2 1 5) + 0 : Int32) = (Pw F n h (i + 1)).2 1 5 from (by rw [hP.2.2]; grind)]
        refine lv_istore (lv' := [(27, .int ((Pw F n h (i + 1)).2 1 5)), (26, .int ((Pw F n h (i + 1)).2 1 1)), (33, .int (hrR F 1 n h - (Pw F n h (i + 1)).1)), (35, .int 0), (0, .ref b9), (1, .ref (gA G 0)), (2, .ref (A 0)), (3, .int (nI t)), (7, .int (nI n)), (16, .int (nI T)), (17, .int v17), (18, .int xr), (19, .int xn), (20, .int xo), (21, .int xf), (22, .int xs), (23, .int xl), (24, .int xj), (25, .int (nI (k + 1))), (28, .ref y1), (29, .ref y2), (30, .ref y3), (31, .ref y4), (32, .ref y5), (34, .int (nI i))]) hx hb dL_law_1176 hl (by decide) rfl (fun ls hl => ?_)
        refine lv_aload_n hx hb dL_law_1178 rfl (lv_at hl 5 rfl) ?_
        refine lv_iload hx hb dL_law_1179 (lv_at hl 24 rfl) ?_
        refine x_ci (rest := []) g (x_V (nA := 1) (As := [.int (nI i)]) S g (c_fallsOf_ok l G F9 0 i n hI9.c6 hin hn8) (lw_V q297 q298 q299 q1 q300) ⟨rfl, by decide +kernel, by decide +kernel, by decide +kernel⟩ rfl ⟨Nat.le_of_ble_eq_true rfl, Nat.le_of_ble_eq_true rfl⟩ hl.1 (Nat.le_of_ble_eq_true rfl) rfl ⟨by show cells + 0 ≤ 1112399; omega, by show slots + 0 ≤ 5764272; omega⟩ dL_law_1181) (fun H locs g => ?_)
        rw [show (F9 (wb 1 i) 4 : Int32) = nI f from (g4.trans e4)]
        refine lv_aload hx hb dL_law_1184 (lv_at hl 20 rfl) ?_
        refine lv_iload hx hb dL_law_1186 (lv_at hl 24 rfl) ?_
        refine x_iald S g (List.mem_append_right _ (List.mem_append_right _ (List.mem_append_right _ (List.mem_append_left _ List.mem_cons_self)))) (by omega) i rfl (by omega) dL_law_1188 ?_
        rw [show (f2 i : Int32) = nI f from ((ha i hin).2.1.trans e4)]
        refine lv_iconst (v := 1) hx hb dL_law_1189 (by decide) ?_
        refine lv_iadd hx hb dL_law_1190 ?_
        rw [show ((nI f) + 1 : Int32) = nI (f + 1) from (nI_1 f)]
        refine lv_icmp_gt (tgt := 1261) hx hb dL_law_1191 (by decide) (fun c9 => absurd c9 (fun z9 => absurd ((nI_ltI (a := (f + 1)) (b := f) (by omega) (by omega)).mp z9) (by omega))) (fun c_1191 => ?_)
        refine lv_aload_n hx hb dL_law_1194 rfl (lv_at hl 5 rfl) ?_
        refine lv_iload hx hb dL_law_1195 (lv_at hl 24 rfl) ?_
        refine x_ci (rest := []) g (x_V (nA := 1) (As := [.int (nI i)]) S g (c_netOf_ok l G F9 0 i n hI9.c6 hin hn8) (lw_V q289 q290 q291 q1 q292) ⟨rfl, by decide +kernel, by decide +kernel, by decide +kernel⟩ rfl ⟨Nat.le_of_ble_eq_true rfl, Nat.le_of_ble_eq_true rfl⟩ hl.1 (Nat.le_of_ble_eq_true rfl) rfl ⟨by show cells + 0 ≤ 1112399; omega, by show slots + 0 ≤ 5764272; omega⟩ dL_law_1197) (fun H locs g => ?_)
        rw [show (F9 (wb 1 i) 2 : Int32) = nI nt from (g2.trans e2)]
        refine lv_iload hx hb dL_law_1200 (lv_at hl 3 rfl) ?_
        refine lv_if_eq (tgt := 1219) hx hb dL_law_1202 (by decide) (fun c_1202 => ?_) (fun c9 => absurd rfl c9)
        refine lv_aload hx hb dL_law_1219 (lv_at hl 21 rfl) ?_
        refine lv_iload hx hb dL_law_1221 (lv_at hl 24 rfl) ?_
        refine x_iald S g (List.mem_append_right _ (List.mem_append_right _ (List.mem_append_right _ (List.mem_append_right _ (List.mem_append_left _ List.mem_cons_self))))) (by omega) i rfl (by omega) dL_law_1223 ?_
        rw [show (f3 i : Int32) = nI nt from ((ha i hin).2.2.1.trans e2)]
        refine lv_icmp_ne (tgt := 1261) hx hb dL_law_1224 (by decide) (fun c9 => absurd rfl c9) (fun c_1224 => ?_)
        refine lv_iload hx hb dL_law_1227 (lv_at hl 3 rfl) ?_
        refine lv_if_eq (tgt := 1241) hx hb dL_law_1229 (by decide) (fun c_1229 => ?_) (fun c9 => absurd rfl c9)
        refine lv_aload_n hx hb dL_law_1241 rfl (lv_at hl 5 rfl) ?_
        refine lv_iload hx hb dL_law_1242 (lv_at hl 24 rfl) ?_
        refine x_ci (rest := []) g (x_V (nA := 1) (As := [.int (nI i)]) S g (c_wobbleOf_ok l G F9 0 i n hI9.c6 hin hn8) (lw_V q293 q294 q295 q1 q296) ⟨rfl, by decide +kernel, by decide +kernel, by decide +kernel⟩ rfl ⟨Nat.le_of_ble_eq_true rfl, Nat.le_of_ble_eq_true rfl⟩ hl.1 (Nat.le_of_ble_eq_true rfl) rfl ⟨by show cells + 0 ≤ 1112399; omega, by show slots + 0 ≤ 5764272; omega⟩ dL_law_1244) (fun H locs g => ?_)
        rw [show (F9 (wb 1 i) 3 : Int32) = nI w9 from ew9]
        refine lv_aload hx hb dL_law_1247 (lv_at hl 19 rfl) ?_
        refine lv_iload hx hb dL_law_1249 (lv_at hl 24 rfl) ?_
        refine x_iald S g (List.mem_append_right _ (List.mem_append_right _ (List.mem_append_left _ List.mem_cons_self))) (by omega) i rfl (by omega) dL_law_1251 ?_
        rw [show (f1 i : Int32) = nI wo from ((ha i hin).1.trans e3)]
        refine lv_isub hx hb dL_law_1252 ?_
        refine x_abs S hl.1 q601 qAbsS q11 qAbs (Nat.le_of_ble_eq_true rfl) (Nat.le_of_ble_eq_true rfl) (by show cells + 0 ≤ 1112399; omega) (by show slots + 0 ≤ 5764272; omega) dL_law_1253 ?_
        refine lv_bipush (v := 10) hx hb dL_law_1256 (by decide) ?_
        refine lv_icmp_le (tgt := 1263) hx hb dL_law_1258 (by decide) (fun c_1258 => ?_) (fun c9 => absurd (ab_le hw9 b3) c9)
        rcases hF with ex | ⟨ex, hF1, hF2⟩
        · rw [ex] at hl
          refine lv_iload hx hb dL_law_1263 (lv_at hl 3 rfl) ?_
          refine lv_if_eq (tgt := 1289) hx hb dL_law_1265 (by decide) (fun c_1265 => ?_) (fun c9 => absurd rfl c9)
          refine lv_iload hx hb dL_law_1289 (lv_at hl 17 rfl) ?_
          refine lv_iload hx hb dL_law_1291 (lv_at hl 3 rfl) ?_
          refine lv_if_ne (tgt := 1300) hx hb dL_law_1293 (by decide) (fun c9 => absurd rfl c9) (fun c_1293 => ?_)
          refine lv_iconst (v := 1) hx hb dL_law_1296 (by decide) ?_
          refine lv_goto (tgt := 1301) hx hb dL_law_1297 (by decide) ?_
          refine lv_iand hx hb dL_law_1301 ?_
          rw [show (0 &&& 1 : Int32) = 0 from (by decide)]
          refine lv_istore (lv' := [(24, .int 0), (27, .int ((Pw F n h (i + 1)).2 1 5)), (26, .int ((Pw F n h (i + 1)).2 1 1)), (33, .int (hrR F 1 n h - (Pw F n h (i + 1)).1)), (35, .int 0), (0, .ref b9), (1, .ref (gA G 0)), (2, .ref (A 0)), (3, .int (nI t)), (7, .int (nI n)), (16, .int (nI T)), (17, .int v17), (18, .int xr), (19, .int xn), (20, .int xo), (21, .int xf), (22, .int xs), (23, .int xl), (25, .int (nI (k + 1))), (28, .ref y1), (29, .ref y2), (30, .ref y3), (31, .ref y4), (32, .ref y5), (34, .int (nI i))]) hx hb dL_law_1302 hl (by decide) rfl (fun ls hl => ?_)
          refine lv_iinc (v := nI (i + 1)) (lv' := [(34, .int (nI (i + 1))), (24, .int 0), (27, .int ((Pw F n h (i + 1)).2 1 5)), (26, .int ((Pw F n h (i + 1)).2 1 1)), (33, .int (hrR F 1 n h - (Pw F n h (i + 1)).1)), (35, .int 0), (0, .ref b9), (1, .ref (gA G 0)), (2, .ref (A 0)), (3, .int (nI t)), (7, .int (nI n)), (16, .int (nI T)), (17, .int v17), (18, .int xr), (19, .int xn), (20, .int xo), (21, .int xf), (22, .int xs), (23, .int xl), (25, .int (nI (k + 1))), (28, .ref y1), (29, .ref y2), (30, .ref y3), (31, .ref y4), (32, .ref y5)]) hx hb dL_law_1304 hl (k := 24) rfl (nI_1 i) (by decide) rfl (fun ls hl => ?_)
          refine lv_goto (tgt := 1097) hx hb dL_law_1307 (by decide) ?_
          exact ih_1097 (i + 1) 0 _ _ _ (by omega) (Or.inl rfl) g (lv_sub hl [6, 7, 8, 9, 10, 11, 12, 13, 14, 15, 16, 17, 18, 1, 19, 3, 2, 20, 21, 22, 23, 24, 4, 0] rfl)
        · rw [ex] at hl
          refine lv_iload hx hb dL_law_1263 (lv_at hl 3 rfl) ?_
          refine lv_if_eq (tgt := 1289) hx hb dL_law_1265 (by decide) (fun c_1265 => ?_) (fun c9 => absurd rfl c9)
          refine lv_iload hx hb dL_law_1289 (lv_at hl 17 rfl) ?_
          refine lv_iload hx hb dL_law_1291 (lv_at hl 3 rfl) ?_
          refine lv_if_ne (tgt := 1300) hx hb dL_law_1293 (by decide) (fun c9 => absurd rfl c9) (fun c_1293 => ?_)
          refine lv_iconst (v := 1) hx hb dL_law_1296 (by decide) ?_
          refine lv_goto (tgt := 1301) hx hb dL_law_1297 (by decide) ?_
          refine lv_iand hx hb dL_law_1301 ?_
          rw [show (1 &&& 1 : Int32) = 1 from (by decide)]
          refine lv_istore (lv' := [(24, .int 1), (27, .int ((Pw F n h (i + 1)).2 1 5)), (26, .int ((Pw F n h (i + 1)).2 1 1)), (33, .int (hrR F 1 n h - (Pw F n h (i + 1)).1)), (35, .int 0), (0, .ref b9), (1, .ref (gA G 0)), (2, .ref (A 0)), (3, .int (nI t)), (7, .int (nI n)), (16, .int (nI T)), (17, .int v17), (18, .int xr), (19, .int xn), (20, .int xo), (21, .int xf), (22, .int xs), (23, .int xl), (25, .int (nI (k + 1))), (28, .ref y1), (29, .ref y2), (30, .ref y3), (31, .ref y4), (32, .ref y5), (34, .int (nI i))]) hx hb dL_law_1302 hl (by decide) rfl (fun ls hl => ?_)
          refine lv_iinc (v := nI (i + 1)) (lv' := [(34, .int (nI (i + 1))), (24, .int 1), (27, .int ((Pw F n h (i + 1)).2 1 5)), (26, .int ((Pw F n h (i + 1)).2 1 1)), (33, .int (hrR F 1 n h - (Pw F n h (i + 1)).1)), (35, .int 0), (0, .ref b9), (1, .ref (gA G 0)), (2, .ref (A 0)), (3, .int (nI t)), (7, .int (nI n)), (16, .int (nI T)), (17, .int v17), (18, .int xr), (19, .int xn), (20, .int xo), (21, .int xf), (22, .int xs), (23, .int xl), (25, .int (nI (k + 1))), (28, .ref y1), (29, .ref y2), (30, .ref y3), (31, .ref y4), (32, .ref y5)]) hx hb dL_law_1304 hl (k := 24) rfl (nI_1 i) (by decide) rfl (fun ls hl => ?_)
          refine lv_goto (tgt := 1097) hx hb dL_law_1307 (by decide) ?_
          exact ih_1097 (i + 1) 1 _ _ _ (by omega) (Or.inr ⟨rfl, hF1, fun j hj => by rcases Nat.lt_or_ge j i with l9 | l9; (· exact hF2 j l9); (· rw [show j = i by omega, efl]; exact hf)⟩) g (lv_sub hl [6, 7, 8, 9, 10, 11, 12, 13, 14, 15, 16, 17, 18, 1, 19, 3, 2, 20, 21, 22, 23, 24, 4, 0] rfl)
  exact loop1097 n 0 xi _ _ _ (by omega) hxi.two g (lv_sub hl [1, 2, 3, 4, 5, 6, 7, 8, 9, 10, 11, 12, 13, 14, 15, 16, 17, 18, 19, 20, 21, 22, 23, 0] (by rw [pw_z]; rfl))
set_option maxHeartbeats 4000000 in
set_option maxRecDepth 100000 in
theorem seg_H4 {p : Program} {l : Launch} {e : Env} {s : State} {m : MethodId} {args : Array Value} {below : List Frame} {meth : Method} {c : Code} {cells slots : Nat} {Q : State → Prop} {G : gT} {Z : Nat → Prop} {b9 L9 : Nat} {xs9 : Nat → Int32} (hfl : l.stackTraces = false) (S : CallFix p m c cL_law 36 s args lw_all "ShadowPoolLaw") (hX9 : va_X b9 L9 xs9 s s.heap) (hX9l : b9 < s.heap.size) (hX9n : ¬ Z b9) (A : Nat → Nat) (F : Fs) (n : Nat) (h : Nat) (hIn : In F n h) (hh : h ≤ 8000) (t : Nat) (T : Nat) (k : Nat) (v17 : Int32) (xr : Int32) (xn : Int32) (xo : Int32) (xf : Int32) (xs : Int32) (xl : Int32) (xi : Int32) (y1 : Nat) (y2 : Nat) (y3 : Nat) (y4 : Nat) (y5 : Nat) (f1 : Nat → Int32) (f2 : Nat → Int32) (f3 : Nat → Int32) (f4 : Nat → Int32) (f5 : Nat → Int32) (F9 : Fs) (eF9 : hrF F 1 n h = F9) (Fb : Fs) (h0 : Nat) (hk : k < 100) (eF : F = Hh Fb n h0 k) (eh : h = h0 + k) (hI9 : In F9 n (h + 1)) (ha : Ar F h n f1 f2 f3 f4 f5) (i : Nat) (xj : Int32) (hi : i = n) (hon : On Fb n h0 xo xf) (hru : Ru Fb n h0 xr) (hxl : Fe Fb n h0 xo k xl) {H : Heap} {locs : List Loc} {ls : Array Slot} (g : GX G Z (wld G F9 0 ++ (swl G A n F9 1 ++ ([(y1, arrI G n f1)] ++ ([(y2, arrI G n f2)] ++ ([(y3, arrI G n f3)] ++ ([(y4, arrI G n f4)] ++ ([(y5, arrI G n f5)] ++ []))))))) s H locs) (hl : lv_has ls 36 [(0, .ref b9), (1, .ref (gA G 0)), (2, .ref (A 0)), (3, .int (nI t)), (7, .int (nI n)), (16, .int (nI T)), (17, .int v17), (18, .int xr), (19, .int xn), (20, .int xo), (21, .int xf), (22, .int xs), (23, .int xl), (24, .int xj), (25, .int (nI (k + 1))), (26, .int ((Pw F n h i).2 1 1)), (27, .int ((Pw F n h i).2 1 5)), (28, .ref y1), (29, .ref y2), (30, .ref y3), (31, .ref y4), (32, .ref y5), (33, .int (hrR F 1 n h - (Pw F n h i).1))]) (hc1 : cells + 0 ≤ 1112399) (hc2 : slots + 0 ≤ 5764272) (K : ∀ (xl2 : Int32) (H : Heap) (locs : List Loc) (ls : Array Slot), Fe Fb n h0 xo (k + 1) xl2 → GX G Z (wld G F9 0 ++ (swl G A n F9 1 ++ [])) s H locs → lv_has ls 36 [(0, .ref b9), (1, .ref (gA G 0)), (2, .ref (A 0)), (3, .int (nI t)), (7, .int (nI n)), (16, .int (nI T)), (17, .int v17), (18, .int xr), (19, .int xn), (20, .int xo), (21, .int xf), (22, .int xs), (23, .int xl2), (24, .int xj), (25, .int (nI (k + 1 + 1)))] → W p l e room_1 s m args below meth c H locs (cells + 0) (slots + 0) Q (F0 m 886 ls [])) : W p l e room_1 s m args below meth c H locs cells slots Q (F0 m 1310 ls []) := by
  have hx := S.1
  have hb := S.2.1
  have hn8 := hIn.n8
  have efl : ∀ i, flH Fb n h0 k i ↔ fl F h i := fun i => by rw [eF, eh]; exact Iff.rfl
  have eF9h : F9 = Hh Fb n h0 (k + 1) := by rw [Hh_s, ← eF, ← eh]; exact eF9.symm
  have join1385 : ∀ (xl2 : Int32) (H : Heap) (locs : List Loc) (ls : Array Slot) (hx2 : Fe Fb n h0 xo (k + 1) xl2), GX G Z (wld G F9 0 ++ (swl G A n F9 1 ++ [])) s H locs → lv_has ls 36 [(0, .ref b9), (1, .ref (gA G 0)), (2, .ref (A 0)), (3, .int (nI t)), (7, .int (nI n)), (16, .int (nI T)), (17, .int v17), (18, .int xr), (19, .int xn), (20, .int xo), (21, .int xf), (22, .int xs), (23, .int xl2), (24, .int xj), (25, .int (nI (k + 1)))] → W p l e room_1 s m args below meth c H locs (cells) (slots) Q (F0 m 1385 ls []) := by
    intro xl2 H locs ls hx2 g hl
    rcases ru_five (k := k) hru (by omega) with ⟨r1, r2, r3⟩ | ⟨r1, r2⟩ | ⟨r1, r2, r3⟩ | ⟨r1, r2, r3, r4, r5⟩ | ⟨r1, r2, r3, r4, r5⟩
    · have r0 := r1
      refine lv_iload hx hb dL_law_1385 (lv_at hl 7 rfl) ?_
      refine lv_if_le (tgt := 1424) hx hb dL_law_1387 (by decide) (fun c_1387 => ?_) (fun c9 => absurd r1 c9)
      refine lv_iload hx hb dL_law_1424 (lv_at hl 7 rfl) ?_
      refine lv_if_ge (tgt := 1438) hx hb dL_law_1426 (by decide) (fun c9 => absurd c9 r2) (fun c_1426 => ?_)
      refine lv_aload_n hx hb dL_law_1429 rfl (lv_at hl 1 rfl) ?_
      refine x_ci (rest := []) g (x_V (nA := 0) (As := []) S g (c_fund l G F9 0 ) (lw_V q335 q336 q337 q1 q338) ⟨rfl, by decide +kernel, by decide +kernel, by decide +kernel⟩ rfl ⟨Nat.le_of_ble_eq_true rfl, Nat.le_of_ble_eq_true rfl⟩ hl.1 (Nat.le_of_ble_eq_true rfl) rfl ⟨by show cells + 0 ≤ 1112399; omega, by show slots + 0 ≤ 5764272; omega⟩ dL_law_1430) (fun H locs g => ?_)
      refine lv_if_ge (tgt := 1438) hx hb dL_law_1433 (by decide) (fun c_1433 => ?_) (fun c9 => absurd (by rw [eF9h]; exact r3) c9)
      refine lv_iinc (v := nI (k + 1 + 1)) (lv' := [(25, .int (nI (k + 1 + 1))), (0, .ref b9), (1, .ref (gA G 0)), (2, .ref (A 0)), (3, .int (nI t)), (7, .int (nI n)), (16, .int (nI T)), (17, .int v17), (18, .int xr), (19, .int xn), (20, .int xo), (21, .int xf), (22, .int xs), (23, .int xl2), (24, .int xj)]) hx hb dL_law_1438 hl (k := 14) rfl (nI_1 (k + 1)) (by decide) rfl (fun ls hl => ?_)
      refine lv_goto (tgt := 886) hx hb dL_law_1441 (by decide) ?_
      refine W.widen (k := cells + 0) (n := slots + 0) (by omega) (by omega) ?_
      exact K xl2 _ _ _ hx2 g (lv_sub hl [1, 2, 3, 4, 5, 6, 7, 8, 9, 10, 11, 12, 13, 14, 0] rfl)
    · have r0 := r1
      refine lv_iload hx hb dL_law_1385 (lv_at hl 7 rfl) ?_
      refine lv_if_le (tgt := 1424) hx hb dL_law_1387 (by decide) (fun c_1387 => ?_) (fun c9 => absurd r1 c9)
      refine lv_iload hx hb dL_law_1424 (lv_at hl 7 rfl) ?_
      refine lv_if_ge (tgt := 1438) hx hb dL_law_1426 (by decide) (fun c_1426 => ?_) (fun c9 => absurd r2 c9)
      refine lv_iinc (v := nI (k + 1 + 1)) (lv' := [(25, .int (nI (k + 1 + 1))), (0, .ref b9), (1, .ref (gA G 0)), (2, .ref (A 0)), (3, .int (nI t)), (7, .int (nI n)), (16, .int (nI T)), (17, .int v17), (18, .int xr), (19, .int xn), (20, .int xo), (21, .int xf), (22, .int xs), (23, .int xl2), (24, .int xj)]) hx hb dL_law_1438 hl (k := 14) rfl (nI_1 (k + 1)) (by decide) rfl (fun ls hl => ?_)
      refine lv_goto (tgt := 886) hx hb dL_law_1441 (by decide) ?_
      refine W.widen (k := cells + 0) (n := slots + 0) (by omega) (by omega) ?_
      exact K xl2 _ _ _ hx2 g (lv_sub hl [1, 2, 3, 4, 5, 6, 7, 8, 9, 10, 11, 12, 13, 14, 0] rfl)
    · have r0 := r1
      refine lv_iload hx hb dL_law_1385 (lv_at hl 7 rfl) ?_
      refine lv_if_le (tgt := 1424) hx hb dL_law_1387 (by decide) (fun c9 => absurd c9 r1) (fun c_1387 => ?_)
      refine lv_iload hx hb dL_law_1390 (lv_at hl 14 rfl) ?_
      refine lv_iload hx hb dL_law_1392 (lv_at hl 7 rfl) ?_
      refine lv_icmp_gt (tgt := 1424) hx hb dL_law_1394 (by decide) (fun c_1394 => ?_) (fun c9 => absurd r2 c9)
      refine lv_iload hx hb dL_law_1424 (lv_at hl 7 rfl) ?_
      refine lv_if_ge (tgt := 1438) hx hb dL_law_1426 (by decide) (fun c_1426 => ?_) (fun c9 => absurd r3 c9)
      refine lv_iinc (v := nI (k + 1 + 1)) (lv' := [(25, .int (nI (k + 1 + 1))), (0, .ref b9), (1, .ref (gA G 0)), (2, .ref (A 0)), (3, .int (nI t)), (7, .int (nI n)), (16, .int (nI T)), (17, .int v17), (18, .int xr), (19, .int xn), (20, .int xo), (21, .int xf), (22, .int xs), (23, .int xl2), (24, .int xj)]) hx hb dL_law_1438 hl (k := 14) rfl (nI_1 (k + 1)) (by decide) rfl (fun ls hl => ?_)
      refine lv_goto (tgt := 886) hx hb dL_law_1441 (by decide) ?_
      refine W.widen (k := cells + 0) (n := slots + 0) (by omega) (by omega) ?_
      exact K xl2 _ _ _ hx2 g (lv_sub hl [1, 2, 3, 4, 5, 6, 7, 8, 9, 10, 11, 12, 13, 14, 0] rfl)
    · have r0 := r1
      refine lv_iload hx hb dL_law_1385 (lv_at hl 7 rfl) ?_
      refine lv_if_le (tgt := 1424) hx hb dL_law_1387 (by decide) (fun c9 => absurd c9 r1) (fun c_1387 => ?_)
      refine lv_iload hx hb dL_law_1390 (lv_at hl 14 rfl) ?_
      refine lv_iload hx hb dL_law_1392 (lv_at hl 7 rfl) ?_
      refine lv_icmp_gt (tgt := 1424) hx hb dL_law_1394 (by decide) (fun c9 => absurd c9 r2) (fun c_1394 => ?_)
      refine lv_aload_n hx hb dL_law_1397 rfl (lv_at hl 1 rfl) ?_
      refine x_ci (rest := []) g (x_V (nA := 0) (As := []) S g (c_fund l G F9 0 ) (lw_V q335 q336 q337 q1 q338) ⟨rfl, by decide +kernel, by decide +kernel, by decide +kernel⟩ rfl ⟨Nat.le_of_ble_eq_true rfl, Nat.le_of_ble_eq_true rfl⟩ hl.1 (Nat.le_of_ble_eq_true rfl) rfl ⟨by show cells + 0 ≤ 1112399; omega, by show slots + 0 ≤ 5764272; omega⟩ dL_law_1398) (fun H locs g => ?_)
      refine lv_if_ge (tgt := 1408) hx hb dL_law_1401 (by decide) (fun c_1401 => ?_) (fun c9 => absurd (by rw [eF9h]; exact r3) c9)
      refine lv_iconst (v := 0) hx hb dL_law_1408 (by decide) ?_
      refine lv_iload hx hb dL_law_1409 (lv_at hl 14 rfl) ?_
      refine lv_iload hx hb dL_law_1411 (lv_at hl 7 rfl) ?_
      refine lv_icmp_ne (tgt := 1420) hx hb dL_law_1413 (by decide) (fun c_1413 => ?_) (fun c9 => absurd c9 r4)
      refine lv_iconst (v := 0) hx hb dL_law_1420 (by decide) ?_
      refine lv_icmp_ne (tgt := 1436) hx hb dL_law_1421 (by decide) (fun c9 => absurd rfl c9) (fun c_1421 => ?_)
      refine lv_iload hx hb dL_law_1424 (lv_at hl 7 rfl) ?_
      refine lv_if_ge (tgt := 1438) hx hb dL_law_1426 (by decide) (fun c_1426 => ?_) (fun c9 => absurd r5 c9)
      refine lv_iinc (v := nI (k + 1 + 1)) (lv' := [(25, .int (nI (k + 1 + 1))), (0, .ref b9), (1, .ref (gA G 0)), (2, .ref (A 0)), (3, .int (nI t)), (7, .int (nI n)), (16, .int (nI T)), (17, .int v17), (18, .int xr), (19, .int xn), (20, .int xo), (21, .int xf), (22, .int xs), (23, .int xl2), (24, .int xj)]) hx hb dL_law_1438 hl (k := 14) rfl (nI_1 (k + 1)) (by decide) rfl (fun ls hl => ?_)
      refine lv_goto (tgt := 886) hx hb dL_law_1441 (by decide) ?_
      refine W.widen (k := cells + 0) (n := slots + 0) (by omega) (by omega) ?_
      exact K xl2 _ _ _ hx2 g (lv_sub hl [1, 2, 3, 4, 5, 6, 7, 8, 9, 10, 11, 12, 13, 14, 0] rfl)
    · have r0 := r1
      refine lv_iload hx hb dL_law_1385 (lv_at hl 7 rfl) ?_
      refine lv_if_le (tgt := 1424) hx hb dL_law_1387 (by decide) (fun c9 => absurd c9 r1) (fun c_1387 => ?_)
      refine lv_iload hx hb dL_law_1390 (lv_at hl 14 rfl) ?_
      refine lv_iload hx hb dL_law_1392 (lv_at hl 7 rfl) ?_
      refine lv_icmp_gt (tgt := 1424) hx hb dL_law_1394 (by decide) (fun c9 => absurd c9 r2) (fun c_1394 => ?_)
      refine lv_aload_n hx hb dL_law_1397 rfl (lv_at hl 1 rfl) ?_
      refine x_ci (rest := []) g (x_V (nA := 0) (As := []) S g (c_fund l G F9 0 ) (lw_V q335 q336 q337 q1 q338) ⟨rfl, by decide +kernel, by decide +kernel, by decide +kernel⟩ rfl ⟨Nat.le_of_ble_eq_true rfl, Nat.le_of_ble_eq_true rfl⟩ hl.1 (Nat.le_of_ble_eq_true rfl) rfl ⟨by show cells + 0 ≤ 1112399; omega, by show slots + 0 ≤ 5764272; omega⟩ dL_law_1398) (fun H locs g => ?_)
      refine lv_if_ge (tgt := 1408) hx hb dL_law_1401 (by decide) (fun c9 => absurd c9 (by rw [eF9h]; exact r3)) (fun c_1401 => ?_)
      refine lv_iconst (v := 1) hx hb dL_law_1404 (by decide) ?_
      refine lv_goto (tgt := 1409) hx hb dL_law_1405 (by decide) ?_
      refine lv_iload hx hb dL_law_1409 (lv_at hl 14 rfl) ?_
      refine lv_iload hx hb dL_law_1411 (lv_at hl 7 rfl) ?_
      refine lv_icmp_ne (tgt := 1420) hx hb dL_law_1413 (by decide) (fun c9 => absurd r4 c9) (fun c_1413 => ?_)
      refine lv_iconst (v := 1) hx hb dL_law_1416 (by decide) ?_
      refine lv_goto (tgt := 1421) hx hb dL_law_1417 (by decide) ?_
      refine lv_icmp_ne (tgt := 1436) hx hb dL_law_1421 (by decide) (fun c9 => absurd rfl c9) (fun c_1421 => ?_)
      refine lv_iload hx hb dL_law_1424 (lv_at hl 7 rfl) ?_
      refine lv_if_ge (tgt := 1438) hx hb dL_law_1426 (by decide) (fun c_1426 => ?_) (fun c9 => absurd r5 c9)
      refine lv_iinc (v := nI (k + 1 + 1)) (lv' := [(25, .int (nI (k + 1 + 1))), (0, .ref b9), (1, .ref (gA G 0)), (2, .ref (A 0)), (3, .int (nI t)), (7, .int (nI n)), (16, .int (nI T)), (17, .int v17), (18, .int xr), (19, .int xn), (20, .int xo), (21, .int xf), (22, .int xs), (23, .int xl2), (24, .int xj)]) hx hb dL_law_1438 hl (k := 14) rfl (nI_1 (k + 1)) (by decide) rfl (fun ls hl => ?_)
      refine lv_goto (tgt := 886) hx hb dL_law_1441 (by decide) ?_
      refine W.widen (k := cells + 0) (n := slots + 0) (by omega) (by omega) ?_
      exact K xl2 _ _ _ hx2 g (lv_sub hl [1, 2, 3, 4, 5, 6, 7, 8, 9, 10, 11, 12, 13, 14, 0] rfl)
  refine lv_iload hx hb dL_law_1310 (lv_at hl 22 rfl) ?_
  refine lv_if_ne (tgt := 1333) hx hb dL_law_1312 (by decide) (fun c9 => absurd (pw_e hi) c9) (fun c_1312 => ?_)
  refine lv_aload_n hx hb dL_law_1315 rfl (lv_at hl 1 rfl) ?_
  refine x_ci (rest := []) g (x_V (nA := 0) (As := []) S g (c_fund l G F9 0 ) (lw_V q335 q336 q337 q1 q338) ⟨rfl, by decide +kernel, by decide +kernel, by decide +kernel⟩ rfl ⟨Nat.le_of_ble_eq_true rfl, Nat.le_of_ble_eq_true rfl⟩ hl.1 (Nat.le_of_ble_eq_true rfl) rfl ⟨by show cells + 0 ≤ 1112399; omega, by show slots + 0 ≤ 5764272; omega⟩ dL_law_1316) (fun H locs g => ?_)
  refine lv_iload hx hb dL_law_1319 (lv_at hl 15 rfl) ?_
  refine lv_icmp_ne (tgt := 1333) hx hb dL_law_1321 (by decide) (fun c9 => absurd (by rw [hi, ← eF9, (hr_Pw F n h).2.1]) c9) (fun c_1321 => ?_)
  refine lv_aload_n hx hb dL_law_1324 rfl (lv_at hl 1 rfl) ?_
  refine x_ci (rest := []) g (x_V (nA := 0) (As := []) S g (c_reinsurersLoss l G F9 0 ) (lw_V q351 q352 q353 q1 q354) ⟨rfl, by decide +kernel, by decide +kernel, by decide +kernel⟩ rfl ⟨Nat.le_of_ble_eq_true rfl, Nat.le_of_ble_eq_true rfl⟩ hl.1 (Nat.le_of_ble_eq_true rfl) rfl ⟨by show cells + 0 ≤ 1112399; omega, by show slots + 0 ≤ 5764272; omega⟩ dL_law_1325) (fun H locs g => ?_)
  refine lv_iload hx hb dL_law_1328 (lv_at hl 16 rfl) ?_
  refine lv_icmp_eq (tgt := 1335) hx hb dL_law_1330 (by decide) (fun c_1330 => ?_) (fun c9 => absurd (by rw [hi, ← eF9, (hr_Pw F n h).2.2]) c9)
  rcases hon with exo | ⟨w, hw, exo, how⟩
  · refine lv_iload hx hb dL_law_1335 (lv_at hl 9 rfl) ?_
    refine lv_if_lt (tgt := 1385) hx hb dL_law_1337 (by decide) (fun c_1337 => ?_) (fun c9 => absurd (by rw [exo]; decide) c9)
    have g := g.sl (List.Sublist.append (List.Sublist.refl _) (List.Sublist.append (List.Sublist.refl _) (List.nil_sublist _)))
    exact join1385 xl _ _ _ (by rw [exo] at hxl ⊢; exact Fe.o hn8 hxl) g (lv_sub hl [0, 1, 2, 3, 4, 5, 6, 7, 8, 9, 10, 11, 12, 13, 14] rfl)
  · refine lv_iload hx hb dL_law_1335 (lv_at hl 9 rfl) ?_
    refine lv_if_lt (tgt := 1385) hx hb dL_law_1337 (by decide) (fun c9 => absurd c9 (by rw [exo]; exact nI_pos (by omega))) (fun c_1337 => ?_)
    rcases hxl with ex | ⟨ex, hx0⟩
    · rw [ex] at hl
      refine lv_iload hx hb dL_law_1340 (lv_at hl 12 rfl) ?_
      refine lv_if_ne (tgt := 1385) hx hb dL_law_1342 (by decide) (fun c_1342 => ?_) (fun c9 => absurd c9 (by decide))
      have g := g.sl (List.Sublist.append (List.Sublist.refl _) (List.Sublist.append (List.Sublist.refl _) (List.nil_sublist _)))
      exact join1385 1 _ _ _ (Or.inl rfl) g (lv_sub hl [0, 1, 2, 3, 4, 5, 6, 7, 8, 9, 10, 11, 12, 13, 14] rfl)
    · rw [ex] at hl
      refine lv_iload hx hb dL_law_1340 (lv_at hl 12 rfl) ?_
      refine lv_if_ne (tgt := 1385) hx hb dL_law_1342 (by decide) (fun c9 => absurd rfl c9) (fun c_1342 => ?_)
      obtain ⟨a, nt, wo, f, m9, r, l9, S9, co9, o9, q9, t9, ⟨b1, b2, b3, b4, b5, b6, b7, b8, b9_⟩, e0, e2, e3, e4, e5, er, el, eS, ec, eo, eq, et, k1, k2, k3, k4, k5, k6, k7, k8, k9, k10⟩ := wk_all hIn hw
      rcases fl_dec F h w with hf | hf
      · obtain ⟨g3, g4, g2⟩ := (hr_in (n := n) hw).1 hf
        rw [eF9] at g4
        refine lv_aload_n hx hb dL_law_1345 rfl (lv_at hl 1 rfl) ?_
        refine lv_iload hx hb dL_law_1346 (lv_at hl 9 rfl) ?_
        rw [show (xo : Int32) = nI w from exo]
        refine x_ci (rest := []) g (x_V (nA := 1) (As := [.int (nI w)]) S g (c_fallsOf_ok l G F9 0 w n hI9.c6 hw hn8) (lw_V q297 q298 q299 q1 q300) ⟨rfl, by decide +kernel, by decide +kernel, by decide +kernel⟩ rfl ⟨Nat.le_of_ble_eq_true rfl, Nat.le_of_ble_eq_true rfl⟩ hl.1 (Nat.le_of_ble_eq_true rfl) rfl ⟨by show cells + 0 ≤ 1112399; omega, by show slots + 0 ≤ 5764272; omega⟩ dL_law_1348) (fun H locs g => ?_)
        rw [show (F9 (wb 1 w) 4 : Int32) = nI (f + 1) from (g4.trans (by rw [e4]; exact nI_1 f))]
        refine lv_aload hx hb dL_law_1351 (lv_at hl 18 rfl) ?_
        refine lv_iload hx hb dL_law_1353 (lv_at hl 9 rfl) ?_
        rw [show (xo : Int32) = nI w from exo]
        refine x_iald S g (List.mem_append_right _ (List.mem_append_right _ (List.mem_append_right _ (List.mem_append_left _ List.mem_cons_self)))) (by omega) w rfl (by omega) dL_law_1355 ?_
        rw [show (f2 w : Int32) = nI f from ((ha w hw).2.1.trans e4)]
        refine lv_icmp_le (tgt := 1363) hx hb dL_law_1356 (by decide) (fun c9 => absurd c9 (fun z9 => absurd ((nI_leI (a := (f + 1)) (b := f) (by omega) (by omega)).mp z9) (by omega))) (fun c_1356 => ?_)
        refine lv_iconst (v := 1) hx hb dL_law_1359 (by decide) ?_
        refine lv_goto (tgt := 1364) hx hb dL_law_1360 (by decide) ?_
        refine lv_istore (lv' := [(23, .int 1), (0, .ref b9), (1, .ref (gA G 0)), (2, .ref (A 0)), (3, .int (nI t)), (7, .int (nI n)), (16, .int (nI T)), (17, .int v17), (18, .int xr), (19, .int xn), (20, .int xo), (21, .int xf), (22, .int xs), (24, .int xj), (25, .int (nI (k + 1))), (26, .int ((Pw F n h i).2 1 1)), (27, .int ((Pw F n h i).2 1 5)), (28, .ref y1), (29, .ref y2), (30, .ref y3), (31, .ref y4), (32, .ref y5), (33, .int (hrR F 1 n h - (Pw F n h i).1))]) hx hb dL_law_1364 hl (by decide) rfl (fun ls hl => ?_)
        refine lv_iload hx hb dL_law_1366 (lv_at hl 0 rfl) ?_
        refine lv_iload hx hb dL_law_1368 (lv_at hl 11 rfl) ?_
        refine lv_iload hx hb dL_law_1370 (lv_at hl 14 rfl) ?_
        refine lv_icmp_ne (tgt := 1379) hx hb dL_law_1372 (by decide) (fun c9 => absurd (on_eq how hk (hx0 w hw exo) ((efl w).mpr hf)) c9) (fun c_1372 => ?_)
        refine lv_iconst (v := 1) hx hb dL_law_1375 (by decide) ?_
        refine lv_goto (tgt := 1380) hx hb dL_law_1376 (by decide) ?_
        refine lv_icmp_eq (tgt := 1385) hx hb dL_law_1380 (by decide) (fun c_1380 => ?_) (fun c9 => absurd rfl c9)
        have g := g.sl (List.Sublist.append (List.Sublist.refl _) (List.Sublist.append (List.Sublist.refl _) (List.nil_sublist _)))
        exact join1385 1 _ _ _ Fe.y g (lv_sub hl [1, 2, 3, 4, 5, 6, 7, 8, 9, 10, 11, 12, 0, 13, 14] rfl)
      · obtain ⟨g3, g4, g2⟩ := (hr_in (n := n) hw).2.1 hf
        rw [eF9] at g4
        refine lv_aload_n hx hb dL_law_1345 rfl (lv_at hl 1 rfl) ?_
        refine lv_iload hx hb dL_law_1346 (lv_at hl 9 rfl) ?_
        rw [show (xo : Int32) = nI w from exo]
        refine x_ci (rest := []) g (x_V (nA := 1) (As := [.int (nI w)]) S g (c_fallsOf_ok l G F9 0 w n hI9.c6 hw hn8) (lw_V q297 q298 q299 q1 q300) ⟨rfl, by decide +kernel, by decide +kernel, by decide +kernel⟩ rfl ⟨Nat.le_of_ble_eq_true rfl, Nat.le_of_ble_eq_true rfl⟩ hl.1 (Nat.le_of_ble_eq_true rfl) rfl ⟨by show cells + 0 ≤ 1112399; omega, by show slots + 0 ≤ 5764272; omega⟩ dL_law_1348) (fun H locs g => ?_)
        rw [show (F9 (wb 1 w) 4 : Int32) = nI f from (g4.trans e4)]
        refine lv_aload hx hb dL_law_1351 (lv_at hl 18 rfl) ?_
        refine lv_iload hx hb dL_law_1353 (lv_at hl 9 rfl) ?_
        rw [show (xo : Int32) = nI w from exo]
        refine x_iald S g (List.mem_append_right _ (List.mem_append_right _ (List.mem_append_right _ (List.mem_append_left _ List.mem_cons_self)))) (by omega) w rfl (by omega) dL_law_1355 ?_
        rw [show (f2 w : Int32) = nI f from ((ha w hw).2.1.trans e4)]
        refine lv_icmp_le (tgt := 1363) hx hb dL_law_1356 (by decide) (fun c_1356 => ?_) (fun c9 => absurd ((nI_leI (a := f) (b := f) (by omega) (by omega)).mpr (by omega)) c9)
        refine lv_iconst (v := 0) hx hb dL_law_1363 (by decide) ?_
        refine lv_istore (lv' := [(23, .int 0), (0, .ref b9), (1, .ref (gA G 0)), (2, .ref (A 0)), (3, .int (nI t)), (7, .int (nI n)), (16, .int (nI T)), (17, .int v17), (18, .int xr), (19, .int xn), (20, .int xo), (21, .int xf), (22, .int xs), (24, .int xj), (25, .int (nI (k + 1))), (26, .int ((Pw F n h i).2 1 1)), (27, .int ((Pw F n h i).2 1 5)), (28, .ref y1), (29, .ref y2), (30, .ref y3), (31, .ref y4), (32, .ref y5), (33, .int (hrR F 1 n h - (Pw F n h i).1))]) hx hb dL_law_1364 hl (by decide) rfl (fun ls hl => ?_)
        refine lv_iload hx hb dL_law_1366 (lv_at hl 0 rfl) ?_
        refine lv_iload hx hb dL_law_1368 (lv_at hl 11 rfl) ?_
        refine lv_iload hx hb dL_law_1370 (lv_at hl 14 rfl) ?_
        refine lv_icmp_ne (tgt := 1379) hx hb dL_law_1372 (by decide) (fun c_1372 => ?_) (fun c9 => absurd c9 (on_ne how hk (fun z9 => hf ((efl w).mp z9))))
        refine lv_iconst (v := 0) hx hb dL_law_1379 (by decide) ?_
        refine lv_icmp_eq (tgt := 1385) hx hb dL_law_1380 (by decide) (fun c_1380 => ?_) (fun c9 => absurd rfl c9)
        have g := g.sl (List.Sublist.append (List.Sublist.refl _) (List.Sublist.append (List.Sublist.refl _) (List.nil_sublist _)))
        exact join1385 0 _ _ _ (by rw [exo]; exact Fe.n hw hn8 (hx0 w hw exo) (fun z9 => hf ((efl w).mp z9))) g (lv_sub hl [1, 2, 3, 4, 5, 6, 7, 8, 9, 10, 11, 12, 0, 13, 14] rfl)
set_option maxHeartbeats 4000000 in
set_option maxRecDepth 100000 in
theorem seg_F {p : Program} {l : Launch} {e : Env} {s : State} {m : MethodId} {args : Array Value} {below : List Frame} {meth : Method} {c : Code} {cells slots : Nat} {Q : State → Prop} {G : gT} {Z : Nat → Prop} {b9 L9 : Nat} {xs9 : Nat → Int32} (hfl : l.stackTraces = false) (S : CallFix p m c cL_law 36 s args lw_all "ShadowPoolLaw") (hX9 : va_X b9 L9 xs9 s s.heap) (hX9l : b9 < s.heap.size) (hX9n : ¬ Z b9) (A : Nat → Nat) (F : Fs) (n : Nat) (h : Nat) (hIn : In F n h) (hh : h ≤ 7000) (t : Nat) (T : Nat) (hT1 : 1 ≤ T) (hT : T ≤ 20) (xr : Int32) (xn : Int32) (xo : Int32) (xf : Int32) (xs : Int32) (hru : Ru F n h xr) (hnx : Nx F n h xn xs) (hon : On F n h xo xf) (ht : t < 8) {H : Heap} {locs : List Loc} {ls : Array Slot} (g : GX G Z (wld G F 0 ++ (swl G A n F 1 ++ [])) s H locs) (hl : lv_has ls 36 [(0, .ref b9), (1, .ref (gA G 0)), (2, .ref (A 0)), (3, .int (nI t)), (7, .int (nI n)), (16, .int (nI T)), (17, .int (Hh F n h T 1 1)), (18, .int xr), (19, .int xn), (20, .int xo), (21, .int xf), (22, .int xs)]) (hc1 : cells + 260 ≤ 1112399) (hc2 : slots + 1440 ≤ 5764272) (K : ∀ (F' : Fs) (h' : Nat) (H : Heap) (locs : List Loc) (ls : Array Slot), In F' n h' → h' ≤ h + 20 → GX G Z (wld G F' 0 ++ (swl G A n F' 1 ++ [])) s H locs → lv_has ls 36 [(0, .ref b9), (1, .ref (gA G 0)), (2, .ref (A 0)), (3, .int (nI (t + 1)))] → W p l e room_1 s m args below meth c H locs (cells + 260) (slots + 1440) Q (F0 m 22 ls [])) : W p l e room_1 s m args below meth c H locs cells slots Q (F0 m 877 ls []) := by
  have hx := S.1
  have hb := S.2.1
  have hn8 := hIn.n8
  refine lv_iconst (v := 0) hx hb dL_law_877 (by decide) ?_
  refine lv_istore (lv' := [(23, .int 0), (0, .ref b9), (1, .ref (gA G 0)), (2, .ref (A 0)), (3, .int (nI t)), (7, .int (nI n)), (16, .int (nI T)), (17, .int (Hh F n h T 1 1)), (18, .int xr), (19, .int xn), (20, .int xo), (21, .int xf), (22, .int xs)]) hx hb dL_law_878 hl (by decide) rfl (fun ls hl => ?_)
  refine lv_iconst (v := 1) hx hb dL_law_880 (by decide) ?_
  refine lv_istore (lv' := [(24, .int 1), (23, .int 0), (0, .ref b9), (1, .ref (gA G 0)), (2, .ref (A 0)), (3, .int (nI t)), (7, .int (nI n)), (16, .int (nI T)), (17, .int (Hh F n h T 1 1)), (18, .int xr), (19, .int xn), (20, .int xo), (21, .int xf), (22, .int xs)]) hx hb dL_law_881 hl (by decide) rfl (fun ls hl => ?_)
  refine lv_iconst (v := 1) hx hb dL_law_883 (by decide) ?_
  refine lv_istore (lv' := [(25, .int 1), (24, .int 1), (23, .int 0), (0, .ref b9), (1, .ref (gA G 0)), (2, .ref (A 0)), (3, .int (nI t)), (7, .int (nI n)), (16, .int (nI T)), (17, .int (Hh F n h T 1 1)), (18, .int xr), (19, .int xn), (20, .int xo), (21, .int xf), (22, .int xs)]) hx hb dL_law_884 hl (by decide) rfl (fun ls hl => ?_)
  have loop886 : ∀ (n_ : Nat) (k : Nat) (xl : Int32) (xi : Int32) (H : Heap) (locs : List Loc) (ls : Array Slot) (hk : k + n_ = T) (hxl : Fe F n h xo k xl) (hxi : Fi F n h k xi), GX G Z (wld G (Hh F n h k) 0 ++ (swl G A n (Hh F n h k) 1 ++ [])) s H locs → lv_has ls 36 [(0, .ref b9), (1, .ref (gA G 0)), (2, .ref (A 0)), (3, .int (nI t)), (7, .int (nI n)), (16, .int (nI T)), (17, .int (Hh F n h T 1 1)), (18, .int xr), (19, .int xn), (20, .int xo), (21, .int xf), (22, .int xs), (23, .int xl), (24, .int xi), (25, .int (nI (k + 1)))] → W p l e room_1 s m args below meth c H locs (cells + 13 * k) (slots + 72 * k) Q (F0 m 886 ls []) := by
    intro n_
    induction n_ with
    | zero =>
      intro k xl xi H locs ls hk hxl hxi g hl
      have hIk : In (Hh F n h k) n (h + k) := in_pass hIn (by omega) (by omega)
      refine lv_iload hx hb dL_law_886 (lv_at hl 14 rfl) ?_
      refine lv_iload hx hb dL_law_888 (lv_at hl 5 rfl) ?_
      refine lv_icmp_gt (tgt := 1444) hx hb dL_law_890 (by decide) (fun c_890 => ?_) (fun c9 => absurd ((nI_ltI (a := T) (b := (k + 1)) (by omega) (by omega)).mpr (by omega)) c9)
      refine lv_aload_n hx hb dL_law_1444 rfl (lv_at hl 1 rfl) ?_
      refine x_ci (rest := []) g (x_V (nA := 0) (As := []) S g (c_fund l G (Hh F n h k) 0 ) (lw_V q335 q336 q337 q1 q338) ⟨rfl, by decide +kernel, by decide +kernel, by decide +kernel⟩ rfl ⟨Nat.le_of_ble_eq_true rfl, Nat.le_of_ble_eq_true rfl⟩ hl.1 (Nat.le_of_ble_eq_true rfl) rfl ⟨by show cells + 13 * k + 0 ≤ 1112399; omega, by show slots + 72 * k + 0 ≤ 5764272; omega⟩ dL_law_1445) (fun H locs g => ?_)
      refine lv_iload hx hb dL_law_1448 (lv_at hl 6 rfl) ?_
      refine lv_icmp_eq (tgt := 1455) hx hb dL_law_1450 (by decide) (fun c_1450 => ?_) (fun c9 => absurd (by rw [show k = T by omega]) c9)
      refine lv_iinc (v := nI (t + 1)) (lv' := [(3, .int (nI (t + 1))), (0, .ref b9), (1, .ref (gA G 0)), (2, .ref (A 0)), (7, .int (nI n)), (16, .int (nI T)), (17, .int (Hh F n h T 1 1)), (18, .int xr), (19, .int xn), (20, .int xo), (21, .int xf), (22, .int xs), (23, .int xl), (24, .int xi), (25, .int (nI (k + 1)))]) hx hb dL_law_1455 hl (k := 3) rfl (by have e9 := nI_1 t; exact e9) (by decide) rfl (fun ls hl => ?_)
      refine lv_goto (tgt := 22) hx hb dL_law_1458 (by decide) ?_
      refine W.widen (k := cells + 260) (n := slots + 1440) (by omega) (by omega) ?_
      exact K (Hh F n h k) (h + k) _ _ _ hIk (by omega) g (lv_sub hl [1, 2, 3, 0] rfl)
    | succ n_ ih_886 =>
      intro k xl xi H locs ls hk hxl hxi g hl
      refine lv_iload hx hb dL_law_886 (lv_at hl 14 rfl) ?_
      refine lv_iload hx hb dL_law_888 (lv_at hl 5 rfl) ?_
      refine lv_icmp_gt (tgt := 1444) hx hb dL_law_890 (by decide) (fun c9 => absurd c9 (fun z9 => absurd ((nI_ltI (a := T) (b := (k + 1)) (by omega) (by omega)).mp z9) (by omega))) (fun c_890 => ?_)
      have hIk : In (Hh F n h k) n (h + k) := in_pass hIn (by omega) (by omega)
      have hI9 : In (Hh F n h (k + 1)) n (h + k + 1) := in_pass hIn (by omega) (by omega)
      refine seg_H1 hfl S hX9 hX9l hX9n A (Hh F n h k) n (h + k) hIk (by omega) t T k (Hh F n h T 1 1) xr xn xo xf xs xl xi g (lv_sub hl [0, 1, 2, 3, 4, 5, 6, 7, 8, 9, 10, 11, 12, 13, 14] rfl) (by omega) (by omega) (fun y1 y2 y3 y4 y5 f1 f2 f3 f4 f5 H locs ls ha g hl => ?_)
      refine seg_H2 hfl S hX9 hX9l hX9n A (Hh F n h k) n (h + k) hIk (by omega) t T k (Hh F n h T 1 1) xr xn xo xf xs xl xi y1 y2 y3 y4 y5 f1 f2 f3 f4 f5 (Hh F n h (k + 1)) (Hh_s F n h k).symm g hl (by omega) (by omega) (fun H locs ls g hl => ?_)
      refine seg_H3 hfl S hX9 hX9l hX9n A (Hh F n h k) n (h + k) hIk (by omega) t T k (Hh F n h T 1 1) xr xn xo xf xs xl xi y1 y2 y3 y4 y5 f1 f2 f3 f4 f5 (Hh F n h (k + 1)) (Hh_s F n h k).symm F h (by omega) rfl rfl hI9 ha hnx hxi g hl (by omega) (by omega) (fun i xj H locs ls hi hF g hl => ?_)
      refine seg_H4 hfl S hX9 hX9l hX9n A (Hh F n h k) n (h + k) hIk (by omega) t T k (Hh F n h T 1 1) xr xn xo xf xs xl xi y1 y2 y3 y4 y5 f1 f2 f3 f4 f5 (Hh F n h (k + 1)) (Hh_s F n h k).symm F h (by omega) rfl rfl hI9 ha i xj hi hon hru hxl g hl (by omega) (by omega) (fun xl2 H locs ls hx2 g hl => ?_)
      refine W.widen (k := cells + 13 * (k + 1)) (n := slots + 72 * (k + 1)) (by omega) (by omega) ?_
      exact ih_886 (k + 1) xl2 xj _ _ _ (by omega) hx2 (Fi2.one hi hF) g hl
  refine W.widen (k := cells + 13 * 0) (n := slots + 72 * 0) (by omega) (by omega) ?_
  exact loop886 T 0 0 1 _ _ _ (by omega) (Or.inr ⟨rfl, fun w hw e z hz => absurd hz (Nat.not_lt_zero z)⟩) (Or.inr ⟨rfl, fun j hj z hz => absurd hz (Nat.not_lt_zero z)⟩) g (lv_sub hl [3, 4, 5, 6, 7, 8, 9, 10, 11, 12, 13, 14, 2, 1, 0] rfl)
set_option maxHeartbeats 4000000 in
set_option maxRecDepth 100000 in
theorem seg_G {p : Program} {l : Launch} {e : Env} {s : State} {m : MethodId} {args : Array Value} {below : List Frame} {meth : Method} {c : Code} {cells slots : Nat} {Q : State → Prop} {G : gT} {Z : Nat → Prop} {b9 L9 : Nat} {xs9 : Nat → Int32} (hfl : l.stackTraces = false) (S : CallFix p m c cL_law 36 s args lw_all "ShadowPoolLaw") (hX9 : va_X b9 L9 xs9 s s.heap) (hX9l : b9 < s.heap.size) (hX9n : ¬ Z b9) (A : Nat → Nat) (F : Fs) (n : Nat) (h : Nat) (hIn : In F n h) (hh : h ≤ 8000) {H : Heap} {locs : List Loc} {ls : Array Slot} (g : GX G Z (wld G F 0 ++ (swl G A n F 1 ++ [])) s H locs) (hl : lv_has ls 36 [(0, .ref b9), (1, .ref (gA G 0)), (2, .ref (A 0))]) (hc1 : cells + 8 ≤ 1112399) (hc2 : slots + 32 ≤ 5764272) (K : ∀ (H : Heap) (locs : List Loc) (ls : Array Slot), GX G Z (wld G F 0 ++ (swl G A n F 1 ++ [])) s H locs → lv_has ls 36 [] → W p l e room_1 s m args below meth c H locs (cells + 8) (slots + 32) Q (F0 m 1466 ls [.int 1])) : W p l e room_1 s m args below meth c H locs cells slots Q (F0 m 1461 ls []) := by
  have hx := S.1
  have hb := S.2.1
  have hn8 := hIn.n8
  refine lv_aload_n hx hb dL_law_1461 rfl (lv_at hl 2 rfl) ?_
  refine lv_aload_n hx hb dL_law_1462 rfl (lv_at hl 1 rfl) ?_
  have g := g.perm (pm2 _ _ _ )
  have g := g.eqw (List.append_assoc _ _ _).symm
  refine y_ci (rest := []) g (y_V (nA := 1) (As := [.ref (gA G 0)]) S g (d_isSame l G A n F h hIn (by omega)) (List.mem_append_left _ (swl_m0 G _ _ _ _)) (lw_V q497 q498 q499 q4 q500) ⟨rfl, by decide +kernel, by decide +kernel, by decide +kernel⟩ rfl ⟨Nat.le_of_ble_eq_true rfl, Nat.le_of_ble_eq_true rfl⟩ hl.1 (Nat.le_of_ble_eq_true rfl) rfl ⟨by show cells + 8 ≤ 1112399; omega, by show slots + 32 ≤ 5764272; omega⟩ dL_law_1463) (fun r9 u1463_0 H locs hp9 g => ?_)
  have g := g.eqw (List.append_assoc _ _ _)
  subst hp9
  refine W.widen (k := cells + 8) (n := slots + 32) (by omega) (by omega) ?_
  exact K H locs ls g (lv_sub hl [] rfl)
