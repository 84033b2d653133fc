set_option maxHeartbeats 4000000 in
set_option maxRecDepth 100000 in
theorem seg_S {p : Program} {l : Launch} {e : Env} {s : State} {m : MethodId} {args : Array Value} {below : List Frame} {meth : Method} {c : Code} {cells slots : Nat} {Q : State → Prop} {G : gT} {Z : Nat → Prop} {b9 L9 : Nat} {xs9 : Nat → Int32} (hfl : l.stackTraces = false) (S : CallFix p m c cL_law 36 s args lw_all "ShadowPoolLaw") (hX9 : va_X b9 L9 xs9 s s.heap) (hX9l : b9 < s.heap.size) (hX9n : ¬ Z b9) (F : Fs) (hFi : ∀ j, j < 6 → Fz 1 j = F 1 j) (hIn : In F 0 0) {H : Heap} {locs : List Loc} {ls : Array Slot} (g : GX G Z (wld G F 0 ++ []) s H locs) (hl : lv_has ls 36 [(0, .ref b9), (1, .ref (gA G 0))]) (hc1 : cells + 8162 ≤ 1112399) (hc2 : slots + 32647 ≤ 5764272) (K : ∀ (A : Nat → Nat) (F' : Fs) (n' : Nat) (h' : Nat) (H : Heap) (locs : List Loc) (ls : Array Slot), In F' n' h' → h' ≤ 1020 → GX G Z (wld G F' 0 ++ (swl G A n' F' 1 ++ [])) s H locs → lv_has ls 36 [(0, .ref b9), (1, .ref (gA G 0)), (2, .ref (A 0)), (3, .int (nI 0))] → W p l e room_1 s m args below meth c H locs (cells + 8162) (slots + 32647) Q (F0 m 22 ls [])) : W p l e room_1 s m args below meth c H locs cells slots Q (F0 m 8 ls []) := by
  have hx := S.1
  have hb := S.2.1
  refine lv_aload_n hx hb dL_law_8 rfl (lv_at hl 1 rfl) ?_
  refine lv_aload_n hx hb dL_law_9 rfl (lv_at hl 0 rfl) ?_
  refine y_cq (rest := []) g (y_SS (nA := 2) (As := [.ref (gA G 0), .ref b9]) S g hX9 hX9l hX9n (d_build l G b9 L9 xs9 hfl F hFi hIn) (lw_S q596 q597 q0 q598) ⟨by decide +kernel, by decide +kernel, by decide +kernel⟩ rfl ⟨Nat.le_of_ble_eq_true rfl, Nat.le_of_ble_eq_true rfl⟩ hl.1 (Nat.le_of_ble_eq_true rfl) rfl ⟨by show cells + 8162 ≤ 1112399; omega, by show slots + 32647 ≤ 5764272; omega⟩ dL_law_10) (fun r9 u10_0 H locs hp9 g => ?_)
  have g := g.eqw (List.append_assoc _ _ _)
  obtain ⟨hq9, hI9, hh9⟩ := hp9
  subst hq9
  refine lv_astore_n (lv' := [(2, .ref (u10_0.1 0)), (0, .ref b9), (1, .ref (gA G 0))]) hx hb dL_law_13 rfl hl (by decide) rfl (fun ls hl => ?_)
  refine lv_aload_n hx hb dL_law_14 rfl (lv_at hl 0 rfl) ?_
  refine lv_ifnonnull (tgt := 20) hx hb dL_law_15 (by decide) ?_
  refine lv_iconst (v := 0) hx hb dL_law_20 (by decide) ?_
  refine lv_istore_n (lv' := [(3, .int 0), (2, .ref (u10_0.1 0)), (0, .ref b9), (1, .ref (gA G 0))]) hx hb dL_law_21 rfl hl (by decide) rfl (fun ls hl => ?_)
  refine W.widen (k := cells + 8162) (n := slots + 32647) (by omega) (by omega) ?_
  exact K u10_0.1 u10_0.2.1 u10_0.2.2.1 u10_0.2.2.2 _ _ _ hI9 hh9 g (lv_sub hl [2, 3, 1, 0] rfl)
