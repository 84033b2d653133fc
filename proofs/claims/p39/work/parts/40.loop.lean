/-! THE LAW'S ROUNDS -/
set_option maxHeartbeats 4000000 in
set_option maxRecDepth 100000 in
theorem law_time {p : Program} {l : Launch} {e : Env} {s : State} {m : MethodId} {below : List Frame} {meth : Method} {c : Code} {G : gT} {b L : Nat} {xs : Nat → Int32} (hfl : l.stackTraces = false) (C0 : lw_At p s m meth c b L xs) :
    ∀ (f t : Nat) (A : Nat → Nat) (F : Fs) (n h : Nat) (H : Heap) (locs : List Loc) (ls : Array Slot), t + f = 8 → In F n h → h ≤ 1020 + 200 * t → GX G (fun q => s.heap.size ≤ q) (wld G F 0 ++ (swl G A n F 1 ++ [])) s H locs → lv_has ls 36 [(0, .ref b), (1, .ref (gA G 0)), (2, .ref (A 0)), (3, .int (nI t))] → W p l e room_1 s m #[Value.ref b] below meth c H locs (8183 + 3173 * t) (32777 + 13149 * t) (lw_Z below #[Value.ref b] s) (F0 m 22 ls []) := by
  obtain ⟨hx, hb, hr, hml, hown, hts, hX, hbl, hlocks, hgv⟩ := C0
  have S : CallFix p m c cL_law 36 s #[Value.ref b] lw_all "ShadowPoolLaw" := ⟨hx, hb, hml, hown, fun w hw => hts w (lw_all_tbl hw)⟩
  have hbA : ¬ (fun q => s.heap.size ≤ q) b := by show ¬ s.heap.size ≤ b; omega
  have rc : room_1.cells = 1112399 := rfl
  have rs : room_1.slots = 5764272 := rfl
  intro f
  induction f with
  | zero =>
    intro t A F n h H locs ls ht hIn hh g hl
    refine lv_iload_n hx hb dL_law_22 rfl (lv_at hl 3 rfl) ?_
    refine lv_bipush (v := 8) hx hb dL_law_23 (by decide) ?_
    refine lv_icmp_ge (tgt := 1461) hx hb dL_law_25 (by decide) (fun _ => ?_) (fun c9 => absurd (nI_le (a := 8) (b := t) (by omega) (by omega)) c9)
    refine seg_G hfl S hX hbl hbA A F n h hIn (by omega) g (lv_sub hl [0, 1, 2] rfl) (by omega) (by omega) (fun H locs ls g hl => ?_)
    refine va_forget (fun q hq => g.2.2.2.1.2.2 q hq) ?_
    refine W.widen (k := 1112399) (n := 5764272) (by omega) (by omega) ?_
    refine W.base ?_
    exact lw_ret (Drawn.sameBut.refl s.drawn lw_cs) hx hb hr hlocks dL_law_1466
  | succ f ih =>
    intro t A F n h H locs ls ht hIn hh g hl
    refine lv_iload_n hx hb dL_law_22 rfl (lv_at hl 3 rfl) ?_
    refine lv_bipush (v := 8) hx hb dL_law_23 (by decide) ?_
    refine lv_icmp_ge (tgt := 1461) hx hb dL_law_25 (by decide) (fun c9 => absurd c9 (nI_ge (b := 8) (by omega) (by omega))) (fun _ => ?_)
    refine seg_A hfl S hX hbl hbA A F n h hIn (by omega) t (by omega) g hl (by omega) (by omega) (fun A F n h1 x H locs ls hIn hh1 g hl => ?_)
    refine seg_B hfl S hX hbl hbA A F n h1 hIn (by omega) t x g hl (by omega) (by omega) (fun F1 H locs ls hS1 hI1 g hl => ?_)
    refine seg_C hfl S hX hbl hbA A F1 n h1 hI1 (by omega) t x (dgI F n h1) g hl (by omega) (by omega) (fun H locs ls g hl => ?_)
    refine seg_D hfl S hX hbl hbA A F1 n h1 hI1 (by omega) t x (dgI F n h1) g hl (by omega) (by omega) (fun F3 H locs ls hS3 hI3 g hl => ?_)
    refine seg_E hfl S hX hbl hbA A F3 n h1 hI3 (by omega) t x (dgI F n h1) ((dg_sc hI1.n8 hS3).trans (dg_sc hI1.n8 hS1)) g hl (by omega) (by omega) (fun F5 T xr xn xo xf xs2 H locs ls hS5 hI5 hT1 hT hru hnx hon g hl => ?_)
    refine seg_F hfl S hX hbl hbA A F5 n h1 hI5 (by omega) t T hT1 hT xr xn xo xf xs2 hru hnx hon (by omega) g (lv_sub hl [0, 1, 2, 3, 6, 8, 9, 10, 11, 12, 13, 14] rfl) (by omega) (by omega) (fun F6 h2 H locs ls hI6 hh2 g hl => ?_)
    refine W.widen (k := 8183 + 3173 * (t + 1)) (n := 32777 + 13149 * (t + 1)) (by omega) (by omega) ?_
    exact ih (t + 1) A F6 n h2 H locs ls (by omega) hI6 (by omega) g hl
