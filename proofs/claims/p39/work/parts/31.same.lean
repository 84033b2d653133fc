set_option maxHeartbeats 4000000 in
set_option maxRecDepth 100000 in
theorem d_isSame (l : Launch) (G : gT) (A : Nat → Nat) (n : Nat) (F : Fs) (h : Nat) (hIn : In F n h) (hh2 : h < 2 ^ 28) : ∀ sz : Nat, Met l yX3_isSame (wsG yX3_isSame cX3_isSame 8 (some .boolean)) (rmC 5 107 8 32) (va_Pc [.ref (A 0), .ref (gA G 0)] (preX G (swl G A n F 1 ++ wld G F 0) sz)) (QXi G (fun (r : Int32) (_ : Unit) => r = 1) (fun (_ : Unit) => wld G F 0 ++ swl G A n F 1) (swl G A n F 1 ++ wld G F 0) sz) 8 32 (va_A (swl G A n F 1 ++ wld G F 0) sz) := by
  refine mk_Y (own := "ShadowPoolLaw$Sim") (Qs := fun sz => QXi G (fun (r : Int32) (_ : Unit) => r = 1) (fun (_ : Unit) => wld G F 0 ++ swl G A n F 1) (swl G A n F 1 ++ wld G F 0) sz) (by decide +kernel) rfl (Nat.le_of_ble_eq_true rfl) ?_
  intro p e s m args below meth c ls hr hk0 hnm S g hl
  have hl : lv_has ls 8 [(0, .ref (A 0)), (1, .ref (gA G 0))] := hl
  have hx := S.1
  have hb := S.2.1
  have g := g.eqw (show _ = _ ++ (_ ++ []) from by rw [List.append_nil])
  have hn8 := hIn.n8
  refine lv_iconst (v := 0) hx hb dX3_isSame_0 (by decide) ?_
  refine lv_istore_n (lv' := [(2, .int 0), (0, .ref (A 0)), (1, .ref (gA G 0))]) hx hb dX3_isSame_1 rfl hl (by decide) rfl (fun ls hl => ?_)
  refine lv_iconst (v := (-1)) hx hb dX3_isSame_2 (by decide) ?_
  refine lv_istore_n (lv' := [(3, .int ((-1))), (2, .int 0), (0, .ref (A 0)), (1, .ref (gA G 0))]) hx hb dX3_isSame_3 rfl hl (by decide) rfl (fun ls hl => ?_)
  refine lv_iconst (v := 0) hx hb dX3_isSame_4 (by decide) ?_
  refine lv_istore (lv' := [(4, .int 0), (3, .int ((-1))), (2, .int 0), (0, .ref (A 0)), (1, .ref (gA G 0))]) hx hb dX3_isSame_5 hl (by decide) rfl (fun ls hl => ?_)
  refine lv_aload_n hx hb dX3_isSame_7 rfl (lv_at hl 3 rfl) ?_
  refine x_geta S g (List.mem_append_left _ (swl_m0 G A _ _ _)) q444 dX3_isSame_8 ?_
  refine x_alen S g (List.mem_append_left _ (swl_m1 G A _ _ _)) 2 rfl dX3_isSame_11 ?_
  refine lv_iconst (v := 1) hx hb dX3_isSame_12 (by decide) ?_
  refine lv_isub hx hb dX3_isSame_13 ?_
  refine lv_istore (lv' := [(5, .int ((nI n) - 1)), (4, .int 0), (3, .int ((-1))), (2, .int 0), (0, .ref (A 0)), (1, .ref (gA G 0))]) hx hb dX3_isSame_14 hl (by decide) rfl (fun ls hl => ?_)
  have loop16 : ∀ (n_ : Nat) (x : Int32) (H : Heap) (locs : List Loc) (ls : Array Slot) (hin : n_ ≤ n) (hlo : LoI F (suH h) n n_ x), GX G (va_A (swl G A n F 1 ++ wld G F 0) s.heap.size) (wld G F 0 ++ (swl G A n F 1 ++ [])) s H locs → lv_has ls 8 [(0, .ref (A 0)), (1, .ref (gA G 0)), (2, .int (cmL F 1 (n - n_) n_ 0)), (3, .int x), (4, .int (msL F (suH h) (n - n_) n_ 0)), (5, .int (nI n_ - 1))] → W p l e (rmC 5 107 8 32) s m args below meth c H locs (n - n_) (4 * (n - n_)) (MQ below (QXi G (fun (r : Int32) (_ : Unit) => r = 1) (fun (_ : Unit) => wld G F 0 ++ swl G A n F 1) (swl G A n F 1 ++ wld G F 0) s.heap.size) args s 8 32 (va_A (swl G A n F 1 ++ wld G F 0) s.heap.size)) (F0 m 16 ls []) := by
    intro n_
    induction n_ with
    | zero =>
      intro x H locs ls hin hlo g hl
      have join256 : ∀ (u : Nat) (H : Heap) (locs : List Loc) (ls : Array Slot) (hu9 : huN h = nI u), GX G (va_A (swl G A n F 1 ++ wld G F 0) s.heap.size) (wld G F 0 ++ (swl G A n F 1 ++ [])) s H locs → lv_has ls 8 [(0, .ref (A 0)), (1, .ref (gA G 0)), (2, .int (cmL F 1 (n - 0) 0 0)), (3, .int x), (4, .int (msL F (suH h) (n - 0) 0 0)), (5, .int (nI u))] → W p l e (rmC 5 107 8 32) s m args below meth c H locs (n - 0) (4 * (n - 0)) (MQ below (QXi G (fun (r : Int32) (_ : Unit) => r = 1) (fun (_ : Unit) => wld G F 0 ++ swl G A n F 1) (swl G A n F 1 ++ wld G F 0) s.heap.size) args s 8 32 (va_A (swl G A n F 1 ++ wld G F 0) s.heap.size)) (F0 m 256 ls []) := by
        intro u H locs ls hu9 g hl
        refine lv_aload_n hx hb dX3_isSame_256 rfl (lv_at hl 1 rfl) ?_
        refine x_ci (rest := []) g (x_V (nA := 0) (As := []) S g (c_hour l G F 0 ) (lw_V q510 q241 q242 q1 q243) ⟨rfl, by decide +kernel, by decide +kernel, by decide +kernel⟩ rfl ⟨Nat.le_of_ble_eq_true rfl, Nat.le_of_ble_eq_true rfl⟩ hl.1 (Nat.le_of_ble_eq_true rfl) rfl ⟨by show n - 0 + 0 ≤ 8; omega, by show 4 * (n - 0) + 0 ≤ 32; omega⟩ dX3_isSame_257) (fun H locs g => ?_)
        refine lv_aload_n hx hb dX3_isSame_260 rfl (lv_at hl 0 rfl) ?_
        refine x_geti S g (List.mem_append_right _ (List.mem_append_left _ (swl_m0 G A _ _ _))) 0 (by decide) q434 dX3_isSame_261 ?_
        refine lv_icmp_ne (tgt := 415) hx hb dX3_isSame_264 (by decide) (fun c9 => absurd rfl c9) (fun c_264 => ?_)
        refine lv_aload_n hx hb dX3_isSame_267 rfl (lv_at hl 1 rfl) ?_
        refine x_ci (rest := []) g (x_V (nA := 0) (As := []) S g (c_sun l G F 0 h hIn.c0 (by omega)) (lw_V q511 q245 q246 q1 q247) ⟨rfl, by decide +kernel, by decide +kernel, by decide +kernel⟩ rfl ⟨Nat.le_of_ble_eq_true rfl, Nat.le_of_ble_eq_true rfl⟩ hl.1 (Nat.le_of_ble_eq_true rfl) rfl ⟨by show n - 0 + 0 ≤ 8; omega, by show 4 * (n - 0) + 0 ≤ 32; omega⟩ dX3_isSame_268) (fun H locs g => ?_)
        refine lv_aload_n hx hb dX3_isSame_271 rfl (lv_at hl 0 rfl) ?_
        have g := g.perm (pm2 _ _ _ )
        refine y_ci (rest := [.int (suH h)]) g (y_V (nA := 0) (As := []) S g (d_sun l G A n F 1 h hIn.c0 (by omega)) (swl_m0 G _ _ _ _) (lw_V q480 q481 q482 q4 q483) ⟨rfl, by decide +kernel, by decide +kernel, by decide +kernel⟩ rfl ⟨Nat.le_of_ble_eq_true rfl, Nat.le_of_ble_eq_true rfl⟩ hl.1 (Nat.le_of_ble_eq_true rfl) rfl ⟨by show n - 0 + 0 ≤ 8; omega, by show 4 * (n - 0) + 0 ≤ 32; omega⟩ dX3_isSame_272) (fun r9 u272_0 H locs hp9 g => ?_)
        subst hp9
        refine lv_icmp_ne (tgt := 415) hx hb dX3_isSame_275 (by decide) (fun c9 => absurd rfl c9) (fun c_275 => ?_)
        refine lv_aload_n hx hb dX3_isSame_278 rfl (lv_at hl 1 rfl) ?_
        have g := g.perm (pm2 _ _ _ )
        refine x_ci (rest := []) g (x_V (nA := 0) (As := []) S g (c_isNoon l G F 0 h hIn.c0 (by omega)) (lw_V q512 q251 q252 q1 q253) ⟨rfl, by decide +kernel, by decide +kernel, by decide +kernel⟩ rfl ⟨Nat.le_of_ble_eq_true rfl, Nat.le_of_ble_eq_true rfl⟩ hl.1 (Nat.le_of_ble_eq_true rfl) rfl ⟨by show n - 0 + 0 ≤ 8; omega, by show 4 * (n - 0) + 0 ≤ 32; omega⟩ dX3_isSame_279) (fun H locs g => ?_)
        refine lv_aload_n hx hb dX3_isSame_282 rfl (lv_at hl 0 rfl) ?_
        have g := g.perm (pm2 _ _ _ )
        refine y_ci (rest := [.int (noH h)]) g (y_V (nA := 0) (As := []) S g (d_isNoon l G A n F 1 h hIn.c0 (by omega)) (swl_m0 G _ _ _ _) (lw_V q476 q477 q478 q4 q479) ⟨rfl, by decide +kernel, by decide +kernel, by decide +kernel⟩ rfl ⟨Nat.le_of_ble_eq_true rfl, Nat.le_of_ble_eq_true rfl⟩ hl.1 (Nat.le_of_ble_eq_true rfl) rfl ⟨by show n - 0 + 0 ≤ 8; omega, by show 4 * (n - 0) + 0 ≤ 32; omega⟩ dX3_isSame_283) (fun r9 u283_1 H locs hp9 g => ?_)
        subst hp9
        refine lv_icmp_ne (tgt := 415) hx hb dX3_isSame_286 (by decide) (fun c9 => absurd rfl c9) (fun c_286 => ?_)
        refine lv_aload_n hx hb dX3_isSame_289 rfl (lv_at hl 1 rfl) ?_
        have g := g.perm (pm2 _ _ _ )
        refine x_ci (rest := []) g (x_V (nA := 0) (As := []) S g (c_hoursUntilNoon l G F 0 h hIn.c0 (by omega)) (lw_V q513 q256 q257 q1 q258) ⟨rfl, by decide +kernel, by decide +kernel, by decide +kernel⟩ rfl ⟨Nat.le_of_ble_eq_true rfl, Nat.le_of_ble_eq_true rfl⟩ hl.1 (Nat.le_of_ble_eq_true rfl) rfl ⟨by show n - 0 + 0 ≤ 8; omega, by show 4 * (n - 0) + 0 ≤ 32; omega⟩ dX3_isSame_290) (fun H locs g => ?_)
        refine lv_iload hx hb dX3_isSame_293 (lv_at hl 5 rfl) ?_
        refine lv_icmp_ne (tgt := 415) hx hb dX3_isSame_295 (by decide) (fun c9 => absurd hu9 c9) (fun c_295 => ?_)
        refine lv_aload_n hx hb dX3_isSame_298 rfl (lv_at hl 1 rfl) ?_
        refine x_ci (rest := []) g (x_V (nA := 0) (As := []) S g (c_walkers l G F 0 ) (lw_V q514 q260 q261 q1 q262) ⟨rfl, by decide +kernel, by decide +kernel, by decide +kernel⟩ rfl ⟨Nat.le_of_ble_eq_true rfl, Nat.le_of_ble_eq_true rfl⟩ hl.1 (Nat.le_of_ble_eq_true rfl) rfl ⟨by show n - 0 + 0 ≤ 8; omega, by show 4 * (n - 0) + 0 ≤ 32; omega⟩ dX3_isSame_299) (fun H locs g => ?_)
        refine lv_aload_n hx hb dX3_isSame_302 rfl (lv_at hl 0 rfl) ?_
        refine x_geta S g (List.mem_append_right _ (List.mem_append_left _ (swl_m0 G A _ _ _))) q444 dX3_isSame_303 ?_
        refine x_alen S g (List.mem_append_right _ (List.mem_append_left _ (swl_m1 G A _ _ _))) 2 rfl dX3_isSame_306 ?_
        refine lv_icmp_ne (tgt := 415) hx hb dX3_isSame_307 (by decide) (fun c9 => absurd hIn.c6 c9) (fun c_307 => ?_)
        refine lv_aload_n hx hb dX3_isSame_310 rfl (lv_at hl 1 rfl) ?_
        refine x_ci (rest := []) g (x_V (nA := 0) (As := []) S g (c_members l G F 0 n hIn.c6 hn8) (lw_V q515 q264 q265 q1 q266) ⟨rfl, by decide +kernel, by decide +kernel, by decide +kernel⟩ rfl ⟨Nat.le_of_ble_eq_true rfl, Nat.le_of_ble_eq_true rfl⟩ hl.1 (Nat.le_of_ble_eq_true rfl) rfl ⟨by show n - 0 + 0 ≤ 8; omega, by show 4 * (n - 0) + 0 ≤ 32; omega⟩ dX3_isSame_311) (fun H locs g => ?_)
        refine lv_iload_n hx hb dX3_isSame_314 rfl (lv_at hl 2 rfl) ?_
        refine lv_icmp_ne (tgt := 415) hx hb dX3_isSame_315 (by decide) (fun c9 => absurd rfl c9) (fun c_315 => ?_)
        refine lv_aload_n hx hb dX3_isSame_318 rfl (lv_at hl 1 rfl) ?_
        refine x_ci (rest := []) g (x_V (nA := 0) (As := []) S g (c_longestShadow l G F 0 n h hIn.ok hn8 (by omega)) (lw_V q516 q308 q309 q1 q310) ⟨rfl, by decide +kernel, by decide +kernel, by decide +kernel⟩ rfl ⟨Nat.le_of_ble_eq_true rfl, Nat.le_of_ble_eq_true rfl⟩ hl.1 (Nat.le_of_ble_eq_true rfl) rfl ⟨by show n - 0 + 0 ≤ 8; omega, by show 4 * (n - 0) + 0 ≤ 32; omega⟩ dX3_isSame_319) (fun H locs g => ?_)
        refine lv_iload_n hx hb dX3_isSame_322 rfl (lv_at hl 3 rfl) ?_
        refine lv_icmp_ne (tgt := 415) hx hb dX3_isSame_323 (by decide) (fun c9 => absurd (lo_end (fun j hj => hIn.ht hj) hlo) c9) (fun c_323 => ?_)
        refine lv_aload_n hx hb dX3_isSame_326 rfl (lv_at hl 1 rfl) ?_
        refine x_ci (rest := []) g (x_V (nA := 0) (As := []) S g (c_fund l G F 0 ) (lw_V q517 q336 q337 q1 q338) ⟨rfl, by decide +kernel, by decide +kernel, by decide +kernel⟩ rfl ⟨Nat.le_of_ble_eq_true rfl, Nat.le_of_ble_eq_true rfl⟩ hl.1 (Nat.le_of_ble_eq_true rfl) rfl ⟨by show n - 0 + 0 ≤ 8; omega, by show 4 * (n - 0) + 0 ≤ 32; omega⟩ dX3_isSame_327) (fun H locs g => ?_)
        refine lv_aload_n hx hb dX3_isSame_330 rfl (lv_at hl 0 rfl) ?_
        refine x_geti S g (List.mem_append_right _ (List.mem_append_left _ (swl_m0 G A _ _ _))) 1 (by decide) q435 dX3_isSame_331 ?_
        refine lv_icmp_ne (tgt := 415) hx hb dX3_isSame_334 (by decide) (fun c9 => absurd rfl c9) (fun c_334 => ?_)
        refine lv_aload_n hx hb dX3_isSame_337 rfl (lv_at hl 1 rfl) ?_
        refine x_ci (rest := []) g (x_V (nA := 0) (As := []) S g (c_rate l G F 0 ) (lw_V q518 q340 q341 q1 q342) ⟨rfl, by decide +kernel, by decide +kernel, by decide +kernel⟩ rfl ⟨Nat.le_of_ble_eq_true rfl, Nat.le_of_ble_eq_true rfl⟩ hl.1 (Nat.le_of_ble_eq_true rfl) rfl ⟨by show n - 0 + 0 ≤ 8; omega, by show 4 * (n - 0) + 0 ≤ 32; omega⟩ dX3_isSame_338) (fun H locs g => ?_)
        refine lv_aload_n hx hb dX3_isSame_341 rfl (lv_at hl 0 rfl) ?_
        refine x_geti S g (List.mem_append_right _ (List.mem_append_left _ (swl_m0 G A _ _ _))) 2 (by decide) q437 dX3_isSame_342 ?_
        refine lv_icmp_ne (tgt := 415) hx hb dX3_isSame_345 (by decide) (fun c9 => absurd rfl c9) (fun c_345 => ?_)
        refine lv_aload_n hx hb dX3_isSame_348 rfl (lv_at hl 1 rfl) ?_
        refine x_ci (rest := []) g (x_V (nA := 0) (As := []) S g (c_retention l G F 0 ) (lw_V q519 q344 q345 q1 q346) ⟨rfl, by decide +kernel, by decide +kernel, by decide +kernel⟩ rfl ⟨Nat.le_of_ble_eq_true rfl, Nat.le_of_ble_eq_true rfl⟩ hl.1 (Nat.le_of_ble_eq_true rfl) rfl ⟨by show n - 0 + 0 ≤ 8; omega, by show 4 * (n - 0) + 0 ≤ 32; omega⟩ dX3_isSame_349) (fun H locs g => ?_)
        refine lv_aload_n hx hb dX3_isSame_352 rfl (lv_at hl 0 rfl) ?_
        refine x_geti S g (List.mem_append_right _ (List.mem_append_left _ (swl_m0 G A _ _ _))) 3 (by decide) q439 dX3_isSame_353 ?_
        refine lv_icmp_ne (tgt := 415) hx hb dX3_isSame_356 (by decide) (fun c9 => absurd rfl c9) (fun c_356 => ?_)
        refine lv_aload_n hx hb dX3_isSame_359 rfl (lv_at hl 1 rfl) ?_
        refine x_ci (rest := []) g (x_V (nA := 0) (As := []) S g (c_limit l G F 0 ) (lw_V q520 q348 q349 q1 q350) ⟨rfl, by decide +kernel, by decide +kernel, by decide +kernel⟩ rfl ⟨Nat.le_of_ble_eq_true rfl, Nat.le_of_ble_eq_true rfl⟩ hl.1 (Nat.le_of_ble_eq_true rfl) rfl ⟨by show n - 0 + 0 ≤ 8; omega, by show 4 * (n - 0) + 0 ≤ 32; omega⟩ dX3_isSame_360) (fun H locs g => ?_)
        refine lv_aload_n hx hb dX3_isSame_363 rfl (lv_at hl 0 rfl) ?_
        refine x_geti S g (List.mem_append_right _ (List.mem_append_left _ (swl_m0 G A _ _ _))) 4 (by decide) q441 dX3_isSame_364 ?_
        refine lv_icmp_ne (tgt := 415) hx hb dX3_isSame_367 (by decide) (fun c9 => absurd rfl c9) (fun c_367 => ?_)
        refine lv_aload_n hx hb dX3_isSame_370 rfl (lv_at hl 1 rfl) ?_
        refine x_ci (rest := []) g (x_V (nA := 0) (As := []) S g (c_reinsurersLoss l G F 0 ) (lw_V q521 q352 q353 q1 q354) ⟨rfl, by decide +kernel, by decide +kernel, by decide +kernel⟩ rfl ⟨Nat.le_of_ble_eq_true rfl, Nat.le_of_ble_eq_true rfl⟩ hl.1 (Nat.le_of_ble_eq_true rfl) rfl ⟨by show n - 0 + 0 ≤ 8; omega, by show 4 * (n - 0) + 0 ≤ 32; omega⟩ dX3_isSame_371) (fun H locs g => ?_)
        refine lv_aload_n hx hb dX3_isSame_374 rfl (lv_at hl 0 rfl) ?_
        refine x_geti S g (List.mem_append_right _ (List.mem_append_left _ (swl_m0 G A _ _ _))) 5 (by decide) q443 dX3_isSame_375 ?_
        refine lv_icmp_ne (tgt := 415) hx hb dX3_isSame_378 (by decide) (fun c9 => absurd rfl c9) (fun c_378 => ?_)
        refine lv_aload_n hx hb dX3_isSame_381 rfl (lv_at hl 1 rfl) ?_
        refine x_cd (rest := []) g (x_V (nA := 0) (As := []) S g (c_meanShadow l G F 0 n h hIn.ok hn8 (by omega) (fun z => hIn.nan z)) (lw_V q522 q523 q524 q1 q525) ⟨rfl, by decide +kernel, by decide +kernel, by decide +kernel⟩ rfl ⟨Nat.le_of_ble_eq_true rfl, Nat.le_of_ble_eq_true rfl⟩ hl.1 (Nat.le_of_ble_eq_true rfl) rfl ⟨by show n - 0 + 0 ≤ 8; omega, by show 4 * (n - 0) + 0 ≤ 32; omega⟩ dX3_isSame_382) (fun H locs g => ?_)
        refine lv_aload_n hx hb dX3_isSame_385 rfl (lv_at hl 0 rfl) ?_
        refine x_geta S g (List.mem_append_right _ (List.mem_append_left _ (swl_m0 G A _ _ _))) q444 dX3_isSame_386 ?_
        refine x_alen S g (List.mem_append_right _ (List.mem_append_left _ (swl_m1 G A _ _ _))) 2 rfl dX3_isSame_389 ?_
        refine lv_if_ne (tgt := 397) hx hb dX3_isSame_390 (by decide) (fun c_390 => ?_) (fun c_390 => ?_)
        · refine lv_iload hx hb dX3_isSame_397 (lv_at hl 4 rfl) ?_
          refine lv_i2d hx hb dX3_isSame_399 ?_
          refine lv_aload_n hx hb dX3_isSame_400 rfl (lv_at hl 0 rfl) ?_
          refine x_geta S g (List.mem_append_right _ (List.mem_append_left _ (swl_m0 G A _ _ _))) q444 dX3_isSame_401 ?_
          refine x_alen S g (List.mem_append_right _ (List.mem_append_left _ (swl_m1 G A _ _ _))) 2 rfl dX3_isSame_404 ?_
          refine lv_i2d hx hb dX3_isSame_405 ?_
          refine lv_ddiv hx hb dX3_isSame_406 (hIn.nan c_390) ?_
          refine lv_dcmp hx hb dX3_isSame_407 ?_; rw [show Op.cmpValue (FP.dcmp (msD F n h) (FP.ddiv (FP.i2d (msL F (suH h) (n - 0) 0 0)) (FP.i2d (nI n)))) .l = 0 from (hIn.dcy c_390)]
          refine lv_if_ne (tgt := 415) hx hb dX3_isSame_408 (by decide) (fun c9 => absurd rfl c9) (fun c_408 => ?_)
          refine lv_iconst (v := 1) hx hb dX3_isSame_411 (by decide) ?_
          refine lv_goto (tgt := 416) hx hb dX3_isSame_412 (by decide) ?_
          refine W.widen (k := 8) (n := 32) (by omega) (by omega) ?_
          have g := g.eqw (show _ = wld G F 0 ++ swl G A n F 1 from by simp only [List.append_nil, List.append_assoc])
          exact f_z (()) S hr hk0 g (by first | exact Or.inl rfl | exact Or.inr rfl) (by first | rfl | (simp only [c_264, c_275, c_286, c_295, c_307, c_315, c_323, c_334, c_345, c_356, c_367, c_378, c_390, c_408, ↓reduceIte]; done) | (simp [c_264, c_275, c_286, c_295, c_307, c_315, c_323, c_334, c_345, c_356, c_367, c_378, c_390, c_408, ↓reduceIte]; done)) dX3_isSame_416
        · refine lv_dconst0 hx hb dX3_isSame_393 ?_
          refine lv_goto (tgt := 407) hx hb dX3_isSame_394 (by decide) ?_
          refine lv_dcmp hx hb dX3_isSame_407 ?_; rw [show Op.cmpValue (FP.dcmp (msD F n h) FP.dconst0) .l = 0 from (msD_0 c_390)]
          refine lv_if_ne (tgt := 415) hx hb dX3_isSame_408 (by decide) (fun c9 => absurd rfl c9) (fun c_408 => ?_)
          refine lv_iconst (v := 1) hx hb dX3_isSame_411 (by decide) ?_
          refine lv_goto (tgt := 416) hx hb dX3_isSame_412 (by decide) ?_
          refine W.widen (k := 8) (n := 32) (by omega) (by omega) ?_
          have g := g.eqw (show _ = wld G F 0 ++ swl G A n F 1 from by simp only [List.append_nil, List.append_assoc])
          exact f_z (()) S hr hk0 g (by first | exact Or.inl rfl | exact Or.inr rfl) (by first | rfl | (simp only [c_264, c_275, c_286, c_295, c_307, c_315, c_323, c_334, c_345, c_356, c_367, c_378, c_390, c_408, ↓reduceIte]; done) | (simp [c_264, c_275, c_286, c_295, c_307, c_315, c_323, c_334, c_345, c_356, c_367, c_378, c_390, c_408, ↓reduceIte]; done)) dX3_isSame_416
      refine lv_iload hx hb dX3_isSame_16 (lv_at hl 5 rfl) ?_
      refine lv_if_lt (tgt := 218) hx hb dX3_isSame_18 (by decide) (fun c_18 => ?_) (fun c9 => absurd (by decide) c9)
      refine lv_iconst (v := 0) hx hb dX3_isSame_218 (by decide) ?_
      refine lv_istore (lv' := [(5, .int 0), (0, .ref (A 0)), (1, .ref (gA G 0)), (2, .int (cmL F 1 (n - 0) 0 0)), (3, .int x), (4, .int (msL F (suH h) (n - 0) 0 0))]) hx hb dX3_isSame_219 hl (by decide) rfl (fun ls hl => ?_)
      have loop221 : ∀ (n_ : Nat) (u : Nat) (H : Heap) (locs : List Loc) (ls : Array Slot) (hun : unN h u) (hun2 : u + n_ = 11), GX G (va_A (swl G A n F 1 ++ wld G F 0) s.heap.size) (wld G F 0 ++ (swl G A n F 1 ++ [])) s H locs → lv_has ls 8 [(0, .ref (A 0)), (1, .ref (gA G 0)), (2, .int (cmL F 1 (n - 0) 0 0)), (3, .int x), (4, .int (msL F (suH h) (n - 0) 0 0)), (5, .int (nI u))] → W p l e (rmC 5 107 8 32) s m args below meth c H locs (n - 0) (4 * (n - 0)) (MQ below (QXi G (fun (r : Int32) (_ : Unit) => r = 1) (fun (_ : Unit) => wld G F 0 ++ swl G A n F 1) (swl G A n F 1 ++ wld G F 0) s.heap.size) args s 8 32 (va_A (swl G A n F 1 ++ wld G F 0) s.heap.size)) (F0 m 221 ls []) := by
        intro n_
        induction n_ with
        | zero =>
          intro u H locs ls hun hun2 g hl
          exact absurd hun.2 (by omega)
        | succ n_ ih_221 =>
          intro u H locs ls hun hun2 g hl
          refine lv_aload_n hx hb dX3_isSame_221 rfl (lv_at hl 0 rfl) ?_
          refine x_geti S g (List.mem_append_right _ (List.mem_append_left _ (swl_m0 G A _ _ _))) 0 (by decide) q434 dX3_isSame_222 ?_
          rw [show (F 1 0 : Int32) = nI h from hIn.c0]
          refine lv_iload hx hb dX3_isSame_225 (lv_at hl 5 rfl) ?_
          refine lv_iadd hx hb dX3_isSame_227 ?_
          rw [show ((nI h) + (nI u) : Int32) = nI (h + u) from (nI_add h u)]
          refine lv_bipush (v := 12) hx hb dX3_isSame_228 (by decide) ?_
          refine lv_irem hx hb dX3_isSame_230 (by decide) ?_
          rw [show ((nI (h + u)) - (nI (h + u)) / 12 * 12 : Int32) = nI ((h + u) % 12) from pk_rem (d := 12) (by omega) (by omega) (by omega)]
          refine lv_iconst (v := 5) hx hb dX3_isSame_231 (by decide) ?_
          refine lv_icmp_eq (tgt := 256) hx hb dX3_isSame_232 (by decide) (fun c_232 => ?_) (fun c_232 => ?_)
          · exact join256 u _ _ _ (hu_un hun (Or.inl ((nI_eq (b := 5) (by omega) (by omega)).mp c_232))) g (lv_sub hl [0, 1, 2, 3, 4, 5] rfl)
          · refine lv_aload_n hx hb dX3_isSame_235 rfl (lv_at hl 0 rfl) ?_
            refine x_geti S g (List.mem_append_right _ (List.mem_append_left _ (swl_m0 G A _ _ _))) 0 (by decide) q434 dX3_isSame_236 ?_
            rw [show (F 1 0 : Int32) = nI h from hIn.c0]
            refine lv_iload hx hb dX3_isSame_239 (lv_at hl 5 rfl) ?_
            refine lv_iadd hx hb dX3_isSame_241 ?_
            rw [show ((nI h) + (nI u) : Int32) = nI (h + u) from (nI_add h u)]
            refine lv_bipush (v := 12) hx hb dX3_isSame_242 (by decide) ?_
            refine lv_irem hx hb dX3_isSame_244 (by decide) ?_
            rw [show ((nI (h + u)) - (nI (h + u)) / 12 * 12 : Int32) = nI ((h + u) % 12) from pk_rem (d := 12) (by omega) (by omega) (by omega)]
            refine lv_bipush (v := 6) hx hb dX3_isSame_245 (by decide) ?_
            refine lv_icmp_eq (tgt := 256) hx hb dX3_isSame_247 (by decide) (fun c_247 => ?_) (fun c_247 => ?_)
            · exact join256 u _ _ _ (hu_un hun (Or.inr ((nI_eq (b := 6) (by omega) (by omega)).mp c_247))) g (lv_sub hl [0, 1, 2, 3, 4, 5] rfl)
            · refine lv_iinc (v := nI (u + 1)) (lv' := [(5, .int (nI (u + 1))), (0, .ref (A 0)), (1, .ref (gA G 0)), (2, .int (cmL F 1 (n - 0) 0 0)), (3, .int x), (4, .int (msL F (suH h) (n - 0) 0 0))]) hx hb dX3_isSame_250 hl (k := 5) rfl (nI_1 u) (by decide) rfl (fun ls hl => ?_)
              refine lv_goto (tgt := 221) hx hb dX3_isSame_253 (by decide) ?_
              obtain ⟨hun2, hub⟩ := un_next hun (fun z => c_232 ((nI_eq (b := 5) (by omega) (by omega)).mpr z)) (fun z => c_247 ((nI_eq (b := 6) (by omega) (by omega)).mpr z))
              exact ih_221 (u + 1) _ _ _ hun2 (by omega) g (lv_sub hl [1, 2, 3, 4, 5, 0] rfl)
      exact loop221 11 0 _ _ _ ⟨fun v hv => absurd hv (Nat.not_lt_zero v), by omega⟩ (by omega) g (lv_sub hl [1, 2, 3, 4, 5, 0] rfl)
    | succ n_ ih_16 =>
      intro x H locs ls hin hlo g hl
      rw [nI_pred] at hl
      have hmm := (hIn.wk (j := n_) (by omega)).mem
      refine lv_iload hx hb dX3_isSame_16 (lv_at hl 5 rfl) ?_
      refine lv_if_lt (tgt := 218) hx hb dX3_isSame_18 (by decide) (fun c9 => absurd c9 (nI_pos (by omega))) (fun c_18 => ?_)
      refine lv_aload_n hx hb dX3_isSame_21 rfl (lv_at hl 0 rfl) ?_
      refine x_geta S g (List.mem_append_right _ (List.mem_append_left _ (swl_m0 G A _ _ _))) q444 dX3_isSame_22 ?_
      refine lv_iload hx hb dX3_isSame_25 (lv_at hl 5 rfl) ?_
      refine x_aald (v := A (2 + n_)) S g (List.mem_append_right _ (List.mem_append_left _ (swl_m1 G A _ _ _))) (by omega) n_ rfl (by omega) rfl dX3_isSame_27 ?_
      refine lv_astore (lv' := [(6, .ref (A (2 + n_))), (0, .ref (A 0)), (1, .ref (gA G 0)), (2, .int (cmL F 1 (n - (n_ + 1)) (n_ + 1) 0)), (3, .int x), (4, .int (msL F (suH h) (n - (n_ + 1)) (n_ + 1) 0)), (5, .int (nI n_))]) hx hb dX3_isSame_28 hl (by decide) rfl (fun ls hl => ?_)
      refine lv_aload_n hx hb dX3_isSame_30 rfl (lv_at hl 1 rfl) ?_
      refine lv_aload hx hb dX3_isSame_31 (lv_at hl 0 rfl) ?_
      have g := g.perm (pm2 _ _ _ )
      refine y_cq (rest := []) g (y_V (nA := 1) (As := [.ref (A (2 + n_))]) S g (d_parts l G A n F 1 h n_ (Or.inl rfl) hIn.c0 (by omega) (by omega) hn8 (hIn.wk (by omega)).c hIn.bf) (swl_m0 G _ _ _ _) (lw_V q484 q485 q486 q4 q487) ⟨rfl, by decide +kernel, by decide +kernel, by decide +kernel⟩ rfl ⟨Nat.le_of_ble_eq_true rfl, Nat.le_of_ble_eq_true rfl⟩ hl.1 (Nat.le_of_ble_eq_true rfl) rfl ⟨by show n - (n_ + 1) + 1 ≤ 8; omega, by show 4 * (n - (n_ + 1)) + 4 ≤ 32; omega⟩ dX3_isSame_33) (fun r9 u33_2 H locs hp9 g => ?_)
      have g := g.eqw (List.append_assoc _ _ _)
      subst hp9
      refine lv_astore (lv' := [(7, .ref u33_2), (6, .ref (A (2 + n_))), (0, .ref (A 0)), (1, .ref (gA G 0)), (2, .int (cmL F 1 (n - (n_ + 1)) (n_ + 1) 0)), (3, .int x), (4, .int (msL F (suH h) (n - (n_ + 1)) (n_ + 1) 0)), (5, .int (nI n_))]) hx hb dX3_isSame_36 hl (by decide) rfl (fun ls hl => ?_)
      refine lv_iload_n hx hb dX3_isSame_38 rfl (lv_at hl 4 rfl) ?_
      refine lv_aload hx hb dX3_isSame_39 (lv_at hl 1 rfl) ?_
      refine lv_iconst (v := 4) hx hb dX3_isSame_41 (by decide) ?_
      refine x_rald S g (List.mem_append_right _ (List.mem_append_left _ (swl_mr G A _ _ (i := n_) (by omega)))) 4 5 rfl (by decide) rfl dX3_isSame_42 ?_
      refine lv_iadd hx hb dX3_isSame_43 ?_
      rw [show ((cmL F 1 (n - (n_ + 1)) (n_ + 1) 0) + (F (wb 1 n_) 5) : Int32) = cmL F 1 (n - n_) n_ 0 from (cm_dn (by omega) hmm)]
      refine lv_istore_n (lv' := [(2, .int (cmL F 1 (n - n_) n_ 0)), (7, .ref u33_2), (6, .ref (A (2 + n_))), (0, .ref (A 0)), (1, .ref (gA G 0)), (3, .int x), (4, .int (msL F (suH h) (n - (n_ + 1)) (n_ + 1) 0)), (5, .int (nI n_))]) hx hb dX3_isSame_44 rfl hl (by decide) rfl (fun ls hl => ?_)
      refine lv_iload hx hb dX3_isSame_45 (lv_at hl 6 rfl) ?_
      refine lv_aload_n hx hb dX3_isSame_47 rfl (lv_at hl 3 rfl) ?_
      refine lv_aload hx hb dX3_isSame_48 (lv_at hl 2 rfl) ?_
      have g := g.perm (pm2 _ _ _ )
      refine y_ci (rest := [.int (msL F (suH h) (n - (n_ + 1)) (n_ + 1) 0)]) g (y_V (nA := 1) (As := [.ref (A (2 + n_))]) S g (d_shadow l G A n F 1 h n_ hIn.c0 (by omega) (by omega) hn8) (swl_m0 G _ _ _ _) (lw_V q488 q489 q490 q4 q491) ⟨rfl, by decide +kernel, by decide +kernel, by decide +kernel⟩ rfl ⟨Nat.le_of_ble_eq_true rfl, Nat.le_of_ble_eq_true rfl⟩ hl.1 (Nat.le_of_ble_eq_true rfl) rfl ⟨by show n - (n_ + 1) + 1 + 0 ≤ 8; omega, by show 4 * (n - (n_ + 1)) + 4 + 0 ≤ 32; omega⟩ dX3_isSame_50) (fun r9 u50_3 H locs hp9 g => ?_)
      subst hp9
      refine lv_iadd hx hb dX3_isSame_53 ?_
      rw [show ((msL F (suH h) (n - (n_ + 1)) (n_ + 1) 0) + (shI (F (wb 1 n_) 0) (suH h)) : Int32) = msL F (suH h) (n - n_) n_ 0 from (ms_dn (by omega))]
      refine lv_istore (lv' := [(4, .int (msL F (suH h) (n - n_) n_ 0)), (2, .int (cmL F 1 (n - n_) n_ 0)), (7, .ref u33_2), (6, .ref (A (2 + n_))), (0, .ref (A 0)), (1, .ref (gA G 0)), (3, .int x), (5, .int (nI n_))]) hx hb dX3_isSame_54 hl (by decide) rfl (fun ls hl => ?_)
      rcases hlo with ⟨e0, ex⟩ | ⟨j9, hj9, ex⟩
      · subst ex
        refine lv_iload_n hx hb dX3_isSame_56 rfl (lv_at hl 6 rfl) ?_
        refine lv_if_lt (tgt := 79) hx hb dX3_isSame_57 (by decide) (fun c_57 => ?_) (fun c9 => absurd (by decide) c9)
        refine lv_iload hx hb dX3_isSame_79 (lv_at hl 7 rfl) ?_
        refine lv_istore_n (lv' := [(3, .int (nI n_)), (4, .int (msL F (suH h) (n - n_) n_ 0)), (2, .int (cmL F 1 (n - n_) n_ 0)), (7, .ref u33_2), (6, .ref (A (2 + n_))), (0, .ref (A 0)), (1, .ref (gA G 0)), (5, .int (nI n_))]) hx hb dX3_isSame_81 rfl hl (by decide) rfl (fun ls hl => ?_)
        refine lv_aload_n hx hb dX3_isSame_82 rfl (lv_at hl 6 rfl) ?_
        refine lv_iload hx hb dX3_isSame_83 (lv_at hl 7 rfl) ?_
        have g := g.perm (pm3 _ _ _ _ )
        refine x_ci (rest := []) g (x_V (nA := 1) (As := [.int (nI n_)]) S g (c_isMember_ok l G F 0 n_ n hIn.c6 (by omega) hIn.n8 hmm) (lw_V q501 q269 q270 q1 q271) ⟨rfl, by decide +kernel, by decide +kernel, by decide +kernel⟩ rfl ⟨Nat.le_of_ble_eq_true rfl, Nat.le_of_ble_eq_true rfl⟩ hl.1 (Nat.le_of_ble_eq_true rfl) rfl ⟨by show n - (n_ + 1) + 1 + 0 ≤ 8; omega, by show 4 * (n - (n_ + 1)) + 4 + 0 ≤ 32; omega⟩ dX3_isSame_85) (fun H locs g => ?_)
        refine lv_aload hx hb dX3_isSame_88 (lv_at hl 4 rfl) ?_
        refine lv_iconst (v := 4) hx hb dX3_isSame_90 (by decide) ?_
        refine x_rald S g (List.mem_append_right _ (List.mem_append_left _ (swl_mr G A _ _ (i := n_) (by omega)))) 4 5 rfl (by decide) rfl dX3_isSame_91 ?_
        refine lv_iconst (v := 1) hx hb dX3_isSame_92 (by decide) ?_
        refine lv_icmp_ne (tgt := 100) hx hb dX3_isSame_93 (by decide) (fun c_93 => ?_) (fun c_93 => ?_)
        · refine lv_iconst (v := 0) hx hb dX3_isSame_100 (by decide) ?_
          refine lv_icmp_ne (tgt := 210) hx hb dX3_isSame_101 (by decide) (fun c9 => absurd (hmm.resolve_right c_93) c9) (fun c_101 => ?_)
          refine lv_aload_n hx hb dX3_isSame_104 rfl (lv_at hl 6 rfl) ?_
          refine lv_iload hx hb dX3_isSame_105 (lv_at hl 7 rfl) ?_
          refine x_ci (rest := []) g (x_V (nA := 1) (As := [.int (nI n_)]) S g (c_netOf_ok l G F 0 n_ n hIn.c6 (by omega) hIn.n8) (lw_V q502 q290 q291 q1 q292) ⟨rfl, by decide +kernel, by decide +kernel, by decide +kernel⟩ rfl ⟨Nat.le_of_ble_eq_true rfl, Nat.le_of_ble_eq_true rfl⟩ hl.1 (Nat.le_of_ble_eq_true rfl) rfl ⟨by show n - (n_ + 1) + 1 + 0 ≤ 8; omega, by show 4 * (n - (n_ + 1)) + 4 + 0 ≤ 32; omega⟩ dX3_isSame_107) (fun H locs g => ?_)
          refine lv_aload hx hb dX3_isSame_110 (lv_at hl 4 rfl) ?_
          refine lv_iconst (v := 2) hx hb dX3_isSame_112 (by decide) ?_
          refine x_rald S g (List.mem_append_right _ (List.mem_append_left _ (swl_mr G A _ _ (i := n_) (by omega)))) 2 2 rfl (by decide) rfl dX3_isSame_113 ?_
          refine lv_icmp_ne (tgt := 210) hx hb dX3_isSame_114 (by decide) (fun c9 => absurd rfl c9) (fun c_114 => ?_)
          refine lv_aload_n hx hb dX3_isSame_117 rfl (lv_at hl 6 rfl) ?_
          refine lv_iload hx hb dX3_isSame_118 (lv_at hl 7 rfl) ?_
          refine x_ci (rest := []) g (x_V (nA := 1) (As := [.int (nI n_)]) S g (c_wobbleOf_ok l G F 0 n_ n hIn.c6 (by omega) hIn.n8) (lw_V q503 q294 q295 q1 q296) ⟨rfl, by decide +kernel, by decide +kernel, by decide +kernel⟩ rfl ⟨Nat.le_of_ble_eq_true rfl, Nat.le_of_ble_eq_true rfl⟩ hl.1 (Nat.le_of_ble_eq_true rfl) rfl ⟨by show n - (n_ + 1) + 1 + 0 ≤ 8; omega, by show 4 * (n - (n_ + 1)) + 4 + 0 ≤ 32; omega⟩ dX3_isSame_120) (fun H locs g => ?_)
          refine lv_aload hx hb dX3_isSame_123 (lv_at hl 4 rfl) ?_
          refine lv_iconst (v := 3) hx hb dX3_isSame_125 (by decide) ?_
          refine x_rald S g (List.mem_append_right _ (List.mem_append_left _ (swl_mr G A _ _ (i := n_) (by omega)))) 3 3 rfl (by decide) rfl dX3_isSame_126 ?_
          refine lv_icmp_ne (tgt := 210) hx hb dX3_isSame_127 (by decide) (fun c9 => absurd rfl c9) (fun c_127 => ?_)
          refine lv_aload_n hx hb dX3_isSame_130 rfl (lv_at hl 6 rfl) ?_
          refine lv_iload hx hb dX3_isSame_131 (lv_at hl 7 rfl) ?_
          refine x_ci (rest := []) g (x_V (nA := 1) (As := [.int (nI n_)]) S g (c_fallsOf_ok l G F 0 n_ n hIn.c6 (by omega) hIn.n8) (lw_V q504 q298 q299 q1 q300) ⟨rfl, by decide +kernel, by decide +kernel, by decide +kernel⟩ rfl ⟨Nat.le_of_ble_eq_true rfl, Nat.le_of_ble_eq_true rfl⟩ hl.1 (Nat.le_of_ble_eq_true rfl) rfl ⟨by show n - (n_ + 1) + 1 + 0 ≤ 8; omega, by show 4 * (n - (n_ + 1)) + 4 + 0 ≤ 32; omega⟩ dX3_isSame_133) (fun H locs g => ?_)
          refine lv_aload hx hb dX3_isSame_136 (lv_at hl 4 rfl) ?_
          refine lv_iconst (v := 5) hx hb dX3_isSame_138 (by decide) ?_
          refine x_rald S g (List.mem_append_right _ (List.mem_append_left _ (swl_mr G A _ _ (i := n_) (by omega)))) 5 4 rfl (by decide) rfl dX3_isSame_139 ?_
          refine lv_icmp_ne (tgt := 210) hx hb dX3_isSame_140 (by decide) (fun c9 => absurd rfl c9) (fun c_140 => ?_)
          refine lv_aload_n hx hb dX3_isSame_143 rfl (lv_at hl 6 rfl) ?_
          refine lv_iload hx hb dX3_isSame_144 (lv_at hl 7 rfl) ?_
          refine x_ci (rest := []) g (x_V (nA := 1) (As := [.int (nI n_)]) S g (c_shadowOf_ok l G F 0 n_ n h hIn.c6 (by omega) hIn.n8 hIn.c0 (by omega)) (lw_V q505 q302 q303 q1 q304) ⟨rfl, by decide +kernel, by decide +kernel, by decide +kernel⟩ rfl ⟨Nat.le_of_ble_eq_true rfl, Nat.le_of_ble_eq_true rfl⟩ hl.1 (Nat.le_of_ble_eq_true rfl) rfl ⟨by show n - (n_ + 1) + 1 + 0 ≤ 8; omega, by show 4 * (n - (n_ + 1)) + 4 + 0 ≤ 32; omega⟩ dX3_isSame_146) (fun H locs g => ?_)
          refine lv_aload_n hx hb dX3_isSame_149 rfl (lv_at hl 5 rfl) ?_
          refine lv_aload hx hb dX3_isSame_150 (lv_at hl 4 rfl) ?_
          have g := g.perm (pm2 _ _ _ )
          refine y_ci (rest := [.int (shI (F (wb 1 n_) 0) (suH h))]) g (y_V (nA := 1) (As := [.ref (A (2 + n_))]) S g (d_shadow l G A n F 1 h n_ hIn.c0 (by omega) (by omega) hn8) (swl_m0 G _ _ _ _) (lw_V q488 q489 q490 q4 q491) ⟨rfl, by decide +kernel, by decide +kernel, by decide +kernel⟩ rfl ⟨Nat.le_of_ble_eq_true rfl, Nat.le_of_ble_eq_true rfl⟩ hl.1 (Nat.le_of_ble_eq_true rfl) rfl ⟨by show n - (n_ + 1) + 1 + 0 ≤ 8; omega, by show 4 * (n - (n_ + 1)) + 4 + 0 ≤ 32; omega⟩ dX3_isSame_152) (fun r9 u152_4 H locs hp9 g => ?_)
          subst hp9
          refine lv_icmp_ne (tgt := 210) hx hb dX3_isSame_155 (by decide) (fun c9 => absurd rfl c9) (fun c_155 => ?_)
          refine lv_aload_n hx hb dX3_isSame_158 rfl (lv_at hl 6 rfl) ?_
          refine lv_iload hx hb dX3_isSame_159 (lv_at hl 7 rfl) ?_
          have g := g.perm (pm2 _ _ _ )
          refine x_ci (rest := []) g (x_V (nA := 1) (As := [.int (nI n_)]) S g (c_costOf_ok l G F 0 n_ n h hIn.c6 (by omega) hIn.n8 hIn.c0 (by omega)) (lw_V q506 q312 q313 q1 q314) ⟨rfl, by decide +kernel, by decide +kernel, by decide +kernel⟩ rfl ⟨Nat.le_of_ble_eq_true rfl, Nat.le_of_ble_eq_true rfl⟩ hl.1 (Nat.le_of_ble_eq_true rfl) rfl ⟨by show n - (n_ + 1) + 1 + 0 ≤ 8; omega, by show 4 * (n - (n_ + 1)) + 4 + 0 ≤ 32; omega⟩ dX3_isSame_161) (fun H locs g => ?_)
          refine lv_aload hx hb dX3_isSame_164 (lv_at hl 3 rfl) ?_
          refine lv_iconst (v := 0) hx hb dX3_isSame_166 (by decide) ?_
          refine x_iald S g (List.mem_append_right _ (List.mem_append_right _ (List.mem_append_left _ List.mem_cons_self))) (by omega) 0 rfl (by decide) dX3_isSame_167 ?_
          rw [show ((ptI F 1 (wb 1 n_) h) 0 : Int32) = coI (F (wb 1 n_) 0) (F (wb 1 n_) 2) (suH h) from (pt_0 _ _ _ _)]
          refine lv_icmp_ne (tgt := 210) hx hb dX3_isSame_168 (by decide) (fun c9 => absurd rfl c9) (fun c_168 => ?_)
          refine lv_aload_n hx hb dX3_isSame_171 rfl (lv_at hl 6 rfl) ?_
          refine lv_iload hx hb dX3_isSame_172 (lv_at hl 7 rfl) ?_
          refine x_ci (rest := []) g (x_V (nA := 1) (As := [.int (nI n_)]) S g (c_ownPartOf_ok l G F 0 n_ n h hIn.c6 (by omega) hIn.n8 hIn.c0 (by omega)) (lw_V q507 q317 q318 q1 q319) ⟨rfl, by decide +kernel, by decide +kernel, by decide +kernel⟩ rfl ⟨Nat.le_of_ble_eq_true rfl, Nat.le_of_ble_eq_true rfl⟩ hl.1 (Nat.le_of_ble_eq_true rfl) rfl ⟨by show n - (n_ + 1) + 1 + 0 ≤ 8; omega, by show 4 * (n - (n_ + 1)) + 4 + 0 ≤ 32; omega⟩ dX3_isSame_174) (fun H locs g => ?_)
          refine lv_aload hx hb dX3_isSame_177 (lv_at hl 3 rfl) ?_
          refine lv_iconst (v := 1) hx hb dX3_isSame_179 (by decide) ?_
          refine x_iald S g (List.mem_append_right _ (List.mem_append_right _ (List.mem_append_left _ List.mem_cons_self))) (by omega) 1 rfl (by decide) dX3_isSame_180 ?_
          rw [show ((ptI F 1 (wb 1 n_) h) 1 : Int32) = owI (F (wb 1 n_) 5) (coI (F (wb 1 n_) 0) (F (wb 1 n_) 2) (suH h)) (noH h) from (pt_1 _ _ _ _)]
          refine lv_icmp_ne (tgt := 210) hx hb dX3_isSame_181 (by decide) (fun c9 => absurd rfl c9) (fun c_181 => ?_)
          refine lv_aload_n hx hb dX3_isSame_184 rfl (lv_at hl 6 rfl) ?_
          refine lv_iload hx hb dX3_isSame_185 (lv_at hl 7 rfl) ?_
          refine x_ci (rest := []) g (x_V (nA := 1) (As := [.int (nI n_)]) S g (c_poolPartOf_ok l G F 0 n_ n h hIn.c6 (by omega) hIn.n8 hIn.c0 (by omega)) (lw_V q508 q323 q324 q1 q325) ⟨rfl, by decide +kernel, by decide +kernel, by decide +kernel⟩ rfl ⟨Nat.le_of_ble_eq_true rfl, Nat.le_of_ble_eq_true rfl⟩ hl.1 (Nat.le_of_ble_eq_true rfl) rfl ⟨by show n - (n_ + 1) + 1 + 0 ≤ 8; omega, by show 4 * (n - (n_ + 1)) + 4 + 0 ≤ 32; omega⟩ dX3_isSame_187) (fun H locs g => ?_)
          refine lv_aload hx hb dX3_isSame_190 (lv_at hl 3 rfl) ?_
          refine lv_iconst (v := 2) hx hb dX3_isSame_192 (by decide) ?_
          refine x_iald S g (List.mem_append_right _ (List.mem_append_right _ (List.mem_append_left _ List.mem_cons_self))) (by omega) 2 rfl (by decide) dX3_isSame_193 ?_
          rw [show ((ptI F 1 (wb 1 n_) h) 2 : Int32) = clI F (wb 1 n_) (suH h) (noH h) - reI (clI F (wb 1 n_) (suH h) (noH h)) (F 1 3) (F 1 4) from (pt_2 _ _ _ _)]
          refine lv_icmp_ne (tgt := 210) hx hb dX3_isSame_194 (by decide) (fun c9 => absurd rfl c9) (fun c_194 => ?_)
          refine lv_aload_n hx hb dX3_isSame_197 rfl (lv_at hl 6 rfl) ?_
          refine lv_iload hx hb dX3_isSame_198 (lv_at hl 7 rfl) ?_
          refine x_ci (rest := []) g (x_V (nA := 1) (As := [.int (nI n_)]) S g (c_reinsuredPartOf_ok l G F 0 n_ n h hIn.c6 (by omega) hIn.n8 hIn.c0 (by omega)) (lw_V q509 q332 q333 q1 q334) ⟨rfl, by decide +kernel, by decide +kernel, by decide +kernel⟩ rfl ⟨Nat.le_of_ble_eq_true rfl, Nat.le_of_ble_eq_true rfl⟩ hl.1 (Nat.le_of_ble_eq_true rfl) rfl ⟨by show n - (n_ + 1) + 1 + 0 ≤ 8; omega, by show 4 * (n - (n_ + 1)) + 4 + 0 ≤ 32; omega⟩ dX3_isSame_200) (fun H locs g => ?_)
          refine lv_aload hx hb dX3_isSame_203 (lv_at hl 3 rfl) ?_
          refine lv_iconst (v := 3) hx hb dX3_isSame_205 (by decide) ?_
          refine x_iald S g (List.mem_append_right _ (List.mem_append_right _ (List.mem_append_left _ List.mem_cons_self))) (by omega) 3 rfl (by decide) dX3_isSame_206 ?_
          rw [show ((ptI F 1 (wb 1 n_) h) 3 : Int32) = reI (clI F (wb 1 n_) (suH h) (noH h)) (F 1 3) (F 1 4) from (pt_3 _ _ _ _)]
          refine lv_icmp_eq (tgt := 212) hx hb dX3_isSame_207 (by decide) (fun c_207 => ?_) (fun c9 => absurd rfl c9)
          refine lv_iinc (v := nI n_ - 1) (lv' := [(5, .int (nI n_ - 1)), (3, .int (nI n_)), (4, .int (msL F (suH h) (n - n_) n_ 0)), (2, .int (cmL F 1 (n - n_) n_ 0)), (7, .ref u33_2), (6, .ref (A (2 + n_))), (0, .ref (A 0)), (1, .ref (gA G 0))]) hx hb dX3_isSame_212 hl (k := 7) rfl (show nI n_ + (-1) = nI n_ - 1 by grind) (by decide) rfl (fun ls hl => ?_)
          refine lv_goto (tgt := 16) hx hb dX3_isSame_215 (by decide) ?_
          have g := g.sl (List.Sublist.append (List.Sublist.refl _) (List.Sublist.append (List.Sublist.refl _) (List.nil_sublist _)))
          refine W.widen (k := n - n_) (n := 4 * (n - n_)) (by omega) (by omega) ?_
          exact ih_16 (nI n_) _ _ _ (by omega) (loI_new (by omega)) g (lv_sub hl [6, 7, 3, 1, 2, 0] rfl)
        · refine lv_iconst (v := 1) hx hb dX3_isSame_96 (by decide) ?_
          refine lv_goto (tgt := 101) hx hb dX3_isSame_97 (by decide) ?_
          refine lv_icmp_ne (tgt := 210) hx hb dX3_isSame_101 (by decide) (fun c9 => absurd c_93 c9) (fun c_101 => ?_)
          refine lv_aload_n hx hb dX3_isSame_104 rfl (lv_at hl 6 rfl) ?_
          refine lv_iload hx hb dX3_isSame_105 (lv_at hl 7 rfl) ?_
          refine x_ci (rest := []) g (x_V (nA := 1) (As := [.int (nI n_)]) S g (c_netOf_ok l G F 0 n_ n hIn.c6 (by omega) hIn.n8) (lw_V q502 q290 q291 q1 q292) ⟨rfl, by decide +kernel, by decide +kernel, by decide +kernel⟩ rfl ⟨Nat.le_of_ble_eq_true rfl, Nat.le_of_ble_eq_true rfl⟩ hl.1 (Nat.le_of_ble_eq_true rfl) rfl ⟨by show n - (n_ + 1) + 1 + 0 ≤ 8; omega, by show 4 * (n - (n_ + 1)) + 4 + 0 ≤ 32; omega⟩ dX3_isSame_107) (fun H locs g => ?_)
          refine lv_aload hx hb dX3_isSame_110 (lv_at hl 4 rfl) ?_
          refine lv_iconst (v := 2) hx hb dX3_isSame_112 (by decide) ?_
          refine x_rald S g (List.mem_append_right _ (List.mem_append_left _ (swl_mr G A _ _ (i := n_) (by omega)))) 2 2 rfl (by decide) rfl dX3_isSame_113 ?_
          refine lv_icmp_ne (tgt := 210) hx hb dX3_isSame_114 (by decide) (fun c9 => absurd rfl c9) (fun c_114 => ?_)
          refine lv_aload_n hx hb dX3_isSame_117 rfl (lv_at hl 6 rfl) ?_
          refine lv_iload hx hb dX3_isSame_118 (lv_at hl 7 rfl) ?_
          refine x_ci (rest := []) g (x_V (nA := 1) (As := [.int (nI n_)]) S g (c_wobbleOf_ok l G F 0 n_ n hIn.c6 (by omega) hIn.n8) (lw_V q503 q294 q295 q1 q296) ⟨rfl, by decide +kernel, by decide +kernel, by decide +kernel⟩ rfl ⟨Nat.le_of_ble_eq_true rfl, Nat.le_of_ble_eq_true rfl⟩ hl.1 (Nat.le_of_ble_eq_true rfl) rfl ⟨by show n - (n_ + 1) + 1 + 0 ≤ 8; omega, by show 4 * (n - (n_ + 1)) + 4 + 0 ≤ 32; omega⟩ dX3_isSame_120) (fun H locs g => ?_)
          refine lv_aload hx hb dX3_isSame_123 (lv_at hl 4 rfl) ?_
          refine lv_iconst (v := 3) hx hb dX3_isSame_125 (by decide) ?_
          refine x_rald S g (List.mem_append_right _ (List.mem_append_left _ (swl_mr G A _ _ (i := n_) (by omega)))) 3 3 rfl (by decide) rfl dX3_isSame_126 ?_
          refine lv_icmp_ne (tgt := 210) hx hb dX3_isSame_127 (by decide) (fun c9 => absurd rfl c9) (fun c_127 => ?_)
          refine lv_aload_n hx hb dX3_isSame_130 rfl (lv_at hl 6 rfl) ?_
          refine lv_iload hx hb dX3_isSame_131 (lv_at hl 7 rfl) ?_
          refine x_ci (rest := []) g (x_V (nA := 1) (As := [.int (nI n_)]) S g (c_fallsOf_ok l G F 0 n_ n hIn.c6 (by omega) hIn.n8) (lw_V q504 q298 q299 q1 q300) ⟨rfl, by decide +kernel, by decide +kernel, by decide +kernel⟩ rfl ⟨Nat.le_of_ble_eq_true rfl, Nat.le_of_ble_eq_true rfl⟩ hl.1 (Nat.le_of_ble_eq_true rfl) rfl ⟨by show n - (n_ + 1) + 1 + 0 ≤ 8; omega, by show 4 * (n - (n_ + 1)) + 4 + 0 ≤ 32; omega⟩ dX3_isSame_133) (fun H locs g => ?_)
          refine lv_aload hx hb dX3_isSame_136 (lv_at hl 4 rfl) ?_
          refine lv_iconst (v := 5) hx hb dX3_isSame_138 (by decide) ?_
          refine x_rald S g (List.mem_append_right _ (List.mem_append_left _ (swl_mr G A _ _ (i := n_) (by omega)))) 5 4 rfl (by decide) rfl dX3_isSame_139 ?_
          refine lv_icmp_ne (tgt := 210) hx hb dX3_isSame_140 (by decide) (fun c9 => absurd rfl c9) (fun c_140 => ?_)
          refine lv_aload_n hx hb dX3_isSame_143 rfl (lv_at hl 6 rfl) ?_
          refine lv_iload hx hb dX3_isSame_144 (lv_at hl 7 rfl) ?_
          refine x_ci (rest := []) g (x_V (nA := 1) (As := [.int (nI n_)]) S g (c_shadowOf_ok l G F 0 n_ n h hIn.c6 (by omega) hIn.n8 hIn.c0 (by omega)) (lw_V q505 q302 q303 q1 q304) ⟨rfl, by decide +kernel, by decide +kernel, by decide +kernel⟩ rfl ⟨Nat.le_of_ble_eq_true rfl, Nat.le_of_ble_eq_true rfl⟩ hl.1 (Nat.le_of_ble_eq_true rfl) rfl ⟨by show n - (n_ + 1) + 1 + 0 ≤ 8; omega, by show 4 * (n - (n_ + 1)) + 4 + 0 ≤ 32; omega⟩ dX3_isSame_146) (fun H locs g => ?_)
          refine lv_aload_n hx hb dX3_isSame_149 rfl (lv_at hl 5 rfl) ?_
          refine lv_aload hx hb dX3_isSame_150 (lv_at hl 4 rfl) ?_
          have g := g.perm (pm2 _ _ _ )
          refine y_ci (rest := [.int (shI (F (wb 1 n_) 0) (suH h))]) g (y_V (nA := 1) (As := [.ref (A (2 + n_))]) S g (d_shadow l G A n F 1 h n_ hIn.c0 (by omega) (by omega) hn8) (swl_m0 G _ _ _ _) (lw_V q488 q489 q490 q4 q491) ⟨rfl, by decide +kernel, by decide +kernel, by decide +kernel⟩ rfl ⟨Nat.le_of_ble_eq_true rfl, Nat.le_of_ble_eq_true rfl⟩ hl.1 (Nat.le_of_ble_eq_true rfl) rfl ⟨by show n - (n_ + 1) + 1 + 0 ≤ 8; omega, by show 4 * (n - (n_ + 1)) + 4 + 0 ≤ 32; omega⟩ dX3_isSame_152) (fun r9 u152_5 H locs hp9 g => ?_)
          subst hp9
          refine lv_icmp_ne (tgt := 210) hx hb dX3_isSame_155 (by decide) (fun c9 => absurd rfl c9) (fun c_155 => ?_)
          refine lv_aload_n hx hb dX3_isSame_158 rfl (lv_at hl 6 rfl) ?_
          refine lv_iload hx hb dX3_isSame_159 (lv_at hl 7 rfl) ?_
          have g := g.perm (pm2 _ _ _ )
          refine x_ci (rest := []) g (x_V (nA := 1) (As := [.int (nI n_)]) S g (c_costOf_ok l G F 0 n_ n h hIn.c6 (by omega) hIn.n8 hIn.c0 (by omega)) (lw_V q506 q312 q313 q1 q314) ⟨rfl, by decide +kernel, by decide +kernel, by decide +kernel⟩ rfl ⟨Nat.le_of_ble_eq_true rfl, Nat.le_of_ble_eq_true rfl⟩ hl.1 (Nat.le_of_ble_eq_true rfl) rfl ⟨by show n - (n_ + 1) + 1 + 0 ≤ 8; omega, by show 4 * (n - (n_ + 1)) + 4 + 0 ≤ 32; omega⟩ dX3_isSame_161) (fun H locs g => ?_)
          refine lv_aload hx hb dX3_isSame_164 (lv_at hl 3 rfl) ?_
          refine lv_iconst (v := 0) hx hb dX3_isSame_166 (by decide) ?_
          refine x_iald S g (List.mem_append_right _ (List.mem_append_right _ (List.mem_append_left _ List.mem_cons_self))) (by omega) 0 rfl (by decide) dX3_isSame_167 ?_
          rw [show ((ptI F 1 (wb 1 n_) h) 0 : Int32) = coI (F (wb 1 n_) 0) (F (wb 1 n_) 2) (suH h) from (pt_0 _ _ _ _)]
          refine lv_icmp_ne (tgt := 210) hx hb dX3_isSame_168 (by decide) (fun c9 => absurd rfl c9) (fun c_168 => ?_)
          refine lv_aload_n hx hb dX3_isSame_171 rfl (lv_at hl 6 rfl) ?_
          refine lv_iload hx hb dX3_isSame_172 (lv_at hl 7 rfl) ?_
          refine x_ci (rest := []) g (x_V (nA := 1) (As := [.int (nI n_)]) S g (c_ownPartOf_ok l G F 0 n_ n h hIn.c6 (by omega) hIn.n8 hIn.c0 (by omega)) (lw_V q507 q317 q318 q1 q319) ⟨rfl, by decide +kernel, by decide +kernel, by decide +kernel⟩ rfl ⟨Nat.le_of_ble_eq_true rfl, Nat.le_of_ble_eq_true rfl⟩ hl.1 (Nat.le_of_ble_eq_true rfl) rfl ⟨by show n - (n_ + 1) + 1 + 0 ≤ 8; omega, by show 4 * (n - (n_ + 1)) + 4 + 0 ≤ 32; omega⟩ dX3_isSame_174) (fun H locs g => ?_)
          refine lv_aload hx hb dX3_isSame_177 (lv_at hl 3 rfl) ?_
          refine lv_iconst (v := 1) hx hb dX3_isSame_179 (by decide) ?_
          refine x_iald S g (List.mem_append_right _ (List.mem_append_right _ (List.mem_append_left _ List.mem_cons_self))) (by omega) 1 rfl (by decide) dX3_isSame_180 ?_
          rw [show ((ptI F 1 (wb 1 n_) h) 1 : Int32) = owI (F (wb 1 n_) 5) (coI (F (wb 1 n_) 0) (F (wb 1 n_) 2) (suH h)) (noH h) from (pt_1 _ _ _ _)]
          refine lv_icmp_ne (tgt := 210) hx hb dX3_isSame_181 (by decide) (fun c9 => absurd rfl c9) (fun c_181 => ?_)
          refine lv_aload_n hx hb dX3_isSame_184 rfl (lv_at hl 6 rfl) ?_
          refine lv_iload hx hb dX3_isSame_185 (lv_at hl 7 rfl) ?_
          refine x_ci (rest := []) g (x_V (nA := 1) (As := [.int (nI n_)]) S g (c_poolPartOf_ok l G F 0 n_ n h hIn.c6 (by omega) hIn.n8 hIn.c0 (by omega)) (lw_V q508 q323 q324 q1 q325) ⟨rfl, by decide +kernel, by decide +kernel, by decide +kernel⟩ rfl ⟨Nat.le_of_ble_eq_true rfl, Nat.le_of_ble_eq_true rfl⟩ hl.1 (Nat.le_of_ble_eq_true rfl) rfl ⟨by show n - (n_ + 1) + 1 + 0 ≤ 8; omega, by show 4 * (n - (n_ + 1)) + 4 + 0 ≤ 32; omega⟩ dX3_isSame_187) (fun H locs g => ?_)
          refine lv_aload hx hb dX3_isSame_190 (lv_at hl 3 rfl) ?_
          refine lv_iconst (v := 2) hx hb dX3_isSame_192 (by decide) ?_
          refine x_iald S g (List.mem_append_right _ (List.mem_append_right _ (List.mem_append_left _ List.mem_cons_self))) (by omega) 2 rfl (by decide) dX3_isSame_193 ?_
          rw [show ((ptI F 1 (wb 1 n_) h) 2 : Int32) = clI F (wb 1 n_) (suH h) (noH h) - reI (clI F (wb 1 n_) (suH h) (noH h)) (F 1 3) (F 1 4) from (pt_2 _ _ _ _)]
          refine lv_icmp_ne (tgt := 210) hx hb dX3_isSame_194 (by decide) (fun c9 => absurd rfl c9) (fun c_194 => ?_)
          refine lv_aload_n hx hb dX3_isSame_197 rfl (lv_at hl 6 rfl) ?_
          refine lv_iload hx hb dX3_isSame_198 (lv_at hl 7 rfl) ?_
          refine x_ci (rest := []) g (x_V (nA := 1) (As := [.int (nI n_)]) S g (c_reinsuredPartOf_ok l G F 0 n_ n h hIn.c6 (by omega) hIn.n8 hIn.c0 (by omega)) (lw_V q509 q332 q333 q1 q334) ⟨rfl, by decide +kernel, by decide +kernel, by decide +kernel⟩ rfl ⟨Nat.le_of_ble_eq_true rfl, Nat.le_of_ble_eq_true rfl⟩ hl.1 (Nat.le_of_ble_eq_true rfl) rfl ⟨by show n - (n_ + 1) + 1 + 0 ≤ 8; omega, by show 4 * (n - (n_ + 1)) + 4 + 0 ≤ 32; omega⟩ dX3_isSame_200) (fun H locs g => ?_)
          refine lv_aload hx hb dX3_isSame_203 (lv_at hl 3 rfl) ?_
          refine lv_iconst (v := 3) hx hb dX3_isSame_205 (by decide) ?_
          refine x_iald S g (List.mem_append_right _ (List.mem_append_right _ (List.mem_append_left _ List.mem_cons_self))) (by omega) 3 rfl (by decide) dX3_isSame_206 ?_
          rw [show ((ptI F 1 (wb 1 n_) h) 3 : Int32) = reI (clI F (wb 1 n_) (suH h) (noH h)) (F 1 3) (F 1 4) from (pt_3 _ _ _ _)]
          refine lv_icmp_eq (tgt := 212) hx hb dX3_isSame_207 (by decide) (fun c_207 => ?_) (fun c9 => absurd rfl c9)
          refine lv_iinc (v := nI n_ - 1) (lv' := [(5, .int (nI n_ - 1)), (3, .int (nI n_)), (4, .int (msL F (suH h) (n - n_) n_ 0)), (2, .int (cmL F 1 (n - n_) n_ 0)), (7, .ref u33_2), (6, .ref (A (2 + n_))), (0, .ref (A 0)), (1, .ref (gA G 0))]) hx hb dX3_isSame_212 hl (k := 7) rfl (show nI n_ + (-1) = nI n_ - 1 by grind) (by decide) rfl (fun ls hl => ?_)
          refine lv_goto (tgt := 16) hx hb dX3_isSame_215 (by decide) ?_
          have g := g.sl (List.Sublist.append (List.Sublist.refl _) (List.Sublist.append (List.Sublist.refl _) (List.nil_sublist _)))
          refine W.widen (k := n - n_) (n := 4 * (n - n_)) (by omega) (by omega) ?_
          exact ih_16 (nI n_) _ _ _ (by omega) (loI_new (by omega)) g (lv_sub hl [6, 7, 3, 1, 2, 0] rfl)
      · subst ex
        have hj2 := hj9.2.1
        refine lv_iload_n hx hb dX3_isSame_56 rfl (lv_at hl 6 rfl) ?_
        refine lv_if_lt (tgt := 79) hx hb dX3_isSame_57 (by decide) (fun c9 => absurd c9 (nI_pos (by omega))) (fun c_57 => ?_)
        refine lv_aload_n hx hb dX3_isSame_60 rfl (lv_at hl 4 rfl) ?_
        refine lv_aload hx hb dX3_isSame_61 (lv_at hl 3 rfl) ?_
        refine y_ci (rest := []) g (y_V (nA := 1) (As := [.ref (A (2 + n_))]) S g (d_shadow l G A n F 1 h n_ hIn.c0 (by omega) (by omega) hn8) (swl_m0 G _ _ _ _) (lw_V q488 q489 q490 q4 q491) ⟨rfl, by decide +kernel, by decide +kernel, by decide +kernel⟩ rfl ⟨Nat.le_of_ble_eq_true rfl, Nat.le_of_ble_eq_true rfl⟩ hl.1 (Nat.le_of_ble_eq_true rfl) rfl ⟨by show n - (n_ + 1) + 1 + 0 ≤ 8; omega, by show 4 * (n - (n_ + 1)) + 4 + 0 ≤ 32; omega⟩ dX3_isSame_63) (fun r9 u63_6 H locs hp9 g => ?_)
        subst hp9
        refine lv_aload_n hx hb dX3_isSame_66 rfl (lv_at hl 4 rfl) ?_
        refine lv_aload_n hx hb dX3_isSame_67 rfl (lv_at hl 4 rfl) ?_
        refine x_geta S g (List.mem_append_left _ (swl_m0 G A _ _ _)) q444 dX3_isSame_68 ?_
        refine lv_iload_n hx hb dX3_isSame_71 rfl (lv_at hl 6 rfl) ?_
        refine x_aald (v := A (2 + j9)) S g (List.mem_append_left _ (swl_m1 G A _ _ _)) (by omega) j9 rfl (by omega) rfl dX3_isSame_72 ?_
        refine y_ci (rest := [.int (shI (F (wb 1 n_) 0) (suH h))]) g (y_V (nA := 1) (As := [.ref (A (2 + j9))]) S g (d_shadow l G A n F 1 h j9 hIn.c0 (by omega) (by omega) hn8) (swl_m0 G _ _ _ _) (lw_V q488 q489 q490 q4 q491) ⟨rfl, by decide +kernel, by decide +kernel, by decide +kernel⟩ rfl ⟨Nat.le_of_ble_eq_true rfl, Nat.le_of_ble_eq_true rfl⟩ hl.1 (Nat.le_of_ble_eq_true rfl) rfl ⟨by show n - (n_ + 1) + 1 + 0 ≤ 8; omega, by show 4 * (n - (n_ + 1)) + 4 + 0 ≤ 32; omega⟩ dX3_isSame_73) (fun r9 u73_7 H locs hp9 g => ?_)
        subst hp9
        refine lv_icmp_lt (tgt := 82) hx hb dX3_isSame_76 (by decide) (fun c_76 => ?_) (fun c_76 => ?_)
        · refine lv_aload_n hx hb dX3_isSame_82 rfl (lv_at hl 5 rfl) ?_
          refine lv_iload hx hb dX3_isSame_83 (lv_at hl 7 rfl) ?_
          have g := g.perm (pm3 _ _ _ _ )
          refine x_ci (rest := []) g (x_V (nA := 1) (As := [.int (nI n_)]) S g (c_isMember_ok l G F 0 n_ n hIn.c6 (by omega) hIn.n8 hmm) (lw_V q501 q269 q270 q1 q271) ⟨rfl, by decide +kernel, by decide +kernel, by decide +kernel⟩ rfl ⟨Nat.le_of_ble_eq_true rfl, Nat.le_of_ble_eq_true rfl⟩ hl.1 (Nat.le_of_ble_eq_true rfl) rfl ⟨by show n - (n_ + 1) + 1 + 0 ≤ 8; omega, by show 4 * (n - (n_ + 1)) + 4 + 0 ≤ 32; omega⟩ dX3_isSame_85) (fun H locs g => ?_)
          refine lv_aload hx hb dX3_isSame_88 (lv_at hl 3 rfl) ?_
          refine lv_iconst (v := 4) hx hb dX3_isSame_90 (by decide) ?_
          refine x_rald S g (List.mem_append_right _ (List.mem_append_left _ (swl_mr G A _ _ (i := n_) (by omega)))) 4 5 rfl (by decide) rfl dX3_isSame_91 ?_
          refine lv_iconst (v := 1) hx hb dX3_isSame_92 (by decide) ?_
          refine lv_icmp_ne (tgt := 100) hx hb dX3_isSame_93 (by decide) (fun c_93 => ?_) (fun c_93 => ?_)
          · refine lv_iconst (v := 0) hx hb dX3_isSame_100 (by decide) ?_
            refine lv_icmp_ne (tgt := 210) hx hb dX3_isSame_101 (by decide) (fun c9 => absurd (hmm.resolve_right c_93) c9) (fun c_101 => ?_)
            refine lv_aload_n hx hb dX3_isSame_104 rfl (lv_at hl 5 rfl) ?_
            refine lv_iload hx hb dX3_isSame_105 (lv_at hl 7 rfl) ?_
            refine x_ci (rest := []) g (x_V (nA := 1) (As := [.int (nI n_)]) S g (c_netOf_ok l G F 0 n_ n hIn.c6 (by omega) hIn.n8) (lw_V q502 q290 q291 q1 q292) ⟨rfl, by decide +kernel, by decide +kernel, by decide +kernel⟩ rfl ⟨Nat.le_of_ble_eq_true rfl, Nat.le_of_ble_eq_true rfl⟩ hl.1 (Nat.le_of_ble_eq_true rfl) rfl ⟨by show n - (n_ + 1) + 1 + 0 ≤ 8; omega, by show 4 * (n - (n_ + 1)) + 4 + 0 ≤ 32; omega⟩ dX3_isSame_107) (fun H locs g => ?_)
            refine lv_aload hx hb dX3_isSame_110 (lv_at hl 3 rfl) ?_
            refine lv_iconst (v := 2) hx hb dX3_isSame_112 (by decide) ?_
            refine x_rald S g (List.mem_append_right _ (List.mem_append_left _ (swl_mr G A _ _ (i := n_) (by omega)))) 2 2 rfl (by decide) rfl dX3_isSame_113 ?_
            refine lv_icmp_ne (tgt := 210) hx hb dX3_isSame_114 (by decide) (fun c9 => absurd rfl c9) (fun c_114 => ?_)
            refine lv_aload_n hx hb dX3_isSame_117 rfl (lv_at hl 5 rfl) ?_
            refine lv_iload hx hb dX3_isSame_118 (lv_at hl 7 rfl) ?_
            refine x_ci (rest := []) g (x_V (nA := 1) (As := [.int (nI n_)]) S g (c_wobbleOf_ok l G F 0 n_ n hIn.c6 (by omega) hIn.n8) (lw_V q503 q294 q295 q1 q296) ⟨rfl, by decide +kernel, by decide +kernel, by decide +kernel⟩ rfl ⟨Nat.le_of_ble_eq_true rfl, Nat.le_of_ble_eq_true rfl⟩ hl.1 (Nat.le_of_ble_eq_true rfl) rfl ⟨by show n - (n_ + 1) + 1 + 0 ≤ 8; omega, by show 4 * (n - (n_ + 1)) + 4 + 0 ≤ 32; omega⟩ dX3_isSame_120) (fun H locs g => ?_)
            refine lv_aload hx hb dX3_isSame_123 (lv_at hl 3 rfl) ?_
            refine lv_iconst (v := 3) hx hb dX3_isSame_125 (by decide) ?_
            refine x_rald S g (List.mem_append_right _ (List.mem_append_left _ (swl_mr G A _ _ (i := n_) (by omega)))) 3 3 rfl (by decide) rfl dX3_isSame_126 ?_
            refine lv_icmp_ne (tgt := 210) hx hb dX3_isSame_127 (by decide) (fun c9 => absurd rfl c9) (fun c_127 => ?_)
            refine lv_aload_n hx hb dX3_isSame_130 rfl (lv_at hl 5 rfl) ?_
            refine lv_iload hx hb dX3_isSame_131 (lv_at hl 7 rfl) ?_
            refine x_ci (rest := []) g (x_V (nA := 1) (As := [.int (nI n_)]) S g (c_fallsOf_ok l G F 0 n_ n hIn.c6 (by omega) hIn.n8) (lw_V q504 q298 q299 q1 q300) ⟨rfl, by decide +kernel, by decide +kernel, by decide +kernel⟩ rfl ⟨Nat.le_of_ble_eq_true rfl, Nat.le_of_ble_eq_true rfl⟩ hl.1 (Nat.le_of_ble_eq_true rfl) rfl ⟨by show n - (n_ + 1) + 1 + 0 ≤ 8; omega, by show 4 * (n - (n_ + 1)) + 4 + 0 ≤ 32; omega⟩ dX3_isSame_133) (fun H locs g => ?_)
            refine lv_aload hx hb dX3_isSame_136 (lv_at hl 3 rfl) ?_
            refine lv_iconst (v := 5) hx hb dX3_isSame_138 (by decide) ?_
            refine x_rald S g (List.mem_append_right _ (List.mem_append_left _ (swl_mr G A _ _ (i := n_) (by omega)))) 5 4 rfl (by decide) rfl dX3_isSame_139 ?_
            refine lv_icmp_ne (tgt := 210) hx hb dX3_isSame_140 (by decide) (fun c9 => absurd rfl c9) (fun c_140 => ?_)
            refine lv_aload_n hx hb dX3_isSame_143 rfl (lv_at hl 5 rfl) ?_
            refine lv_iload hx hb dX3_isSame_144 (lv_at hl 7 rfl) ?_
            refine x_ci (rest := []) g (x_V (nA := 1) (As := [.int (nI n_)]) S g (c_shadowOf_ok l G F 0 n_ n h hIn.c6 (by omega) hIn.n8 hIn.c0 (by omega)) (lw_V q505 q302 q303 q1 q304) ⟨rfl, by decide +kernel, by decide +kernel, by decide +kernel⟩ rfl ⟨Nat.le_of_ble_eq_true rfl, Nat.le_of_ble_eq_true rfl⟩ hl.1 (Nat.le_of_ble_eq_true rfl) rfl ⟨by show n - (n_ + 1) + 1 + 0 ≤ 8; omega, by show 4 * (n - (n_ + 1)) + 4 + 0 ≤ 32; omega⟩ dX3_isSame_146) (fun H locs g => ?_)
            refine lv_aload_n hx hb dX3_isSame_149 rfl (lv_at hl 4 rfl) ?_
            refine lv_aload hx hb dX3_isSame_150 (lv_at hl 3 rfl) ?_
            have g := g.perm (pm2 _ _ _ )
            refine y_ci (rest := [.int (shI (F (wb 1 n_) 0) (suH h))]) g (y_V (nA := 1) (As := [.ref (A (2 + n_))]) S g (d_shadow l G A n F 1 h n_ hIn.c0 (by omega) (by omega) hn8) (swl_m0 G _ _ _ _) (lw_V q488 q489 q490 q4 q491) ⟨rfl, by decide +kernel, by decide +kernel, by decide +kernel⟩ rfl ⟨Nat.le_of_ble_eq_true rfl, Nat.le_of_ble_eq_true rfl⟩ hl.1 (Nat.le_of_ble_eq_true rfl) rfl ⟨by show n - (n_ + 1) + 1 + 0 ≤ 8; omega, by show 4 * (n - (n_ + 1)) + 4 + 0 ≤ 32; omega⟩ dX3_isSame_152) (fun r9 u152_8 H locs hp9 g => ?_)
            subst hp9
            refine lv_icmp_ne (tgt := 210) hx hb dX3_isSame_155 (by decide) (fun c9 => absurd rfl c9) (fun c_155 => ?_)
            refine lv_aload_n hx hb dX3_isSame_158 rfl (lv_at hl 5 rfl) ?_
            refine lv_iload hx hb dX3_isSame_159 (lv_at hl 7 rfl) ?_
            have g := g.perm (pm2 _ _ _ )
            refine x_ci (rest := []) g (x_V (nA := 1) (As := [.int (nI n_)]) S g (c_costOf_ok l G F 0 n_ n h hIn.c6 (by omega) hIn.n8 hIn.c0 (by omega)) (lw_V q506 q312 q313 q1 q314) ⟨rfl, by decide +kernel, by decide +kernel, by decide +kernel⟩ rfl ⟨Nat.le_of_ble_eq_true rfl, Nat.le_of_ble_eq_true rfl⟩ hl.1 (Nat.le_of_ble_eq_true rfl) rfl ⟨by show n - (n_ + 1) + 1 + 0 ≤ 8; omega, by show 4 * (n - (n_ + 1)) + 4 + 0 ≤ 32; omega⟩ dX3_isSame_161) (fun H locs g => ?_)
            refine lv_aload hx hb dX3_isSame_164 (lv_at hl 2 rfl) ?_
            refine lv_iconst (v := 0) hx hb dX3_isSame_166 (by decide) ?_
            refine x_iald S g (List.mem_append_right _ (List.mem_append_right _ (List.mem_append_left _ List.mem_cons_self))) (by omega) 0 rfl (by decide) dX3_isSame_167 ?_
            rw [show ((ptI F 1 (wb 1 n_) h) 0 : Int32) = coI (F (wb 1 n_) 0) (F (wb 1 n_) 2) (suH h) from (pt_0 _ _ _ _)]
            refine lv_icmp_ne (tgt := 210) hx hb dX3_isSame_168 (by decide) (fun c9 => absurd rfl c9) (fun c_168 => ?_)
            refine lv_aload_n hx hb dX3_isSame_171 rfl (lv_at hl 5 rfl) ?_
            refine lv_iload hx hb dX3_isSame_172 (lv_at hl 7 rfl) ?_
            refine x_ci (rest := []) g (x_V (nA := 1) (As := [.int (nI n_)]) S g (c_ownPartOf_ok l G F 0 n_ n h hIn.c6 (by omega) hIn.n8 hIn.c0 (by omega)) (lw_V q507 q317 q318 q1 q319) ⟨rfl, by decide +kernel, by decide +kernel, by decide +kernel⟩ rfl ⟨Nat.le_of_ble_eq_true rfl, Nat.le_of_ble_eq_true rfl⟩ hl.1 (Nat.le_of_ble_eq_true rfl) rfl ⟨by show n - (n_ + 1) + 1 + 0 ≤ 8; omega, by show 4 * (n - (n_ + 1)) + 4 + 0 ≤ 32; omega⟩ dX3_isSame_174) (fun H locs g => ?_)
            refine lv_aload hx hb dX3_isSame_177 (lv_at hl 2 rfl) ?_
            refine lv_iconst (v := 1) hx hb dX3_isSame_179 (by decide) ?_
            refine x_iald S g (List.mem_append_right _ (List.mem_append_right _ (List.mem_append_left _ List.mem_cons_self))) (by omega) 1 rfl (by decide) dX3_isSame_180 ?_
            rw [show ((ptI F 1 (wb 1 n_) h) 1 : Int32) = owI (F (wb 1 n_) 5) (coI (F (wb 1 n_) 0) (F (wb 1 n_) 2) (suH h)) (noH h) from (pt_1 _ _ _ _)]
            refine lv_icmp_ne (tgt := 210) hx hb dX3_isSame_181 (by decide) (fun c9 => absurd rfl c9) (fun c_181 => ?_)
            refine lv_aload_n hx hb dX3_isSame_184 rfl (lv_at hl 5 rfl) ?_
            refine lv_iload hx hb dX3_isSame_185 (lv_at hl 7 rfl) ?_
            refine x_ci (rest := []) g (x_V (nA := 1) (As := [.int (nI n_)]) S g (c_poolPartOf_ok l G F 0 n_ n h hIn.c6 (by omega) hIn.n8 hIn.c0 (by omega)) (lw_V q508 q323 q324 q1 q325) ⟨rfl, by decide +kernel, by decide +kernel, by decide +kernel⟩ rfl ⟨Nat.le_of_ble_eq_true rfl, Nat.le_of_ble_eq_true rfl⟩ hl.1 (Nat.le_of_ble_eq_true rfl) rfl ⟨by show n - (n_ + 1) + 1 + 0 ≤ 8; omega, by show 4 * (n - (n_ + 1)) + 4 + 0 ≤ 32; omega⟩ dX3_isSame_187) (fun H locs g => ?_)
            refine lv_aload hx hb dX3_isSame_190 (lv_at hl 2 rfl) ?_
            refine lv_iconst (v := 2) hx hb dX3_isSame_192 (by decide) ?_
            refine x_iald S g (List.mem_append_right _ (List.mem_append_right _ (List.mem_append_left _ List.mem_cons_self))) (by omega) 2 rfl (by decide) dX3_isSame_193 ?_
            rw [show ((ptI F 1 (wb 1 n_) h) 2 : Int32) = clI F (wb 1 n_) (suH h) (noH h) - reI (clI F (wb 1 n_) (suH h) (noH h)) (F 1 3) (F 1 4) from (pt_2 _ _ _ _)]
            refine lv_icmp_ne (tgt := 210) hx hb dX3_isSame_194 (by decide) (fun c9 => absurd rfl c9) (fun c_194 => ?_)
            refine lv_aload_n hx hb dX3_isSame_197 rfl (lv_at hl 5 rfl) ?_
            refine lv_iload hx hb dX3_isSame_198 (lv_at hl 7 rfl) ?_
            refine x_ci (rest := []) g (x_V (nA := 1) (As := [.int (nI n_)]) S g (c_reinsuredPartOf_ok l G F 0 n_ n h hIn.c6 (by omega) hIn.n8 hIn.c0 (by omega)) (lw_V q509 q332 q333 q1 q334) ⟨rfl, by decide +kernel, by decide +kernel, by decide +kernel⟩ rfl ⟨Nat.le_of_ble_eq_true rfl, Nat.le_of_ble_eq_true rfl⟩ hl.1 (Nat.le_of_ble_eq_true rfl) rfl ⟨by show n - (n_ + 1) + 1 + 0 ≤ 8; omega, by show 4 * (n - (n_ + 1)) + 4 + 0 ≤ 32; omega⟩ dX3_isSame_200) (fun H locs g => ?_)
            refine lv_aload hx hb dX3_isSame_203 (lv_at hl 2 rfl) ?_
            refine lv_iconst (v := 3) hx hb dX3_isSame_205 (by decide) ?_
            refine x_iald S g (List.mem_append_right _ (List.mem_append_right _ (List.mem_append_left _ List.mem_cons_self))) (by omega) 3 rfl (by decide) dX3_isSame_206 ?_
            rw [show ((ptI F 1 (wb 1 n_) h) 3 : Int32) = reI (clI F (wb 1 n_) (suH h) (noH h)) (F 1 3) (F 1 4) from (pt_3 _ _ _ _)]
            refine lv_icmp_eq (tgt := 212) hx hb dX3_isSame_207 (by decide) (fun c_207 => ?_) (fun c9 => absurd rfl c9)
            refine lv_iinc (v := nI n_ - 1) (lv' := [(5, .int (nI n_ - 1)), (4, .int (msL F (suH h) (n - n_) n_ 0)), (2, .int (cmL F 1 (n - n_) n_ 0)), (7, .ref u33_2), (6, .ref (A (2 + n_))), (0, .ref (A 0)), (1, .ref (gA G 0)), (3, .int (nI j9))]) hx hb dX3_isSame_212 hl (k := 7) rfl (show nI n_ + (-1) = nI n_ - 1 by grind) (by decide) rfl (fun ls hl => ?_)
            refine lv_goto (tgt := 16) hx hb dX3_isSame_215 (by decide) ?_
            have g := g.sl (List.Sublist.append (List.Sublist.refl _) (List.Sublist.append (List.Sublist.refl _) (List.nil_sublist _)))
            refine W.widen (k := n - n_) (n := 4 * (n - n_)) (by omega) (by omega) ?_
            exact ih_16 (nI j9) _ _ _ (by omega) (loI_n (by omega) hj9 (Int32.not_le.mpr c_76)) g (lv_sub hl [5, 6, 2, 7, 1, 0] rfl)
          · refine lv_iconst (v := 1) hx hb dX3_isSame_96 (by decide) ?_
            refine lv_goto (tgt := 101) hx hb dX3_isSame_97 (by decide) ?_
            refine lv_icmp_ne (tgt := 210) hx hb dX3_isSame_101 (by decide) (fun c9 => absurd c_93 c9) (fun c_101 => ?_)
            refine lv_aload_n hx hb dX3_isSame_104 rfl (lv_at hl 5 rfl) ?_
            refine lv_iload hx hb dX3_isSame_105 (lv_at hl 7 rfl) ?_
            refine x_ci (rest := []) g (x_V (nA := 1) (As := [.int (nI n_)]) S g (c_netOf_ok l G F 0 n_ n hIn.c6 (by omega) hIn.n8) (lw_V q502 q290 q291 q1 q292) ⟨rfl, by decide +kernel, by decide +kernel, by decide +kernel⟩ rfl ⟨Nat.le_of_ble_eq_true rfl, Nat.le_of_ble_eq_true rfl⟩ hl.1 (Nat.le_of_ble_eq_true rfl) rfl ⟨by show n - (n_ + 1) + 1 + 0 ≤ 8; omega, by show 4 * (n - (n_ + 1)) + 4 + 0 ≤ 32; omega⟩ dX3_isSame_107) (fun H locs g => ?_)
            refine lv_aload hx hb dX3_isSame_110 (lv_at hl 3 rfl) ?_
            refine lv_iconst (v := 2) hx hb dX3_isSame_112 (by decide) ?_
            refine x_rald S g (List.mem_append_right _ (List.mem_append_left _ (swl_mr G A _ _ (i := n_) (by omega)))) 2 2 rfl (by decide) rfl dX3_isSame_113 ?_
            refine lv_icmp_ne (tgt := 210) hx hb dX3_isSame_114 (by decide) (fun c9 => absurd rfl c9) (fun c_114 => ?_)
            refine lv_aload_n hx hb dX3_isSame_117 rfl (lv_at hl 5 rfl) ?_
            refine lv_iload hx hb dX3_isSame_118 (lv_at hl 7 rfl) ?_
            refine x_ci (rest := []) g (x_V (nA := 1) (As := [.int (nI n_)]) S g (c_wobbleOf_ok l G F 0 n_ n hIn.c6 (by omega) hIn.n8) (lw_V q503 q294 q295 q1 q296) ⟨rfl, by decide +kernel, by decide +kernel, by decide +kernel⟩ rfl ⟨Nat.le_of_ble_eq_true rfl, Nat.le_of_ble_eq_true rfl⟩ hl.1 (Nat.le_of_ble_eq_true rfl) rfl ⟨by show n - (n_ + 1) + 1 + 0 ≤ 8; omega, by show 4 * (n - (n_ + 1)) + 4 + 0 ≤ 32; omega⟩ dX3_isSame_120) (fun H locs g => ?_)
            refine lv_aload hx hb dX3_isSame_123 (lv_at hl 3 rfl) ?_
            refine lv_iconst (v := 3) hx hb dX3_isSame_125 (by decide) ?_
            refine x_rald S g (List.mem_append_right _ (List.mem_append_left _ (swl_mr G A _ _ (i := n_) (by omega)))) 3 3 rfl (by decide) rfl dX3_isSame_126 ?_
            refine lv_icmp_ne (tgt := 210) hx hb dX3_isSame_127 (by decide) (fun c9 => absurd rfl c9) (fun c_127 => ?_)
            refine lv_aload_n hx hb dX3_isSame_130 rfl (lv_at hl 5 rfl) ?_
            refine lv_iload hx hb dX3_isSame_131 (lv_at hl 7 rfl) ?_
            refine x_ci (rest := []) g (x_V (nA := 1) (As := [.int (nI n_)]) S g (c_fallsOf_ok l G F 0 n_ n hIn.c6 (by omega) hIn.n8) (lw_V q504 q298 q299 q1 q300) ⟨rfl, by decide +kernel, by decide +kernel, by decide +kernel⟩ rfl ⟨Nat.le_of_ble_eq_true rfl, Nat.le_of_ble_eq_true rfl⟩ hl.1 (Nat.le_of_ble_eq_true rfl) rfl ⟨by show n - (n_ + 1) + 1 + 0 ≤ 8; omega, by show 4 * (n - (n_ + 1)) + 4 + 0 ≤ 32; omega⟩ dX3_isSame_133) (fun H locs g => ?_)
            refine lv_aload hx hb dX3_isSame_136 (lv_at hl 3 rfl) ?_
            refine lv_iconst (v := 5) hx hb dX3_isSame_138 (by decide) ?_
            refine x_rald S g (List.mem_append_right _ (List.mem_append_left _ (swl_mr G A _ _ (i := n_) (by omega)))) 5 4 rfl (by decide) rfl dX3_isSame_139 ?_
            refine lv_icmp_ne (tgt := 210) hx hb dX3_isSame_140 (by decide) (fun c9 => absurd rfl c9) (fun c_140 => ?_)
            refine lv_aload_n hx hb dX3_isSame_143 rfl (lv_at hl 5 rfl) ?_
            refine lv_iload hx hb dX3_isSame_144 (lv_at hl 7 rfl) ?_
            refine x_ci (rest := []) g (x_V (nA := 1) (As := [.int (nI n_)]) S g (c_shadowOf_ok l G F 0 n_ n h hIn.c6 (by omega) hIn.n8 hIn.c0 (by omega)) (lw_V q505 q302 q303 q1 q304) ⟨rfl, by decide +kernel, by decide +kernel, by decide +kernel⟩ rfl ⟨Nat.le_of_ble_eq_true rfl, Nat.le_of_ble_eq_true rfl⟩ hl.1 (Nat.le_of_ble_eq_true rfl) rfl ⟨by show n - (n_ + 1) + 1 + 0 ≤ 8; omega, by show 4 * (n - (n_ + 1)) + 4 + 0 ≤ 32; omega⟩ dX3_isSame_146) (fun H locs g => ?_)
            refine lv_aload_n hx hb dX3_isSame_149 rfl (lv_at hl 4 rfl) ?_
            refine lv_aload hx hb dX3_isSame_150 (lv_at hl 3 rfl) ?_
            have g := g.perm (pm2 _ _ _ )
            refine y_ci (rest := [.int (shI (F (wb 1 n_) 0) (suH h))]) g (y_V (nA := 1) (As := [.ref (A (2 + n_))]) S g (d_shadow l G A n F 1 h n_ hIn.c0 (by omega) (by omega) hn8) (swl_m0 G _ _ _ _) (lw_V q488 q489 q490 q4 q491) ⟨rfl, by decide +kernel, by decide +kernel, by decide +kernel⟩ rfl ⟨Nat.le_of_ble_eq_true rfl, Nat.le_of_ble_eq_true rfl⟩ hl.1 (Nat.le_of_ble_eq_true rfl) rfl ⟨by show n - (n_ + 1) + 1 + 0 ≤ 8; omega, by show 4 * (n - (n_ + 1)) + 4 + 0 ≤ 32; omega⟩ dX3_isSame_152) (fun r9 u152_9 H locs hp9 g => ?_)
            subst hp9
            refine lv_icmp_ne (tgt := 210) hx hb dX3_isSame_155 (by decide) (fun c9 => absurd rfl c9) (fun c_155 => ?_)
            refine lv_aload_n hx hb dX3_isSame_158 rfl (lv_at hl 5 rfl) ?_
            refine lv_iload hx hb dX3_isSame_159 (lv_at hl 7 rfl) ?_
            have g := g.perm (pm2 _ _ _ )
            refine x_ci (rest := []) g (x_V (nA := 1) (As := [.int (nI n_)]) S g (c_costOf_ok l G F 0 n_ n h hIn.c6 (by omega) hIn.n8 hIn.c0 (by omega)) (lw_V q506 q312 q313 q1 q314) ⟨rfl, by decide +kernel, by decide +kernel, by decide +kernel⟩ rfl ⟨Nat.le_of_ble_eq_true rfl, Nat.le_of_ble_eq_true rfl⟩ hl.1 (Nat.le_of_ble_eq_true rfl) rfl ⟨by show n - (n_ + 1) + 1 + 0 ≤ 8; omega, by show 4 * (n - (n_ + 1)) + 4 + 0 ≤ 32; omega⟩ dX3_isSame_161) (fun H locs g => ?_)
            refine lv_aload hx hb dX3_isSame_164 (lv_at hl 2 rfl) ?_
            refine lv_iconst (v := 0) hx hb dX3_isSame_166 (by decide) ?_
            refine x_iald S g (List.mem_append_right _ (List.mem_append_right _ (List.mem_append_left _ List.mem_cons_self))) (by omega) 0 rfl (by decide) dX3_isSame_167 ?_
            rw [show ((ptI F 1 (wb 1 n_) h) 0 : Int32) = coI (F (wb 1 n_) 0) (F (wb 1 n_) 2) (suH h) from (pt_0 _ _ _ _)]
            refine lv_icmp_ne (tgt := 210) hx hb dX3_isSame_168 (by decide) (fun c9 => absurd rfl c9) (fun c_168 => ?_)
            refine lv_aload_n hx hb dX3_isSame_171 rfl (lv_at hl 5 rfl) ?_
            refine lv_iload hx hb dX3_isSame_172 (lv_at hl 7 rfl) ?_
            refine x_ci (rest := []) g (x_V (nA := 1) (As := [.int (nI n_)]) S g (c_ownPartOf_ok l G F 0 n_ n h hIn.c6 (by omega) hIn.n8 hIn.c0 (by omega)) (lw_V q507 q317 q318 q1 q319) ⟨rfl, by decide +kernel, by decide +kernel, by decide +kernel⟩ rfl ⟨Nat.le_of_ble_eq_true rfl, Nat.le_of_ble_eq_true rfl⟩ hl.1 (Nat.le_of_ble_eq_true rfl) rfl ⟨by show n - (n_ + 1) + 1 + 0 ≤ 8; omega, by show 4 * (n - (n_ + 1)) + 4 + 0 ≤ 32; omega⟩ dX3_isSame_174) (fun H locs g => ?_)
            refine lv_aload hx hb dX3_isSame_177 (lv_at hl 2 rfl) ?_
            refine lv_iconst (v := 1) hx hb dX3_isSame_179 (by decide) ?_
            refine x_iald S g (List.mem_append_right _ (List.mem_append_right _ (List.mem_append_left _ List.mem_cons_self))) (by omega) 1 rfl (by decide) dX3_isSame_180 ?_
            rw [show ((ptI F 1 (wb 1 n_) h) 1 : Int32) = owI (F (wb 1 n_) 5) (coI (F (wb 1 n_) 0) (F (wb 1 n_) 2) (suH h)) (noH h) from (pt_1 _ _ _ _)]
            refine lv_icmp_ne (tgt := 210) hx hb dX3_isSame_181 (by decide) (fun c9 => absurd rfl c9) (fun c_181 => ?_)
            refine lv_aload_n hx hb dX3_isSame_184 rfl (lv_at hl 5 rfl) ?_
            refine lv_iload hx hb dX3_isSame_185 (lv_at hl 7 rfl) ?_
            refine x_ci (rest := []) g (x_V (nA := 1) (As := [.int (nI n_)]) S g (c_poolPartOf_ok l G F 0 n_ n h hIn.c6 (by omega) hIn.n8 hIn.c0 (by omega)) (lw_V q508 q323 q324 q1 q325) ⟨rfl, by decide +kernel, by decide +kernel, by decide +kernel⟩ rfl ⟨Nat.le_of_ble_eq_true rfl, Nat.le_of_ble_eq_true rfl⟩ hl.1 (Nat.le_of_ble_eq_true rfl) rfl ⟨by show n - (n_ + 1) + 1 + 0 ≤ 8; omega, by show 4 * (n - (n_ + 1)) + 4 + 0 ≤ 32; omega⟩ dX3_isSame_187) (fun H locs g => ?_)
            refine lv_aload hx hb dX3_isSame_190 (lv_at hl 2 rfl) ?_
            refine lv_iconst (v := 2) hx hb dX3_isSame_192 (by decide) ?_
            refine x_iald S g (List.mem_append_right _ (List.mem_append_right _ (List.mem_append_left _ List.mem_cons_self))) (by omega) 2 rfl (by decide) dX3_isSame_193 ?_
            rw [show ((ptI F 1 (wb 1 n_) h) 2 : Int32) = clI F (wb 1 n_) (suH h) (noH h) - reI (clI F (wb 1 n_) (suH h) (noH h)) (F 1 3) (F 1 4) from (pt_2 _ _ _ _)]
            refine lv_icmp_ne (tgt := 210) hx hb dX3_isSame_194 (by decide) (fun c9 => absurd rfl c9) (fun c_194 => ?_)
            refine lv_aload_n hx hb dX3_isSame_197 rfl (lv_at hl 5 rfl) ?_
            refine lv_iload hx hb dX3_isSame_198 (lv_at hl 7 rfl) ?_
            refine x_ci (rest := []) g (x_V (nA := 1) (As := [.int (nI n_)]) S g (c_reinsuredPartOf_ok l G F 0 n_ n h hIn.c6 (by omega) hIn.n8 hIn.c0 (by omega)) (lw_V q509 q332 q333 q1 q334) ⟨rfl, by decide +kernel, by decide +kernel, by decide +kernel⟩ rfl ⟨Nat.le_of_ble_eq_true rfl, Nat.le_of_ble_eq_true rfl⟩ hl.1 (Nat.le_of_ble_eq_true rfl) rfl ⟨by show n - (n_ + 1) + 1 + 0 ≤ 8; omega, by show 4 * (n - (n_ + 1)) + 4 + 0 ≤ 32; omega⟩ dX3_isSame_200) (fun H locs g => ?_)
            refine lv_aload hx hb dX3_isSame_203 (lv_at hl 2 rfl) ?_
            refine lv_iconst (v := 3) hx hb dX3_isSame_205 (by decide) ?_
            refine x_iald S g (List.mem_append_right _ (List.mem_append_right _ (List.mem_append_left _ List.mem_cons_self))) (by omega) 3 rfl (by decide) dX3_isSame_206 ?_
            rw [show ((ptI F 1 (wb 1 n_) h) 3 : Int32) = reI (clI F (wb 1 n_) (suH h) (noH h)) (F 1 3) (F 1 4) from (pt_3 _ _ _ _)]
            refine lv_icmp_eq (tgt := 212) hx hb dX3_isSame_207 (by decide) (fun c_207 => ?_) (fun c9 => absurd rfl c9)
            refine lv_iinc (v := nI n_ - 1) (lv' := [(5, .int (nI n_ - 1)), (4, .int (msL F (suH h) (n - n_) n_ 0)), (2, .int (cmL F 1 (n - n_) n_ 0)), (7, .ref u33_2), (6, .ref (A (2 + n_))), (0, .ref (A 0)), (1, .ref (gA G 0)), (3, .int (nI j9))]) hx hb dX3_isSame_212 hl (k := 7) rfl (show nI n_ + (-1) = nI n_ - 1 by grind) (by decide) rfl (fun ls hl => ?_)
            refine lv_goto (tgt := 16) hx hb dX3_isSame_215 (by decide) ?_
            have g := g.sl (List.Sublist.append (List.Sublist.refl _) (List.Sublist.append (List.Sublist.refl _) (List.nil_sublist _)))
            refine W.widen (k := n - n_) (n := 4 * (n - n_)) (by omega) (by omega) ?_
            exact ih_16 (nI j9) _ _ _ (by omega) (loI_n (by omega) hj9 (Int32.not_le.mpr c_76)) g (lv_sub hl [5, 6, 2, 7, 1, 0] rfl)
        · refine lv_iload hx hb dX3_isSame_79 (lv_at hl 7 rfl) ?_
          refine lv_istore_n (lv' := [(3, .int (nI n_)), (4, .int (msL F (suH h) (n - n_) n_ 0)), (2, .int (cmL F 1 (n - n_) n_ 0)), (7, .ref u33_2), (6, .ref (A (2 + n_))), (0, .ref (A 0)), (1, .ref (gA G 0)), (5, .int (nI n_))]) hx hb dX3_isSame_81 rfl hl (by decide) rfl (fun ls hl => ?_)
          refine lv_aload_n hx hb dX3_isSame_82 rfl (lv_at hl 6 rfl) ?_
          refine lv_iload hx hb dX3_isSame_83 (lv_at hl 7 rfl) ?_
          have g := g.perm (pm3 _ _ _ _ )
          refine x_ci (rest := []) g (x_V (nA := 1) (As := [.int (nI n_)]) S g (c_isMember_ok l G F 0 n_ n hIn.c6 (by omega) hIn.n8 hmm) (lw_V q501 q269 q270 q1 q271) ⟨rfl, by decide +kernel, by decide +kernel, by decide +kernel⟩ rfl ⟨Nat.le_of_ble_eq_true rfl, Nat.le_of_ble_eq_true rfl⟩ hl.1 (Nat.le_of_ble_eq_true rfl) rfl ⟨by show n - (n_ + 1) + 1 + 0 ≤ 8; omega, by show 4 * (n - (n_ + 1)) + 4 + 0 ≤ 32; omega⟩ dX3_isSame_85) (fun H locs g => ?_)
          refine lv_aload hx hb dX3_isSame_88 (lv_at hl 4 rfl) ?_
          refine lv_iconst (v := 4) hx hb dX3_isSame_90 (by decide) ?_
          refine x_rald S g (List.mem_append_right _ (List.mem_append_left _ (swl_mr G A _ _ (i := n_) (by omega)))) 4 5 rfl (by decide) rfl dX3_isSame_91 ?_
          refine lv_iconst (v := 1) hx hb dX3_isSame_92 (by decide) ?_
          refine lv_icmp_ne (tgt := 100) hx hb dX3_isSame_93 (by decide) (fun c_93 => ?_) (fun c_93 => ?_)
          · refine lv_iconst (v := 0) hx hb dX3_isSame_100 (by decide) ?_
            refine lv_icmp_ne (tgt := 210) hx hb dX3_isSame_101 (by decide) (fun c9 => absurd (hmm.resolve_right c_93) c9) (fun c_101 => ?_)
            refine lv_aload_n hx hb dX3_isSame_104 rfl (lv_at hl 6 rfl) ?_
            refine lv_iload hx hb dX3_isSame_105 (lv_at hl 7 rfl) ?_
            refine x_ci (rest := []) g (x_V (nA := 1) (As := [.int (nI n_)]) S g (c_netOf_ok l G F 0 n_ n hIn.c6 (by omega) hIn.n8) (lw_V q502 q290 q291 q1 q292) ⟨rfl, by decide +kernel, by decide +kernel, by decide +kernel⟩ rfl ⟨Nat.le_of_ble_eq_true rfl, Nat.le_of_ble_eq_true rfl⟩ hl.1 (Nat.le_of_ble_eq_true rfl) rfl ⟨by show n - (n_ + 1) + 1 + 0 ≤ 8; omega, by show 4 * (n - (n_ + 1)) + 4 + 0 ≤ 32; omega⟩ dX3_isSame_107) (fun H locs g => ?_)
            refine lv_aload hx hb dX3_isSame_110 (lv_at hl 4 rfl) ?_
            refine lv_iconst (v := 2) hx hb dX3_isSame_112 (by decide) ?_
            refine x_rald S g (List.mem_append_right _ (List.mem_append_left _ (swl_mr G A _ _ (i := n_) (by omega)))) 2 2 rfl (by decide) rfl dX3_isSame_113 ?_
            refine lv_icmp_ne (tgt := 210) hx hb dX3_isSame_114 (by decide) (fun c9 => absurd rfl c9) (fun c_114 => ?_)
            refine lv_aload_n hx hb dX3_isSame_117 rfl (lv_at hl 6 rfl) ?_
            refine lv_iload hx hb dX3_isSame_118 (lv_at hl 7 rfl) ?_
            refine x_ci (rest := []) g (x_V (nA := 1) (As := [.int (nI n_)]) S g (c_wobbleOf_ok l G F 0 n_ n hIn.c6 (by omega) hIn.n8) (lw_V q503 q294 q295 q1 q296) ⟨rfl, by decide +kernel, by decide +kernel, by decide +kernel⟩ rfl ⟨Nat.le_of_ble_eq_true rfl, Nat.le_of_ble_eq_true rfl⟩ hl.1 (Nat.le_of_ble_eq_true rfl) rfl ⟨by show n - (n_ + 1) + 1 + 0 ≤ 8; omega, by show 4 * (n - (n_ + 1)) + 4 + 0 ≤ 32; omega⟩ dX3_isSame_120) (fun H locs g => ?_)
            refine lv_aload hx hb dX3_isSame_123 (lv_at hl 4 rfl) ?_
            refine lv_iconst (v := 3) hx hb dX3_isSame_125 (by decide) ?_
            refine x_rald S g (List.mem_append_right _ (List.mem_append_left _ (swl_mr G A _ _ (i := n_) (by omega)))) 3 3 rfl (by decide) rfl dX3_isSame_126 ?_
            refine lv_icmp_ne (tgt := 210) hx hb dX3_isSame_127 (by decide) (fun c9 => absurd rfl c9) (fun c_127 => ?_)
            refine lv_aload_n hx hb dX3_isSame_130 rfl (lv_at hl 6 rfl) ?_
            refine lv_iload hx hb dX3_isSame_131 (lv_at hl 7 rfl) ?_
            refine x_ci (rest := []) g (x_V (nA := 1) (As := [.int (nI n_)]) S g (c_fallsOf_ok l G F 0 n_ n hIn.c6 (by omega) hIn.n8) (lw_V q504 q298 q299 q1 q300) ⟨rfl, by decide +kernel, by decide +kernel, by decide +kernel⟩ rfl ⟨Nat.le_of_ble_eq_true rfl, Nat.le_of_ble_eq_true rfl⟩ hl.1 (Nat.le_of_ble_eq_true rfl) rfl ⟨by show n - (n_ + 1) + 1 + 0 ≤ 8; omega, by show 4 * (n - (n_ + 1)) + 4 + 0 ≤ 32; omega⟩ dX3_isSame_133) (fun H locs g => ?_)
            refine lv_aload hx hb dX3_isSame_136 (lv_at hl 4 rfl) ?_
            refine lv_iconst (v := 5) hx hb dX3_isSame_138 (by decide) ?_
            refine x_rald S g (List.mem_append_right _ (List.mem_append_left _ (swl_mr G A _ _ (i := n_) (by omega)))) 5 4 rfl (by decide) rfl dX3_isSame_139 ?_
            refine lv_icmp_ne (tgt := 210) hx hb dX3_isSame_140 (by decide) (fun c9 => absurd rfl c9) (fun c_140 => ?_)
            refine lv_aload_n hx hb dX3_isSame_143 rfl (lv_at hl 6 rfl) ?_
            refine lv_iload hx hb dX3_isSame_144 (lv_at hl 7 rfl) ?_
            refine x_ci (rest := []) g (x_V (nA := 1) (As := [.int (nI n_)]) S g (c_shadowOf_ok l G F 0 n_ n h hIn.c6 (by omega) hIn.n8 hIn.c0 (by omega)) (lw_V q505 q302 q303 q1 q304) ⟨rfl, by decide +kernel, by decide +kernel, by decide +kernel⟩ rfl ⟨Nat.le_of_ble_eq_true rfl, Nat.le_of_ble_eq_true rfl⟩ hl.1 (Nat.le_of_ble_eq_true rfl) rfl ⟨by show n - (n_ + 1) + 1 + 0 ≤ 8; omega, by show 4 * (n - (n_ + 1)) + 4 + 0 ≤ 32; omega⟩ dX3_isSame_146) (fun H locs g => ?_)
            refine lv_aload_n hx hb dX3_isSame_149 rfl (lv_at hl 5 rfl) ?_
            refine lv_aload hx hb dX3_isSame_150 (lv_at hl 4 rfl) ?_
            have g := g.perm (pm2 _ _ _ )
            refine y_ci (rest := [.int (shI (F (wb 1 n_) 0) (suH h))]) g (y_V (nA := 1) (As := [.ref (A (2 + n_))]) S g (d_shadow l G A n F 1 h n_ hIn.c0 (by omega) (by omega) hn8) (swl_m0 G _ _ _ _) (lw_V q488 q489 q490 q4 q491) ⟨rfl, by decide +kernel, by decide +kernel, by decide +kernel⟩ rfl ⟨Nat.le_of_ble_eq_true rfl, Nat.le_of_ble_eq_true rfl⟩ hl.1 (Nat.le_of_ble_eq_true rfl) rfl ⟨by show n - (n_ + 1) + 1 + 0 ≤ 8; omega, by show 4 * (n - (n_ + 1)) + 4 + 0 ≤ 32; omega⟩ dX3_isSame_152) (fun r9 u152_10 H locs hp9 g => ?_)
            subst hp9
            refine lv_icmp_ne (tgt := 210) hx hb dX3_isSame_155 (by decide) (fun c9 => absurd rfl c9) (fun c_155 => ?_)
            refine lv_aload_n hx hb dX3_isSame_158 rfl (lv_at hl 6 rfl) ?_
            refine lv_iload hx hb dX3_isSame_159 (lv_at hl 7 rfl) ?_
            have g := g.perm (pm2 _ _ _ )
            refine x_ci (rest := []) g (x_V (nA := 1) (As := [.int (nI n_)]) S g (c_costOf_ok l G F 0 n_ n h hIn.c6 (by omega) hIn.n8 hIn.c0 (by omega)) (lw_V q506 q312 q313 q1 q314) ⟨rfl, by decide +kernel, by decide +kernel, by decide +kernel⟩ rfl ⟨Nat.le_of_ble_eq_true rfl, Nat.le_of_ble_eq_true rfl⟩ hl.1 (Nat.le_of_ble_eq_true rfl) rfl ⟨by show n - (n_ + 1) + 1 + 0 ≤ 8; omega, by show 4 * (n - (n_ + 1)) + 4 + 0 ≤ 32; omega⟩ dX3_isSame_161) (fun H locs g => ?_)
            refine lv_aload hx hb dX3_isSame_164 (lv_at hl 3 rfl) ?_
            refine lv_iconst (v := 0) hx hb dX3_isSame_166 (by decide) ?_
            refine x_iald S g (List.mem_append_right _ (List.mem_append_right _ (List.mem_append_left _ List.mem_cons_self))) (by omega) 0 rfl (by decide) dX3_isSame_167 ?_
            rw [show ((ptI F 1 (wb 1 n_) h) 0 : Int32) = coI (F (wb 1 n_) 0) (F (wb 1 n_) 2) (suH h) from (pt_0 _ _ _ _)]
            refine lv_icmp_ne (tgt := 210) hx hb dX3_isSame_168 (by decide) (fun c9 => absurd rfl c9) (fun c_168 => ?_)
            refine lv_aload_n hx hb dX3_isSame_171 rfl (lv_at hl 6 rfl) ?_
            refine lv_iload hx hb dX3_isSame_172 (lv_at hl 7 rfl) ?_
            refine x_ci (rest := []) g (x_V (nA := 1) (As := [.int (nI n_)]) S g (c_ownPartOf_ok l G F 0 n_ n h hIn.c6 (by omega) hIn.n8 hIn.c0 (by omega)) (lw_V q507 q317 q318 q1 q319) ⟨rfl, by decide +kernel, by decide +kernel, by decide +kernel⟩ rfl ⟨Nat.le_of_ble_eq_true rfl, Nat.le_of_ble_eq_true rfl⟩ hl.1 (Nat.le_of_ble_eq_true rfl) rfl ⟨by show n - (n_ + 1) + 1 + 0 ≤ 8; omega, by show 4 * (n - (n_ + 1)) + 4 + 0 ≤ 32; omega⟩ dX3_isSame_174) (fun H locs g => ?_)
            refine lv_aload hx hb dX3_isSame_177 (lv_at hl 3 rfl) ?_
            refine lv_iconst (v := 1) hx hb dX3_isSame_179 (by decide) ?_
            refine x_iald S g (List.mem_append_right _ (List.mem_append_right _ (List.mem_append_left _ List.mem_cons_self))) (by omega) 1 rfl (by decide) dX3_isSame_180 ?_
            rw [show ((ptI F 1 (wb 1 n_) h) 1 : Int32) = owI (F (wb 1 n_) 5) (coI (F (wb 1 n_) 0) (F (wb 1 n_) 2) (suH h)) (noH h) from (pt_1 _ _ _ _)]
            refine lv_icmp_ne (tgt := 210) hx hb dX3_isSame_181 (by decide) (fun c9 => absurd rfl c9) (fun c_181 => ?_)
            refine lv_aload_n hx hb dX3_isSame_184 rfl (lv_at hl 6 rfl) ?_
            refine lv_iload hx hb dX3_isSame_185 (lv_at hl 7 rfl) ?_
            refine x_ci (rest := []) g (x_V (nA := 1) (As := [.int (nI n_)]) S g (c_poolPartOf_ok l G F 0 n_ n h hIn.c6 (by omega) hIn.n8 hIn.c0 (by omega)) (lw_V q508 q323 q324 q1 q325) ⟨rfl, by decide +kernel, by decide +kernel, by decide +kernel⟩ rfl ⟨Nat.le_of_ble_eq_true rfl, Nat.le_of_ble_eq_true rfl⟩ hl.1 (Nat.le_of_ble_eq_true rfl) rfl ⟨by show n - (n_ + 1) + 1 + 0 ≤ 8; omega, by show 4 * (n - (n_ + 1)) + 4 + 0 ≤ 32; omega⟩ dX3_isSame_187) (fun H locs g => ?_)
            refine lv_aload hx hb dX3_isSame_190 (lv_at hl 3 rfl) ?_
            refine lv_iconst (v := 2) hx hb dX3_isSame_192 (by decide) ?_
            refine x_iald S g (List.mem_append_right _ (List.mem_append_right _ (List.mem_append_left _ List.mem_cons_self))) (by omega) 2 rfl (by decide) dX3_isSame_193 ?_
            rw [show ((ptI F 1 (wb 1 n_) h) 2 : Int32) = clI F (wb 1 n_) (suH h) (noH h) - reI (clI F (wb 1 n_) (suH h) (noH h)) (F 1 3) (F 1 4) from (pt_2 _ _ _ _)]
            refine lv_icmp_ne (tgt := 210) hx hb dX3_isSame_194 (by decide) (fun c9 => absurd rfl c9) (fun c_194 => ?_)
            refine lv_aload_n hx hb dX3_isSame_197 rfl (lv_at hl 6 rfl) ?_
            refine lv_iload hx hb dX3_isSame_198 (lv_at hl 7 rfl) ?_
            refine x_ci (rest := []) g (x_V (nA := 1) (As := [.int (nI n_)]) S g (c_reinsuredPartOf_ok l G F 0 n_ n h hIn.c6 (by omega) hIn.n8 hIn.c0 (by omega)) (lw_V q509 q332 q333 q1 q334) ⟨rfl, by decide +kernel, by decide +kernel, by decide +kernel⟩ rfl ⟨Nat.le_of_ble_eq_true rfl, Nat.le_of_ble_eq_true rfl⟩ hl.1 (Nat.le_of_ble_eq_true rfl) rfl ⟨by show n - (n_ + 1) + 1 + 0 ≤ 8; omega, by show 4 * (n - (n_ + 1)) + 4 + 0 ≤ 32; omega⟩ dX3_isSame_200) (fun H locs g => ?_)
            refine lv_aload hx hb dX3_isSame_203 (lv_at hl 3 rfl) ?_
            refine lv_iconst (v := 3) hx hb dX3_isSame_205 (by decide) ?_
            refine x_iald S g (List.mem_append_right _ (List.mem_append_right _ (List.mem_append_left _ List.mem_cons_self))) (by omega) 3 rfl (by decide) dX3_isSame_206 ?_
            rw [show ((ptI F 1 (wb 1 n_) h) 3 : Int32) = reI (clI F (wb 1 n_) (suH h) (noH h)) (F 1 3) (F 1 4) from (pt_3 _ _ _ _)]
            refine lv_icmp_eq (tgt := 212) hx hb dX3_isSame_207 (by decide) (fun c_207 => ?_) (fun c9 => absurd rfl c9)
            refine lv_iinc (v := nI n_ - 1) (lv' := [(5, .int (nI n_ - 1)), (3, .int (nI n_)), (4, .int (msL F (suH h) (n - n_) n_ 0)), (2, .int (cmL F 1 (n - n_) n_ 0)), (7, .ref u33_2), (6, .ref (A (2 + n_))), (0, .ref (A 0)), (1, .ref (gA G 0))]) hx hb dX3_isSame_212 hl (k := 7) rfl (show nI n_ + (-1) = nI n_ - 1 by grind) (by decide) rfl (fun ls hl => ?_)
            refine lv_goto (tgt := 16) hx hb dX3_isSame_215 (by decide) ?_
            have g := g.sl (List.Sublist.append (List.Sublist.refl _) (List.Sublist.append (List.Sublist.refl _) (List.nil_sublist _)))
            refine W.widen (k := n - n_) (n := 4 * (n - n_)) (by omega) (by omega) ?_
            exact ih_16 (nI n_) _ _ _ (by omega) (loI_y (by omega) hj9 (Int32.not_lt.mp c_76)) g (lv_sub hl [6, 7, 3, 1, 2, 0] rfl)
          · refine lv_iconst (v := 1) hx hb dX3_isSame_96 (by decide) ?_
            refine lv_goto (tgt := 101) hx hb dX3_isSame_97 (by decide) ?_
            refine lv_icmp_ne (tgt := 210) hx hb dX3_isSame_101 (by decide) (fun c9 => absurd c_93 c9) (fun c_101 => ?_)
            refine lv_aload_n hx hb dX3_isSame_104 rfl (lv_at hl 6 rfl) ?_
            refine lv_iload hx hb dX3_isSame_105 (lv_at hl 7 rfl) ?_
            refine x_ci (rest := []) g (x_V (nA := 1) (As := [.int (nI n_)]) S g (c_netOf_ok l G F 0 n_ n hIn.c6 (by omega) hIn.n8) (lw_V q502 q290 q291 q1 q292) ⟨rfl, by decide +kernel, by decide +kernel, by decide +kernel⟩ rfl ⟨Nat.le_of_ble_eq_true rfl, Nat.le_of_ble_eq_true rfl⟩ hl.1 (Nat.le_of_ble_eq_true rfl) rfl ⟨by show n - (n_ + 1) + 1 + 0 ≤ 8; omega, by show 4 * (n - (n_ + 1)) + 4 + 0 ≤ 32; omega⟩ dX3_isSame_107) (fun H locs g => ?_)
            refine lv_aload hx hb dX3_isSame_110 (lv_at hl 4 rfl) ?_
            refine lv_iconst (v := 2) hx hb dX3_isSame_112 (by decide) ?_
            refine x_rald S g (List.mem_append_right _ (List.mem_append_left _ (swl_mr G A _ _ (i := n_) (by omega)))) 2 2 rfl (by decide) rfl dX3_isSame_113 ?_
            refine lv_icmp_ne (tgt := 210) hx hb dX3_isSame_114 (by decide) (fun c9 => absurd rfl c9) (fun c_114 => ?_)
            refine lv_aload_n hx hb dX3_isSame_117 rfl (lv_at hl 6 rfl) ?_
            refine lv_iload hx hb dX3_isSame_118 (lv_at hl 7 rfl) ?_
            refine x_ci (rest := []) g (x_V (nA := 1) (As := [.int (nI n_)]) S g (c_wobbleOf_ok l G F 0 n_ n hIn.c6 (by omega) hIn.n8) (lw_V q503 q294 q295 q1 q296) ⟨rfl, by decide +kernel, by decide +kernel, by decide +kernel⟩ rfl ⟨Nat.le_of_ble_eq_true rfl, Nat.le_of_ble_eq_true rfl⟩ hl.1 (Nat.le_of_ble_eq_true rfl) rfl ⟨by show n - (n_ + 1) + 1 + 0 ≤ 8; omega, by show 4 * (n - (n_ + 1)) + 4 + 0 ≤ 32; omega⟩ dX3_isSame_120) (fun H locs g => ?_)
            refine lv_aload hx hb dX3_isSame_123 (lv_at hl 4 rfl) ?_
            refine lv_iconst (v := 3) hx hb dX3_isSame_125 (by decide) ?_
            refine x_rald S g (List.mem_append_right _ (List.mem_append_left _ (swl_mr G A _ _ (i := n_) (by omega)))) 3 3 rfl (by decide) rfl dX3_isSame_126 ?_
            refine lv_icmp_ne (tgt := 210) hx hb dX3_isSame_127 (by decide) (fun c9 => absurd rfl c9) (fun c_127 => ?_)
            refine lv_aload_n hx hb dX3_isSame_130 rfl (lv_at hl 6 rfl) ?_
            refine lv_iload hx hb dX3_isSame_131 (lv_at hl 7 rfl) ?_
            refine x_ci (rest := []) g (x_V (nA := 1) (As := [.int (nI n_)]) S g (c_fallsOf_ok l G F 0 n_ n hIn.c6 (by omega) hIn.n8) (lw_V q504 q298 q299 q1 q300) ⟨rfl, by decide +kernel, by decide +kernel, by decide +kernel⟩ rfl ⟨Nat.le_of_ble_eq_true rfl, Nat.le_of_ble_eq_true rfl⟩ hl.1 (Nat.le_of_ble_eq_true rfl) rfl ⟨by show n - (n_ + 1) + 1 + 0 ≤ 8; omega, by show 4 * (n - (n_ + 1)) + 4 + 0 ≤ 32; omega⟩ dX3_isSame_133) (fun H locs g => ?_)
            refine lv_aload hx hb dX3_isSame_136 (lv_at hl 4 rfl) ?_
            refine lv_iconst (v := 5) hx hb dX3_isSame_138 (by decide) ?_
            refine x_rald S g (List.mem_append_right _ (List.mem_append_left _ (swl_mr G A _ _ (i := n_) (by omega)))) 5 4 rfl (by decide) rfl dX3_isSame_139 ?_
            refine lv_icmp_ne (tgt := 210) hx hb dX3_isSame_140 (by decide) (fun c9 => absurd rfl c9) (fun c_140 => ?_)
            refine lv_aload_n hx hb dX3_isSame_143 rfl (lv_at hl 6 rfl) ?_
            refine lv_iload hx hb dX3_isSame_144 (lv_at hl 7 rfl) ?_
            refine x_ci (rest := []) g (x_V (nA := 1) (As := [.int (nI n_)]) S g (c_shadowOf_ok l G F 0 n_ n h hIn.c6 (by omega) hIn.n8 hIn.c0 (by omega)) (lw_V q505 q302 q303 q1 q304) ⟨rfl, by decide +kernel, by decide +kernel, by decide +kernel⟩ rfl ⟨Nat.le_of_ble_eq_true rfl, Nat.le_of_ble_eq_true rfl⟩ hl.1 (Nat.le_of_ble_eq_true rfl) rfl ⟨by show n - (n_ + 1) + 1 + 0 ≤ 8; omega, by show 4 * (n - (n_ + 1)) + 4 + 0 ≤ 32; omega⟩ dX3_isSame_146) (fun H locs g => ?_)
            refine lv_aload_n hx hb dX3_isSame_149 rfl (lv_at hl 5 rfl) ?_
            refine lv_aload hx hb dX3_isSame_150 (lv_at hl 4 rfl) ?_
            have g := g.perm (pm2 _ _ _ )
            refine y_ci (rest := [.int (shI (F (wb 1 n_) 0) (suH h))]) g (y_V (nA := 1) (As := [.ref (A (2 + n_))]) S g (d_shadow l G A n F 1 h n_ hIn.c0 (by omega) (by omega) hn8) (swl_m0 G _ _ _ _) (lw_V q488 q489 q490 q4 q491) ⟨rfl, by decide +kernel, by decide +kernel, by decide +kernel⟩ rfl ⟨Nat.le_of_ble_eq_true rfl, Nat.le_of_ble_eq_true rfl⟩ hl.1 (Nat.le_of_ble_eq_true rfl) rfl ⟨by show n - (n_ + 1) + 1 + 0 ≤ 8; omega, by show 4 * (n - (n_ + 1)) + 4 + 0 ≤ 32; omega⟩ dX3_isSame_152) (fun r9 u152_11 H locs hp9 g => ?_)
            subst hp9
            refine lv_icmp_ne (tgt := 210) hx hb dX3_isSame_155 (by decide) (fun c9 => absurd rfl c9) (fun c_155 => ?_)
            refine lv_aload_n hx hb dX3_isSame_158 rfl (lv_at hl 6 rfl) ?_
            refine lv_iload hx hb dX3_isSame_159 (lv_at hl 7 rfl) ?_
            have g := g.perm (pm2 _ _ _ )
            refine x_ci (rest := []) g (x_V (nA := 1) (As := [.int (nI n_)]) S g (c_costOf_ok l G F 0 n_ n h hIn.c6 (by omega) hIn.n8 hIn.c0 (by omega)) (lw_V q506 q312 q313 q1 q314) ⟨rfl, by decide +kernel, by decide +kernel, by decide +kernel⟩ rfl ⟨Nat.le_of_ble_eq_true rfl, Nat.le_of_ble_eq_true rfl⟩ hl.1 (Nat.le_of_ble_eq_true rfl) rfl ⟨by show n - (n_ + 1) + 1 + 0 ≤ 8; omega, by show 4 * (n - (n_ + 1)) + 4 + 0 ≤ 32; omega⟩ dX3_isSame_161) (fun H locs g => ?_)
            refine lv_aload hx hb dX3_isSame_164 (lv_at hl 3 rfl) ?_
            refine lv_iconst (v := 0) hx hb dX3_isSame_166 (by decide) ?_
            refine x_iald S g (List.mem_append_right _ (List.mem_append_right _ (List.mem_append_left _ List.mem_cons_self))) (by omega) 0 rfl (by decide) dX3_isSame_167 ?_
            rw [show ((ptI F 1 (wb 1 n_) h) 0 : Int32) = coI (F (wb 1 n_) 0) (F (wb 1 n_) 2) (suH h) from (pt_0 _ _ _ _)]
            refine lv_icmp_ne (tgt := 210) hx hb dX3_isSame_168 (by decide) (fun c9 => absurd rfl c9) (fun c_168 => ?_)
            refine lv_aload_n hx hb dX3_isSame_171 rfl (lv_at hl 6 rfl) ?_
            refine lv_iload hx hb dX3_isSame_172 (lv_at hl 7 rfl) ?_
            refine x_ci (rest := []) g (x_V (nA := 1) (As := [.int (nI n_)]) S g (c_ownPartOf_ok l G F 0 n_ n h hIn.c6 (by omega) hIn.n8 hIn.c0 (by omega)) (lw_V q507 q317 q318 q1 q319) ⟨rfl, by decide +kernel, by decide +kernel, by decide +kernel⟩ rfl ⟨Nat.le_of_ble_eq_true rfl, Nat.le_of_ble_eq_true rfl⟩ hl.1 (Nat.le_of_ble_eq_true rfl) rfl ⟨by show n - (n_ + 1) + 1 + 0 ≤ 8; omega, by show 4 * (n - (n_ + 1)) + 4 + 0 ≤ 32; omega⟩ dX3_isSame_174) (fun H locs g => ?_)
            refine lv_aload hx hb dX3_isSame_177 (lv_at hl 3 rfl) ?_
            refine lv_iconst (v := 1) hx hb dX3_isSame_179 (by decide) ?_
            refine x_iald S g (List.mem_append_right _ (List.mem_append_right _ (List.mem_append_left _ List.mem_cons_self))) (by omega) 1 rfl (by decide) dX3_isSame_180 ?_
            rw [show ((ptI F 1 (wb 1 n_) h) 1 : Int32) = owI (F (wb 1 n_) 5) (coI (F (wb 1 n_) 0) (F (wb 1 n_) 2) (suH h)) (noH h) from (pt_1 _ _ _ _)]
            refine lv_icmp_ne (tgt := 210) hx hb dX3_isSame_181 (by decide) (fun c9 => absurd rfl c9) (fun c_181 => ?_)
            refine lv_aload_n hx hb dX3_isSame_184 rfl (lv_at hl 6 rfl) ?_
            refine lv_iload hx hb dX3_isSame_185 (lv_at hl 7 rfl) ?_
            refine x_ci (rest := []) g (x_V (nA := 1) (As := [.int (nI n_)]) S g (c_poolPartOf_ok l G F 0 n_ n h hIn.c6 (by omega) hIn.n8 hIn.c0 (by omega)) (lw_V q508 q323 q324 q1 q325) ⟨rfl, by decide +kernel, by decide +kernel, by decide +kernel⟩ rfl ⟨Nat.le_of_ble_eq_true rfl, Nat.le_of_ble_eq_true rfl⟩ hl.1 (Nat.le_of_ble_eq_true rfl) rfl ⟨by show n - (n_ + 1) + 1 + 0 ≤ 8; omega, by show 4 * (n - (n_ + 1)) + 4 + 0 ≤ 32; omega⟩ dX3_isSame_187) (fun H locs g => ?_)
            refine lv_aload hx hb dX3_isSame_190 (lv_at hl 3 rfl) ?_
            refine lv_iconst (v := 2) hx hb dX3_isSame_192 (by decide) ?_
            refine x_iald S g (List.mem_append_right _ (List.mem_append_right _ (List.mem_append_left _ List.mem_cons_self))) (by omega) 2 rfl (by decide) dX3_isSame_193 ?_
            rw [show ((ptI F 1 (wb 1 n_) h) 2 : Int32) = clI F (wb 1 n_) (suH h) (noH h) - reI (clI F (wb 1 n_) (suH h) (noH h)) (F 1 3) (F 1 4) from (pt_2 _ _ _ _)]
            refine lv_icmp_ne (tgt := 210) hx hb dX3_isSame_194 (by decide) (fun c9 => absurd rfl c9) (fun c_194 => ?_)
            refine lv_aload_n hx hb dX3_isSame_197 rfl (lv_at hl 6 rfl) ?_
            refine lv_iload hx hb dX3_isSame_198 (lv_at hl 7 rfl) ?_
            refine x_ci (rest := []) g (x_V (nA := 1) (As := [.int (nI n_)]) S g (c_reinsuredPartOf_ok l G F 0 n_ n h hIn.c6 (by omega) hIn.n8 hIn.c0 (by omega)) (lw_V q509 q332 q333 q1 q334) ⟨rfl, by decide +kernel, by decide +kernel, by decide +kernel⟩ rfl ⟨Nat.le_of_ble_eq_true rfl, Nat.le_of_ble_eq_true rfl⟩ hl.1 (Nat.le_of_ble_eq_true rfl) rfl ⟨by show n - (n_ + 1) + 1 + 0 ≤ 8; omega, by show 4 * (n - (n_ + 1)) + 4 + 0 ≤ 32; omega⟩ dX3_isSame_200) (fun H locs g => ?_)
            refine lv_aload hx hb dX3_isSame_203 (lv_at hl 3 rfl) ?_
            refine lv_iconst (v := 3) hx hb dX3_isSame_205 (by decide) ?_
            refine x_iald S g (List.mem_append_right _ (List.mem_append_right _ (List.mem_append_left _ List.mem_cons_self))) (by omega) 3 rfl (by decide) dX3_isSame_206 ?_
            rw [show ((ptI F 1 (wb 1 n_) h) 3 : Int32) = reI (clI F (wb 1 n_) (suH h) (noH h)) (F 1 3) (F 1 4) from (pt_3 _ _ _ _)]
            refine lv_icmp_eq (tgt := 212) hx hb dX3_isSame_207 (by decide) (fun c_207 => ?_) (fun c9 => absurd rfl c9)
            refine lv_iinc (v := nI n_ - 1) (lv' := [(5, .int (nI n_ - 1)), (3, .int (nI n_)), (4, .int (msL F (suH h) (n - n_) n_ 0)), (2, .int (cmL F 1 (n - n_) n_ 0)), (7, .ref u33_2), (6, .ref (A (2 + n_))), (0, .ref (A 0)), (1, .ref (gA G 0))]) hx hb dX3_isSame_212 hl (k := 7) rfl (show nI n_ + (-1) = nI n_ - 1 by grind) (by decide) rfl (fun ls hl => ?_)
            refine lv_goto (tgt := 16) hx hb dX3_isSame_215 (by decide) ?_
            have g := g.sl (List.Sublist.append (List.Sublist.refl _) (List.Sublist.append (List.Sublist.refl _) (List.nil_sublist _)))
            refine W.widen (k := n - n_) (n := 4 * (n - n_)) (by omega) (by omega) ?_
            exact ih_16 (nI n_) _ _ _ (by omega) (loI_y (by omega) hj9 (Int32.not_lt.mp c_76)) g (lv_sub hl [6, 7, 3, 1, 2, 0] rfl)
  have zz1 : cmL F 1 (n - n) n 0 = 0 := by rw [Nat.sub_self]; rfl
  have zz2 : msL F (suH h) (n - n) n 0 = 0 := by rw [Nat.sub_self]; rfl
  have g := g.perm (pm2 _ _ _ )
  refine W.widen (k := n - n) (n := 4 * (n - n)) (by omega) (by omega) ?_
  exact loop16 n (-1) _ _ _ (Nat.le_refl _) (Or.inl ⟨rfl, rfl⟩) g (lv_sub hl [4, 5, 3, 2, 1, 0] (by rw [zz1, zz2]; rfl))
