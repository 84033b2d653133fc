/-! THE LAW'S LOOP -/
theorem le4 {L i : Nat} (hL : L ≤ 2048) (hi : i ≤ 4096) (h : ¬ Int32.ofNat L - 4 < nI i) : i + 4 ≤ L := by
  by_cases h4 : 4 ≤ L
  · obtain ⟨q, rfl⟩ : ∃ q, L = q + 4 := ⟨L - 4, by omega⟩
    have e : Int32.ofNat (q + 4) - 4 = nI q := by
      show nI (q + 4) - nI 4 = nI q
      rw [← nI_add]
      exact Int32.add_sub_cancel _ _
    rw [e, nI_ltI (by omega) (by omega)] at h
    omega
  · refine absurd ?_ h
    have h0 : (0 : Int32) ≤ nI i := Int32.not_lt.mp (nI_pos (by omega))
    have key : ∀ L, L < 4 → Int32.ofNat L - 4 < 0 := by decide +kernel
    exact Int32.lt_of_lt_of_le (key L (by omega)) h0
set_option maxHeartbeats 4000000 in
set_option maxRecDepth 100000 in
/-- one step of the loop, from the switch on -/
theorem law_step {p : Program} {l : Launch} {e : Env} {s : State} {m : MethodId} {args : Array Value} {below : List Frame} {meth : Method} {c : Code} {cells slots : Nat} {Q : State → Prop} {G : gT} {b L i : Nat} {xs : Nat → Int32} (hfl : l.stackTraces = false) (S : CallFix p m c cL_law 9 s args lw_all "ShadowPoolLaw") (hX : va_X b L xs s s.heap) (hbl : b < s.heap.size) (hbA : ¬ GA G s.heap.size b) (hL : L ≤ 2048) (hiL : i + 4 ≤ L) {F : Fs} {n h : Nat} {o : Int64} {H : Heap} {locs : List Loc} {ls : Array Slot} (I : InvL F n h) (hh : h ≤ 30720) (g : GB G F o [] [] s H locs) (hl : lv_has ls 9 (lwL G b i)) (hc : cells + 9 ≤ room_1.cells ∧ slots + 76 ≤ room_1.slots) (kk : KKc p l e s m args below meth c cells slots Q G b i h) : W p l e room_1 s m args below meth c H locs cells slots Q (F0 m 32 ls []) := by
  have hx := S.1
  have hb := S.2.1
  refine lv_aload_n hx hb dL_law_32 rfl (lv_at hl 0 rfl) ?_
  refine lv_iload hx hb dL_law_33 (lv_at hl 4 rfl) ?_
  refine g_scr (j := i) S g hX hbl hbA rfl (by omega) hL rfl dL_law_35 ?_
  refine lv_bipush (v := 63) hx hb dL_law_36 (by decide) ?_
  refine lv_iand hx hb dL_law_38 ?_
  obtain ⟨d, hd, ed⟩ := pk_andE (xs i) (m := 63) 6 (by decide)
  rw [ed]
  by_cases h_0 : d = 0
  · subst h_0
    exact lv_tableIn (tgt := 196) (off := 157) hx hb dL_law_39 (by decide) (by decide) rfl (by decide) (case_0 hfl S hX hbl hbA hL hiL I hh g hl hc kk)
  by_cases h_1 : d = 1
  · subst h_1
    exact lv_tableIn (tgt := 276) (off := 237) hx hb dL_law_39 (by decide) (by decide) rfl (by decide) (case_1 hfl S hX hbl hbA hL hiL I hh g hl hc kk)
  by_cases h_2 : d = 2
  · subst h_2
    exact lv_tableIn (tgt := 339) (off := 300) hx hb dL_law_39 (by decide) (by decide) rfl (by decide) (case_2 hfl S hX hbl hbA hL hiL I hh g hl hc kk)
  by_cases h_3 : d = 3
  · subst h_3
    exact lv_tableIn (tgt := 407) (off := 368) hx hb dL_law_39 (by decide) (by decide) rfl (by decide) (case_3 hfl S hX hbl hbA hL hiL I hh g hl hc kk)
  by_cases h_4 : d = 4
  · subst h_4
    exact lv_tableIn (tgt := 463) (off := 424) hx hb dL_law_39 (by decide) (by decide) rfl (by decide) (case_4 hfl S hX hbl hbA hL hiL I hh g hl hc kk)
  by_cases h_5 : d = 5
  · subst h_5
    exact lv_tableIn (tgt := 519) (off := 480) hx hb dL_law_39 (by decide) (by decide) rfl (by decide) (case_5 hfl S hX hbl hbA hL hiL I hh g hl hc kk)
  by_cases h_6 : d = 6
  · subst h_6
    exact lv_tableIn (tgt := 587) (off := 548) hx hb dL_law_39 (by decide) (by decide) rfl (by decide) (case_6 hfl S hX hbl hbA hL hiL I hh g hl hc kk)
  by_cases h_7 : d = 7
  · subst h_7
    exact lv_tableIn (tgt := 643) (off := 604) hx hb dL_law_39 (by decide) (by decide) rfl (by decide) (case_7 hfl S hX hbl hbA hL hiL I hh g hl hc kk)
  by_cases h_8 : d = 8
  · subst h_8
    exact lv_tableIn (tgt := 656) (off := 617) hx hb dL_law_39 (by decide) (by decide) rfl (by decide) (case_8 hfl S hX hbl hbA hL hiL I hh g hl hc kk)
  by_cases h_9 : d = 9
  · subst h_9
    exact lv_tableIn (tgt := 669) (off := 630) hx hb dL_law_39 (by decide) (by decide) rfl (by decide) (case_9 hfl S hX hbl hbA hL hiL I hh g hl hc kk)
  by_cases h_10 : d = 10
  · subst h_10
    exact lv_tableIn (tgt := 682) (off := 643) hx hb dL_law_39 (by decide) (by decide) rfl (by decide) (case_10 hfl S hX hbl hbA hL hiL I hh g hl hc kk)
  by_cases h_11 : d = 11
  · subst h_11
    exact lv_tableIn (tgt := 695) (off := 656) hx hb dL_law_39 (by decide) (by decide) rfl (by decide) (case_11 hfl S hX hbl hbA hL hiL I hh g hl hc kk)
  by_cases h_12 : d = 12
  · subst h_12
    exact lv_tableIn (tgt := 708) (off := 669) hx hb dL_law_39 (by decide) (by decide) rfl (by decide) (case_12 hfl S hX hbl hbA hL hiL I hh g hl hc kk)
  by_cases h_13 : d = 13
  · subst h_13
    exact lv_tableIn (tgt := 721) (off := 682) hx hb dL_law_39 (by decide) (by decide) rfl (by decide) (case_13 hfl S hX hbl hbA hL hiL I hh g hl hc kk)
  by_cases h_14 : d = 14
  · subst h_14
    exact lv_tableIn (tgt := 784) (off := 745) hx hb dL_law_39 (by decide) (by decide) rfl (by decide) (case_14 hfl S hX hbl hbA hL hiL I hh g hl hc kk)
  by_cases h_15 : d = 15
  · subst h_15
    exact lv_tableIn (tgt := 840) (off := 801) hx hb dL_law_39 (by decide) (by decide) rfl (by decide) (case_15 hfl S hX hbl hbA hL hiL I hh g hl hc kk)
  by_cases h_16 : d = 16
  · subst h_16
    exact lv_tableIn (tgt := 896) (off := 857) hx hb dL_law_39 (by decide) (by decide) rfl (by decide) (case_16 hfl S hX hbl hbA hL hiL I hh g hl hc kk)
  by_cases h_17 : d = 17
  · subst h_17
    exact lv_tableIn (tgt := 952) (off := 913) hx hb dL_law_39 (by decide) (by decide) rfl (by decide) (case_17 hfl S hX hbl hbA hL hiL I hh g hl hc kk)
  by_cases h_18 : d = 18
  · subst h_18
    exact lv_tableIn (tgt := 1008) (off := 969) hx hb dL_law_39 (by decide) (by decide) rfl (by decide) (case_18 hfl S hX hbl hbA hL hiL I hh g hl hc kk)
  by_cases h_19 : d = 19
  · subst h_19
    exact lv_tableIn (tgt := 1021) (off := 982) hx hb dL_law_39 (by decide) (by decide) rfl (by decide) (case_19 hfl S hX hbl hbA hL hiL I hh g hl hc kk)
  by_cases h_20 : d = 20
  · subst h_20
    exact lv_tableIn (tgt := 1077) (off := 1038) hx hb dL_law_39 (by decide) (by decide) rfl (by decide) (case_20 hfl S hX hbl hbA hL hiL I hh g hl hc kk)
  by_cases h_21 : d = 21
  · subst h_21
    exact lv_tableIn (tgt := 1133) (off := 1094) hx hb dL_law_39 (by decide) (by decide) rfl (by decide) (case_21 hfl S hX hbl hbA hL hiL I hh g hl hc kk)
  by_cases h_22 : d = 22
  · subst h_22
    exact lv_tableIn (tgt := 1189) (off := 1150) hx hb dL_law_39 (by decide) (by decide) rfl (by decide) (case_22 hfl S hX hbl hbA hL hiL I hh g hl hc kk)
  by_cases h_23 : d = 23
  · subst h_23
    exact lv_tableIn (tgt := 1245) (off := 1206) hx hb dL_law_39 (by decide) (by decide) rfl (by decide) (case_23 hfl S hX hbl hbA hL hiL I hh g hl hc kk)
  by_cases h_24 : d = 24
  · subst h_24
    exact lv_tableIn (tgt := 1258) (off := 1219) hx hb dL_law_39 (by decide) (by decide) rfl (by decide) (case_24 hfl S hX hbl hbA hL hiL I hh g hl hc kk)
  by_cases h_25 : d = 25
  · subst h_25
    exact lv_tableIn (tgt := 1271) (off := 1232) hx hb dL_law_39 (by decide) (by decide) rfl (by decide) (case_25 hfl S hX hbl hbA hL hiL I hh g hl hc kk)
  by_cases h_26 : d = 26
  · subst h_26
    exact lv_tableIn (tgt := 1284) (off := 1245) hx hb dL_law_39 (by decide) (by decide) rfl (by decide) (case_26 hfl S hX hbl hbA hL hiL I hh g hl hc kk)
  by_cases h_27 : d = 27
  · subst h_27
    exact lv_tableIn (tgt := 1297) (off := 1258) hx hb dL_law_39 (by decide) (by decide) rfl (by decide) (case_27 hfl S hX hbl hbA hL hiL I hh g hl hc kk)
  by_cases h_28 : d = 28
  · subst h_28
    exact lv_tableIn (tgt := 1310) (off := 1271) hx hb dL_law_39 (by decide) (by decide) rfl (by decide) (case_28 hfl S hX hbl hbA hL hiL I hh g hl hc kk)
  by_cases h_29 : d = 29
  · subst h_29
    exact lv_tableIn (tgt := 1366) (off := 1327) hx hb dL_law_39 (by decide) (by decide) rfl (by decide) (case_29 hfl S hX hbl hbA hL hiL I hh g hl hc kk)
  by_cases h_30 : d = 30
  · subst h_30
    exact lv_tableIn (tgt := 1379) (off := 1340) hx hb dL_law_39 (by decide) (by decide) rfl (by decide) (case_30 hfl S hX hbl hbA hL hiL I hh g hl hc kk)
  by_cases h_31 : d = 31
  · subst h_31
    exact lv_tableIn (tgt := 1435) (off := 1396) hx hb dL_law_39 (by decide) (by decide) rfl (by decide) (case_31 hfl S hX hbl hbA hL hiL I hh g hl hc kk)
  by_cases h_32 : d = 32
  · subst h_32
    exact lv_tableIn (tgt := 1448) (off := 1409) hx hb dL_law_39 (by decide) (by decide) rfl (by decide) (case_32 hfl S hX hbl hbA hL hiL I hh g hl hc kk)
  by_cases h_33 : d = 33
  · subst h_33
    exact lv_tableIn (tgt := 1461) (off := 1422) hx hb dL_law_39 (by decide) (by decide) rfl (by decide) (case_33 hfl S hX hbl hbA hL hiL I hh g hl hc kk)
  by_cases h_34 : d = 34
  · subst h_34
    exact lv_tableIn (tgt := 1474) (off := 1435) hx hb dL_law_39 (by decide) (by decide) rfl (by decide) (case_34 hfl S hX hbl hbA hL hiL I hh g hl hc kk)
  by_cases h_35 : d = 35
  · subst h_35
    exact lv_tableIn (tgt := 1515) (off := 1476) hx hb dL_law_39 (by decide) (by decide) rfl (by decide) (case_35 hfl S hX hbl hbA hL hiL I hh g hl hc kk)
  refine lv_tableOut (tgt := 1529) hx hb dL_law_39 (Or.inr ?_) (by decide) ?_
  · rw [nI_toInt (by omega)]; omega
  · exact W.widen (k := cells + 9) (n := slots + 76) (by omega) (by omega) (kk _ _ _ _ _ _ _ I (by omega) g hl)
set_option maxHeartbeats 4000000 in
set_option maxRecDepth 100000 in
theorem law_loop {p : Program} {l : Launch} {e : Env} {s : State} {m : MethodId} {below : List Frame} {meth : Method} {c : Code} {G : gT} {b L : Nat} {xs : Nat → Int32} (hfl : l.stackTraces = false) (hL : L ≤ 2048) (C0 : lw_At p s m meth c b L xs) (hA : ∀ k, k < 28 → s.heap.size ≤ gA G k) :
    ∀ (fuel q : Nat) (F : Fs) (n h : Nat) (o : Int64) (H : Heap) (locs : List Loc) (ls : Array Slot), 4 * q ≤ L + 3 → L + 4 ≤ 4 * q + 4 * fuel → InvL F n h → h ≤ 60 * q → GB G F o [] [] s H locs → lv_has ls 9 (lwL G b (4 * q)) → W p l e room_1 s m #[Value.ref b] below meth c H locs (28 + 9 * q) (221 + 76 * q) (lw_Z below #[Value.ref b] s) (F0 m 23 ls []) := by
  obtain ⟨hx, hb, hr, hml, hown, hts, hX, hbl, hlocks, hgv⟩ := C0
  have S : CallFix p m c cL_law 9 s #[Value.ref b] lw_all "ShadowPoolLaw" := ⟨hx, hb, hml, hown, fun w hw => hts w (lw_all_tbl hw)⟩
  have hbA : ¬ GA G s.heap.size b := by
    rintro (⟨k, hk, e⟩ | h9)
    · have := hA k hk; omega
    · omega
  have rc : room_1.cells = 601024 := rfl
  have rs : room_1.slots = 7293034 := rfl
  intro fuel
  induction fuel with
  | zero => intro q F n h o H locs ls h1 h2; omega
  | succ fuel ih =>
    intro q F n h o H locs ls h1 h2 I hh g hl
    refine lv_iload hx hb dL_law_23 (lv_at hl 4 rfl) ?_
    refine lv_aload_n hx hb dL_law_25 rfl (lv_at hl 0 rfl) ?_
    refine va_slen hx hb hX hbl hbA g.2.2.2.1 dL_law_26 ?_
    refine lv_iconst (v := 4) hx hb dL_law_27 (by decide) ?_
    refine lv_isub hx hb dL_law_28 ?_
    refine lv_icmp_gt (tgt := 1535) hx hb dL_law_29 (by decide) (fun _ => ?_) (fun hc => ?_)
    · refine lv_iconst (v := 1) hx hb dL_law_1535 (by decide) ?_
      refine va_forget (fun q hq => ?_) ?_
      · rcases g.2.2.2.1.2.2 q hq with ⟨k, hk, e⟩ | h9
        · rw [e]; exact hA k hk
        · exact h9
      · refine W.widen (k := 601024) (n := 7293034) (by omega) (by omega) ?_
        refine W.base ?_
        exact lw_ret (Drawn.sameBut.refl s.drawn lw_cs) hx hb hr hlocks dL_law_1536
    · have hi := le4 hL (by omega) hc
      refine law_step hfl S hX hbl hbA hL hi I (by omega) g hl ⟨by omega, by omega⟩ ?_
      intro F2 n2 h2 o2 H2 locs2 ls2 I2 hh2 g2 hl2
      refine lv_iinc (v := nI (4 * (q + 1))) (lv' := [(4, .int (nI (4 * (q + 1)))), (0, .ref b), (1, .ref (gA G 0)), (2, .ref (gA G 21)), (3, .ref (gA G 27))]) hx hb dL_law_1529 hl2 (k := 4) rfl (nI_add (4 * q) 4) (by decide) rfl (fun ls hl => ?_)
      refine lv_goto (tgt := 23) hx hb dL_law_1532 (by decide) ?_
      refine W.widen (k := 28 + 9 * (q + 1)) (n := 221 + 76 * (q + 1)) (by omega) (by omega) ?_
      exact ih (q + 1) F2 n2 h2 o2 H2 locs2 ls (by omega) (by omega) I2 (by omega) g2 (lv_sub hl [1, 2, 3, 4, 0] rfl)
