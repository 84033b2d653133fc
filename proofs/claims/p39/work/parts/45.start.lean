set_option maxHeartbeats 8000000 in
set_option maxRecDepth 100000 in
theorem whole_start {p : Program} {e : Env} {s : State} {m : MethodId} {below : List Frame} {meth : Method} {c : Code} (l : Launch) (hflags : l.flags = flags0) {b L : Nat} {xs : Nat → Int32} (hL : L ≤ 260) (C0 : lw_At p s m meth c b L xs) : W p l e room_1 s m #[Value.ref b] below meth c s.heap [] 0 0 (lw_Z below #[Value.ref b] s) (entryFrame m ([Value.ref b] : List Value).toArray 36) := by
  obtain ⟨hx, hb, hr, hml, hown, hts0, hX, hbl, hlocks, hgv⟩ := id C0
  have hts : ∀ w ∈ lw_all, w.before #[Value.ref b] s = true := fun w h => hts0 w (lw_all_tbl h)
  have hE : EnvN s := ⟨fun w hw => va_Nw.of (nest_tab (lw_nest_ok w hw)) (hts0 w (List.mem_append_right _ (lw_nest_tbl w hw))), va_AO.of (hts0 _ (List.mem_append_right _ qt27))⟩
  obtain ⟨x0, iS0, hKn0⟩ := u_known (C := RX0) (T := TX0) (N := 8) (n := 8) hts iX0 (hts _ q21)
  obtain ⟨x1, iS1, hKn1⟩ := u_known (C := RX1) (T := TX1) (N := 6) (n := 6) hts iX1 (hts _ q28)
  obtain ⟨x2, iS2, hKn2⟩ := u_known (C := RX2) (T := TX2) (N := 2) (n := 2) hts iX2 (hts _ q13)
  obtain ⟨x3, iS3, hKn3⟩ := u_known (C := RX3) (T := TX3) (N := 7) (n := 7) hts iX3 (hts _ q427)
  obtain ⟨D, hKc⟩ : ∃ D : va_G, ∀ (k : Nat) (q : vw_C), vwCl[k]? = some q → u_Kn s q.1 q.2.1 q.2.2 (D.1 k) (D.2 k) := by
    refine ⟨(fun k => if k = 0 then x0 else if k = 1 then x1 else if k = 2 then x2 else x3, fun k => if k = 0 then iS0 else if k = 1 then iS1 else if k = 2 then iS2 else iS3), ?_⟩
    intro k q hq
    match k, hq with
    | 0, hq => cases hq; exact hKn0
    | 1, hq => cases hq; exact hKn1
    | 2, hq => cases hq; exact hKn2
    | 3, hq => cases hq; exact hKn3
    | k + 4, hq => simp [vwCl] at hq
  clear hKn0 hKn1 hKn2 hKn3
  have hA : ∀ q : Nat, s.heap.size ≤ q → (fun q : Nat => s.heap.size ≤ q) q := fun _ h => h
  have hS : va_S (fun q : Nat => s.heap.size ≤ q) s.heap s.heap [] := va_S.rf
  have hK : va_K D vwCl [] s := ⟨hKc, fun k q h => by simp at h⟩
  have hP : va_P D vwCl [] s.heap := fun k q h => by simp at h
  have hD : va_D (fun q : Nat => s.heap.size ≤ q) [] := ⟨fun i j p q h => by simp at h, fun k q h => by simp at h⟩
  generalize hAe : (fun q : Nat => s.heap.size ≤ q) = A at hA hS hD
  have hl := lv_entry ([.ref b]) (n := 36) (Nat.le_of_ble_eq_true rfl)
  rw [lg_entry_eq]
  generalize (lg_sl ([.ref b]) ++ List.replicate (36 - (lg_sl ([.ref b])).length) Slot.unset).toArray = ls at hl ⊢
  have hl : lv_has ls 36 [(0, .ref b)] := hl
  refine va_new (ci := 2) (fs := [.null, .null]) (C := RX2) (T := TX2) (N := 2) hx hb hts iX2 tyX2 tyX2_ok hown (hts _ q12) (hts _ q13) (hts _ q1) hK hP hD hS hA rfl (fun j hj => by rcases (show j = 0 ∨ j = 1 by omega) with rfl | rfl <;> rfl) (Nat.le_of_ble_eq_true rfl) (Nat.le_of_ble_eq_true rfl) dL_law_0 (fun q0 H hP hD hS => ?_)
  have hP : va_P D vwCl [(q0, .inr (2, [.null, .null]))] H := hP
  have hD : va_D A [(q0, .inr (2, [.null, .null]))] := hD
  refine W.widen (k := 1) (n := 2) (by omega) (by omega) ?_
  refine lv_dup hx hb dL_law_3 rfl ?_
  have hPc := hP.sub (ws' := [(q0, .inr (2, [.null, .null]))]) [0] rfl
  have hDc := hD.sub (ws' := [(q0, .inr (2, [.null, .null]))]) [0] (by decide) rfl
  have hKc := hK.sub (tys' := []) [] rfl
  have hFc := va_free (wc := [(q0, .inr (2, [.null, .null]))]) hD hS hA [0] rfl
  refine va_callv (va_runI (As := []) (rest := [.ref q0]) ⟨hx, hb, hml, hown, hts⟩ (c_X2i l D q0 H.size) (cwI 0 hts (lw_C q16) rfl rfl rfl (hts _ q1) (hts _ q14) (hts _ q15) rfl ⟨by decide +kernel, by decide +kernel, by decide +kernel⟩ ⟨Nat.le_of_ble_eq_true rfl, Nat.le_of_ble_eq_true rfl⟩) ⟨fun a9 U g mk q => by obtain ⟨q0, q1, qP, qK, qD, qE⟩ := q; exact ⟨q0, q1, qP, va_K.moved (u := U) (U := U.calling g mk a9) (Vm.Alike.refl U.vm) qK, qD, EnvN.same (u := U) (U := U.calling g mk a9) rfl qE⟩, fun U hU hW => ⟨rfl, by rw [hU], by rw [hU]; exact hPc, va_K.moved hW.alike hKc, hDc.weaken (fun _ _ _ _ => trivial), EnvN.warm hW hE⟩⟩ rfl rfl hl.1 rfl (lv_room (Nat.le_of_ble_eq_true rfl)) dL_law_4 ⟨Nat.le_of_ble_eq_true rfl, Nat.le_of_ble_eq_true rfl⟩) hS (fun q _ h => hFc q h) hFc (fun u t H1 locs ht hvm hw hB hz1 hk1 hS => ?_)
  obtain ⟨hP1, hK1, hD1⟩ := hB
  rw [ht] at hP1
  have hK1 := va_K.moved hvm.symm hK1
  obtain ⟨n1, ⟨r1, k1, f1, w1⟩, n2, ⟨r2, k2, f2, w2⟩⟩ := u
  obtain ⟨hP, hD⟩ := va_join (wr := []) (w1 := [(q0, .inr (2, [.ref n1, .ref n2])), (n1, .inr (0, [.int 0, .int 100, .int 2, .int 30, .int 0, .int 0, .int 0, .ref r1])), (r1, .inl (k1, 8, .inr (.inr (.inr (.inr f1))))), (w1 0, .inr (1, [.int 0, .int 0, .int 0, .int 0, .int 0, .int 0])), (w1 1, .inr (1, [.int 0, .int 0, .int 0, .int 0, .int 0, .int 0])), (w1 2, .inr (1, [.int 0, .int 0, .int 0, .int 0, .int 0, .int 0])), (w1 3, .inr (1, [.int 0, .int 0, .int 0, .int 0, .int 0, .int 0])), (w1 4, .inr (1, [.int 0, .int 0, .int 0, .int 0, .int 0, .int 0])), (w1 5, .inr (1, [.int 0, .int 0, .int 0, .int 0, .int 0, .int 0])), (w1 6, .inr (1, [.int 0, .int 0, .int 0, .int 0, .int 0, .int 0])), (w1 7, .inr (1, [.int 0, .int 0, .int 0, .int 0, .int 0, .int 0])), (n2, .inr (0, [.int 0, .int 100, .int 2, .int 30, .int 0, .int 0, .int 0, .ref r2])), (r2, .inl (k2, 8, .inr (.inr (.inr (.inr f2))))), (w2 0, .inr (1, [.int 0, .int 0, .int 0, .int 0, .int 0, .int 0])), (w2 1, .inr (1, [.int 0, .int 0, .int 0, .int 0, .int 0, .int 0])), (w2 2, .inr (1, [.int 0, .int 0, .int 0, .int 0, .int 0, .int 0])), (w2 3, .inr (1, [.int 0, .int 0, .int 0, .int 0, .int 0, .int 0])), (w2 4, .inr (1, [.int 0, .int 0, .int 0, .int 0, .int 0, .int 0])), (w2 5, .inr (1, [.int 0, .int 0, .int 0, .int 0, .int 0, .int 0])), (w2 6, .inr (1, [.int 0, .int 0, .int 0, .int 0, .int 0, .int 0])), (w2 7, .inr (1, [.int 0, .int 0, .int 0, .int 0, .int 0, .int 0]))]) hP hD [0] [] rfl rfl (by decide) (by decide) hk1 hFc hP1 hD1
  generalize H1 = H at hP hS ⊢
  have hP : va_P D vwCl [(q0, .inr (2, [.ref n1, .ref n2])), (n1, .inr (0, [.int 0, .int 100, .int 2, .int 30, .int 0, .int 0, .int 0, .ref r1])), (r1, .inl (k1, 8, .inr (.inr (.inr (.inr f1))))), (w1 0, .inr (1, [.int 0, .int 0, .int 0, .int 0, .int 0, .int 0])), (w1 1, .inr (1, [.int 0, .int 0, .int 0, .int 0, .int 0, .int 0])), (w1 2, .inr (1, [.int 0, .int 0, .int 0, .int 0, .int 0, .int 0])), (w1 3, .inr (1, [.int 0, .int 0, .int 0, .int 0, .int 0, .int 0])), (w1 4, .inr (1, [.int 0, .int 0, .int 0, .int 0, .int 0, .int 0])), (w1 5, .inr (1, [.int 0, .int 0, .int 0, .int 0, .int 0, .int 0])), (w1 6, .inr (1, [.int 0, .int 0, .int 0, .int 0, .int 0, .int 0])), (w1 7, .inr (1, [.int 0, .int 0, .int 0, .int 0, .int 0, .int 0])), (n2, .inr (0, [.int 0, .int 100, .int 2, .int 30, .int 0, .int 0, .int 0, .ref r2])), (r2, .inl (k2, 8, .inr (.inr (.inr (.inr f2))))), (w2 0, .inr (1, [.int 0, .int 0, .int 0, .int 0, .int 0, .int 0])), (w2 1, .inr (1, [.int 0, .int 0, .int 0, .int 0, .int 0, .int 0])), (w2 2, .inr (1, [.int 0, .int 0, .int 0, .int 0, .int 0, .int 0])), (w2 3, .inr (1, [.int 0, .int 0, .int 0, .int 0, .int 0, .int 0])), (w2 4, .inr (1, [.int 0, .int 0, .int 0, .int 0, .int 0, .int 0])), (w2 5, .inr (1, [.int 0, .int 0, .int 0, .int 0, .int 0, .int 0])), (w2 6, .inr (1, [.int 0, .int 0, .int 0, .int 0, .int 0, .int 0])), (w2 7, .inr (1, [.int 0, .int 0, .int 0, .int 0, .int 0, .int 0]))] H := hP
  have hD : va_D A [(q0, .inr (2, [.ref n1, .ref n2])), (n1, .inr (0, [.int 0, .int 100, .int 2, .int 30, .int 0, .int 0, .int 0, .ref r1])), (r1, .inl (k1, 8, .inr (.inr (.inr (.inr f1))))), (w1 0, .inr (1, [.int 0, .int 0, .int 0, .int 0, .int 0, .int 0])), (w1 1, .inr (1, [.int 0, .int 0, .int 0, .int 0, .int 0, .int 0])), (w1 2, .inr (1, [.int 0, .int 0, .int 0, .int 0, .int 0, .int 0])), (w1 3, .inr (1, [.int 0, .int 0, .int 0, .int 0, .int 0, .int 0])), (w1 4, .inr (1, [.int 0, .int 0, .int 0, .int 0, .int 0, .int 0])), (w1 5, .inr (1, [.int 0, .int 0, .int 0, .int 0, .int 0, .int 0])), (w1 6, .inr (1, [.int 0, .int 0, .int 0, .int 0, .int 0, .int 0])), (w1 7, .inr (1, [.int 0, .int 0, .int 0, .int 0, .int 0, .int 0])), (n2, .inr (0, [.int 0, .int 100, .int 2, .int 30, .int 0, .int 0, .int 0, .ref r2])), (r2, .inl (k2, 8, .inr (.inr (.inr (.inr f2))))), (w2 0, .inr (1, [.int 0, .int 0, .int 0, .int 0, .int 0, .int 0])), (w2 1, .inr (1, [.int 0, .int 0, .int 0, .int 0, .int 0, .int 0])), (w2 2, .inr (1, [.int 0, .int 0, .int 0, .int 0, .int 0, .int 0])), (w2 3, .inr (1, [.int 0, .int 0, .int 0, .int 0, .int 0, .int 0])), (w2 4, .inr (1, [.int 0, .int 0, .int 0, .int 0, .int 0, .int 0])), (w2 5, .inr (1, [.int 0, .int 0, .int 0, .int 0, .int 0, .int 0])), (w2 6, .inr (1, [.int 0, .int 0, .int 0, .int 0, .int 0, .int 0])), (w2 7, .inr (1, [.int 0, .int 0, .int 0, .int 0, .int 0, .int 0]))] := hD
  have hK := hK.app hK1
  have hK : va_K D vwCl [(k1, .object "ShadowPool$Walker"), (k2, .object "ShadowPool$Walker")] s := hK
  refine W.widen (k := 21) (n := 130) (by omega) (by omega) ?_
  obtain ⟨hf1, hf2⟩ := hw
  refine lv_astore_n (lv' := [(1, .ref q0), (0, .ref b)]) hx hb dL_law_7 rfl hl (by decide) rfl (fun ls hl => ?_)
  subst hAe
  obtain ⟨cls, adr, a0, g⟩ := asm_start hts0 hgv hf1 hf2 hK hP hD hS
  have hfl : l.stackTraces = false := by
    unfold Launch.stackTraces; rw [hflags]; decide
  have S : CallFix p m c cL_law 36 s #[Value.ref b] lw_all "ShadowPoolLaw" := ⟨hx, hb, hml, hown, fun w hw => hts0 w (lw_all_tbl hw)⟩
  have hbA : ¬ (fun q => s.heap.size ≤ q) b := by show ¬ s.heap.size ≤ b; omega
  have rc : room_1.cells = 1112399 := rfl
  have rs : room_1.slots = 5764272 := rfl
  have hl : lv_has ls 36 [(0, .ref b), (1, .ref (gA (D, cls, adr) 0))] := by
    show lv_has ls 36 [(0, .ref b), (1, .ref (adr 0))]
    rw [a0]
    exact lv_sub hl [1, 0] rfl
  refine seg_S hfl S hX hbl hbA F00 fz_start in_start g hl (by omega) (by omega) (fun A F n h H locs ls hI hh g hl => ?_)
  exact W.widen (k := 8183 + 3173 * 0) (n := 32777 + 13149 * 0) (by omega) (by omega) (law_time hfl C0 8 0 A F n h H locs ls (by omega) hI (by omega) g hl)
