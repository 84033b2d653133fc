/-! EACH CASE KEEPS WHAT HOLDS AT THE LOOP'S HEAD -/
theorem walker_or (x : Int32) {n : Nat} (hn8 : n ≤ 8) : (∃ j, j < n ∧ x = nI j) ∨ (x < 0 ∨ nI n ≤ x) := by
  by_cases h0 : x < 0
  · exact Or.inr (Or.inl h0)
  · obtain ⟨j, hj, rfl⟩ := nI_of h0
    by_cases hjn : j < n
    · exact Or.inl ⟨j, hjn, rfl⟩
    · exact Or.inr (Or.inr (nI_le (by omega) hj))
theorem inR_1 {x HI : Int32} {hi : Nat} (hHI : HI = nI hi) (hi2 : hi < 2 ^ 31) (h : ¬ inR x 1 HI = 0) : ∃ t, 1 ≤ t ∧ t ≤ hi ∧ x = nI t := by
  subst hHI
  unfold inR at h
  by_cases h1 : x < 1
  · rw [if_pos h1] at h; exact absurd rfl h
  · rw [if_neg h1] at h
    by_cases h2 : nI hi < x
    · rw [if_pos h2] at h; exact absurd rfl h
    · obtain ⟨t, ht, rfl⟩ := nI_of (x := x) (fun q => h1 (Int32.lt_trans q (by decide)))
      refine ⟨t, ?_, ?_, rfl⟩
      · by_cases h3 : 1 ≤ t
        · exact h3
        · exact absurd (nI_lt (a := t) (b := 1) (by omega) (by decide)) h1
      · by_cases h3 : t ≤ hi
        · exact h3
        · exact absurd (nI_lt (a := hi) (b := t) (by omega) ht) h2
theorem mem_l {P : Prop} [Decidable P] : (if P then (0 : Int32) else 1) = 0 → (if P then (0 : Int64) else 1) = 0 := by
  by_cases h : P
  · simp [h]
  · simp [h]
theorem mem_l1 {P : Prop} [Decidable P] : ¬ (if P then (0 : Int32) else 1) = 0 → (if P then (0 : Int64) else 1) = 1 := by
  by_cases h : P
  · simp [h]
  · simp [h]
theorem mem_n {P : Prop} [Decidable P] : (if P then (1 : Int32) else 0) = 0 → (if P then (1 : Int64) else 0) = 0 := by
  by_cases h : P
  · simp [h]
  · simp [h]
theorem mem_n1 {P : Prop} [Decidable P] : ¬ (if P then (1 : Int32) else 0) = 0 → (if P then (1 : Int64) else 0) = 1 := by
  by_cases h : P
  · simp [h]
  · simp [h]
theorem th_inv {F : Fs} {n h : Nat} (I : InvL F n h) (v : Int32) : InvL (th0 F v) n h := I.same (ls_up (Nat.le_refl _)).sc (sm_th F v)
theorem inv_ch {F F1 F2 : Fs} {n h : Nat} (I : InvL F n h) (c1 : SameC F F1) (h1 : HighS F F1) (c2 : LowS F1 F2) (m2 : SameM F1 F2) : InvL F2 n h := I.same (c1.tr c2.sc) (h1.sm.tr m2)
theorem fl_lt {F : Fs} {n h : Nat} (I : InvL F n h) (hh : h ≤ 30720) : ∀ j, j < n → ∃ f, f < 2 ^ 30 ∧ F 25 (21 + j) = nI f := fun j hj => by
  obtain ⟨f, f1, f2⟩ := I.2.2.2.2.2 j hj
  exact ⟨f, by omega, f2⟩
theorem rel_f1 {F F1 M : Fs} {n h : Nat} (I : InvL F n h) (h1 : HighS F F1) (m : SameM F1 M) : RelB 1 F M n h := I.2.1.sm I.1 (h1.sm.tr m)
theorem ht_eq {F : Fs} {n h : Nat} (I : InvL F n h) : ∀ j, j < n → F (wb 1 j) 0 = th0 F 0 22 j := fun j hj => (I.w hj).1.trans (up2_ne _ _ (by omega)).symm
theorem ht_in {F : Fs} {n h : Nat} (I : InvL F n h) : ∀ j, j < n → ∃ a, a ≤ 30 ∧ th0 F 0 22 j = nI a := fun j hj => by
  obtain ⟨a, a1, a2⟩ := I.2.2.2.1 j hj
  exact ⟨a, a1, (up2_ne _ _ (by omega)).trans a2⟩
theorem rel_mean {F : Fs} {n h : Nat} (I : InvL F n h) : msD F n h = tmD (th0 F 0) n h := by
  unfold msD tmD
  rw [rel_ms (M := th0 F 0) n 0 0 (fun j _ h2 => ht_eq I j (by omega))]
theorem nan_m {F : Fs} {n h : Nat} (I : InvL F n h) (h0 : ¬ nI n = 0) : vf_n64 (FP.ddiv (FP.i2d (tmL (th0 F 0) (suH h) n 0 0)) (FP.i2d (nI n))) := by
  obtain ⟨q, q1, q2⟩ := tm_nat (M := th0 F 0) (h := h) n 0 0 (fun j _ h2 => ht_in I j (by omega))
  have hn := I.1
  have q3 : tmL (th0 F 0) (suH h) n 0 0 = nI q := q2
  rw [q3]
  exact nan_ok (by omega) h0 hn
theorem nan_c {F : Fs} {n h : Nat} (I : InvL F n h) (h0 : ¬ nI n = 0) : vf_n64 (FP.ddiv (FP.i2d (msL F (suH h) n 0 0)) (FP.i2d (nI n))) := by
  rw [rel_ms (M := th0 F 0) n 0 0 (fun j _ h2 => ht_eq I j (by omega))]
  exact nan_m I h0
/-- the law's walk goes on from its loop's step, with what holds there -/
abbrev KKc (p : Program) (l : Launch) (e : Env) (s : State) (m : MethodId) (args : Array Value) (below : List Frame) (meth : Method) (c : Code) (cells slots : Nat) (Q : State → Prop) (G : gT) (b i h : Nat) : Prop := ∀ (F : Fs) (n2 h2 : Nat) (o : Int64) (H : Heap) (locs : List Loc) (ls : Array Slot), InvL F n2 h2 → h2 ≤ h + 60 → GB G F o [] [] s H locs → lv_has ls 9 (lwL G b i) → W p l e room_1 s m args below meth c H locs (cells + 9) (slots + 76) Q (F0 m 1529 ls [])
theorem hm_th (F : Fs) (w n h : Nat) : hmF (th0 F 0) w n h 21 0 = 0 := by
  unfold hmF
  rw [brF_ne _ (by decide), hmL_ne (by decide), kpF_ne _ (by decide)]
  exact up2_s _ _ _ _
theorem fd_th (F : Fs) (n h t : Nat) : fdF (kpF (th0 F 0)) n h t 21 0 = 0 := by
  unfold fdF
  rw [brF_ne _ (by decide), gmL_ne n (by omega), kpF_ne _ (by decide)]
  exact up2_s _ _ _ _
theorem am_th (F : Fs) (n : Nat) (hi sk nt : Int32) : amA F n hi sk nt 21 0 = 0 := by
  unfold amA th0
  rw [up2_ne _ _ (by omega), up2_ne _ _ (by omega), up2_ne _ _ (by omega), up2_ne _ _ (by omega), up2_ne _ _ (by omega)]
  exact up2_s _ _ _ _
theorem sc_dg (F : Fs) (n h : Nat) : SameC F (dgF F n h) := (sc_be F n h).tr (sc_fi _ n h)
theorem hs_dg {n : Nat} (hn8 : n ≤ 8) (F : Fs) (h : Nat) : HighS F (dgF F n h) := (hs_be hn8 F h).tr (hs_fi hn8 _ h)
theorem ls_dm (F : Fs) (n h : Nat) : LowS F (dmF F n h) := (ls_up (Nat.le_refl _)).tr ((ls_nm _ n h).tr ((ls_bm _ n h).tr (ls_am _ n h)))
theorem sm_dm (F : Fs) (n h : Nat) : SameM F (dmF F n h) := (sm_th F 0).tr ((nm_keep _ n h).1.tr ((bm_keep _ n h).1.tr (am_keep _ n h).1))
set_option maxHeartbeats 4000000 in
set_option maxRecDepth 100000 in
theorem case_0 {p : Program} {l : Launch} {e : Env} {s : State} {m : MethodId} {args : Array Value} {below : List Frame} {meth : Method} {c : Code} {cells slots : Nat} {Q : State → Prop} {G : gT} {b L i : Nat} {xs : Nat → Int32} (hfl : l.stackTraces = false) (S : CallFix p m c cL_law 9 s args lw_all "ShadowPoolLaw") (hX : va_X b L xs s s.heap) (hbl : b < s.heap.size) (hbA : ¬ GA G s.heap.size b) (hL : L ≤ 2048) (hiL : i + 4 ≤ L) {F : Fs} {n h : Nat} {o : Int64} {H : Heap} {locs : List Loc} {ls : Array Slot} (I : InvL F n h) (hh : h ≤ 30720) (g : GB G F o [] [] s H locs) (hl : lv_has ls 9 (lwL G b i)) (hc : cells + 9 ≤ room_1.cells ∧ slots + 76 ≤ room_1.slots) (kk : KKc p l e s m args below meth c cells slots Q G b i h) : W p l e room_1 s m args below meth c H locs cells slots Q (F0 m 196 ls []) := by
  have R := I.2.1
  have hc0 : cells ≤ room_1.cells ∧ slots ≤ room_1.slots := ⟨by omega, by omega⟩
  have hc1 : cells + 1 ≤ room_1.cells ∧ slots + 6 ≤ room_1.slots := ⟨by omega, by omega⟩
  generalize e1 : xs (i + 1) = x
  generalize e2 : xs (i + 2) = y
  generalize e3 : xs (i + 3) = z
  by_cases g1 : inR x 1 30 = 0
  · exact seg_0 S hX hbl hbA hL hiL e1 e2 e3 g hl (h_addWalker_bad l hfl G F o x y z (Or.inl g1)) ⟨Nat.le_of_ble_eq_true rfl, Nat.le_of_ble_eq_true rfl⟩ hc1 (m_addWalker_bad l G F _ x y z (Or.inl g1)) ⟨Nat.le_of_ble_eq_true rfl, Nat.le_of_ble_eq_true rfl⟩ (up2_s _ _ _ _) (fun c9 => absurd c9 (by decide)) (fun H locs ls g hl => W.widen (k := cells + 9) (n := slots + 76) (by omega) (by omega) (kk _ _ _ _ H locs ls (th_inv I 1) (by omega) g hl))
  · by_cases g2 : inR y 0 5 = 0
    · exact seg_0 S hX hbl hbA hL hiL e1 e2 e3 g hl (h_addWalker_bad l hfl G F o x y z (Or.inr (Or.inl g2))) ⟨Nat.le_of_ble_eq_true rfl, Nat.le_of_ble_eq_true rfl⟩ hc1 (m_addWalker_bad l G F _ x y z (Or.inr (Or.inl g2))) ⟨Nat.le_of_ble_eq_true rfl, Nat.le_of_ble_eq_true rfl⟩ (up2_s _ _ _ _) (fun c9 => absurd c9 (by decide)) (fun H locs ls g hl => W.widen (k := cells + 9) (n := slots + 76) (by omega) (by omega) (kk _ _ _ _ H locs ls (th_inv I 1) (by omega) g hl))
    · by_cases g3 : inR z 0 9 = 0
      · exact seg_0 S hX hbl hbA hL hiL e1 e2 e3 g hl (h_addWalker_bad l hfl G F o x y z (Or.inr (Or.inr g3))) ⟨Nat.le_of_ble_eq_true rfl, Nat.le_of_ble_eq_true rfl⟩ hc1 (m_addWalker_bad l G F _ x y z (Or.inr (Or.inr g3))) ⟨Nat.le_of_ble_eq_true rfl, Nat.le_of_ble_eq_true rfl⟩ (up2_s _ _ _ _) (fun c9 => absurd c9 (by decide)) (fun H locs ls g hl => W.widen (k := cells + 9) (n := slots + 76) (by omega) (by omega) (kk _ _ _ _ H locs ls (th_inv I 1) (by omega) g hl))
      · by_cases hn : n < 8
        · obtain ⟨a, a1, a2, a3⟩ := inR_1 (hi := 30) rfl (by decide) g1
          have e21 : entF F 1 n x y z 21 1 = nI n := (entF_ne F n x y z (by unfold wb; omega) (by omega)).trans R.2.2.2.1
          exact seg_0 S hX hbl hbA hL hiL e1 e2 e3 g hl (h_addWalker_ok l G F o x y z n R.2.2.1 hn g1 g2 g3) ⟨Nat.le_of_ble_eq_true rfl, Nat.le_of_ble_eq_true rfl⟩ hc0 (m_addWalker_ok l G (entF F 1 n x y z) _ x y z n e21 hn g1 g2 g3) ⟨Nat.le_of_ble_eq_true rfl, Nat.le_of_ble_eq_true rfl⟩ (am_th _ n x y z) (fun _ => rfl) (fun H locs ls g hl => W.widen (k := cells + 9) (n := slots + 76) (by omega) (by omega) (kk _ _ _ _ H locs ls (inv_add I hn a2 a3) (by omega) g hl))
        · have e8 : n = 8 := by have := I.1; omega
          subst e8
          exact seg_0 S hX hbl hbA hL hiL e1 e2 e3 g hl (h_addWalker_full l hfl G F o x y z R.2.2.1 g1 g2 g3) ⟨Nat.le_of_ble_eq_true rfl, Nat.le_of_ble_eq_true rfl⟩ hc1 (m_addWalker_full l G F _ x y z R.2.2.2.1 g1 g2 g3) ⟨Nat.le_of_ble_eq_true rfl, Nat.le_of_ble_eq_true rfl⟩ (up2_s _ _ _ _) (fun c9 => absurd c9 (by decide)) (fun H locs ls g hl => W.widen (k := cells + 9) (n := slots + 76) (by omega) (by omega) (kk _ _ _ _ H locs ls (th_inv I 2) (by omega) g hl))
set_option maxHeartbeats 4000000 in
set_option maxRecDepth 100000 in
theorem case_1 {p : Program} {l : Launch} {e : Env} {s : State} {m : MethodId} {args : Array Value} {below : List Frame} {meth : Method} {c : Code} {cells slots : Nat} {Q : State → Prop} {G : gT} {b L i : Nat} {xs : Nat → Int32} (hfl : l.stackTraces = false) (S : CallFix p m c cL_law 9 s args lw_all "ShadowPoolLaw") (hX : va_X b L xs s s.heap) (hbl : b < s.heap.size) (hbA : ¬ GA G s.heap.size b) (hL : L ≤ 2048) (hiL : i + 4 ≤ L) {F : Fs} {n h : Nat} {o : Int64} {H : Heap} {locs : List Loc} {ls : Array Slot} (I : InvL F n h) (hh : h ≤ 30720) (g : GB G F o [] [] s H locs) (hl : lv_has ls 9 (lwL G b i)) (hc : cells + 9 ≤ room_1.cells ∧ slots + 76 ≤ room_1.slots) (kk : KKc p l e s m args below meth c cells slots Q G b i h) : W p l e room_1 s m args below meth c H locs cells slots Q (F0 m 276 ls []) := by
  have R := I.2.1
  have hc0 : cells ≤ room_1.cells ∧ slots ≤ room_1.slots := ⟨by omega, by omega⟩
  have hc1 : cells + 1 ≤ room_1.cells ∧ slots + 6 ≤ room_1.slots := ⟨by omega, by omega⟩
  generalize e1 : xs (i + 1) = x
  rcases walker_or x I.1 with ⟨j, hj, rfl⟩ | hx
  · have h8 : wb 1 j < 21 := wb21 (Nat.lt_of_lt_of_le hj I.1)
    have e24 : up2 F (wb 1 j) 5 (if F (wb 1 j) 5 = 0 then 1 else 0) 24 j = F 24 j := up2_ne _ _ (by omega)
    have e21 : up2 F (wb 1 j) 5 (if F (wb 1 j) 5 = 0 then 1 else 0) 21 1 = nI n := (up2_ne _ _ (by omega)).trans R.2.2.2.1
    exact seg_1 S hX hbl hbA hL hiL e1 g hl (h_turnMember_ok l G F o j n R.2.2.1 hj I.1) ⟨Nat.le_of_ble_eq_true rfl, Nat.le_of_ble_eq_true rfl⟩ hc0 (m_turnMember_ok l G (up2 F (wb 1 j) 5 (if F (wb 1 j) 5 = 0 then 1 else 0)) _ j n e21 hj I.1 (by rw [e24]; exact I.m24 hj)) ⟨Nat.le_of_ble_eq_true rfl, Nat.le_of_ble_eq_true rfl⟩ ((up2_ne _ _ (by omega)).trans (up2_s _ _ _ _)) (fun _ => ⟨fun q => by rw [e24, ← (I.w hj).2.2.2.2.2] at q; exact mem_n q, fun q => by rw [e24, ← (I.w hj).2.2.2.2.2] at q; exact mem_n1 q⟩) (fun H locs ls g hl => W.widen (k := cells + 9) (n := slots + 76) (by omega) (by omega) (kk _ _ _ _ H locs ls (inv_turn I hj) (by omega) g hl))
  · exact seg_1 S hX hbl hbA hL hiL e1 g hl (h_turnMember_no l hfl G F o x n R.2.2.1 hx) ⟨Nat.le_of_ble_eq_true rfl, Nat.le_of_ble_eq_true rfl⟩ hc1 (m_turnMember_no l G F _ x n R.2.2.2.1 I.1 hx) ⟨Nat.le_of_ble_eq_true rfl, Nat.le_of_ble_eq_true rfl⟩ (up2_s _ _ _ _) (fun c9 => absurd c9 (by decide)) (fun H locs ls g hl => W.widen (k := cells + 9) (n := slots + 76) (by omega) (by omega) (kk _ _ _ _ H locs ls (th_inv I 1) (by omega) g hl))
set_option maxHeartbeats 4000000 in
set_option maxRecDepth 100000 in
theorem case_2 {p : Program} {l : Launch} {e : Env} {s : State} {m : MethodId} {args : Array Value} {below : List Frame} {meth : Method} {c : Code} {cells slots : Nat} {Q : State → Prop} {G : gT} {b L i : Nat} {xs : Nat → Int32} (hfl : l.stackTraces = false) (S : CallFix p m c cL_law 9 s args lw_all "ShadowPoolLaw") (hX : va_X b L xs s s.heap) (hbl : b < s.heap.size) (hbA : ¬ GA G s.heap.size b) (hL : L ≤ 2048) (hiL : i + 4 ≤ L) {F : Fs} {n h : Nat} {o : Int64} {H : Heap} {locs : List Loc} {ls : Array Slot} (I : InvL F n h) (hh : h ≤ 30720) (g : GB G F o [] [] s H locs) (hl : lv_has ls 9 (lwL G b i)) (hc : cells + 9 ≤ room_1.cells ∧ slots + 76 ≤ room_1.slots) (kk : KKc p l e s m args below meth c cells slots Q G b i h) : W p l e room_1 s m args below meth c H locs cells slots Q (F0 m 339 ls []) := by
  have R := I.2.1
  have hc0 : cells ≤ room_1.cells ∧ slots ≤ room_1.slots := ⟨by omega, by omega⟩
  have hc1 : cells + 1 ≤ room_1.cells ∧ slots + 6 ≤ room_1.slots := ⟨by omega, by omega⟩
  generalize e1 : xs (i + 1) = x
  generalize e2 : xs (i + 2) = y
  rcases walker_or x I.1 with ⟨j, hj, rfl⟩ | hx
  · have h8 : wb 1 j < 21 := wb21 (Nat.lt_of_lt_of_le hj I.1)
    by_cases hy : inR y 0 9 = 0
    · exact seg_2 S hX hbl hbA hL hiL e1 e2 g hl (h_setNet_net l hfl G F o j n y R.2.2.1 hj I.1 hy) ⟨Nat.le_of_ble_eq_true rfl, Nat.le_of_ble_eq_true rfl⟩ hc1 (m_setNet_net l G F _ j n y R.2.2.2.1 hj I.1 hy) ⟨Nat.le_of_ble_eq_true rfl, Nat.le_of_ble_eq_true rfl⟩ (up2_s _ _ _ _) (fun c9 => absurd c9 (by decide)) (fun H locs ls g hl => W.widen (k := cells + 9) (n := slots + 76) (by omega) (by omega) (kk _ _ _ _ H locs ls (th_inv I 2) (by omega) g hl))
    · have e21 : up2 F (wb 1 j) 2 y 21 1 = nI n := (up2_ne _ _ (by omega)).trans R.2.2.2.1
      exact seg_2 S hX hbl hbA hL hiL e1 e2 g hl (h_setNet_ok l G F o j n y R.2.2.1 hj I.1 hy) ⟨Nat.le_of_ble_eq_true rfl, Nat.le_of_ble_eq_true rfl⟩ hc0 (m_setNet_ok l G (up2 F (wb 1 j) 2 y) _ j n y e21 hj I.1 hy) ⟨Nat.le_of_ble_eq_true rfl, Nat.le_of_ble_eq_true rfl⟩ ((up2_ne _ _ (by omega)).trans (up2_s _ _ _ _)) (fun _ => congrArg Int32.toInt64 ((I.w hj).2.2.1.trans (up2_ne _ _ (by omega)).symm)) (fun H locs ls g hl => W.widen (k := cells + 9) (n := slots + 76) (by omega) (by omega) (kk _ _ _ _ H locs ls (inv_set I hj 5 (Or.inl ⟨rfl, rfl⟩)) (by omega) g hl))
  · exact seg_2 S hX hbl hbA hL hiL e1 e2 g hl (h_setNet_no l hfl G F o x n y R.2.2.1 hx) ⟨Nat.le_of_ble_eq_true rfl, Nat.le_of_ble_eq_true rfl⟩ hc1 (m_setNet_no l G F _ x n y R.2.2.2.1 I.1 hx) ⟨Nat.le_of_ble_eq_true rfl, Nat.le_of_ble_eq_true rfl⟩ (up2_s _ _ _ _) (fun c9 => absurd c9 (by decide)) (fun H locs ls g hl => W.widen (k := cells + 9) (n := slots + 76) (by omega) (by omega) (kk _ _ _ _ H locs ls (th_inv I 1) (by omega) g hl))
set_option maxHeartbeats 4000000 in
set_option maxRecDepth 100000 in
theorem case_3 {p : Program} {l : Launch} {e : Env} {s : State} {m : MethodId} {args : Array Value} {below : List Frame} {meth : Method} {c : Code} {cells slots : Nat} {Q : State → Prop} {G : gT} {b L i : Nat} {xs : Nat → Int32} (hfl : l.stackTraces = false) (S : CallFix p m c cL_law 9 s args lw_all "ShadowPoolLaw") (hX : va_X b L xs s s.heap) (hbl : b < s.heap.size) (hbA : ¬ GA G s.heap.size b) (hL : L ≤ 2048) (hiL : i + 4 ≤ L) {F : Fs} {n h : Nat} {o : Int64} {H : Heap} {locs : List Loc} {ls : Array Slot} (I : InvL F n h) (hh : h ≤ 30720) (g : GB G F o [] [] s H locs) (hl : lv_has ls 9 (lwL G b i)) (hc : cells + 9 ≤ room_1.cells ∧ slots + 76 ≤ room_1.slots) (kk : KKc p l e s m args below meth c cells slots Q G b i h) : W p l e room_1 s m args below meth c H locs cells slots Q (F0 m 407 ls []) := by
  have R := I.2.1
  have hc0 : cells ≤ room_1.cells ∧ slots ≤ room_1.slots := ⟨by omega, by omega⟩
  have hc1 : cells + 1 ≤ room_1.cells ∧ slots + 6 ≤ room_1.slots := ⟨by omega, by omega⟩
  generalize e1 : xs (i + 1) = x
  rcases walker_or x I.1 with ⟨j, hj, rfl⟩ | hx
  · have h8 : wb 1 j < 21 := wb21 (Nat.lt_of_lt_of_le hj I.1)
    have e21 : up2 F (wb 1 j) 3 0 21 1 = nI n := (up2_ne _ _ (by omega)).trans R.2.2.2.1
    exact seg_3 S hX hbl hbA hL hiL e1 g hl (h_rest_ok l G F o j n R.2.2.1 hj I.1) ⟨Nat.le_of_ble_eq_true rfl, Nat.le_of_ble_eq_true rfl⟩ hc0 (m_rest_ok l G (up2 F (wb 1 j) 3 0) _ j n e21 hj I.1) ⟨Nat.le_of_ble_eq_true rfl, Nat.le_of_ble_eq_true rfl⟩ ((up2_ne _ _ (by omega)).trans (up2_s _ _ _ _)) (fun _ => congrArg Int32.toInt64 ((I.w hj).2.2.2.1.trans (up2_ne _ _ (by omega)).symm)) (fun H locs ls g hl => W.widen (k := cells + 9) (n := slots + 76) (by omega) (by omega) (kk _ _ _ _ H locs ls (inv_set I hj 13 (Or.inr ⟨rfl, rfl⟩)) (by omega) g hl))
  · exact seg_3 S hX hbl hbA hL hiL e1 g hl (h_rest_no l hfl G F o x n R.2.2.1 hx) ⟨Nat.le_of_ble_eq_true rfl, Nat.le_of_ble_eq_true rfl⟩ hc1 (m_rest_no l G F _ x n R.2.2.2.1 I.1 hx) ⟨Nat.le_of_ble_eq_true rfl, Nat.le_of_ble_eq_true rfl⟩ (up2_s _ _ _ _) (fun c9 => absurd c9 (by decide)) (fun H locs ls g hl => W.widen (k := cells + 9) (n := slots + 76) (by omega) (by omega) (kk _ _ _ _ H locs ls (th_inv I 1) (by omega) g hl))
set_option maxHeartbeats 4000000 in
set_option maxRecDepth 100000 in
theorem case_4 {p : Program} {l : Launch} {e : Env} {s : State} {m : MethodId} {args : Array Value} {below : List Frame} {meth : Method} {c : Code} {cells slots : Nat} {Q : State → Prop} {G : gT} {b L i : Nat} {xs : Nat → Int32} (hfl : l.stackTraces = false) (S : CallFix p m c cL_law 9 s args lw_all "ShadowPoolLaw") (hX : va_X b L xs s s.heap) (hbl : b < s.heap.size) (hbA : ¬ GA G s.heap.size b) (hL : L ≤ 2048) (hiL : i + 4 ≤ L) {F : Fs} {n h : Nat} {o : Int64} {H : Heap} {locs : List Loc} {ls : Array Slot} (I : InvL F n h) (hh : h ≤ 30720) (g : GB G F o [] [] s H locs) (hl : lv_has ls 9 (lwL G b i)) (hc : cells + 9 ≤ room_1.cells ∧ slots + 76 ≤ room_1.slots) (kk : KKc p l e s m args below meth c cells slots Q G b i h) : W p l e room_1 s m args below meth c H locs cells slots Q (F0 m 463 ls []) := by
  have R := I.2.1
  have hc0 : cells ≤ room_1.cells ∧ slots ≤ room_1.slots := ⟨by omega, by omega⟩
  have hc1 : cells + 1 ≤ room_1.cells ∧ slots + 6 ≤ room_1.slots := ⟨by omega, by omega⟩
  generalize e1 : xs (i + 1) = x
  by_cases hx : inR x 0 9 = 0
  · exact seg_4 S hX hbl hbA hL hiL e1 g hl (h_setRate_no l hfl G F o x hx) ⟨Nat.le_of_ble_eq_true rfl, Nat.le_of_ble_eq_true rfl⟩ hc1 (m_setRate_no l G F _ x hx) ⟨Nat.le_of_ble_eq_true rfl, Nat.le_of_ble_eq_true rfl⟩ (up2_s _ _ _ _) (fun c9 => absurd c9 (by decide)) (fun H locs ls g hl => W.widen (k := cells + 9) (n := slots + 76) (by omega) (by omega) (kk _ _ _ _ H locs ls (th_inv I 1) (by omega) g hl))
  · exact seg_4 S hX hbl hbA hL hiL e1 g hl (h_setRate_ok l G F o x hx) ⟨Nat.le_of_ble_eq_true rfl, Nat.le_of_ble_eq_true rfl⟩ hc0 (m_setRate_ok l G (up2 F 1 2 x) _ x hx) ⟨Nat.le_of_ble_eq_true rfl, Nat.le_of_ble_eq_true rfl⟩ ((up2_ne _ _ (by omega)).trans (up2_s _ _ _ _)) (fun _ => congrArg Int32.toInt64 (R.2.2.2.2.2.1.trans (up2_ne _ _ (by omega)).symm)) (fun H locs ls g hl => W.widen (k := cells + 9) (n := slots + 76) (by omega) (by omega) (kk _ _ _ _ H locs ls (inv_rate I) (by omega) g hl))
set_option maxHeartbeats 4000000 in
set_option maxRecDepth 100000 in
theorem case_5 {p : Program} {l : Launch} {e : Env} {s : State} {m : MethodId} {args : Array Value} {below : List Frame} {meth : Method} {c : Code} {cells slots : Nat} {Q : State → Prop} {G : gT} {b L i : Nat} {xs : Nat → Int32} (hfl : l.stackTraces = false) (S : CallFix p m c cL_law 9 s args lw_all "ShadowPoolLaw") (hX : va_X b L xs s s.heap) (hbl : b < s.heap.size) (hbA : ¬ GA G s.heap.size b) (hL : L ≤ 2048) (hiL : i + 4 ≤ L) {F : Fs} {n h : Nat} {o : Int64} {H : Heap} {locs : List Loc} {ls : Array Slot} (I : InvL F n h) (hh : h ≤ 30720) (g : GB G F o [] [] s H locs) (hl : lv_has ls 9 (lwL G b i)) (hc : cells + 9 ≤ room_1.cells ∧ slots + 76 ≤ room_1.slots) (kk : KKc p l e s m args below meth c cells slots Q G b i h) : W p l e room_1 s m args below meth c H locs cells slots Q (F0 m 519 ls []) := by
  have R := I.2.1
  have hc0 : cells ≤ room_1.cells ∧ slots ≤ room_1.slots := ⟨by omega, by omega⟩
  have hc1 : cells + 1 ≤ room_1.cells ∧ slots + 6 ≤ room_1.slots := ⟨by omega, by omega⟩
  generalize e1 : xs (i + 1) = x
  generalize e2 : xs (i + 2) = y
  by_cases hx : inR x 0 200 = 0
  · exact seg_5 S hX hbl hbA hL hiL e1 e2 g hl (h_reinsure_no l hfl G F o x y (Or.inl hx)) ⟨Nat.le_of_ble_eq_true rfl, Nat.le_of_ble_eq_true rfl⟩ hc1 (m_reinsure_no l G F _ x y (Or.inl hx)) ⟨Nat.le_of_ble_eq_true rfl, Nat.le_of_ble_eq_true rfl⟩ (up2_s _ _ _ _) (fun c9 => absurd c9 (by decide)) (fun H locs ls g hl => W.widen (k := cells + 9) (n := slots + 76) (by omega) (by omega) (kk _ _ _ _ H locs ls (th_inv I 1) (by omega) g hl))
  · by_cases hy : inR y 0 400 = 0
    · exact seg_5 S hX hbl hbA hL hiL e1 e2 g hl (h_reinsure_no l hfl G F o x y (Or.inr hy)) ⟨Nat.le_of_ble_eq_true rfl, Nat.le_of_ble_eq_true rfl⟩ hc1 (m_reinsure_no l G F _ x y (Or.inr hy)) ⟨Nat.le_of_ble_eq_true rfl, Nat.le_of_ble_eq_true rfl⟩ (up2_s _ _ _ _) (fun c9 => absurd c9 (by decide)) (fun H locs ls g hl => W.widen (k := cells + 9) (n := slots + 76) (by omega) (by omega) (kk _ _ _ _ H locs ls (th_inv I 1) (by omega) g hl))
    · exact seg_5 S hX hbl hbA hL hiL e1 e2 g hl (h_reinsure_ok l G F o x y hx hy) ⟨Nat.le_of_ble_eq_true rfl, Nat.le_of_ble_eq_true rfl⟩ hc0 (m_reinsure_ok l G (up2 (up2 F 1 3 x) 1 4 y) _ x y hx hy) ⟨Nat.le_of_ble_eq_true rfl, Nat.le_of_ble_eq_true rfl⟩ ((up2_ne _ _ (by omega)).trans ((up2_ne _ _ (by omega)).trans (up2_s _ _ _ _))) (fun _ => congrArg Int32.toInt64 (R.2.2.2.2.2.2.2.1.trans ((up2_ne _ _ (by omega)).trans (up2_ne _ _ (by omega))).symm)) (fun H locs ls g hl => W.widen (k := cells + 9) (n := slots + 76) (by omega) (by omega) (kk _ _ _ _ H locs ls (inv_reins I) (by omega) g hl))
set_option maxHeartbeats 4000000 in
set_option maxRecDepth 100000 in
theorem case_6 {p : Program} {l : Launch} {e : Env} {s : State} {m : MethodId} {args : Array Value} {below : List Frame} {meth : Method} {c : Code} {cells slots : Nat} {Q : State → Prop} {G : gT} {b L i : Nat} {xs : Nat → Int32} (hfl : l.stackTraces = false) (S : CallFix p m c cL_law 9 s args lw_all "ShadowPoolLaw") (hX : va_X b L xs s s.heap) (hbl : b < s.heap.size) (hbA : ¬ GA G s.heap.size b) (hL : L ≤ 2048) (hiL : i + 4 ≤ L) {F : Fs} {n h : Nat} {o : Int64} {H : Heap} {locs : List Loc} {ls : Array Slot} (I : InvL F n h) (hh : h ≤ 30720) (g : GB G F o [] [] s H locs) (hl : lv_has ls 9 (lwL G b i)) (hc : cells + 9 ≤ room_1.cells ∧ slots + 76 ≤ room_1.slots) (kk : KKc p l e s m args below meth c cells slots Q G b i h) : W p l e room_1 s m args below meth c H locs cells slots Q (F0 m 587 ls []) := by
  have R := I.2.1
  have hc0 : cells ≤ room_1.cells ∧ slots ≤ room_1.slots := ⟨by omega, by omega⟩
  have hc1 : cells + 1 ≤ room_1.cells ∧ slots + 6 ≤ room_1.slots := ⟨by omega, by omega⟩
  generalize e1 : xs (i + 1) = x
  by_cases hx : inR x 1 60 = 0
  · exact seg_6 S hX hbl hbA hL hiL e1 g hl (h_pass_no l hfl G F o x hx) ⟨Nat.le_of_ble_eq_true rfl, Nat.le_of_ble_eq_true rfl⟩ hc1 (m_pass_no l G F _ x hx) ⟨Nat.le_of_ble_eq_true rfl, Nat.le_of_ble_eq_true rfl⟩ (up2_s _ _ _ _) (fun c9 => absurd c9 (by decide)) (fun H locs ls g hl => W.widen (k := cells + 9) (n := slots + 76) (by omega) (by omega) (kk _ _ _ _ H locs ls (th_inv I 1) (by omega) g hl))
  · obtain ⟨t, t1, t2, rfl⟩ := inR_1 (hi := 60) rfl (by decide) hx
    have sm1 : SameM F (gbL 1 n t h 0 F).2 := (gb_high I.1 t h 0 F).sm
    have ok1 : okM (gbL 1 n t h 0 F).2 n h := ⟨(sm1.1 1 (by omega)).trans R.2.2.2.1, (sm1.2.2.2.2 0 (by omega)).trans R.2.1⟩
    obtain ⟨I2, e2⟩ := inv_pass (t := t) I
    exact seg_6 S hX hbl hbA hL hiL e1 g hl (h_pass_ok l G F o t n h I.okP I.1 (by omega) t1 t2) ⟨Nat.le_of_ble_eq_true rfl, Nat.le_of_ble_eq_true rfl⟩ hc0 (m_pass_ok l G (gbL 1 n t h 0 F).2 _ t n h ok1 I.1 (by omega) t1 t2) ⟨Nat.le_of_ble_eq_true rfl, Nat.le_of_ble_eq_true rfl⟩ ((gmL_ne n (by omega) _ _ _ _).trans (up2_s _ _ _ _)) (fun _ => congrArg Int32.toInt64 e2) (fun H locs ls g hl => W.widen (k := cells + 9) (n := slots + 76) (by omega) (by omega) (kk _ _ _ _ H locs ls I2 (by omega) g hl))
set_option maxHeartbeats 4000000 in
set_option maxRecDepth 100000 in
theorem case_7 {p : Program} {l : Launch} {e : Env} {s : State} {m : MethodId} {args : Array Value} {below : List Frame} {meth : Method} {c : Code} {cells slots : Nat} {Q : State → Prop} {G : gT} {b L i : Nat} {xs : Nat → Int32} (hfl : l.stackTraces = false) (S : CallFix p m c cL_law 9 s args lw_all "ShadowPoolLaw") (hX : va_X b L xs s s.heap) (hbl : b < s.heap.size) (hbA : ¬ GA G s.heap.size b) (hL : L ≤ 2048) (hiL : i + 4 ≤ L) {F : Fs} {n h : Nat} {o : Int64} {H : Heap} {locs : List Loc} {ls : Array Slot} (I : InvL F n h) (hh : h ≤ 30720) (g : GB G F o [] [] s H locs) (hl : lv_has ls 9 (lwL G b i)) (hc : cells + 9 ≤ room_1.cells ∧ slots + 76 ≤ room_1.slots) (kk : KKc p l e s m args below meth c cells slots Q G b i h) : W p l e room_1 s m args below meth c H locs cells slots Q (F0 m 643 ls []) := by
  have R := I.2.1
  have hc0 : cells ≤ room_1.cells ∧ slots ≤ room_1.slots := ⟨by omega, by omega⟩
  have hc1 : cells + 1 ≤ room_1.cells ∧ slots + 6 ≤ room_1.slots := ⟨by omega, by omega⟩
  have ev : F 1 0 = F 25 0 := (R.1.trans R.2.1.symm)
  have hN := m_hour l G F o
  rw [← ev] at hN
  exact seg_7 (xs := xs) (L := L) S g hl (c_hour l G F o) ⟨Nat.le_of_ble_eq_true rfl, Nat.le_of_ble_eq_true rfl⟩ hc0 hN ⟨Nat.le_of_ble_eq_true rfl, Nat.le_of_ble_eq_true rfl⟩ (fun H locs ls g hl => W.widen (k := cells + 9) (n := slots + 76) (by omega) (by omega) (kk _ _ _ _ H locs ls (th_inv I 0) (by omega) g hl))
set_option maxHeartbeats 4000000 in
set_option maxRecDepth 100000 in
theorem case_8 {p : Program} {l : Launch} {e : Env} {s : State} {m : MethodId} {args : Array Value} {below : List Frame} {meth : Method} {c : Code} {cells slots : Nat} {Q : State → Prop} {G : gT} {b L i : Nat} {xs : Nat → Int32} (hfl : l.stackTraces = false) (S : CallFix p m c cL_law 9 s args lw_all "ShadowPoolLaw") (hX : va_X b L xs s s.heap) (hbl : b < s.heap.size) (hbA : ¬ GA G s.heap.size b) (hL : L ≤ 2048) (hiL : i + 4 ≤ L) {F : Fs} {n h : Nat} {o : Int64} {H : Heap} {locs : List Loc} {ls : Array Slot} (I : InvL F n h) (hh : h ≤ 30720) (g : GB G F o [] [] s H locs) (hl : lv_has ls 9 (lwL G b i)) (hc : cells + 9 ≤ room_1.cells ∧ slots + 76 ≤ room_1.slots) (kk : KKc p l e s m args below meth c cells slots Q G b i h) : W p l e room_1 s m args below meth c H locs cells slots Q (F0 m 656 ls []) := by
  have R := I.2.1
  have hc0 : cells ≤ room_1.cells ∧ slots ≤ room_1.slots := ⟨by omega, by omega⟩
  have hc1 : cells + 1 ≤ room_1.cells ∧ slots + 6 ≤ room_1.slots := ⟨by omega, by omega⟩
  have ev : suH h = suH h := rfl
  have hN := m_sun l G F o h R.2.1 (by omega)
  rw [← ev] at hN
  exact seg_8 (xs := xs) (L := L) S g hl (c_sun l G F o h R.1 (by omega)) ⟨Nat.le_of_ble_eq_true rfl, Nat.le_of_ble_eq_true rfl⟩ hc0 hN ⟨Nat.le_of_ble_eq_true rfl, Nat.le_of_ble_eq_true rfl⟩ (fun H locs ls g hl => W.widen (k := cells + 9) (n := slots + 76) (by omega) (by omega) (kk _ _ _ _ H locs ls (th_inv I 0) (by omega) g hl))
set_option maxHeartbeats 4000000 in
set_option maxRecDepth 100000 in
theorem case_9 {p : Program} {l : Launch} {e : Env} {s : State} {m : MethodId} {args : Array Value} {below : List Frame} {meth : Method} {c : Code} {cells slots : Nat} {Q : State → Prop} {G : gT} {b L i : Nat} {xs : Nat → Int32} (hfl : l.stackTraces = false) (S : CallFix p m c cL_law 9 s args lw_all "ShadowPoolLaw") (hX : va_X b L xs s s.heap) (hbl : b < s.heap.size) (hbA : ¬ GA G s.heap.size b) (hL : L ≤ 2048) (hiL : i + 4 ≤ L) {F : Fs} {n h : Nat} {o : Int64} {H : Heap} {locs : List Loc} {ls : Array Slot} (I : InvL F n h) (hh : h ≤ 30720) (g : GB G F o [] [] s H locs) (hl : lv_has ls 9 (lwL G b i)) (hc : cells + 9 ≤ room_1.cells ∧ slots + 76 ≤ room_1.slots) (kk : KKc p l e s m args below meth c cells slots Q G b i h) : W p l e room_1 s m args below meth c H locs cells slots Q (F0 m 669 ls []) := by
  have R := I.2.1
  have hc0 : cells ≤ room_1.cells ∧ slots ≤ room_1.slots := ⟨by omega, by omega⟩
  have hc1 : cells + 1 ≤ room_1.cells ∧ slots + 6 ≤ room_1.slots := ⟨by omega, by omega⟩
  have ev : noH h = noM h := (noM_eq h).symm
  have hN := m_isNoon l G F o h R.2.1 (by omega)
  rw [← ev] at hN
  exact seg_9 (xs := xs) (L := L) S g hl (c_isNoon l G F o h R.1 (by omega)) ⟨Nat.le_of_ble_eq_true rfl, Nat.le_of_ble_eq_true rfl⟩ hc0 hN ⟨Nat.le_of_ble_eq_true rfl, Nat.le_of_ble_eq_true rfl⟩ (fun H locs ls g hl => W.widen (k := cells + 9) (n := slots + 76) (by omega) (by omega) (kk _ _ _ _ H locs ls (th_inv I 0) (by omega) g hl))
set_option maxHeartbeats 4000000 in
set_option maxRecDepth 100000 in
theorem case_10 {p : Program} {l : Launch} {e : Env} {s : State} {m : MethodId} {args : Array Value} {below : List Frame} {meth : Method} {c : Code} {cells slots : Nat} {Q : State → Prop} {G : gT} {b L i : Nat} {xs : Nat → Int32} (hfl : l.stackTraces = false) (S : CallFix p m c cL_law 9 s args lw_all "ShadowPoolLaw") (hX : va_X b L xs s s.heap) (hbl : b < s.heap.size) (hbA : ¬ GA G s.heap.size b) (hL : L ≤ 2048) (hiL : i + 4 ≤ L) {F : Fs} {n h : Nat} {o : Int64} {H : Heap} {locs : List Loc} {ls : Array Slot} (I : InvL F n h) (hh : h ≤ 30720) (g : GB G F o [] [] s H locs) (hl : lv_has ls 9 (lwL G b i)) (hc : cells + 9 ≤ room_1.cells ∧ slots + 76 ≤ room_1.slots) (kk : KKc p l e s m args below meth c cells slots Q G b i h) : W p l e room_1 s m args below meth c H locs cells slots Q (F0 m 682 ls []) := by
  have R := I.2.1
  have hc0 : cells ≤ room_1.cells ∧ slots ≤ room_1.slots := ⟨by omega, by omega⟩
  have hc1 : cells + 1 ≤ room_1.cells ∧ slots + 6 ≤ room_1.slots := ⟨by omega, by omega⟩
  have ev : huN h = huM h := (rel_hu h)
  have hN := m_hoursUntilNoon l G F o h R.2.1 (by omega)
  rw [← ev] at hN
  exact seg_10 (xs := xs) (L := L) S g hl (c_hoursUntilNoon l G F o h R.1 (by omega)) ⟨Nat.le_of_ble_eq_true rfl, Nat.le_of_ble_eq_true rfl⟩ hc0 hN ⟨Nat.le_of_ble_eq_true rfl, Nat.le_of_ble_eq_true rfl⟩ (fun H locs ls g hl => W.widen (k := cells + 9) (n := slots + 76) (by omega) (by omega) (kk _ _ _ _ H locs ls (th_inv I 0) (by omega) g hl))
set_option maxHeartbeats 4000000 in
set_option maxRecDepth 100000 in
theorem case_11 {p : Program} {l : Launch} {e : Env} {s : State} {m : MethodId} {args : Array Value} {below : List Frame} {meth : Method} {c : Code} {cells slots : Nat} {Q : State → Prop} {G : gT} {b L i : Nat} {xs : Nat → Int32} (hfl : l.stackTraces = false) (S : CallFix p m c cL_law 9 s args lw_all "ShadowPoolLaw") (hX : va_X b L xs s s.heap) (hbl : b < s.heap.size) (hbA : ¬ GA G s.heap.size b) (hL : L ≤ 2048) (hiL : i + 4 ≤ L) {F : Fs} {n h : Nat} {o : Int64} {H : Heap} {locs : List Loc} {ls : Array Slot} (I : InvL F n h) (hh : h ≤ 30720) (g : GB G F o [] [] s H locs) (hl : lv_has ls 9 (lwL G b i)) (hc : cells + 9 ≤ room_1.cells ∧ slots + 76 ≤ room_1.slots) (kk : KKc p l e s m args below meth c cells slots Q G b i h) : W p l e room_1 s m args below meth c H locs cells slots Q (F0 m 695 ls []) := by
  have R := I.2.1
  have hc0 : cells ≤ room_1.cells ∧ slots ≤ room_1.slots := ⟨by omega, by omega⟩
  have hc1 : cells + 1 ≤ room_1.cells ∧ slots + 6 ≤ room_1.slots := ⟨by omega, by omega⟩
  have ev : F 1 6 = F 21 1 := (R.2.2.1.trans R.2.2.2.1.symm)
  have hN := m_walkers l G F o
  rw [← ev] at hN
  exact seg_11 (xs := xs) (L := L) S g hl (c_walkers l G F o) ⟨Nat.le_of_ble_eq_true rfl, Nat.le_of_ble_eq_true rfl⟩ hc0 hN ⟨Nat.le_of_ble_eq_true rfl, Nat.le_of_ble_eq_true rfl⟩ (fun H locs ls g hl => W.widen (k := cells + 9) (n := slots + 76) (by omega) (by omega) (kk _ _ _ _ H locs ls (th_inv I 0) (by omega) g hl))
set_option maxHeartbeats 4000000 in
set_option maxRecDepth 100000 in
theorem case_12 {p : Program} {l : Launch} {e : Env} {s : State} {m : MethodId} {args : Array Value} {below : List Frame} {meth : Method} {c : Code} {cells slots : Nat} {Q : State → Prop} {G : gT} {b L i : Nat} {xs : Nat → Int32} (hfl : l.stackTraces = false) (S : CallFix p m c cL_law 9 s args lw_all "ShadowPoolLaw") (hX : va_X b L xs s s.heap) (hbl : b < s.heap.size) (hbA : ¬ GA G s.heap.size b) (hL : L ≤ 2048) (hiL : i + 4 ≤ L) {F : Fs} {n h : Nat} {o : Int64} {H : Heap} {locs : List Loc} {ls : Array Slot} (I : InvL F n h) (hh : h ≤ 30720) (g : GB G F o [] [] s H locs) (hl : lv_has ls 9 (lwL G b i)) (hc : cells + 9 ≤ room_1.cells ∧ slots + 76 ≤ room_1.slots) (kk : KKc p l e s m args below meth c cells slots Q G b i h) : W p l e room_1 s m args below meth c H locs cells slots Q (F0 m 708 ls []) := by
  have R := I.2.1
  have hc0 : cells ≤ room_1.cells ∧ slots ≤ room_1.slots := ⟨by omega, by omega⟩
  have hc1 : cells + 1 ≤ room_1.cells ∧ slots + 6 ≤ room_1.slots := ⟨by omega, by omega⟩
  have ev : cmL F 1 n 0 0 = inL F n 0 0 := (rel_cm n 0 0 (fun j _ h2 => (I.w (by omega : j < n)).2.2.2.2.2))
  have hN := m_members l G F o n R.2.2.2.1 I.1
  rw [← ev] at hN
  exact seg_12 (xs := xs) (L := L) S g hl (c_members l G F o n R.2.2.1 I.1) ⟨Nat.le_of_ble_eq_true rfl, Nat.le_of_ble_eq_true rfl⟩ hc0 hN ⟨Nat.le_of_ble_eq_true rfl, Nat.le_of_ble_eq_true rfl⟩ (fun H locs ls g hl => W.widen (k := cells + 9) (n := slots + 76) (by omega) (by omega) (kk _ _ _ _ H locs ls (th_inv I 0) (by omega) g hl))
set_option maxHeartbeats 4000000 in
set_option maxRecDepth 100000 in
theorem case_13 {p : Program} {l : Launch} {e : Env} {s : State} {m : MethodId} {args : Array Value} {below : List Frame} {meth : Method} {c : Code} {cells slots : Nat} {Q : State → Prop} {G : gT} {b L i : Nat} {xs : Nat → Int32} (hfl : l.stackTraces = false) (S : CallFix p m c cL_law 9 s args lw_all "ShadowPoolLaw") (hX : va_X b L xs s s.heap) (hbl : b < s.heap.size) (hbA : ¬ GA G s.heap.size b) (hL : L ≤ 2048) (hiL : i + 4 ≤ L) {F : Fs} {n h : Nat} {o : Int64} {H : Heap} {locs : List Loc} {ls : Array Slot} (I : InvL F n h) (hh : h ≤ 30720) (g : GB G F o [] [] s H locs) (hl : lv_has ls 9 (lwL G b i)) (hc : cells + 9 ≤ room_1.cells ∧ slots + 76 ≤ room_1.slots) (kk : KKc p l e s m args below meth c cells slots Q G b i h) : W p l e room_1 s m args below meth c H locs cells slots Q (F0 m 721 ls []) := by
  have R := I.2.1
  have hc0 : cells ≤ room_1.cells ∧ slots ≤ room_1.slots := ⟨by omega, by omega⟩
  have hc1 : cells + 1 ≤ room_1.cells ∧ slots + 6 ≤ room_1.slots := ⟨by omega, by omega⟩
  generalize e1 : xs (i + 1) = x
  rcases walker_or x I.1 with ⟨j, hj, rfl⟩ | hx
  · have hm := I.2.2.1 j (Nat.lt_of_lt_of_le hj I.1)
    exact seg_13 S hX hbl hbA hL hiL e1 g hl (h_isMember_ok l G F o j n R.2.2.1 hj I.1 hm) ⟨Nat.le_of_ble_eq_true rfl, Nat.le_of_ble_eq_true rfl⟩ hc0 (m_isMember_ok l G F _ j n R.2.2.2.1 hj I.1) ⟨Nat.le_of_ble_eq_true rfl, Nat.le_of_ble_eq_true rfl⟩ (up2_s _ _ _ _) (fun _ => ⟨fun q => by rw [(I.w hj).2.2.2.2.2]; exact mem_l q, fun q => by rw [(I.w hj).2.2.2.2.2]; exact mem_l1 q⟩) (fun H locs ls g hl => W.widen (k := cells + 9) (n := slots + 76) (by omega) (by omega) (kk _ _ _ _ H locs ls (th_inv I 0) (by omega) g hl))
  · exact seg_13 S hX hbl hbA hL hiL e1 g hl (h_isMember_no l hfl G F o x n R.2.2.1 hx) ⟨Nat.le_of_ble_eq_true rfl, Nat.le_of_ble_eq_true rfl⟩ hc1 (m_isMember_no l G F _ x n R.2.2.2.1 I.1 hx) ⟨Nat.le_of_ble_eq_true rfl, Nat.le_of_ble_eq_true rfl⟩ (up2_s _ _ _ _) (fun c9 => absurd c9 (by decide)) (fun H locs ls g hl => W.widen (k := cells + 9) (n := slots + 76) (by omega) (by omega) (kk _ _ _ _ H locs ls (th_inv I 1) (by omega) g hl))
set_option maxHeartbeats 4000000 in
set_option maxRecDepth 100000 in
theorem case_14 {p : Program} {l : Launch} {e : Env} {s : State} {m : MethodId} {args : Array Value} {below : List Frame} {meth : Method} {c : Code} {cells slots : Nat} {Q : State → Prop} {G : gT} {b L i : Nat} {xs : Nat → Int32} (hfl : l.stackTraces = false) (S : CallFix p m c cL_law 9 s args lw_all "ShadowPoolLaw") (hX : va_X b L xs s s.heap) (hbl : b < s.heap.size) (hbA : ¬ GA G s.heap.size b) (hL : L ≤ 2048) (hiL : i + 4 ≤ L) {F : Fs} {n h : Nat} {o : Int64} {H : Heap} {locs : List Loc} {ls : Array Slot} (I : InvL F n h) (hh : h ≤ 30720) (g : GB G F o [] [] s H locs) (hl : lv_has ls 9 (lwL G b i)) (hc : cells + 9 ≤ room_1.cells ∧ slots + 76 ≤ room_1.slots) (kk : KKc p l e s m args below meth c cells slots Q G b i h) : W p l e room_1 s m args below meth c H locs cells slots Q (F0 m 784 ls []) := by
  have R := I.2.1
  have hc0 : cells ≤ room_1.cells ∧ slots ≤ room_1.slots := ⟨by omega, by omega⟩
  have hc1 : cells + 1 ≤ room_1.cells ∧ slots + 6 ≤ room_1.slots := ⟨by omega, by omega⟩
  generalize e1 : xs (i + 1) = x
  rcases walker_or x I.1 with ⟨j, hj, rfl⟩ | hx
  · exact seg_14 S hX hbl hbA hL hiL e1 g hl (h_netOf_ok l G F o j n R.2.2.1 hj I.1 ) ⟨Nat.le_of_ble_eq_true rfl, Nat.le_of_ble_eq_true rfl⟩ hc0 (m_netOf_ok l G F _ j n R.2.2.2.1 hj I.1 ) ⟨Nat.le_of_ble_eq_true rfl, Nat.le_of_ble_eq_true rfl⟩ (up2_s _ _ _ _) (fun _ => congrArg Int32.toInt64 (I.w hj).2.2.1) (fun H locs ls g hl => W.widen (k := cells + 9) (n := slots + 76) (by omega) (by omega) (kk _ _ _ _ H locs ls (th_inv I 0) (by omega) g hl))
  · exact seg_14 S hX hbl hbA hL hiL e1 g hl (h_netOf_no l hfl G F o x n R.2.2.1 hx) ⟨Nat.le_of_ble_eq_true rfl, Nat.le_of_ble_eq_true rfl⟩ hc1 (m_netOf_no l G F _ x n R.2.2.2.1 I.1 hx) ⟨Nat.le_of_ble_eq_true rfl, Nat.le_of_ble_eq_true rfl⟩ (up2_s _ _ _ _) (fun c9 => absurd c9 (by decide)) (fun H locs ls g hl => W.widen (k := cells + 9) (n := slots + 76) (by omega) (by omega) (kk _ _ _ _ H locs ls (th_inv I 1) (by omega) g hl))
set_option maxHeartbeats 4000000 in
set_option maxRecDepth 100000 in
theorem case_15 {p : Program} {l : Launch} {e : Env} {s : State} {m : MethodId} {args : Array Value} {below : List Frame} {meth : Method} {c : Code} {cells slots : Nat} {Q : State → Prop} {G : gT} {b L i : Nat} {xs : Nat → Int32} (hfl : l.stackTraces = false) (S : CallFix p m c cL_law 9 s args lw_all "ShadowPoolLaw") (hX : va_X b L xs s s.heap) (hbl : b < s.heap.size) (hbA : ¬ GA G s.heap.size b) (hL : L ≤ 2048) (hiL : i + 4 ≤ L) {F : Fs} {n h : Nat} {o : Int64} {H : Heap} {locs : List Loc} {ls : Array Slot} (I : InvL F n h) (hh : h ≤ 30720) (g : GB G F o [] [] s H locs) (hl : lv_has ls 9 (lwL G b i)) (hc : cells + 9 ≤ room_1.cells ∧ slots + 76 ≤ room_1.slots) (kk : KKc p l e s m args below meth c cells slots Q G b i h) : W p l e room_1 s m args below meth c H locs cells slots Q (F0 m 840 ls []) := by
  have R := I.2.1
  have hc0 : cells ≤ room_1.cells ∧ slots ≤ room_1.slots := ⟨by omega, by omega⟩
  have hc1 : cells + 1 ≤ room_1.cells ∧ slots + 6 ≤ room_1.slots := ⟨by omega, by omega⟩
  generalize e1 : xs (i + 1) = x
  rcases walker_or x I.1 with ⟨j, hj, rfl⟩ | hx
  · exact seg_15 S hX hbl hbA hL hiL e1 g hl (h_wobbleOf_ok l G F o j n R.2.2.1 hj I.1 ) ⟨Nat.le_of_ble_eq_true rfl, Nat.le_of_ble_eq_true rfl⟩ hc0 (m_wobbleOf_ok l G F _ j n R.2.2.2.1 hj I.1 ) ⟨Nat.le_of_ble_eq_true rfl, Nat.le_of_ble_eq_true rfl⟩ (up2_s _ _ _ _) (fun _ => congrArg Int32.toInt64 (I.w hj).2.2.2.1) (fun H locs ls g hl => W.widen (k := cells + 9) (n := slots + 76) (by omega) (by omega) (kk _ _ _ _ H locs ls (th_inv I 0) (by omega) g hl))
  · exact seg_15 S hX hbl hbA hL hiL e1 g hl (h_wobbleOf_no l hfl G F o x n R.2.2.1 hx) ⟨Nat.le_of_ble_eq_true rfl, Nat.le_of_ble_eq_true rfl⟩ hc1 (m_wobbleOf_no l G F _ x n R.2.2.2.1 I.1 hx) ⟨Nat.le_of_ble_eq_true rfl, Nat.le_of_ble_eq_true rfl⟩ (up2_s _ _ _ _) (fun c9 => absurd c9 (by decide)) (fun H locs ls g hl => W.widen (k := cells + 9) (n := slots + 76) (by omega) (by omega) (kk _ _ _ _ H locs ls (th_inv I 1) (by omega) g hl))
set_option maxHeartbeats 4000000 in
set_option maxRecDepth 100000 in
theorem case_16 {p : Program} {l : Launch} {e : Env} {s : State} {m : MethodId} {args : Array Value} {below : List Frame} {meth : Method} {c : Code} {cells slots : Nat} {Q : State → Prop} {G : gT} {b L i : Nat} {xs : Nat → Int32} (hfl : l.stackTraces = false) (S : CallFix p m c cL_law 9 s args lw_all "ShadowPoolLaw") (hX : va_X b L xs s s.heap) (hbl : b < s.heap.size) (hbA : ¬ GA G s.heap.size b) (hL : L ≤ 2048) (hiL : i + 4 ≤ L) {F : Fs} {n h : Nat} {o : Int64} {H : Heap} {locs : List Loc} {ls : Array Slot} (I : InvL F n h) (hh : h ≤ 30720) (g : GB G F o [] [] s H locs) (hl : lv_has ls 9 (lwL G b i)) (hc : cells + 9 ≤ room_1.cells ∧ slots + 76 ≤ room_1.slots) (kk : KKc p l e s m args below meth c cells slots Q G b i h) : W p l e room_1 s m args below meth c H locs cells slots Q (F0 m 896 ls []) := by
  have R := I.2.1
  have hc0 : cells ≤ room_1.cells ∧ slots ≤ room_1.slots := ⟨by omega, by omega⟩
  have hc1 : cells + 1 ≤ room_1.cells ∧ slots + 6 ≤ room_1.slots := ⟨by omega, by omega⟩
  generalize e1 : xs (i + 1) = x
  rcases walker_or x I.1 with ⟨j, hj, rfl⟩ | hx
  · exact seg_16 S hX hbl hbA hL hiL e1 g hl (h_fallsOf_ok l G F o j n R.2.2.1 hj I.1 ) ⟨Nat.le_of_ble_eq_true rfl, Nat.le_of_ble_eq_true rfl⟩ hc0 (m_fallsOf_ok l G F _ j n R.2.2.2.1 hj I.1 ) ⟨Nat.le_of_ble_eq_true rfl, Nat.le_of_ble_eq_true rfl⟩ (up2_s _ _ _ _) (fun _ => congrArg Int32.toInt64 (I.w hj).2.2.2.2.1) (fun H locs ls g hl => W.widen (k := cells + 9) (n := slots + 76) (by omega) (by omega) (kk _ _ _ _ H locs ls (th_inv I 0) (by omega) g hl))
  · exact seg_16 S hX hbl hbA hL hiL e1 g hl (h_fallsOf_no l hfl G F o x n R.2.2.1 hx) ⟨Nat.le_of_ble_eq_true rfl, Nat.le_of_ble_eq_true rfl⟩ hc1 (m_fallsOf_no l G F _ x n R.2.2.2.1 I.1 hx) ⟨Nat.le_of_ble_eq_true rfl, Nat.le_of_ble_eq_true rfl⟩ (up2_s _ _ _ _) (fun c9 => absurd c9 (by decide)) (fun H locs ls g hl => W.widen (k := cells + 9) (n := slots + 76) (by omega) (by omega) (kk _ _ _ _ H locs ls (th_inv I 1) (by omega) g hl))
set_option maxHeartbeats 4000000 in
set_option maxRecDepth 100000 in
theorem case_17 {p : Program} {l : Launch} {e : Env} {s : State} {m : MethodId} {args : Array Value} {below : List Frame} {meth : Method} {c : Code} {cells slots : Nat} {Q : State → Prop} {G : gT} {b L i : Nat} {xs : Nat → Int32} (hfl : l.stackTraces = false) (S : CallFix p m c cL_law 9 s args lw_all "ShadowPoolLaw") (hX : va_X b L xs s s.heap) (hbl : b < s.heap.size) (hbA : ¬ GA G s.heap.size b) (hL : L ≤ 2048) (hiL : i + 4 ≤ L) {F : Fs} {n h : Nat} {o : Int64} {H : Heap} {locs : List Loc} {ls : Array Slot} (I : InvL F n h) (hh : h ≤ 30720) (g : GB G F o [] [] s H locs) (hl : lv_has ls 9 (lwL G b i)) (hc : cells + 9 ≤ room_1.cells ∧ slots + 76 ≤ room_1.slots) (kk : KKc p l e s m args below meth c cells slots Q G b i h) : W p l e room_1 s m args below meth c H locs cells slots Q (F0 m 952 ls []) := by
  have R := I.2.1
  have hc0 : cells ≤ room_1.cells ∧ slots ≤ room_1.slots := ⟨by omega, by omega⟩
  have hc1 : cells + 1 ≤ room_1.cells ∧ slots + 6 ≤ room_1.slots := ⟨by omega, by omega⟩
  generalize e1 : xs (i + 1) = x
  rcases walker_or x I.1 with ⟨j, hj, rfl⟩ | hx
  · exact seg_17 S hX hbl hbA hL hiL e1 g hl (h_shadowOf_ok l G F o j n h R.2.2.1 hj I.1 R.1 (by omega)) ⟨Nat.le_of_ble_eq_true rfl, Nat.le_of_ble_eq_true rfl⟩ hc0 (m_shadowOf_ok l G F _ j n h R.2.2.2.1 hj I.1 R.2.1 (by omega)) ⟨Nat.le_of_ble_eq_true rfl, Nat.le_of_ble_eq_true rfl⟩ (up2_s _ _ _ _) (fun _ => congrArg (fun z => (shI z (suH h)).toInt64) (I.w hj).1) (fun H locs ls g hl => W.widen (k := cells + 9) (n := slots + 76) (by omega) (by omega) (kk _ _ _ _ H locs ls (th_inv I 0) (by omega) g hl))
  · exact seg_17 S hX hbl hbA hL hiL e1 g hl (h_shadowOf_no l hfl G F o x n R.2.2.1 hx) ⟨Nat.le_of_ble_eq_true rfl, Nat.le_of_ble_eq_true rfl⟩ hc1 (m_shadowOf_no l G F _ x n R.2.2.2.1 I.1 hx) ⟨Nat.le_of_ble_eq_true rfl, Nat.le_of_ble_eq_true rfl⟩ (up2_s _ _ _ _) (fun c9 => absurd c9 (by decide)) (fun H locs ls g hl => W.widen (k := cells + 9) (n := slots + 76) (by omega) (by omega) (kk _ _ _ _ H locs ls (th_inv I 1) (by omega) g hl))
set_option maxHeartbeats 4000000 in
set_option maxRecDepth 100000 in
theorem case_18 {p : Program} {l : Launch} {e : Env} {s : State} {m : MethodId} {args : Array Value} {below : List Frame} {meth : Method} {c : Code} {cells slots : Nat} {Q : State → Prop} {G : gT} {b L i : Nat} {xs : Nat → Int32} (hfl : l.stackTraces = false) (S : CallFix p m c cL_law 9 s args lw_all "ShadowPoolLaw") (hX : va_X b L xs s s.heap) (hbl : b < s.heap.size) (hbA : ¬ GA G s.heap.size b) (hL : L ≤ 2048) (hiL : i + 4 ≤ L) {F : Fs} {n h : Nat} {o : Int64} {H : Heap} {locs : List Loc} {ls : Array Slot} (I : InvL F n h) (hh : h ≤ 30720) (g : GB G F o [] [] s H locs) (hl : lv_has ls 9 (lwL G b i)) (hc : cells + 9 ≤ room_1.cells ∧ slots + 76 ≤ room_1.slots) (kk : KKc p l e s m args below meth c cells slots Q G b i h) : W p l e room_1 s m args below meth c H locs cells slots Q (F0 m 1008 ls []) := by
  have R := I.2.1
  have hc0 : cells ≤ room_1.cells ∧ slots ≤ room_1.slots := ⟨by omega, by omega⟩
  have hc1 : cells + 1 ≤ room_1.cells ∧ slots + 6 ≤ room_1.slots := ⟨by omega, by omega⟩
  have ev : loL F (suH h) n 0 (-1) (-1) = lmL (th0 F 0) (suH h) n 0 0 := (rel_lo I.1 (ht_eq I) (ht_in I))
  have hN := m_longestShadow l G F o n h I.okM I.1 (by omega)
  rw [← ev] at hN
  exact seg_18 (xs := xs) (L := L) S g hl (c_longestShadow l G F o n h I.okP I.1 (by omega)) ⟨Nat.le_of_ble_eq_true rfl, Nat.le_of_ble_eq_true rfl⟩ hc0 hN ⟨Nat.le_of_ble_eq_true rfl, Nat.le_of_ble_eq_true rfl⟩ (fun H locs ls g hl => W.widen (k := cells + 9) (n := slots + 76) (by omega) (by omega) (kk _ _ _ _ H locs ls (th_inv I 0) (by omega) g hl))
set_option maxHeartbeats 4000000 in
set_option maxRecDepth 100000 in
theorem case_19 {p : Program} {l : Launch} {e : Env} {s : State} {m : MethodId} {args : Array Value} {below : List Frame} {meth : Method} {c : Code} {cells slots : Nat} {Q : State → Prop} {G : gT} {b L i : Nat} {xs : Nat → Int32} (hfl : l.stackTraces = false) (S : CallFix p m c cL_law 9 s args lw_all "ShadowPoolLaw") (hX : va_X b L xs s s.heap) (hbl : b < s.heap.size) (hbA : ¬ GA G s.heap.size b) (hL : L ≤ 2048) (hiL : i + 4 ≤ L) {F : Fs} {n h : Nat} {o : Int64} {H : Heap} {locs : List Loc} {ls : Array Slot} (I : InvL F n h) (hh : h ≤ 30720) (g : GB G F o [] [] s H locs) (hl : lv_has ls 9 (lwL G b i)) (hc : cells + 9 ≤ room_1.cells ∧ slots + 76 ≤ room_1.slots) (kk : KKc p l e s m args below meth c cells slots Q G b i h) : W p l e room_1 s m args below meth c H locs cells slots Q (F0 m 1021 ls []) := by
  have R := I.2.1
  have hc0 : cells ≤ room_1.cells ∧ slots ≤ room_1.slots := ⟨by omega, by omega⟩
  have hc1 : cells + 1 ≤ room_1.cells ∧ slots + 6 ≤ room_1.slots := ⟨by omega, by omega⟩
  generalize e1 : xs (i + 1) = x
  rcases walker_or x I.1 with ⟨j, hj, rfl⟩ | hx
  · exact seg_19 S hX hbl hbA hL hiL e1 g hl (h_costOf_ok l G F o j n h R.2.2.1 hj I.1 R.1 (by omega)) ⟨Nat.le_of_ble_eq_true rfl, Nat.le_of_ble_eq_true rfl⟩ hc0 (m_costOf_ok l G F _ j n h R.2.2.2.1 hj I.1 R.2.1 (by omega)) ⟨Nat.le_of_ble_eq_true rfl, Nat.le_of_ble_eq_true rfl⟩ (up2_s _ _ _ _) (fun _ => congrArg Int32.toInt64 (rel_co (I.w hj))) (fun H locs ls g hl => W.widen (k := cells + 9) (n := slots + 76) (by omega) (by omega) (kk _ _ _ _ H locs ls (th_inv I 0) (by omega) g hl))
  · exact seg_19 S hX hbl hbA hL hiL e1 g hl (h_costOf_no l hfl G F o x n R.2.2.1 hx) ⟨Nat.le_of_ble_eq_true rfl, Nat.le_of_ble_eq_true rfl⟩ hc1 (m_costOf_no l G F _ x n R.2.2.2.1 I.1 hx) ⟨Nat.le_of_ble_eq_true rfl, Nat.le_of_ble_eq_true rfl⟩ (up2_s _ _ _ _) (fun c9 => absurd c9 (by decide)) (fun H locs ls g hl => W.widen (k := cells + 9) (n := slots + 76) (by omega) (by omega) (kk _ _ _ _ H locs ls (th_inv I 1) (by omega) g hl))
set_option maxHeartbeats 4000000 in
set_option maxRecDepth 100000 in
theorem case_20 {p : Program} {l : Launch} {e : Env} {s : State} {m : MethodId} {args : Array Value} {below : List Frame} {meth : Method} {c : Code} {cells slots : Nat} {Q : State → Prop} {G : gT} {b L i : Nat} {xs : Nat → Int32} (hfl : l.stackTraces = false) (S : CallFix p m c cL_law 9 s args lw_all "ShadowPoolLaw") (hX : va_X b L xs s s.heap) (hbl : b < s.heap.size) (hbA : ¬ GA G s.heap.size b) (hL : L ≤ 2048) (hiL : i + 4 ≤ L) {F : Fs} {n h : Nat} {o : Int64} {H : Heap} {locs : List Loc} {ls : Array Slot} (I : InvL F n h) (hh : h ≤ 30720) (g : GB G F o [] [] s H locs) (hl : lv_has ls 9 (lwL G b i)) (hc : cells + 9 ≤ room_1.cells ∧ slots + 76 ≤ room_1.slots) (kk : KKc p l e s m args below meth c cells slots Q G b i h) : W p l e room_1 s m args below meth c H locs cells slots Q (F0 m 1077 ls []) := by
  have R := I.2.1
  have hc0 : cells ≤ room_1.cells ∧ slots ≤ room_1.slots := ⟨by omega, by omega⟩
  have hc1 : cells + 1 ≤ room_1.cells ∧ slots + 6 ≤ room_1.slots := ⟨by omega, by omega⟩
  generalize e1 : xs (i + 1) = x
  rcases walker_or x I.1 with ⟨j, hj, rfl⟩ | hx
  · exact seg_20 S hX hbl hbA hL hiL e1 g hl (h_ownPartOf_ok l G F o j n h R.2.2.1 hj I.1 R.1 (by omega)) ⟨Nat.le_of_ble_eq_true rfl, Nat.le_of_ble_eq_true rfl⟩ hc0 (m_ownPartOf_ok l G F _ j n h R.2.2.2.1 hj I.1 R.2.1 (by omega)) ⟨Nat.le_of_ble_eq_true rfl, Nat.le_of_ble_eq_true rfl⟩ (up2_s _ _ _ _) (fun _ => congrArg Int32.toInt64 (rel_ow (I.w hj))) (fun H locs ls g hl => W.widen (k := cells + 9) (n := slots + 76) (by omega) (by omega) (kk _ _ _ _ H locs ls (th_inv I 0) (by omega) g hl))
  · exact seg_20 S hX hbl hbA hL hiL e1 g hl (h_ownPartOf_no l hfl G F o x n R.2.2.1 hx) ⟨Nat.le_of_ble_eq_true rfl, Nat.le_of_ble_eq_true rfl⟩ hc1 (m_ownPartOf_no l G F _ x n R.2.2.2.1 I.1 hx) ⟨Nat.le_of_ble_eq_true rfl, Nat.le_of_ble_eq_true rfl⟩ (up2_s _ _ _ _) (fun c9 => absurd c9 (by decide)) (fun H locs ls g hl => W.widen (k := cells + 9) (n := slots + 76) (by omega) (by omega) (kk _ _ _ _ H locs ls (th_inv I 1) (by omega) g hl))
set_option maxHeartbeats 4000000 in
set_option maxRecDepth 100000 in
theorem case_21 {p : Program} {l : Launch} {e : Env} {s : State} {m : MethodId} {args : Array Value} {below : List Frame} {meth : Method} {c : Code} {cells slots : Nat} {Q : State → Prop} {G : gT} {b L i : Nat} {xs : Nat → Int32} (hfl : l.stackTraces = false) (S : CallFix p m c cL_law 9 s args lw_all "ShadowPoolLaw") (hX : va_X b L xs s s.heap) (hbl : b < s.heap.size) (hbA : ¬ GA G s.heap.size b) (hL : L ≤ 2048) (hiL : i + 4 ≤ L) {F : Fs} {n h : Nat} {o : Int64} {H : Heap} {locs : List Loc} {ls : Array Slot} (I : InvL F n h) (hh : h ≤ 30720) (g : GB G F o [] [] s H locs) (hl : lv_has ls 9 (lwL G b i)) (hc : cells + 9 ≤ room_1.cells ∧ slots + 76 ≤ room_1.slots) (kk : KKc p l e s m args below meth c cells slots Q G b i h) : W p l e room_1 s m args below meth c H locs cells slots Q (F0 m 1133 ls []) := by
  have R := I.2.1
  have hc0 : cells ≤ room_1.cells ∧ slots ≤ room_1.slots := ⟨by omega, by omega⟩
  have hc1 : cells + 1 ≤ room_1.cells ∧ slots + 6 ≤ room_1.slots := ⟨by omega, by omega⟩
  generalize e1 : xs (i + 1) = x
  rcases walker_or x I.1 with ⟨j, hj, rfl⟩ | hx
  · exact seg_21 S hX hbl hbA hL hiL e1 g hl (h_poolPartOf_ok l G F o j n h R.2.2.1 hj I.1 R.1 (by omega)) ⟨Nat.le_of_ble_eq_true rfl, Nat.le_of_ble_eq_true rfl⟩ hc0 (m_poolPartOf_ok l G F _ j n h R.2.2.2.1 hj I.1 R.2.1 (by omega)) ⟨Nat.le_of_ble_eq_true rfl, Nat.le_of_ble_eq_true rfl⟩ (up2_s _ _ _ _) (fun _ => congrArg Int32.toInt64 (rel_po R hj)) (fun H locs ls g hl => W.widen (k := cells + 9) (n := slots + 76) (by omega) (by omega) (kk _ _ _ _ H locs ls (th_inv I 0) (by omega) g hl))
  · exact seg_21 S hX hbl hbA hL hiL e1 g hl (h_poolPartOf_no l hfl G F o x n R.2.2.1 hx) ⟨Nat.le_of_ble_eq_true rfl, Nat.le_of_ble_eq_true rfl⟩ hc1 (m_poolPartOf_no l G F _ x n R.2.2.2.1 I.1 hx) ⟨Nat.le_of_ble_eq_true rfl, Nat.le_of_ble_eq_true rfl⟩ (up2_s _ _ _ _) (fun c9 => absurd c9 (by decide)) (fun H locs ls g hl => W.widen (k := cells + 9) (n := slots + 76) (by omega) (by omega) (kk _ _ _ _ H locs ls (th_inv I 1) (by omega) g hl))
set_option maxHeartbeats 4000000 in
set_option maxRecDepth 100000 in
theorem case_22 {p : Program} {l : Launch} {e : Env} {s : State} {m : MethodId} {args : Array Value} {below : List Frame} {meth : Method} {c : Code} {cells slots : Nat} {Q : State → Prop} {G : gT} {b L i : Nat} {xs : Nat → Int32} (hfl : l.stackTraces = false) (S : CallFix p m c cL_law 9 s args lw_all "ShadowPoolLaw") (hX : va_X b L xs s s.heap) (hbl : b < s.heap.size) (hbA : ¬ GA G s.heap.size b) (hL : L ≤ 2048) (hiL : i + 4 ≤ L) {F : Fs} {n h : Nat} {o : Int64} {H : Heap} {locs : List Loc} {ls : Array Slot} (I : InvL F n h) (hh : h ≤ 30720) (g : GB G F o [] [] s H locs) (hl : lv_has ls 9 (lwL G b i)) (hc : cells + 9 ≤ room_1.cells ∧ slots + 76 ≤ room_1.slots) (kk : KKc p l e s m args below meth c cells slots Q G b i h) : W p l e room_1 s m args below meth c H locs cells slots Q (F0 m 1189 ls []) := by
  have R := I.2.1
  have hc0 : cells ≤ room_1.cells ∧ slots ≤ room_1.slots := ⟨by omega, by omega⟩
  have hc1 : cells + 1 ≤ room_1.cells ∧ slots + 6 ≤ room_1.slots := ⟨by omega, by omega⟩
  generalize e1 : xs (i + 1) = x
  rcases walker_or x I.1 with ⟨j, hj, rfl⟩ | hx
  · exact seg_22 S hX hbl hbA hL hiL e1 g hl (h_reinsuredPartOf_ok l G F o j n h R.2.2.1 hj I.1 R.1 (by omega)) ⟨Nat.le_of_ble_eq_true rfl, Nat.le_of_ble_eq_true rfl⟩ hc0 (m_reinsuredPartOf_ok l G F _ j n h R.2.2.2.1 hj I.1 R.2.1 (by omega)) ⟨Nat.le_of_ble_eq_true rfl, Nat.le_of_ble_eq_true rfl⟩ (up2_s _ _ _ _) (fun _ => congrArg Int32.toInt64 (rel_re R hj)) (fun H locs ls g hl => W.widen (k := cells + 9) (n := slots + 76) (by omega) (by omega) (kk _ _ _ _ H locs ls (th_inv I 0) (by omega) g hl))
  · exact seg_22 S hX hbl hbA hL hiL e1 g hl (h_reinsuredPartOf_no l hfl G F o x n R.2.2.1 hx) ⟨Nat.le_of_ble_eq_true rfl, Nat.le_of_ble_eq_true rfl⟩ hc1 (m_reinsuredPartOf_no l G F _ x n R.2.2.2.1 I.1 hx) ⟨Nat.le_of_ble_eq_true rfl, Nat.le_of_ble_eq_true rfl⟩ (up2_s _ _ _ _) (fun c9 => absurd c9 (by decide)) (fun H locs ls g hl => W.widen (k := cells + 9) (n := slots + 76) (by omega) (by omega) (kk _ _ _ _ H locs ls (th_inv I 1) (by omega) g hl))
set_option maxHeartbeats 4000000 in
set_option maxRecDepth 100000 in
theorem case_23 {p : Program} {l : Launch} {e : Env} {s : State} {m : MethodId} {args : Array Value} {below : List Frame} {meth : Method} {c : Code} {cells slots : Nat} {Q : State → Prop} {G : gT} {b L i : Nat} {xs : Nat → Int32} (hfl : l.stackTraces = false) (S : CallFix p m c cL_law 9 s args lw_all "ShadowPoolLaw") (hX : va_X b L xs s s.heap) (hbl : b < s.heap.size) (hbA : ¬ GA G s.heap.size b) (hL : L ≤ 2048) (hiL : i + 4 ≤ L) {F : Fs} {n h : Nat} {o : Int64} {H : Heap} {locs : List Loc} {ls : Array Slot} (I : InvL F n h) (hh : h ≤ 30720) (g : GB G F o [] [] s H locs) (hl : lv_has ls 9 (lwL G b i)) (hc : cells + 9 ≤ room_1.cells ∧ slots + 76 ≤ room_1.slots) (kk : KKc p l e s m args below meth c cells slots Q G b i h) : W p l e room_1 s m args below meth c H locs cells slots Q (F0 m 1245 ls []) := by
  have R := I.2.1
  have hc0 : cells ≤ room_1.cells ∧ slots ≤ room_1.slots := ⟨by omega, by omega⟩
  have hc1 : cells + 1 ≤ room_1.cells ∧ slots + 6 ≤ room_1.slots := ⟨by omega, by omega⟩
  have ev : F 1 1 = F 25 1 := R.2.2.2.2.1
  have hN := m_fund l G F o
  rw [← ev] at hN
  exact seg_23 (xs := xs) (L := L) S g hl (c_fund l G F o) ⟨Nat.le_of_ble_eq_true rfl, Nat.le_of_ble_eq_true rfl⟩ hc0 hN ⟨Nat.le_of_ble_eq_true rfl, Nat.le_of_ble_eq_true rfl⟩ (fun H locs ls g hl => W.widen (k := cells + 9) (n := slots + 76) (by omega) (by omega) (kk _ _ _ _ H locs ls (th_inv I 0) (by omega) g hl))
set_option maxHeartbeats 4000000 in
set_option maxRecDepth 100000 in
theorem case_24 {p : Program} {l : Launch} {e : Env} {s : State} {m : MethodId} {args : Array Value} {below : List Frame} {meth : Method} {c : Code} {cells slots : Nat} {Q : State → Prop} {G : gT} {b L i : Nat} {xs : Nat → Int32} (hfl : l.stackTraces = false) (S : CallFix p m c cL_law 9 s args lw_all "ShadowPoolLaw") (hX : va_X b L xs s s.heap) (hbl : b < s.heap.size) (hbA : ¬ GA G s.heap.size b) (hL : L ≤ 2048) (hiL : i + 4 ≤ L) {F : Fs} {n h : Nat} {o : Int64} {H : Heap} {locs : List Loc} {ls : Array Slot} (I : InvL F n h) (hh : h ≤ 30720) (g : GB G F o [] [] s H locs) (hl : lv_has ls 9 (lwL G b i)) (hc : cells + 9 ≤ room_1.cells ∧ slots + 76 ≤ room_1.slots) (kk : KKc p l e s m args below meth c cells slots Q G b i h) : W p l e room_1 s m args below meth c H locs cells slots Q (F0 m 1258 ls []) := by
  have R := I.2.1
  have hc0 : cells ≤ room_1.cells ∧ slots ≤ room_1.slots := ⟨by omega, by omega⟩
  have hc1 : cells + 1 ≤ room_1.cells ∧ slots + 6 ≤ room_1.slots := ⟨by omega, by omega⟩
  have ev : F 1 2 = F 25 2 := R.2.2.2.2.2.1
  have hN := m_rate l G F o
  rw [← ev] at hN
  exact seg_24 (xs := xs) (L := L) S g hl (c_rate l G F o) ⟨Nat.le_of_ble_eq_true rfl, Nat.le_of_ble_eq_true rfl⟩ hc0 hN ⟨Nat.le_of_ble_eq_true rfl, Nat.le_of_ble_eq_true rfl⟩ (fun H locs ls g hl => W.widen (k := cells + 9) (n := slots + 76) (by omega) (by omega) (kk _ _ _ _ H locs ls (th_inv I 0) (by omega) g hl))
set_option maxHeartbeats 4000000 in
set_option maxRecDepth 100000 in
theorem case_25 {p : Program} {l : Launch} {e : Env} {s : State} {m : MethodId} {args : Array Value} {below : List Frame} {meth : Method} {c : Code} {cells slots : Nat} {Q : State → Prop} {G : gT} {b L i : Nat} {xs : Nat → Int32} (hfl : l.stackTraces = false) (S : CallFix p m c cL_law 9 s args lw_all "ShadowPoolLaw") (hX : va_X b L xs s s.heap) (hbl : b < s.heap.size) (hbA : ¬ GA G s.heap.size b) (hL : L ≤ 2048) (hiL : i + 4 ≤ L) {F : Fs} {n h : Nat} {o : Int64} {H : Heap} {locs : List Loc} {ls : Array Slot} (I : InvL F n h) (hh : h ≤ 30720) (g : GB G F o [] [] s H locs) (hl : lv_has ls 9 (lwL G b i)) (hc : cells + 9 ≤ room_1.cells ∧ slots + 76 ≤ room_1.slots) (kk : KKc p l e s m args below meth c cells slots Q G b i h) : W p l e room_1 s m args below meth c H locs cells slots Q (F0 m 1271 ls []) := by
  have R := I.2.1
  have hc0 : cells ≤ room_1.cells ∧ slots ≤ room_1.slots := ⟨by omega, by omega⟩
  have hc1 : cells + 1 ≤ room_1.cells ∧ slots + 6 ≤ room_1.slots := ⟨by omega, by omega⟩
  have ev : F 1 3 = F 21 2 := R.2.2.2.2.2.2.1
  have hN := m_retention l G F o
  rw [← ev] at hN
  exact seg_25 (xs := xs) (L := L) S g hl (c_retention l G F o) ⟨Nat.le_of_ble_eq_true rfl, Nat.le_of_ble_eq_true rfl⟩ hc0 hN ⟨Nat.le_of_ble_eq_true rfl, Nat.le_of_ble_eq_true rfl⟩ (fun H locs ls g hl => W.widen (k := cells + 9) (n := slots + 76) (by omega) (by omega) (kk _ _ _ _ H locs ls (th_inv I 0) (by omega) g hl))
set_option maxHeartbeats 4000000 in
set_option maxRecDepth 100000 in
theorem case_26 {p : Program} {l : Launch} {e : Env} {s : State} {m : MethodId} {args : Array Value} {below : List Frame} {meth : Method} {c : Code} {cells slots : Nat} {Q : State → Prop} {G : gT} {b L i : Nat} {xs : Nat → Int32} (hfl : l.stackTraces = false) (S : CallFix p m c cL_law 9 s args lw_all "ShadowPoolLaw") (hX : va_X b L xs s s.heap) (hbl : b < s.heap.size) (hbA : ¬ GA G s.heap.size b) (hL : L ≤ 2048) (hiL : i + 4 ≤ L) {F : Fs} {n h : Nat} {o : Int64} {H : Heap} {locs : List Loc} {ls : Array Slot} (I : InvL F n h) (hh : h ≤ 30720) (g : GB G F o [] [] s H locs) (hl : lv_has ls 9 (lwL G b i)) (hc : cells + 9 ≤ room_1.cells ∧ slots + 76 ≤ room_1.slots) (kk : KKc p l e s m args below meth c cells slots Q G b i h) : W p l e room_1 s m args below meth c H locs cells slots Q (F0 m 1284 ls []) := by
  have R := I.2.1
  have hc0 : cells ≤ room_1.cells ∧ slots ≤ room_1.slots := ⟨by omega, by omega⟩
  have hc1 : cells + 1 ≤ room_1.cells ∧ slots + 6 ≤ room_1.slots := ⟨by omega, by omega⟩
  have ev : F 1 4 = F 25 3 := R.2.2.2.2.2.2.2.1
  have hN := m_limit l G F o
  rw [← ev] at hN
  exact seg_26 (xs := xs) (L := L) S g hl (c_limit l G F o) ⟨Nat.le_of_ble_eq_true rfl, Nat.le_of_ble_eq_true rfl⟩ hc0 hN ⟨Nat.le_of_ble_eq_true rfl, Nat.le_of_ble_eq_true rfl⟩ (fun H locs ls g hl => W.widen (k := cells + 9) (n := slots + 76) (by omega) (by omega) (kk _ _ _ _ H locs ls (th_inv I 0) (by omega) g hl))
set_option maxHeartbeats 4000000 in
set_option maxRecDepth 100000 in
theorem case_27 {p : Program} {l : Launch} {e : Env} {s : State} {m : MethodId} {args : Array Value} {below : List Frame} {meth : Method} {c : Code} {cells slots : Nat} {Q : State → Prop} {G : gT} {b L i : Nat} {xs : Nat → Int32} (hfl : l.stackTraces = false) (S : CallFix p m c cL_law 9 s args lw_all "ShadowPoolLaw") (hX : va_X b L xs s s.heap) (hbl : b < s.heap.size) (hbA : ¬ GA G s.heap.size b) (hL : L ≤ 2048) (hiL : i + 4 ≤ L) {F : Fs} {n h : Nat} {o : Int64} {H : Heap} {locs : List Loc} {ls : Array Slot} (I : InvL F n h) (hh : h ≤ 30720) (g : GB G F o [] [] s H locs) (hl : lv_has ls 9 (lwL G b i)) (hc : cells + 9 ≤ room_1.cells ∧ slots + 76 ≤ room_1.slots) (kk : KKc p l e s m args below meth c cells slots Q G b i h) : W p l e room_1 s m args below meth c H locs cells slots Q (F0 m 1297 ls []) := by
  have R := I.2.1
  have hc0 : cells ≤ room_1.cells ∧ slots ≤ room_1.slots := ⟨by omega, by omega⟩
  have hc1 : cells + 1 ≤ room_1.cells ∧ slots + 6 ≤ room_1.slots := ⟨by omega, by omega⟩
  have ev : F 1 5 = F 25 4 := R.2.2.2.2.2.2.2.2.1
  have hN := m_reinsurersLoss l G F o
  rw [← ev] at hN
  exact seg_27 (xs := xs) (L := L) S g hl (c_reinsurersLoss l G F o) ⟨Nat.le_of_ble_eq_true rfl, Nat.le_of_ble_eq_true rfl⟩ hc0 hN ⟨Nat.le_of_ble_eq_true rfl, Nat.le_of_ble_eq_true rfl⟩ (fun H locs ls g hl => W.widen (k := cells + 9) (n := slots + 76) (by omega) (by omega) (kk _ _ _ _ H locs ls (th_inv I 0) (by omega) g hl))
set_option maxHeartbeats 4000000 in
set_option maxRecDepth 100000 in
theorem case_28 {p : Program} {l : Launch} {e : Env} {s : State} {m : MethodId} {args : Array Value} {below : List Frame} {meth : Method} {c : Code} {cells slots : Nat} {Q : State → Prop} {G : gT} {b L i : Nat} {xs : Nat → Int32} (hfl : l.stackTraces = false) (S : CallFix p m c cL_law 9 s args lw_all "ShadowPoolLaw") (hX : va_X b L xs s s.heap) (hbl : b < s.heap.size) (hbA : ¬ GA G s.heap.size b) (hL : L ≤ 2048) (hiL : i + 4 ≤ L) {F : Fs} {n h : Nat} {o : Int64} {H : Heap} {locs : List Loc} {ls : Array Slot} (I : InvL F n h) (hh : h ≤ 30720) (g : GB G F o [] [] s H locs) (hl : lv_has ls 9 (lwL G b i)) (hc : cells + 9 ≤ room_1.cells ∧ slots + 76 ≤ room_1.slots) (kk : KKc p l e s m args below meth c cells slots Q G b i h) : W p l e room_1 s m args below meth c H locs cells slots Q (F0 m 1310 ls []) := by
  have R := I.2.1
  have hc0 : cells ≤ room_1.cells ∧ slots ≤ room_1.slots := ⟨by omega, by omega⟩
  have hc1 : cells + 1 ≤ room_1.cells ∧ slots + 6 ≤ room_1.slots := ⟨by omega, by omega⟩
  generalize e1 : xs (i + 1) = x
  rcases walker_or x I.1 with ⟨j, hj, rfl⟩ | hx
  · obtain ⟨f, f1, f2⟩ := fl_lt I hh j hj
    exact seg_28 S hX hbl hbA hL hiL e1 g hl (h_hoursUntilFall_ok l G F o j n h R.2.2.1 hj I.1 R.1 (by omega)) ⟨Nat.le_of_ble_eq_true rfl, Nat.le_of_ble_eq_true rfl⟩ hc0 (m_hoursUntilFall_ok l G F _ j n h I.okM I.1 (by omega) hj) ⟨Nat.le_of_ble_eq_true rfl, Nat.le_of_ble_eq_true rfl⟩ (hm_th F j n h) (fun _ => congrArg Int32.toInt64 (rel_hm I.1 hj (rel_f1 I (fun _ _ _ => rfl) (sm_th F 0)) f1 ((up2_ne _ _ (by omega)).trans f2))) (fun H locs ls g hl => W.widen (k := cells + 9) (n := slots + 76) (by omega) (by omega) (kk _ _ _ _ H locs ls ((th_inv I 0).same (ls_hm _ j n h).sc (hm_keep _ j n h).1) (by omega) g hl))
  · exact seg_28 S hX hbl hbA hL hiL e1 g hl (h_hoursUntilFall_no l hfl G F o x n R.2.2.1 hx) ⟨Nat.le_of_ble_eq_true rfl, Nat.le_of_ble_eq_true rfl⟩ hc1 (m_hoursUntilFall_no l G F _ x n R.2.2.2.1 I.1 hx) ⟨Nat.le_of_ble_eq_true rfl, Nat.le_of_ble_eq_true rfl⟩ (up2_s _ _ _ _) (fun c9 => absurd c9 (by decide)) (fun H locs ls g hl => W.widen (k := cells + 9) (n := slots + 76) (by omega) (by omega) (kk _ _ _ _ H locs ls (th_inv I 1) (by omega) g hl))
set_option maxHeartbeats 4000000 in
set_option maxRecDepth 100000 in
theorem case_29 {p : Program} {l : Launch} {e : Env} {s : State} {m : MethodId} {args : Array Value} {below : List Frame} {meth : Method} {c : Code} {cells slots : Nat} {Q : State → Prop} {G : gT} {b L i : Nat} {xs : Nat → Int32} (hfl : l.stackTraces = false) (S : CallFix p m c cL_law 9 s args lw_all "ShadowPoolLaw") (hX : va_X b L xs s s.heap) (hbl : b < s.heap.size) (hbA : ¬ GA G s.heap.size b) (hL : L ≤ 2048) (hiL : i + 4 ≤ L) {F : Fs} {n h : Nat} {o : Int64} {H : Heap} {locs : List Loc} {ls : Array Slot} (I : InvL F n h) (hh : h ≤ 30720) (g : GB G F o [] [] s H locs) (hl : lv_has ls 9 (lwL G b i)) (hc : cells + 9 ≤ room_1.cells ∧ slots + 76 ≤ room_1.slots) (kk : KKc p l e s m args below meth c cells slots Q G b i h) : W p l e room_1 s m args below meth c H locs cells slots Q (F0 m 1366 ls []) := by
  have R := I.2.1
  have hc0 : cells ≤ room_1.cells ∧ slots ≤ room_1.slots := ⟨by omega, by omega⟩
  have hc1 : cells + 1 ≤ room_1.cells ∧ slots + 6 ≤ room_1.slots := ⟨by omega, by omega⟩
  have ev : nfL F h n 0 (-1) 101 = nmR F n h := (rel_nm I.1 R (fl_lt I hh))
  have hN := m_nextToFall l G F o n h I.okM I.1 (by omega)
  rw [← ev] at hN
  exact seg_29 (xs := xs) (L := L) S g hl (c_nextToFall l G F o n h I.okP I.1 (by omega)) ⟨Nat.le_of_ble_eq_true rfl, Nat.le_of_ble_eq_true rfl⟩ hc0 hN ⟨Nat.le_of_ble_eq_true rfl, Nat.le_of_ble_eq_true rfl⟩ (fun H locs ls g hl => W.widen (k := cells + 9) (n := slots + 76) (by omega) (by omega) (kk _ _ _ _ H locs ls (th_inv (I.same (ls_nm F n h).sc (nm_keep F n h).1) 0) (by omega) g hl))
set_option maxHeartbeats 4000000 in
set_option maxRecDepth 100000 in
theorem case_30 {p : Program} {l : Launch} {e : Env} {s : State} {m : MethodId} {args : Array Value} {below : List Frame} {meth : Method} {c : Code} {cells slots : Nat} {Q : State → Prop} {G : gT} {b L i : Nat} {xs : Nat → Int32} (hfl : l.stackTraces = false) (S : CallFix p m c cL_law 9 s args lw_all "ShadowPoolLaw") (hX : va_X b L xs s s.heap) (hbl : b < s.heap.size) (hbA : ¬ GA G s.heap.size b) (hL : L ≤ 2048) (hiL : i + 4 ≤ L) {F : Fs} {n h : Nat} {o : Int64} {H : Heap} {locs : List Loc} {ls : Array Slot} (I : InvL F n h) (hh : h ≤ 30720) (g : GB G F o [] [] s H locs) (hl : lv_has ls 9 (lwL G b i)) (hc : cells + 9 ≤ room_1.cells ∧ slots + 76 ≤ room_1.slots) (kk : KKc p l e s m args below meth c cells slots Q G b i h) : W p l e room_1 s m args below meth c H locs cells slots Q (F0 m 1379 ls []) := by
  have R := I.2.1
  have hc0 : cells ≤ room_1.cells ∧ slots ≤ room_1.slots := ⟨by omega, by omega⟩
  have hc1 : cells + 1 ≤ room_1.cells ∧ slots + 6 ≤ room_1.slots := ⟨by omega, by omega⟩
  generalize e1 : xs (i + 1) = x
  by_cases hx : inR x 1 60 = 0
  · exact seg_30 S hX hbl hbA hL hiL e1 g hl (h_fundIn_no l hfl G F o x hx) ⟨Nat.le_of_ble_eq_true rfl, Nat.le_of_ble_eq_true rfl⟩ hc1 (m_fundIn_no l G F _ x hx) ⟨Nat.le_of_ble_eq_true rfl, Nat.le_of_ble_eq_true rfl⟩ (up2_s _ _ _ _) (fun c9 => absurd c9 (by decide)) (fun H locs ls g hl => W.widen (k := cells + 9) (n := slots + 76) (by omega) (by omega) (kk _ _ _ _ H locs ls (th_inv I 1) (by omega) g hl))
  · obtain ⟨t, t1, t2, rfl⟩ := inR_1 (hi := 60) rfl (by decide) hx
    have hs1 := hs_fb I.1 F h t (F 1 2) (F 1 4)
    have I1 : InvL (fbF F n h t (F 1 2) (F 1 4)) n h := I.same (sc_fb F n h t (F 1 2) (F 1 4)) hs1.sm
    have RK := rel_f1 I hs1 ((sm_th _ 0).tr (kp_keep _).1)
    have e2 := rel_fb (t := t) I.1 RK (fun _ _ _ => rfl) RK.2.2.2.2.2.1.symm RK.2.2.2.2.2.2.2.1.symm
    exact seg_30 S hX hbl hbA hL hiL e1 g hl (h_fundIn_ok l G F o t n h I.okP I.1 (by omega) t1 t2) ⟨Nat.le_of_ble_eq_true rfl, Nat.le_of_ble_eq_true rfl⟩ hc0 (m_fundIn_ok l G _ _ t n h I1.okM I.1 (by omega) t1 t2) ⟨Nat.le_of_ble_eq_true rfl, Nat.le_of_ble_eq_true rfl⟩ (fd_th _ n h t) (fun _ => congrArg Int32.toInt64 e2) (fun H locs ls g hl => W.widen (k := cells + 9) (n := slots + 76) (by omega) (by omega) (kk _ _ _ _ H locs ls ((th_inv I1 0).same ((ls_kp _).tr (ls_fd _ n h t)).sc (fi_keep _ n h t).1) (by omega) g hl))
set_option maxHeartbeats 4000000 in
set_option maxRecDepth 100000 in
theorem case_31 {p : Program} {l : Launch} {e : Env} {s : State} {m : MethodId} {args : Array Value} {below : List Frame} {meth : Method} {c : Code} {cells slots : Nat} {Q : State → Prop} {G : gT} {b L i : Nat} {xs : Nat → Int32} (hfl : l.stackTraces = false) (S : CallFix p m c cL_law 9 s args lw_all "ShadowPoolLaw") (hX : va_X b L xs s s.heap) (hbl : b < s.heap.size) (hbA : ¬ GA G s.heap.size b) (hL : L ≤ 2048) (hiL : i + 4 ≤ L) {F : Fs} {n h : Nat} {o : Int64} {H : Heap} {locs : List Loc} {ls : Array Slot} (I : InvL F n h) (hh : h ≤ 30720) (g : GB G F o [] [] s H locs) (hl : lv_has ls 9 (lwL G b i)) (hc : cells + 9 ≤ room_1.cells ∧ slots + 76 ≤ room_1.slots) (kk : KKc p l e s m args below meth c cells slots Q G b i h) : W p l e room_1 s m args below meth c H locs cells slots Q (F0 m 1435 ls []) := by
  have R := I.2.1
  have hc0 : cells ≤ room_1.cells ∧ slots ≤ room_1.slots := ⟨by omega, by omega⟩
  have hc1 : cells + 1 ≤ room_1.cells ∧ slots + 6 ≤ room_1.slots := ⟨by omega, by omega⟩
  have I1f := I.same (sc_ru F n h) (hs_ru I.1 F h).sm
  have I1 : InvL ((ruL n 100 0 h (cpyF F n)).2) n h := I1f
  have ev : (ruL n 100 0 h (cpyF F n)).1 = (rmL n h 101 0 (kpF (th0 ((ruL n 100 0 h (cpyF F n)).2) 0))).1 := (rel_ru I.1 (rel_f1 I (hs_ru I.1 F h) (sm_th _ 0)))
  have hN := m_hoursUntilRuin l G ((ruL n 100 0 h (cpyF F n)).2) o n h I1.okM I.1 (by omega)
  rw [← ev] at hN
  exact seg_31 (xs := xs) (L := L) S g hl (c_hoursUntilRuin l G F o n h I.okP I.1 (by omega)) ⟨Nat.le_of_ble_eq_true rfl, Nat.le_of_ble_eq_true rfl⟩ hc0 hN ⟨Nat.le_of_ble_eq_true rfl, Nat.le_of_ble_eq_true rfl⟩ (fun H locs ls g hl => W.widen (k := cells + 9) (n := slots + 76) (by omega) (by omega) (kk _ _ _ _ H locs ls ((th_inv I1 0).same (ls_rm _ n h).sc (rm_keep _ n h).1) (by omega) g hl))
set_option maxHeartbeats 4000000 in
set_option maxRecDepth 100000 in
theorem case_32 {p : Program} {l : Launch} {e : Env} {s : State} {m : MethodId} {args : Array Value} {below : List Frame} {meth : Method} {c : Code} {cells slots : Nat} {Q : State → Prop} {G : gT} {b L i : Nat} {xs : Nat → Int32} (hfl : l.stackTraces = false) (S : CallFix p m c cL_law 9 s args lw_all "ShadowPoolLaw") (hX : va_X b L xs s s.heap) (hbl : b < s.heap.size) (hbA : ¬ GA G s.heap.size b) (hL : L ≤ 2048) (hiL : i + 4 ≤ L) {F : Fs} {n h : Nat} {o : Int64} {H : Heap} {locs : List Loc} {ls : Array Slot} (I : InvL F n h) (hh : h ≤ 30720) (g : GB G F o [] [] s H locs) (hl : lv_has ls 9 (lwL G b i)) (hc : cells + 9 ≤ room_1.cells ∧ slots + 76 ≤ room_1.slots) (kk : KKc p l e s m args below meth c cells slots Q G b i h) : W p l e room_1 s m args below meth c H locs cells slots Q (F0 m 1448 ls []) := by
  have R := I.2.1
  have hc0 : cells ≤ room_1.cells ∧ slots ≤ room_1.slots := ⟨by omega, by omega⟩
  have hc1 : cells + 1 ≤ room_1.cells ∧ slots + 6 ≤ room_1.slots := ⟨by omega, by omega⟩
  have I1f := I.same (sc_be F n h) (hs_be I.1 F h).sm
  have I1 : InvL ((beF F n h).2) n h := I1f
  have ev : (beF F n h).1 = (bmF ((beF F n h).2) n h).1 := (rel_be I.1 (rel_f1 I (hs_be I.1 F h) (SameM.rf _)))
  have hN := m_bestLimit l G ((beF F n h).2) o n h I1.okM I.1 (by omega)
  rw [← ev] at hN
  exact seg_32 (xs := xs) (L := L) S g hl (c_bestLimit l G F o n h I.okP I.1 (by omega)) ⟨Nat.le_of_ble_eq_true rfl, Nat.le_of_ble_eq_true rfl⟩ hc0 hN ⟨Nat.le_of_ble_eq_true rfl, Nat.le_of_ble_eq_true rfl⟩ (fun H locs ls g hl => W.widen (k := cells + 9) (n := slots + 76) (by omega) (by omega) (kk _ _ _ _ H locs ls (th_inv (I1.same (ls_bm _ n h).sc (bm_keep _ n h).1) 0) (by omega) g hl))
set_option maxHeartbeats 4000000 in
set_option maxRecDepth 100000 in
theorem case_33 {p : Program} {l : Launch} {e : Env} {s : State} {m : MethodId} {args : Array Value} {below : List Frame} {meth : Method} {c : Code} {cells slots : Nat} {Q : State → Prop} {G : gT} {b L i : Nat} {xs : Nat → Int32} (hfl : l.stackTraces = false) (S : CallFix p m c cL_law 9 s args lw_all "ShadowPoolLaw") (hX : va_X b L xs s s.heap) (hbl : b < s.heap.size) (hbA : ¬ GA G s.heap.size b) (hL : L ≤ 2048) (hiL : i + 4 ≤ L) {F : Fs} {n h : Nat} {o : Int64} {H : Heap} {locs : List Loc} {ls : Array Slot} (I : InvL F n h) (hh : h ≤ 30720) (g : GB G F o [] [] s H locs) (hl : lv_has ls 9 (lwL G b i)) (hc : cells + 9 ≤ room_1.cells ∧ slots + 76 ≤ room_1.slots) (kk : KKc p l e s m args below meth c cells slots Q G b i h) : W p l e room_1 s m args below meth c H locs cells slots Q (F0 m 1461 ls []) := by
  have R := I.2.1
  have hc0 : cells ≤ room_1.cells ∧ slots ≤ room_1.slots := ⟨by omega, by omega⟩
  have hc1 : cells + 1 ≤ room_1.cells ∧ slots + 6 ≤ room_1.slots := ⟨by omega, by omega⟩
  have I1f := I.same (sc_fi F n h) (hs_fi I.1 F h).sm
  have I1 : InvL ((fiF F n h).2) n h := I1f
  have ev : (fiF F n h).1 = (amF ((fiF F n h).2) n h).1 := (rel_fi I.1 (rel_f1 I (hs_fi I.1 F h) (SameM.rf _)))
  have hN := m_fairRate l G ((fiF F n h).2) o n h I1.okM I.1 (by omega)
  rw [← ev] at hN
  exact seg_33 (xs := xs) (L := L) S g hl (c_fairRate l G F o n h I.okP I.1 (by omega)) ⟨Nat.le_of_ble_eq_true rfl, Nat.le_of_ble_eq_true rfl⟩ hc0 hN ⟨Nat.le_of_ble_eq_true rfl, Nat.le_of_ble_eq_true rfl⟩ (fun H locs ls g hl => W.widen (k := cells + 9) (n := slots + 76) (by omega) (by omega) (kk _ _ _ _ H locs ls (th_inv (I1.same (ls_am _ n h).sc (am_keep _ n h).1) 0) (by omega) g hl))
set_option maxHeartbeats 4000000 in
set_option maxRecDepth 100000 in
theorem case_34 {p : Program} {l : Launch} {e : Env} {s : State} {m : MethodId} {args : Array Value} {below : List Frame} {meth : Method} {c : Code} {cells slots : Nat} {Q : State → Prop} {G : gT} {b L i : Nat} {xs : Nat → Int32} (hfl : l.stackTraces = false) (S : CallFix p m c cL_law 9 s args lw_all "ShadowPoolLaw") (hX : va_X b L xs s s.heap) (hbl : b < s.heap.size) (hbA : ¬ GA G s.heap.size b) (hL : L ≤ 2048) (hiL : i + 4 ≤ L) {F : Fs} {n h : Nat} {o : Int64} {H : Heap} {locs : List Loc} {ls : Array Slot} (I : InvL F n h) (hh : h ≤ 30720) (g : GB G F o [] [] s H locs) (hl : lv_has ls 9 (lwL G b i)) (hc : cells + 9 ≤ room_1.cells ∧ slots + 76 ≤ room_1.slots) (kk : KKc p l e s m args below meth c cells slots Q G b i h) : W p l e room_1 s m args below meth c H locs cells slots Q (F0 m 1474 ls []) := by
  have R := I.2.1
  have hc0 : cells ≤ room_1.cells ∧ slots ≤ room_1.slots := ⟨by omega, by omega⟩
  have hc1 : cells + 1 ≤ room_1.cells ∧ slots + 6 ≤ room_1.slots := ⟨by omega, by omega⟩
  have ev : msD F n h = tmD (th0 F 0) n h := (rel_mean I)
  have hN := m_meanShadow l G F o n h I.okM I.1 (by omega) (nan_m I)
  rw [← ev] at hN
  exact seg_34 (xs := xs) (L := L) S g hl (c_meanShadow l G F o n h I.okP I.1 (by omega) (nan_c I)) ⟨Nat.le_of_ble_eq_true rfl, Nat.le_of_ble_eq_true rfl⟩ hc0 hN ⟨Nat.le_of_ble_eq_true rfl, Nat.le_of_ble_eq_true rfl⟩ (fun H locs ls g hl => W.widen (k := cells + 9) (n := slots + 76) (by omega) (by omega) (kk _ _ _ _ H locs ls (th_inv I 0) (by omega) g hl))
set_option maxHeartbeats 4000000 in
set_option maxRecDepth 100000 in
theorem case_35 {p : Program} {l : Launch} {e : Env} {s : State} {m : MethodId} {args : Array Value} {below : List Frame} {meth : Method} {c : Code} {cells slots : Nat} {Q : State → Prop} {G : gT} {b L i : Nat} {xs : Nat → Int32} (hfl : l.stackTraces = false) (S : CallFix p m c cL_law 9 s args lw_all "ShadowPoolLaw") (hX : va_X b L xs s s.heap) (hbl : b < s.heap.size) (hbA : ¬ GA G s.heap.size b) (hL : L ≤ 2048) (hiL : i + 4 ≤ L) {F : Fs} {n h : Nat} {o : Int64} {H : Heap} {locs : List Loc} {ls : Array Slot} (I : InvL F n h) (hh : h ≤ 30720) (g : GB G F o [] [] s H locs) (hl : lv_has ls 9 (lwL G b i)) (hc : cells + 9 ≤ room_1.cells ∧ slots + 76 ≤ room_1.slots) (kk : KKc p l e s m args below meth c cells slots Q G b i h) : W p l e room_1 s m args below meth c H locs cells slots Q (F0 m 1515 ls []) := by
  have R := I.2.1
  have hc0 : cells ≤ room_1.cells ∧ slots ≤ room_1.slots := ⟨by omega, by omega⟩
  have hc1 : cells + 1 ≤ room_1.cells ∧ slots + 6 ≤ room_1.slots := ⟨by omega, by omega⟩
  have hsd := hs_dg I.1 F h
  have I1f := I.same (sc_dg F n h) hsd.sm
  have I1 : InvL (dgF F n h) n h := I1f
  have ev : dgI F n h = dmI (dgF F n h) n h := (rel_dg I.1 (rel_f1 I hsd (SameM.rf _)) (fun j hj => fl_lt I1 hh j hj))
  have hN := m_digest l G (dgF F n h) o n h I1.okM I.1 (by omega)
  rw [← ev] at hN
  exact seg_35 (xs := xs) (L := L) S g hl (c_digest l G F o n h I.okP I.1 (by omega)) ⟨Nat.le_of_ble_eq_true rfl, Nat.le_of_ble_eq_true rfl⟩ hc0 hc hN ⟨Nat.le_of_ble_eq_true rfl, Nat.le_of_ble_eq_true rfl⟩ (fun H locs ls g hl => W.widen (k := cells + 9) (n := slots + 76) (by omega) (by omega) (kk _ _ _ _ H locs ls (I1.same (ls_dm (dgF F n h) n h).sc (sm_dm (dgF F n h) n h)) (by omega) g hl))
