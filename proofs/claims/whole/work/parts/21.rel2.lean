/-! CLASS AND REFERENCE: the looks -/
theorem nI_m1 {a : Nat} (h : a < 2 ^ 31) : ¬ nI a = -1 := fun e => by
  have := nI_pos h
  rw [e] at this
  exact this (by decide)
theorem nI_fut {a : Nat} (h : a < 2 ^ 31) : (-1 : Int32) < nI a := by
  rcases Int32.lt_or_eq_of_le (Int32.not_lt.mp (nI_pos h)) with h1 | h1
  · exact Int32.lt_of_lt_of_le (by decide) (Int32.le_of_lt h1)
  · rw [← h1]; decide
/-- the reference's rows in M are those in F; the class's book of now in F' is that in F -/
def SameM (F M : Fs) : Prop := (∀ q, 1 ≤ q → M 21 q = F 21 q) ∧ (∀ q, M 22 q = F 22 q) ∧ (∀ q, M 23 q = F 23 q) ∧ (∀ q, M 24 q = F 24 q) ∧ ∀ q, q < 29 → M 25 q = F 25 q
def SameC (F F' : Fs) : Prop := (∀ q, F' 1 q = F 1 q) ∧ ∀ j, j < 8 → ∀ q, F' (wb 1 j) q = F (wb 1 j) q
theorem SameM.rf (F : Fs) : SameM F F := ⟨fun _ _ => rfl, fun _ => rfl, fun _ => rfl, fun _ => rfl, fun _ _ => rfl⟩
theorem SameC.rf (F : Fs) : SameC F F := ⟨fun _ => rfl, fun _ _ _ => rfl⟩
theorem SameM.tr {A B C : Fs} (h : SameM A B) (k : SameM B C) : SameM A C := ⟨fun q hq => (k.1 q hq).trans (h.1 q hq), fun q => (k.2.1 q).trans (h.2.1 q), fun q => (k.2.2.1 q).trans (h.2.2.1 q), fun q => (k.2.2.2.1 q).trans (h.2.2.2.1 q), fun q hq => (k.2.2.2.2 q hq).trans (h.2.2.2.2 q hq)⟩
theorem SameC.tr {A B C : Fs} (h : SameC A B) (k : SameC B C) : SameC A C := ⟨fun q => (k.1 q).trans (h.1 q), fun j hj q => (k.2 j hj q).trans (h.2 j hj q)⟩
theorem RelB.sm {b n h : Nat} {F M M' : Fs} (hn8 : n ≤ 8) (R : RelB b F M n h) (S : SameM M M') : RelB b F M' n h := by
  obtain ⟨a0, m0, a6, m1, a1, a2, a3, a4, a5, aw⟩ := R
  obtain ⟨s1, s2, s3, s4, s5⟩ := S
  refine ⟨a0, by rw [s5 0 (by omega)]; exact m0, a6, by rw [s1 1 (by omega)]; exact m1, by rw [s5 1 (by omega)]; exact a1, by rw [s5 2 (by omega)]; exact a2, by rw [s1 2 (by omega)]; exact a3, by rw [s5 3 (by omega)]; exact a4, by rw [s5 4 (by omega)]; exact a5, fun j hj => ?_⟩
  obtain ⟨t0, t1, t2, t3, t4, t5⟩ := aw j hj
  exact ⟨by rw [s2]; exact t0, by rw [s3]; exact t1, by rw [s5 _ (by omega)]; exact t2, by rw [s5 _ (by omega)]; exact t3, by rw [s5 _ (by omega)]; exact t4, by rw [s4]; exact t5⟩
theorem RelB.sc {n h : Nat} {F F' M : Fs} (hn8 : n ≤ 8) (R : RelB 1 F M n h) (S : SameC F F') : RelB 1 F' M n h := by
  obtain ⟨a0, m0, a6, m1, a1, a2, a3, a4, a5, aw⟩ := R
  obtain ⟨s1, s2⟩ := S
  refine ⟨by rw [s1]; exact a0, m0, by rw [s1]; exact a6, m1, by rw [s1]; exact a1, by rw [s1]; exact a2, by rw [s1]; exact a3, by rw [s1]; exact a4, by rw [s1]; exact a5, fun j hj => ?_⟩
  obtain ⟨t0, t1, t2, t3, t4, t5⟩ := aw j hj
  have e := s2 j (by omega)
  exact ⟨by rw [e]; exact t0, by rw [e]; exact t1, by rw [e]; exact t2, by rw [e]; exact t3, by rw [e]; exact t4, by rw [e]; exact t5⟩
-- the class's own frames
theorem sc_fb (F : Fs) (n h t : Nat) (rate lim : Int32) : SameC F (fbF F n h t rate lim) := ⟨fun q => fbF_ne F n h t rate lim (off1 n) q, fun _ hj q => fbF_ne F n h t rate lim (offw hj) q⟩
theorem sc_be (F : Fs) (n h : Nat) : SameC F (beF F n h).2 := ⟨fun q => beF_ne (off1 n) q, fun _ hj q => beF_ne (offw hj) q⟩
theorem sc_fi (F : Fs) (n h : Nat) : SameC F (fiF F n h).2 := ⟨fun q => fiL_ne (off1 n) 10 0 F q, fun _ hj q => fiL_ne (offw hj) 10 0 F q⟩
theorem ruL_ne {n a : Nat} (ho : offT n a) : ∀ (k i h : Nat) (F : Fs) (b : Nat), (ruL n k i h F).2 a b = F a b := by
  intro k
  induction k with
  | zero => intro i h F b; rfl
  | succ k ih =>
    intro i h F b
    unfold ruL
    split
    · rw [ih, gbL_ne n ho]
    · rfl
theorem sc_ru (F : Fs) (n h : Nat) : SameC F (ruL n 100 0 h (cpyF F n)).2 := ⟨fun q => by rw [ruL_ne (off1 n), cpyF_ne F n (off1 n)], fun _ hj q => by rw [ruL_ne (offw hj), cpyF_ne F n (offw hj)]⟩
/-- all of the rows from 21 on are as they were -/
def HighS (F F' : Fs) : Prop := ∀ a, 21 ≤ a → ∀ q, F' a q = F a q
theorem offh {n a : Nat} (hn8 : n ≤ 8) (ha : 21 ≤ a) : offT n a := ⟨by omega, fun q hq => by unfold wb; omega⟩
theorem hs_fb {n : Nat} (hn8 : n ≤ 8) (F : Fs) (h t : Nat) (rate lim : Int32) : HighS F (fbF F n h t rate lim) := fun _ ha q => fbF_ne F n h t rate lim (offh hn8 ha) q
theorem hs_be {n : Nat} (hn8 : n ≤ 8) (F : Fs) (h : Nat) : HighS F (beF F n h).2 := fun _ ha q => beF_ne (offh hn8 ha) q
theorem hs_fi {n : Nat} (hn8 : n ≤ 8) (F : Fs) (h : Nat) : HighS F (fiF F n h).2 := fun _ ha q => fiL_ne (offh hn8 ha) 10 0 F q
theorem hs_ru {n : Nat} (hn8 : n ≤ 8) (F : Fs) (h : Nat) : HighS F (ruL n 100 0 h (cpyF F n)).2 := fun _ ha q => by rw [ruL_ne (offh hn8 ha), cpyF_ne F n (offh hn8 ha)]
theorem HighS.sm {F F' : Fs} (h : HighS F F') : SameM F F' := ⟨fun q _ => h 21 (by omega) q, fun q => h 22 (by omega) q, fun q => h 23 (by omega) q, fun q => h 24 (by omega) q, fun q _ => h 25 (by omega) q⟩
theorem HighS.tr {A B C : Fs} (h : HighS A B) (k : HighS B C) : HighS A C := fun a ha q => (k a ha q).trans (h a ha q)
/-- all of the rows below 21 are as they were -/
def LowS (F F' : Fs) : Prop := ∀ a, a < 21 → ∀ q, F' a q = F a q
theorem LowS.sc {F F' : Fs} (h : LowS F F') : SameC F F' := ⟨fun q => h 1 (by omega) q, fun j hj q => h _ (by unfold wb; omega) q⟩
theorem LowS.tr {A B C : Fs} (h : LowS A B) (k : LowS B C) : LowS A C := fun a ha q => (k a ha q).trans (h a ha q)
theorem LowS.rf (F : Fs) : LowS F F := fun _ _ _ => rfl
-- the copy
theorem cpyL_w : ∀ (k i : Nat) (F : Fs) (j q : Nat), i ≤ j → j < i + k → i + k ≤ 8 → q < 6 → cpyL k i F (wb 2 j) q = F (wb 1 j) q := by
  intro k
  induction k with
  | zero => intro i F j q h1 h2; omega
  | succ k ih =>
    intro i F j q h1 h2 h3 hq
    show cpyL k (i + 1) (cpwF F (wb 2 i) (wb 1 i)) (wb 2 j) q = _
    by_cases hji : j = i
    · subst hji
      rw [cpyL_ne k (j + 1) _ q (fun z hz _ e => by have := wb_inj e; omega), cpwF_eq _ _ _ hq]
    · rw [ih (i + 1) _ j q (by omega) (by omega) (by omega) hq]
      exact cpwF_ne _ _ _ (wb_ne2 (by omega)) q
theorem cpy_w {F : Fs} {n j q : Nat} (hn8 : n ≤ 8) (hj : j < n) (hq : q < 6) : cpyF F n (wb 2 j) q = F (wb 1 j) q := by
  unfold cpyF
  rw [cpyL_w n 0 _ j q (by omega) (by omega) (by omega) hq]
  exact hdrF_ne F (Ne.symm (wb_ne (Or.inl rfl) (by decide))) q
theorem rel_copy {n h : Nat} {F M : Fs} (hn8 : n ≤ 8) (R : RelB 1 F M n h) : RelB 2 (cpyF F n) M n h := by
  obtain ⟨a0, m0, a6, m1, a1, a2, a3, a4, a5, aw⟩ := R
  have e : ∀ q, q < 7 → cpyF F n 2 q = F 1 q := fun q hq => cpyF_2 F n hq
  refine ⟨by rw [e 0 (by omega)]; exact a0, m0, by rw [e 6 (by omega)]; exact a6, m1, by rw [e 1 (by omega)]; exact a1, by rw [e 2 (by omega)]; exact a2, by rw [e 3 (by omega)]; exact a3, by rw [e 4 (by omega)]; exact a4, by rw [e 5 (by omega)]; exact a5, fun j hj => ?_⟩
  obtain ⟨t0, t1, t2, t3, t4, t5⟩ := aw j hj
  refine ⟨?_, ?_, ?_, ?_, ?_, ?_⟩ <;> rw [cpy_w hn8 hj (by omega)] <;> assumption
theorem rel_fb0 {n h : Nat} {F M M' : Fs} {rate lim : Int32} (hn8 : n ≤ 8) (R : RelB 1 F M n h) (hM : ∀ a q, ¬ (a = 25 ∧ (q = 2 ∨ q = 3)) → M' a q = M a q) (h2 : M' 25 2 = rate) (h3 : M' 25 3 = lim) : RelB 2 (fb0 F n rate lim) M' n h := by
  obtain ⟨a0, m0, a6, m1, a1, a2, a3, a4, a5, aw⟩ := rel_copy hn8 R
  have e : ∀ q, q ≠ 2 → q ≠ 4 → fb0 F n rate lim 2 q = cpyF F n 2 q := fun q z2 z4 => by unfold fb0; rw [up2_ne _ _ (by omega), up2_ne _ _ (by omega)]
  have ew : ∀ j q, fb0 F n rate lim (wb 2 j) q = cpyF F n (wb 2 j) q := fun j q => by
    have := wb_lo (Or.inr rfl : (2 : Nat) = 1 ∨ (2 : Nat) = 2) j
    unfold fb0; rw [up2_ne _ _ (by omega), up2_ne _ _ (by omega)]
  refine ⟨by rw [e 0 (by omega) (by omega)]; exact a0, by rw [hM _ _ (by omega)]; exact m0, by rw [e 6 (by omega) (by omega)]; exact a6, by rw [hM _ _ (by omega)]; exact m1, by rw [e 1 (by omega) (by omega), hM _ _ (by omega)]; exact a1, ?_, by rw [e 3 (by omega) (by omega), hM _ _ (by omega)]; exact a3, ?_, by rw [e 5 (by omega) (by omega), hM _ _ (by omega)]; exact a5, fun j hj => ?_⟩
  · unfold fb0; rw [up2_ne _ _ (by omega), up2_s, h2]
  · unfold fb0; rw [up2_s, h3]
  · obtain ⟨t0, t1, t2, t3, t4, t5⟩ := aw j hj
    refine ⟨?_, ?_, ?_, ?_, ?_, ?_⟩ <;> rw [ew, hM _ _ (by omega)] <;> assumption
theorem rel_fb {n h t : Nat} {F M M' : Fs} {rate lim : Int32} (hn8 : n ≤ 8) (R : RelB 1 F M n h) (hM : ∀ a q, ¬ (a = 25 ∧ (q = 2 ∨ q = 3)) → M' a q = M a q) (h2 : M' 25 2 = rate) (h3 : M' 25 3 = lim) : fbF F n h t rate lim 2 1 = fdR M' n h t :=
  (rel_hours (Or.inr rfl) hn8 t h 0 _ _ (rel_fb0 hn8 R hM h2 h3)).2.2.2.2.2.1
-- the reference's keeping
def KeepM (M0 M : Fs) : Prop := SameM M0 M ∧ ∀ q, q < 29 → M 26 q = M0 25 q
theorem kp_keep (M : Fs) : KeepM M (kpF M) := ⟨⟨fun q _ => by rw [kpF_ne M (by decide)], fun q => by rw [kpF_ne M (by decide)], fun q => by rw [kpF_ne M (by decide)], fun q => by rw [kpF_ne M (by decide)], fun q _ => by rw [kpF_ne M (by decide)]⟩, fun q hq => kpF_in M hq⟩
theorem br_keep {M0 M M' : Fs} (K : KeepM M0 M) (h : ∀ a, a ≠ 25 → ∀ q, M' a q = M a q) : KeepM M0 (brF M') := by
  obtain ⟨⟨s1, s2, s3, s4, s5⟩, k⟩ := K
  refine ⟨⟨fun q hq => ?_, fun q => ?_, fun q => ?_, fun q => ?_, fun q hq => ?_⟩, fun q hq => ?_⟩
  · rw [brF_ne M' (by decide), h 21 (by decide)]; exact s1 q hq
  · rw [brF_ne M' (by decide), h 22 (by decide)]; exact s2 q
  · rw [brF_ne M' (by decide), h 23 (by decide)]; exact s3 q
  · rw [brF_ne M' (by decide), h 24 (by decide)]; exact s4 q
  · rw [brF_in M' hq, h 26 (by decide)]; exact k q hq
  · rw [brF_ne M' (by decide), h 26 (by decide)]; exact k q hq
theorem fd_keep {M0 M M' : Fs} {n h t : Nat} (K : KeepM M0 M) (hM : ∀ a, a ≠ 25 → ∀ q, M' a q = M a q) : KeepM M0 (fdF M' n h t) :=
  br_keep K (fun a ha q => by rw [gmL_ne n (by omega), hM a ha q])
theorem hmL_ne {w n h a : Nat} (ha : a ≠ 25) : ∀ (k i : Nat) (told : Int32) (F : Fs) (q : Nat), (hmL w n h k i told F).2 a q = F a q := by
  intro k
  induction k with
  | zero => intro i told F q; rfl
  | succ k ih =>
    intro i told F q
    unfold hmL
    split
    · split <;> rw [ih, hoF_ne F n (h + i) (by omega)]
    · rfl
theorem rmL_ne {n h a : Nat} (ha : a ≠ 25) : ∀ (k i : Nat) (F : Fs) (q : Nat), (rmL n h k i F).2 a q = F a q := by
  intro k
  induction k with
  | zero => intro i F q; rfl
  | succ k ih =>
    intro i F q
    unfold rmL
    split
    · rfl
    · rw [ih, hoF_ne F n (h + i) (by omega)]
theorem bmL_keep {n h : Nat} {M0 : Fs} : ∀ (k i : Nat) (best most : Int32) (M : Fs), KeepM M0 M → KeepM M0 (bmL n h k i best most M).2 := by
  intro k
  induction k with
  | zero => intro i best most M K; exact K
  | succ k ih =>
    intro i best most M K
    have K2 : KeepM M0 (fdF (bm1 M i) n h 48) := fd_keep K (fun a ha q => up2_ne _ _ (by omega))
    unfold bmL
    split
    · exact ih _ _ _ _ K2
    · split
      · exact ih _ _ _ _ K2
      · exact ih _ _ _ _ K2
theorem amL_keep {n h : Nat} {M0 : Fs} : ∀ (k i : Nat) (M : Fs), KeepM M0 M → KeepM M0 (amL n h k i M).2 := by
  intro k
  induction k with
  | zero => intro i M K; exact K
  | succ k ih =>
    intro i M K
    have K2 : KeepM M0 (fdF (am1 M i) n h 48) := fd_keep K (fun a ha q => up2_ne _ _ (by omega))
    unfold amL
    split
    · exact ih _ _ K2
    · exact K2
theorem hm_keep (M : Fs) (w n h : Nat) : KeepM M (hmF M w n h) := br_keep (kp_keep M) (fun _ ha q => hmL_ne ha _ _ _ _ q)
theorem nm_keep (M : Fs) (n h : Nat) : KeepM M (nmF M n h) := br_keep (kp_keep M) (fun _ ha _ => nmL_26 ha _ _ _ _)
theorem bm_keep (M : Fs) (n h : Nat) : KeepM M (bmF M n h).2 := bmL_keep _ _ _ _ _ (kp_keep M)
theorem am_keep (M : Fs) (n h : Nat) : KeepM M (amF M n h).2 := amL_keep _ _ _ (kp_keep M)
theorem rm_keep (M : Fs) (n h : Nat) : KeepM M (brF (rmL n h 101 0 (kpF M)).2) := br_keep (kp_keep M) (fun _ ha q => rmL_ne ha _ _ _ q)
theorem fi_keep (M : Fs) (n h t : Nat) : KeepM M (fdF (kpF M) n h t) := fd_keep (kp_keep M) (fun _ _ _ => rfl)
theorem sm_th (F : Fs) (v : Int32) : SameM F (th0 F v) := ⟨fun q hq => up2_ne _ _ (by omega), fun q => up2_ne _ _ (by omega), fun q => up2_ne _ _ (by omega), fun q => up2_ne _ _ (by omega), fun q _ => up2_ne _ _ (by omega)⟩
-- the reference's own low rows
theorem ls_up {F : Fs} {k q : Nat} {v : Int32} (h : 21 ≤ k) : LowS F (up2 F k q v) := fun a ha _ => up2_ne _ _ (by omega)
theorem ls_br {F F' : Fs} (h : LowS F F') : LowS F (brF F') := fun a ha q => by rw [brF_ne F' (by omega)]; exact h a ha q
theorem ls_kp (F : Fs) : LowS F (kpF F) := fun a ha q => by rw [kpF_ne F (by omega)]
theorem ls_gm (F : Fs) (n t h : Nat) (acc : Int32) : LowS F (gmL n t h acc F).2 := fun a ha q => gmL_ne n (by omega) t h acc F
theorem ls_fd (F : Fs) (n h t : Nat) : LowS F (fdF F n h t) := ls_br (ls_gm F n t h 0)
theorem ls_hm (F : Fs) (w n h : Nat) : LowS F (hmF F w n h) := ls_br (fun a ha q => by rw [hmL_ne (by omega), kpF_ne F (by omega)])
theorem ls_nm (F : Fs) (n h : Nat) : LowS F (nmF F n h) := ls_br (fun a ha q => by rw [nmL_26 (by omega), kpF_ne F (by omega)])
theorem ls_rm (F : Fs) (n h : Nat) : LowS F (brF (rmL n h 101 0 (kpF F)).2) := ls_br (fun a ha q => by rw [rmL_ne (by omega), kpF_ne F (by omega)])
theorem bmL_low {n h : Nat} : ∀ (k i : Nat) (best most : Int32) (F : Fs), LowS F (bmL n h k i best most F).2 := by
  intro k
  induction k with
  | zero => intro i best most F; exact LowS.rf F
  | succ k ih =>
    intro i best most F
    have K2 : LowS F (fdF (bm1 F i) n h 48) := (ls_up (by omega)).tr (ls_fd _ n h 48)
    unfold bmL
    split
    · exact K2.tr (ih _ _ _ _)
    · split
      · exact K2.tr (ih _ _ _ _)
      · exact K2.tr (ih _ _ _ _)
theorem amL_low {n h : Nat} : ∀ (k i : Nat) (F : Fs), LowS F (amL n h k i F).2 := by
  intro k
  induction k with
  | zero => intro i F; exact LowS.rf F
  | succ k ih =>
    intro i F
    have K2 : LowS F (fdF (am1 F i) n h 48) := (ls_up (by omega)).tr (ls_fd _ n h 48)
    unfold amL
    split
    · exact K2.tr (ih _ _)
    · exact K2
theorem ls_bm (F : Fs) (n h : Nat) : LowS F (bmF F n h).2 := (ls_kp F).tr (bmL_low _ _ _ _ _)
theorem ls_am (F : Fs) (n h : Nat) : LowS F (amF F n h).2 := (ls_kp F).tr (amL_low _ _ _)
-- best limit
theorem rel_beL {n h : Nat} {F0 M0 : Fs} (hn8 : n ≤ 8) (R0 : RelB 1 F0 M0 n h) : ∀ (k i : Nat) (best gr : Int32) (F M : Fs), i + k ≤ 5 → SameC F0 F → KeepM M0 M → (beL n h k i best gr F).1 = (bmL n h k (i + 1) best gr M).1 := by
  intro k
  induction k with
  | zero => intro i best gr F M _ _ _; rfl
  | succ k ih =>
    intro i best gr F M hi hC hK
    have R : RelB 1 F M n h := (R0.sc hn8 hC).sm hn8 hK.1
    have e : fbF F n h 48 (F 1 2) (nI (20 * (i + 1))) 2 1 = fdR (bm1 M (i + 1)) n h 48 := rel_fb hn8 R (fun a q hq => up2_ne _ _ (by omega)) (by rw [bm1, up2_ne _ _ (by decide)]; exact R.2.2.2.2.2.1.symm) (up2_s _ _ _ _)
    have K2 : KeepM M0 (fdF (bm1 M (i + 1)) n h 48) := fd_keep hK (fun a ha q => up2_ne _ _ (by omega))
    have C2 := hC.tr (sc_fb F n h 48 (F 1 2) (nI (20 * (i + 1))))
    unfold beL bmL
    rw [if_neg (nI_nle (by omega) (by omega)), e]
    by_cases hc : gr < fdR (bm1 M (i + 1)) n h 48
    · rw [if_neg (Int32.not_le.mpr hc), if_pos hc]
      exact ih (i + 1) _ _ _ _ (by omega) C2 K2
    · rw [if_pos (Int32.not_lt.mp hc), if_neg hc]
      exact ih (i + 1) _ _ _ _ (by omega) C2 K2
theorem rel_be {n h : Nat} {F M : Fs} (hn8 : n ≤ 8) (R : RelB 1 F M n h) : (beF F n h).1 = (bmF M n h).1 := by
  have K := kp_keep M
  have R1 : RelB 1 F (kpF M) n h := R.sm hn8 K.1
  have e : be0 F n h 2 1 = fdR (bm1 (kpF M) 0) n h 48 := rel_fb hn8 R1 (fun a q hq => up2_ne _ _ (by omega)) (by rw [bm1, up2_ne _ _ (by decide)]; exact R1.2.2.2.2.2.1.symm) (up2_s _ _ _ _)
  have K2 : KeepM M (fdF (bm1 (kpF M) 0) n h 48) := fd_keep K (fun a ha q => up2_ne _ _ (by omega))
  show (beL n h 5 0 0 (be0 F n h 2 1) (be0 F n h)).1 = (bmL n h (5 + 1) 0 0 0 (kpF M)).1
  unfold bmL
  rw [if_pos (by decide), e]
  exact rel_beL hn8 R 5 0 _ _ _ _ (by omega) (sc_fb F n h 48 (F 1 2) 0) K2
-- fair rate
theorem rel_fiL {n h : Nat} {F0 M0 : Fs} (hn8 : n ≤ 8) (R0 : RelB 1 F0 M0 n h) : ∀ (k i : Nat) (F M : Fs), SameC F0 F → KeepM M0 M → (fiL n h k i F).1 = (amL n h k i M).1 := by
  intro k
  induction k with
  | zero => intro i F M _ _; rfl
  | succ k ih =>
    intro i F M hC hK
    have R : RelB 1 F M n h := (R0.sc hn8 hC).sm hn8 hK.1
    have e : fbF F n h 48 (nI i) (F 1 4) 2 1 = fdR (am1 M i) n h 48 := rel_fb hn8 R (fun a q hq => up2_ne _ _ (by omega)) (up2_s _ _ _ _) (by rw [am1, up2_ne _ _ (by decide)]; exact R.2.2.2.2.2.2.2.1.symm)
    have K2 : KeepM M0 (fdF (am1 M i) n h 48) := fd_keep hK (fun a ha q => up2_ne _ _ (by omega))
    have C2 := hC.tr (sc_fb F n h 48 (nI i) (F 1 4))
    have e2 : fbF F n h 48 (nI i) (F 1 4) 1 1 = fdF (am1 M i) n h 48 26 1 := by
      rw [C2.1 1, K2.2 1 (by omega)]
      exact R0.2.2.2.2.1
    unfold fiL amL
    rw [e, e2]
    by_cases hc : fdR (am1 M i) n h 48 < fdF (am1 M i) n h 48 26 1
    · rw [if_pos hc, if_pos hc]
      exact ih (i + 1) _ _ C2 K2
    · rw [if_neg hc, if_neg hc]
theorem rel_fi {n h : Nat} {F M : Fs} (hn8 : n ≤ 8) (R : RelB 1 F M n h) : (fiF F n h).1 = (amF M n h).1 := rel_fiL hn8 R 10 0 _ _ (SameC.rf F) (kp_keep M)
-- ruin
theorem rel_ruL {n h : Nat} (hn8 : n ≤ 8) : ∀ (k i : Nat) (F M : Fs), i + k = 100 → RelB 2 F M n (h + i) → (ruL n k i (h + i) F).1 = (rmL n h (k + 1) i M).1 := by
  intro k
  induction k with
  | zero =>
    intro i F M hi R
    have hi : i = 100 := by omega
    subst hi
    unfold ruL rmL rmL
    rw [R.2.2.2.2.1]
    by_cases hc : M 25 1 < 0
    · rw [if_pos hc, if_neg (Int32.not_le.mpr hc)]; rfl
    · rw [if_neg hc, if_pos (Int32.not_lt.mp hc)]
  | succ k ih =>
    intro i F M hi R
    unfold ruL rmL
    rw [R.2.2.2.2.1]
    by_cases hc : M 25 1 < 0
    · rw [if_pos hc, if_neg (Int32.not_le.mpr hc)]
    · rw [if_neg hc, if_pos (Int32.not_lt.mp hc)]
      exact ih (i + 1) _ _ (by omega) (rel_hour (Or.inr rfl) hn8 R).2
theorem rel_ru {n h : Nat} {F M : Fs} (hn8 : n ≤ 8) (R : RelB 1 F M n h) : (ruL n 100 0 h (cpyF F n)).1 = (rmL n h 101 0 (kpF M)).1 := rel_ruL hn8 100 0 _ _ rfl (rel_copy hn8 (R.sm hn8 (kp_keep M).1))
-- one walker's hour in the reference
def fellM (M : Fs) (h j : Nat) : Prop := 10 ≤ woI (M 22 j) (M 23 j) (M 25 (13 + j)) (noH h)
theorem hwM_13 (M : Fs) (i h : Nat) : (fellM M h i → hwM M i h 25 (13 + i) = 0 ∧ hwM M i h 25 (21 + i) = M 25 (21 + i) + 1) ∧ (¬ fellM M h i → hwM M i h 25 (13 + i) = woI (M 22 i) (M 23 i) (M 25 (13 + i)) (noH h) ∧ hwM M i h 25 (21 + i) = M 25 (21 + i)) := by
  refine ⟨fun hf => ⟨(hwM_y hf).2.2.2.1, (hwM_y hf).2.2.2.2⟩, fun hf => ?_⟩
  rw [hwM_n hf]
  exact ⟨hw1_w M i h, hw1_ne M i h (by omega)⟩
theorem hoL_j {h : Nat} : ∀ (k i : Nat) (acc : Int32) (M : Fs) (j : Nat), i + k ≤ 8 → (j < i ∨ i + k ≤ j) → j < 8 → (hoL h k i acc M).2 25 (13 + j) = M 25 (13 + j) ∧ (hoL h k i acc M).2 25 (21 + j) = M 25 (21 + j) := by
  intro k
  induction k with
  | zero => intro i acc M j _ _ _; exact ⟨rfl, rfl⟩
  | succ k ih =>
    intro i acc M j hk hj hj8
    rw [hoL_eq]
    obtain ⟨e1, e2⟩ := ih (i + 1) (if 10 ≤ hw1 M i h 25 (13 + i) then acc + 1 else acc) (hwM M i h) j (by omega) (by omega) hj8
    rw [e1, e2]
    exact ⟨hwM_ne M i h (by omega), hwM_ne M i h (by omega)⟩
theorem hoL_in {h : Nat} : ∀ (k i : Nat) (acc : Int32) (M : Fs) (j : Nat), i + k ≤ 8 → i ≤ j → j < i + k →
    (fellM M h j → (hoL h k i acc M).2 25 (13 + j) = 0 ∧ (hoL h k i acc M).2 25 (21 + j) = M 25 (21 + j) + 1) ∧ (¬ fellM M h j → (hoL h k i acc M).2 25 (13 + j) = woI (M 22 j) (M 23 j) (M 25 (13 + j)) (noH h) ∧ (hoL h k i acc M).2 25 (21 + j) = M 25 (21 + j)) := by
  intro k
  induction k with
  | zero => intro i acc M j _ h1 h2; omega
  | succ k ih =>
    intro i acc M j hk h1 h2
    rw [hoL_eq]
    by_cases hji : j = i
    · subst hji
      obtain ⟨e1, e2⟩ := hoL_j (h := h) k (j + 1) (if 10 ≤ hw1 M j h 25 (13 + j) then acc + 1 else acc) (hwM M j h) j (by omega) (by omega) (by omega)
      rw [e1, e2]
      exact hwM_13 M j h
    · have hI := ih (i + 1) (if 10 ≤ hw1 M i h 25 (13 + i) then acc + 1 else acc) (hwM M i h) j (by omega) (by omega) (by omega)
      have x22 : hwM M i h 22 j = M 22 j := hwM_ne M i h (by omega)
      have x23 : hwM M i h 23 j = M 23 j := hwM_ne M i h (by omega)
      have x13 : hwM M i h 25 (13 + j) = M 25 (13 + j) := hwM_ne M i h (by omega)
      have x21 : hwM M i h 25 (21 + j) = M 25 (21 + j) := hwM_ne M i h (by omega)
      unfold fellM at *
      rw [x22, x23, x13, x21] at hI
      exact hI
theorem hoL_cnt {h : Nat} : ∀ (k i c : Nat) (M : Fs), i + k ≤ 8 → ∃ m, m ≤ k ∧ (hoL h k i (nI c) M).1 = nI (c + m) ∧ (m = 0 ↔ ∀ j, i ≤ j → j < i + k → ¬ fellM M h j) := by
  intro k
  induction k with
  | zero => intro i c M _; exact ⟨0, Nat.le_refl _, rfl, ⟨fun _ j h1 h2 => by omega, fun _ => rfl⟩⟩
  | succ k ih =>
    intro i c M hk
    rw [hoL_eq, hw1_w]
    have tail : ∀ j, i + 1 ≤ j → j < i + (k + 1) → (fellM (hwM M i h) h j ↔ fellM M h j) := fun j h1 h2 => by
      have x22 : hwM M i h 22 j = M 22 j := hwM_ne M i h (by omega)
      have x23 : hwM M i h 23 j = M 23 j := hwM_ne M i h (by omega)
      have x13 : hwM M i h 25 (13 + j) = M 25 (13 + j) := hwM_ne M i h (by omega)
      unfold fellM
      rw [x22, x23, x13]
    by_cases hf : 10 ≤ woI (M 22 i) (M 23 i) (M 25 (13 + i)) (noH h)
    · rw [if_pos hf, nI_1]
      obtain ⟨m, m1, m2, m3⟩ := ih (i + 1) (c + 1) (hwM M i h) (by omega)
      refine ⟨m + 1, by omega, by rw [m2]; congr 1; omega, ⟨fun z => by omega, fun z => absurd hf (z i (Nat.le_refl _) (by omega))⟩⟩
    · rw [if_neg hf]
      obtain ⟨m, m1, m2, m3⟩ := ih (i + 1) c (hwM M i h) (by omega)
      refine ⟨m, by omega, m2, ⟨fun z j h1 h2 => ?_, fun z => m3.mpr (fun j h1 h2 => fun q => z j (by omega) (by omega) ((tail j h1 (by omega)).mp q))⟩⟩
      by_cases hji : j = i
      · subst hji; exact hf
      · exact fun q => m3.mp z j (by omega) (by omega) ((tail j (by omega) h2).mpr q)
/-- what an hour does to walker j of n -/
theorem ho_pm (M : Fs) (n h : Nat) {a q : Nat} (hn : ¬ (a = 25 ∧ (q = 1 ∨ q = 4))) : (if nI (h % 12) = 0 then pmF M n else M) a q = M a q := by
  split
  · exact pmF_ne M n hn
  · rfl
theorem fell_pm (M : Fs) (n h j : Nat) : fellM (if nI (h % 12) = 0 then pmF M n else M) h j ↔ fellM M h j := by
  unfold fellM
  rw [ho_pm M n h (by omega), ho_pm M n h (by omega), ho_pm M n h (by omega)]
theorem ho_in {M : Fs} {n h j : Nat} (hn8 : n ≤ 8) (hj : j < n) :
    (fellM M h j → hoF M n h 25 (13 + j) = 0 ∧ hoF M n h 25 (21 + j) = M 25 (21 + j) + 1) ∧ (¬ fellM M h j → hoF M n h 25 (13 + j) = woI (M 22 j) (M 23 j) (M 25 (13 + j)) (noH h) ∧ hoF M n h 25 (21 + j) = M 25 (21 + j)) := by
  have e1 : hoF M n h 25 (13 + j) = (ho0 M n h).2 25 (13 + j) := up2_ne _ _ (by omega)
  have e2 : hoF M n h 25 (21 + j) = (ho0 M n h).2 25 (21 + j) := up2_ne _ _ (by omega)
  have hI := hoL_in (h := h) n 0 0 (if nI (h % 12) = 0 then pmF M n else M) j (by omega) (by omega) (by omega)
  rw [fell_pm, ho_pm M n h (by omega), ho_pm M n h (by omega), ho_pm M n h (by omega), ho_pm M n h (by omega)] at hI
  rw [e1, e2]
  exact hI
theorem ho_out {M : Fs} {n h j : Nat} (hn8 : n ≤ 8) (hj : n ≤ j) (hj8 : j < 8) : hoF M n h 25 (13 + j) = M 25 (13 + j) ∧ hoF M n h 25 (21 + j) = M 25 (21 + j) := by
  have e1 : hoF M n h 25 (13 + j) = (ho0 M n h).2 25 (13 + j) := up2_ne _ _ (by omega)
  have e2 : hoF M n h 25 (21 + j) = (ho0 M n h).2 25 (21 + j) := up2_ne _ _ (by omega)
  obtain ⟨q1, q2⟩ := hoL_j (h := h) n 0 0 (if nI (h % 12) = 0 then pmF M n else M) j (by omega) (by omega) hj8
  rw [ho_pm M n h (by omega)] at q1 q2
  rw [e1, e2]
  exact ⟨q1, q2⟩
theorem ho_cnt {M : Fs} {n h : Nat} (hn8 : n ≤ 8) : hoR M n h = 0 ↔ ∀ j, j < n → ¬ fellM M h j := by
  obtain ⟨m, m1, m2, m3⟩ := hoL_cnt (h := h) n 0 0 (if nI (h % 12) = 0 then pmF M n else M) (by omega)
  have e : hoR M n h = nI m := by
    show (hoL h n 0 0 _).1 = nI m
    rw [Nat.zero_add] at m2
    exact m2
  rw [e, show (0 : Int32) = nI 0 from rfl, nI_eq (by omega) (by omega), m3]
  exact ⟨fun z j hj => fun q => z j (by omega) (by omega) ((fell_pm M n h j).mpr q), fun z j _ hj => fun q => z j (by omega) ((fell_pm M n h j).mp q)⟩
