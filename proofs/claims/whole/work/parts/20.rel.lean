/-! CLASS AND REFERENCE: book b of the class in F, the reference in M, n walkers, hour h -/
theorem wmI_eq (ht sk r noon : Int32) : wmI ht sk r noon = woI ht sk r noon := by
  unfold wmI woI
  split <;> rw [Int32.add_assoc]
theorem rmI_eq (c r l : Int32) : rmI c r l = reI c r l := by
  unfold rmI reI
  generalize mx0 (c - r) = x
  by_cases h1 : x < l
  · rw [if_pos h1, if_neg (Int32.lt_asymm h1)]
  · rw [if_neg h1]
    by_cases h2 : l < x
    · rw [if_pos h2]
    · rw [if_neg h2]
      exact Int32.le_antisymm (Int32.not_lt.mp h1) (Int32.not_lt.mp h2)
def RelW (k j : Nat) (F M : Fs) : Prop := F k 0 = M 22 j ∧ F k 1 = M 23 j ∧ F k 2 = M 25 (5 + j) ∧ F k 3 = M 25 (13 + j) ∧ F k 4 = M 25 (21 + j) ∧ F k 5 = M 24 j
def RelB (b : Nat) (F M : Fs) (n h : Nat) : Prop := F b 0 = nI h ∧ M 25 0 = nI h ∧ F b 6 = nI n ∧ M 21 1 = nI n ∧ F b 1 = M 25 1 ∧ F b 2 = M 25 2 ∧ F b 3 = M 21 2 ∧ F b 4 = M 25 3 ∧ F b 5 = M 25 4 ∧ ∀ j, j < n → RelW (wb b j) j F M
theorem wb_inj {b i j : Nat} (h : wb b i = wb b j) : i = j := by unfold wb at h; omega
theorem wb_ge {b : Nat} (hB : b = 1 ∨ b = 2) (j : Nat) : 5 ≤ wb b j := wb_lo hB j
-- the class's hour for one walker
theorem wkl_eq (F : Fs) (k : Nat) (sun noon : Int32) : wkl F k sun noon = clI F k sun noon := by simp [wkl, wkc, wk1, up2, clI]
theorem wkr_eq (F : Fs) {b k : Nat} (hbk : b ≠ k) (sun noon : Int32) : wkr F b k sun noon = reI (clI F k sun noon) (F b 3) (F b 4) := by
  unfold wkr; rw [wkl_eq]; simp [wk1, up2, hbk]
theorem wk1_w (F : Fs) (k : Nat) (noon : Int32) : wk1 F k noon k 3 = woI (F k 0) (F k 1) (F k 3) noon := by unfold wk1; rw [up2_s]
theorem wkF_y {F : Fs} {b k : Nat} {sun noon : Int32} (hbk : b ≠ k) (hf : 10 ≤ woI (F k 0) (F k 1) (F k 3) noon) :
    wkF F b k sun noon b 1 = F b 1 - (clI F k sun noon - reI (clI F k sun noon) (F b 3) (F b 4)) ∧ wkF F b k sun noon b 5 = F b 5 + reI (clI F k sun noon) (F b 3) (F b 4) ∧ wkF F b k sun noon k 0 = F k 0 ∧ wkF F b k sun noon k 1 = F k 1 ∧ wkF F b k sun noon k 2 = mx0 (F k 2 - 1) ∧ wkF F b k sun noon k 3 = 0 ∧ wkF F b k sun noon k 4 = F k 4 + 1 ∧ wkF F b k sun noon k 5 = F k 5 := by
  have hkb : k ≠ b := Ne.symm hbk
  unfold wkF
  rw [if_pos (by rw [wk1_w]; exact hf)]
  unfold fallF wk3 wk2
  rw [wkr_eq F hbk, wkl_eq]
  refine ⟨?_, ?_, ?_, ?_, ?_, ?_, ?_, ?_⟩ <;> simp [wk1, up2, hbk, hkb]
theorem wkF_n {F : Fs} {b k : Nat} {sun noon : Int32} (hf : ¬ 10 ≤ woI (F k 0) (F k 1) (F k 3) noon) : wkF F b k sun noon = up2 F k 3 (woI (F k 0) (F k 1) (F k 3) noon) := by
  unfold wkF
  rw [if_neg (by rw [wk1_w]; exact hf)]
  rfl
-- the reference's
theorem hw1_w (M : Fs) (i h : Nat) : hw1 M i h 25 (13 + i) = woI (M 22 i) (M 23 i) (M 25 (13 + i)) (noH h) := by
  unfold hw1; rw [up2_s, wmI_eq, noM_eq]
theorem coM_hw (M : Fs) (i h : Nat) : coM (hw1 M i h) i h = coM M i h := by
  unfold coM; rw [hw1_ne _ _ _ (by omega), hw1_ne _ _ _ (by omega)]
theorem owM_hw (M : Fs) (i h : Nat) : owM (hw1 M i h) i h = owM M i h := by
  unfold owM; rw [coM_hw, hw1_ne _ _ _ (by omega)]
theorem reM_hw (M : Fs) (i h : Nat) : reM (hw1 M i h) i h = reM M i h := by
  unfold reM; rw [coM_hw, owM_hw, hw1_ne _ _ _ (by omega), hw1_ne _ _ _ (by omega)]
theorem poM_hw (M : Fs) (i h : Nat) : poM (hw1 M i h) i h = poM M i h := by
  unfold poM; rw [coM_hw, owM_hw, reM_hw]
theorem flm1_re (M : Fs) (i h : Nat) : reM (flm1 M i h) i h = reM M i h := by
  have e : ∀ a q, ¬ (a = 25 ∧ q = 1) → flm1 M i h a q = M a q := fun a q hn => up2_ne _ _ hn
  unfold reM owM coM
  rw [e 22 i (by omega), e 25 (5 + i) (by omega), e 24 i (by omega), e 21 2 (by omega), e 25 3 (by omega)]
theorem flm_1 (M : Fs) (i h : Nat) : flmF M i h 25 1 = M 25 1 - poM M i h := by
  unfold flmF flm4 flm3 flm2
  rw [up2_ne _ _ (by omega), up2_ne _ _ (by omega), up2_ne _ _ (by omega), up2_ne _ _ (by omega)]
  exact up2_s _ _ _ _
theorem flm_4 (M : Fs) (i h : Nat) : flmF M i h 25 4 = M 25 4 + reM M i h := by
  unfold flmF flm4 flm3
  rw [up2_ne _ _ (by omega), up2_ne _ _ (by omega), up2_ne _ _ (by omega)]
  unfold flm2
  rw [up2_s, flm1_re]
  unfold flm1
  rw [up2_ne _ _ (by omega)]
theorem flm_n (M : Fs) (i h : Nat) : flmF M i h 25 (5 + i) = mx0 (M 25 (5 + i) - 1) := by
  unfold flmF flm4
  rw [up2_ne _ _ (by omega), up2_ne _ _ (by omega)]
  unfold flm3
  rw [up2_s]
  unfold flm2 flm1
  rw [up2_ne _ _ (by omega), up2_ne _ _ (by omega)]
theorem flm_w (M : Fs) (i h : Nat) : flmF M i h 25 (13 + i) = 0 := by
  unfold flmF flm4
  rw [up2_ne _ _ (by omega), up2_s]
theorem flm_f (M : Fs) (i h : Nat) : flmF M i h 25 (21 + i) = M 25 (21 + i) + 1 := by
  unfold flmF
  rw [up2_s]
  unfold flm4 flm3 flm2 flm1
  rw [up2_ne _ _ (by omega), up2_ne _ _ (by omega), up2_ne _ _ (by omega), up2_ne _ _ (by omega)]
/-- the reference's hour for walker i -/
def hwM (M : Fs) (i h : Nat) : Fs := if 10 ≤ hw1 M i h 25 (13 + i) then flmF (hw1 M i h) i h else hw1 M i h
theorem hwM_y {M : Fs} {i h : Nat} (hf : 10 ≤ woI (M 22 i) (M 23 i) (M 25 (13 + i)) (noH h)) :
    hwM M i h 25 1 = M 25 1 - poM M i h ∧ hwM M i h 25 4 = M 25 4 + reM M i h ∧ hwM M i h 25 (5 + i) = mx0 (M 25 (5 + i) - 1) ∧ hwM M i h 25 (13 + i) = 0 ∧ hwM M i h 25 (21 + i) = M 25 (21 + i) + 1 := by
  unfold hwM
  rw [if_pos (by rw [hw1_w]; exact hf)]
  refine ⟨?_, ?_, ?_, ?_, ?_⟩
  · rw [flm_1, poM_hw, hw1_ne _ _ _ (by omega)]
  · rw [flm_4, reM_hw, hw1_ne _ _ _ (by omega)]
  · rw [flm_n, hw1_ne _ _ _ (by omega)]
  · rw [flm_w]
  · rw [flm_f, hw1_ne _ _ _ (by omega)]
theorem hwM_n {M : Fs} {i h : Nat} (hf : ¬ 10 ≤ woI (M 22 i) (M 23 i) (M 25 (13 + i)) (noH h)) : hwM M i h = hw1 M i h := by
  unfold hwM
  rw [if_neg (by rw [hw1_w]; exact hf)]
theorem hwM_ne (M : Fs) (i h : Nat) {a q : Nat} (hn : ¬ (a = 25 ∧ (q = 1 ∨ q = 4 ∨ q = 5 + i ∨ q = 13 + i ∨ q = 21 + i))) : hwM M i h a q = M a q := by
  unfold hwM
  split
  · rw [flmF_ne _ _ _ hn, hw1_ne _ _ _ (by omega)]
  · rw [hw1_ne _ _ _ (by omega)]
theorem hoL_eq (h : Nat) (n i : Nat) (acc : Int32) (M : Fs) : hoL h (n + 1) i acc M = hoL h n (i + 1) (if 10 ≤ hw1 M i h 25 (13 + i) then acc + 1 else acc) (hwM M i h) := by
  unfold hwM
  show (if _ then _ else _) = _
  split <;> rfl
theorem clI_rel {k j : Nat} {F M : Fs} {h : Nat} (R : RelW k j F M) : clI F k (suH h) (noH h) = coM M j h - owM M j h := by
  obtain ⟨r0, r1, r2, r3, r4, r5⟩ := R
  unfold clI owM coM
  rw [r0, r2, r5, noM_eq]
theorem reM_rel {b k j : Nat} {F M : Fs} {h : Nat} (R : RelW k j F M) (h3 : F b 3 = M 21 2) (h4 : F b 4 = M 25 3) : reI (clI F k (suH h) (noH h)) (F b 3) (F b 4) = reM M j h := by
  unfold reM
  rw [clI_rel R, h3, h4, rmI_eq]
theorem rel_walk {b n h i : Nat} {F M : Fs} (hB : b = 1 ∨ b = 2) (hn8 : n ≤ 8) (hi : i < n) (R : RelB b F M n h) :
    (wkR F (wb b i) (noH h) = if 10 ≤ hw1 M i h 25 (13 + i) then 1 else 0) ∧ RelB b (wkF F b (wb b i) (suH h) (noH h)) (hwM M i h) n h := by
  obtain ⟨a0, m0, a6, m1, a1, a2, a3, a4, a5, aw⟩ := R
  have hbk : b ≠ wb b i := fun e => by have := wb_lo hB i; omega
  have W := aw i hi
  obtain ⟨r0, r1, r2, r3, r4, r5⟩ := id W
  have ew : woI (F (wb b i) 0) (F (wb b i) 1) (F (wb b i) 3) (noH h) = woI (M 22 i) (M 23 i) (M 25 (13 + i)) (noH h) := by rw [r0, r1, r3]
  have eb : ∀ q, ¬ (q = 1 ∨ q = 5) → wkF F b (wb b i) (suH h) (noH h) b q = F b q := fun q hq => wk_ne _ _ _ _ _ (fun z => hq z.2) hbk
  have eo : ∀ j q, j ≠ i → wkF F b (wb b i) (suH h) (noH h) (wb b j) q = F (wb b j) q := fun j q hj => wk_ne _ _ _ _ _ (fun z => by have := wb_lo hB j; omega) (fun z => hj (wb_inj z))
  refine ⟨?_, ?_⟩
  · unfold wkR
    rw [wk1_w, hw1_w, ew]
  · by_cases hf : 10 ≤ woI (M 22 i) (M 23 i) (M 25 (13 + i)) (noH h)
    · obtain ⟨y1, y5, z0, z1, z2, z3, z4, z5⟩ := wkF_y (sun := suH h) hbk (by rw [ew]; exact hf)
      obtain ⟨g1, g4, g5, g13, g21⟩ := hwM_y hf
      refine ⟨by rw [eb 0 (by omega)]; exact a0, by rw [hwM_ne _ _ _ (by omega)]; exact m0, by rw [eb 6 (by omega)]; exact a6, by rw [hwM_ne _ _ _ (by omega)]; exact m1, ?_, by rw [eb 2 (by omega), hwM_ne _ _ _ (by omega)]; exact a2, by rw [eb 3 (by omega), hwM_ne _ _ _ (by omega)]; exact a3, by rw [eb 4 (by omega), hwM_ne _ _ _ (by omega)]; exact a4, ?_, ?_⟩
      · rw [y1, g1, a1, reM_rel W a3 a4, clI_rel W]; rfl
      · rw [y5, g4, a5, reM_rel W a3 a4]
      · intro j hj
        by_cases hji : j = i
        · subst hji
          refine ⟨?_, ?_, ?_, ?_, ?_, ?_⟩
          · rw [z0, hwM_ne _ _ _ (by omega)]; exact r0
          · rw [z1, hwM_ne _ _ _ (by omega)]; exact r1
          · rw [z2, g5, r2]
          · rw [z3, g13]
          · rw [z4, g21, r4]
          · rw [z5, hwM_ne _ _ _ (by omega)]; exact r5
        · obtain ⟨t0, t1, t2, t3, t4, t5⟩ := aw j hj
          refine ⟨?_, ?_, ?_, ?_, ?_, ?_⟩ <;> rw [eo j _ hji, hwM_ne _ _ _ (by omega)] <;> assumption
    · rw [wkF_n (by rw [ew]; exact hf), hwM_n hf]
      have ex : ∀ a q, ¬ (a = wb b i ∧ q = 3) → up2 F (wb b i) 3 (woI (F (wb b i) 0) (F (wb b i) 1) (F (wb b i) 3) (noH h)) a q = F a q := fun a q hq => up2_ne _ _ hq
      refine ⟨by rw [ex b 0 (by omega)]; exact a0, by rw [hw1_ne _ _ _ (by omega)]; exact m0, by rw [ex b 6 (by omega)]; exact a6, by rw [hw1_ne _ _ _ (by omega)]; exact m1, by rw [ex b 1 (by omega), hw1_ne _ _ _ (by omega)]; exact a1, by rw [ex b 2 (by omega), hw1_ne _ _ _ (by omega)]; exact a2, by rw [ex b 3 (by omega), hw1_ne _ _ _ (by omega)]; exact a3, by rw [ex b 4 (by omega), hw1_ne _ _ _ (by omega)]; exact a4, by rw [ex b 5 (by omega), hw1_ne _ _ _ (by omega)]; exact a5, ?_⟩
      intro j hj
      by_cases hji : j = i
      · subst hji
        refine ⟨?_, ?_, ?_, ?_, ?_, ?_⟩
        · rw [ex _ 0 (by omega), hw1_ne _ _ _ (by omega)]; exact r0
        · rw [ex _ 1 (by omega), hw1_ne _ _ _ (by omega)]; exact r1
        · rw [ex _ 2 (by omega), hw1_ne _ _ _ (by omega)]; exact r2
        · rw [up2_s, hw1_w, ew]
        · rw [ex _ 4 (by omega), hw1_ne _ _ _ (by omega)]; exact r4
        · rw [ex _ 5 (by omega), hw1_ne _ _ _ (by omega)]; exact r5
      · obtain ⟨t0, t1, t2, t3, t4, t5⟩ := aw j hj
        have hne : wb b j ≠ wb b i := fun z => hji (wb_inj z)
        refine ⟨?_, ?_, ?_, ?_, ?_, ?_⟩ <;> rw [ex _ _ (fun z => hne z.1), hw1_ne _ _ _ (by omega)] <;> assumption
theorem rel_hrL {b n h : Nat} (hB : b = 1 ∨ b = 2) (hn8 : n ≤ 8) : ∀ (k i : Nat) (acc : Int32) (F M : Fs), i + k = n → RelB b F M n h →
    (hrL b (suH h) (noH h) k i acc F).1 = (hoL h k i acc M).1 ∧ RelB b (hrL b (suH h) (noH h) k i acc F).2 (hoL h k i acc M).2 n h := by
  intro k
  induction k with
  | zero => intro i acc F M hi R; exact ⟨rfl, R⟩
  | succ k ih =>
    intro i acc F M hi R
    obtain ⟨e1, R1⟩ := rel_walk hB hn8 (i := i) (by omega) R
    rw [hoL_eq]
    have ea : (if wkR F (wb b i) (noH h) = 0 then acc + 0 else acc + 1) = (if 10 ≤ hw1 M i h 25 (13 + i) then acc + 1 else acc) := by
      rw [e1]
      by_cases hf : 10 ≤ hw1 M i h 25 (13 + i)
      · simp only [if_pos hf]; rfl
      · simp only [if_neg hf, ↓reduceIte, Int32.add_zero]
    show (hrL b (suH h) (noH h) k (i + 1) _ _).1 = _ ∧ RelB b (hrL b (suH h) (noH h) k (i + 1) _ _).2 _ n h
    rw [ea]
    exact ih (i + 1) _ _ _ (by omega) R1
theorem rel_cm {b : Nat} {F M : Fs} : ∀ (k i : Nat) (acc : Int32), (∀ j, i ≤ j → j < i + k → F (wb b j) 5 = M 24 j) → cmL F b k i acc = inL M k i acc := by
  intro k
  induction k with
  | zero => intro i acc _; rfl
  | succ k ih =>
    intro i acc hj
    show cmL F b k (i + 1) _ = inL M k (i + 1) _
    rw [hj i (Nat.le_refl _) (by omega)]
    exact ih (i + 1) _ (fun j h1 h2 => hj j (by omega) (by omega))
theorem rel_pay {b n h : Nat} {F M : Fs} (hB : b = 1 ∨ b = 2) (R : RelB b F M n h) : RelB b (payF F b n) (pmF M n) n h := by
  obtain ⟨a0, m0, a6, m1, a1, a2, a3, a4, a5, aw⟩ := R
  have ec : cmL F b n 0 0 = inL M n 0 0 := rel_cm n 0 0 (fun j _ h2 => (aw j (by omega)).2.2.2.2.2)
  have p1 : pay1 F b n b 1 = pm1 M n 25 1 := by unfold pay1 pm1; rw [up2_s, up2_s, a1, a2, ec]
  have p4 : pay1 F b n b 4 = pm1 M n 25 3 := by unfold pay1 pm1; rw [up2_ne _ _ (by omega), up2_ne _ _ (by omega)]; exact a4
  have p5 : pay1 F b n b 5 = pm1 M n 25 4 := by unfold pay1 pm1; rw [up2_ne _ _ (by omega), up2_ne _ _ (by omega)]; exact a5
  have q1 : payF F b n b 1 = pmF M n 25 1 := by
    unfold payF pmF
    rw [p4]
    split
    · exact p1
    · unfold pay3 pm3
      rw [up2_ne _ _ (by omega), up2_ne _ _ (by omega)]
      unfold pay2 pm2
      rw [up2_s, up2_s, p1, p4]
  have q5 : payF F b n b 5 = pmF M n 25 4 := by
    unfold payF pmF
    rw [p4]
    split
    · exact p5
    · unfold pay3 pm3 pay2 pm2
      rw [up2_s, up2_s, up2_ne _ _ (by omega), up2_ne _ _ (by omega), p5, p4]
  refine ⟨by rw [pay_ne F b n (by omega)]; exact a0, by rw [pmF_ne M n (by omega)]; exact m0, by rw [pay_ne F b n (by omega)]; exact a6, by rw [pmF_ne M n (by omega)]; exact m1, q1, by rw [pay_ne F b n (by omega), pmF_ne M n (by omega)]; exact a2, by rw [pay_ne F b n (by omega), pmF_ne M n (by omega)]; exact a3, by rw [pay_ne F b n (by omega), pmF_ne M n (by omega)]; exact a4, q5, ?_⟩
  intro j hj
  obtain ⟨t0, t1, t2, t3, t4, t5⟩ := aw j hj
  have hne : wb b j ≠ b := fun z => by have := wb_lo hB j; omega
  refine ⟨?_, ?_, ?_, ?_, ?_, ?_⟩ <;> rw [pay_ne F b n (fun z => hne z.1), pmF_ne M n (by omega)] <;> assumption
theorem rel_hour {b n h : Nat} {F M : Fs} (hB : b = 1 ∨ b = 2) (hn8 : n ≤ 8) (R : RelB b F M n h) : hrR F b n h = hoR M n h ∧ RelB b (hrF F b n h) (hoF M n h) n (h + 1) := by
  have R0 : RelB b (if nI (h % 12) = 0 then payF F b n else F) (if nI (h % 12) = 0 then pmF M n else M) n h := by
    split
    · exact rel_pay hB R
    · exact R
  obtain ⟨e1, R1⟩ := rel_hrL hB hn8 n 0 0 _ _ (by omega) R0
  refine ⟨e1, ?_⟩
  obtain ⟨a0, m0, a6, m1, a1, a2, a3, a4, a5, aw⟩ := R1
  have ex : ∀ a q, ¬ (a = b ∧ q = 0) → hrF F b n h a q = (hr0 F b n h).2 a q := fun a q hq => up2_ne _ _ hq
  have em : ∀ a q, ¬ (a = 25 ∧ q = 0) → hoF M n h a q = (ho0 M n h).2 a q := fun a q hq => up2_ne _ _ hq
  refine ⟨?_, ?_, by rw [ex b 6 (by omega)]; exact a6, by rw [em 21 1 (by omega)]; exact m1, by rw [ex b 1 (by omega), em 25 1 (by omega)]; exact a1, by rw [ex b 2 (by omega), em 25 2 (by omega)]; exact a2, by rw [ex b 3 (by omega), em 21 2 (by omega)]; exact a3, by rw [ex b 4 (by omega), em 25 3 (by omega)]; exact a4, by rw [ex b 5 (by omega), em 25 4 (by omega)]; exact a5, ?_⟩
  · rw [hrF_hour F b n h hB, R.1]; exact nI_1 h
  · rw [hoF_hour, R.2.1]; exact nI_1 h
  · intro j hj
    obtain ⟨t0, t1, t2, t3, t4, t5⟩ := aw j hj
    have hne : wb b j ≠ b := fun z => by have := wb_lo hB j; omega
    refine ⟨?_, ?_, ?_, ?_, ?_, ?_⟩ <;> rw [ex _ _ (fun z => hne z.1), em _ _ (by omega)] <;> assumption
theorem rel_hours {b n : Nat} (hB : b = 1 ∨ b = 2) (hn8 : n ≤ 8) : ∀ (t h : Nat) (acc : Int32) (F M : Fs), RelB b F M n h →
    (gbL b n t h acc F).1 = (gmL n t h acc M).1 ∧ RelB b (gbL b n t h acc F).2 (gmL n t h acc M).2 n (h + t) := by
  intro t
  induction t with
  | zero => intro h acc F M R; exact ⟨rfl, R⟩
  | succ t ih =>
    intro h acc F M R
    obtain ⟨e1, R1⟩ := rel_hour hB hn8 R
    show (gbL b n t (h + 1) _ _).1 = (gmL n t (h + 1) _ _).1 ∧ RelB b (gbL b n t (h + 1) _ _).2 (gmL n t (h + 1) _ _).2 n (h + (t + 1))
    rw [e1]
    have := ih (h + 1) (acc + hoR M n h) _ _ R1
    rw [show h + (t + 1) = h + 1 + t by omega]
    exact this
