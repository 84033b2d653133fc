/-! an hour keeps what is known of a book -/
theorem wb_inj {b i j : Nat} (h : wb b i = wb b j) : i = j := by unfold wb at h; omega
theorem up2_up2 (F : Fs) (k j : Nat) (x y : Int32) : up2 (up2 F k j x) k j y = up2 F k j y := by
  funext a q
  unfold up2
  split <;> rfl
theorem up2_id (F : Fs) (k j : Nat) : up2 F k j (F k j) = F := by
  funext a q
  unfold up2
  split
  · rename_i h; rw [h.1, h.2]
  · rfl
theorem wkl_eq (F : Fs) (k : Nat) (sun noon : Int32) : wkl F k sun noon = clI F k sun noon := by simp [wkl, wkc, wk1, up2, clI]
theorem wkr_eq (F : Fs) {b k : Nat} (hbk : b ≠ k) (sun noon : Int32) : wkr F b k sun noon = reI (clI F k sun noon) (F b 3) (F b 4) := by
  unfold wkr; rw [wkl_eq]; simp [wk1, up2, hbk]
theorem wk1_w (F : Fs) (k : Nat) (noon : Int32) : wk1 F k noon k 3 = woI (F k 0) (F k 1) (F k 3) noon := by unfold wk1; rw [up2_s]
theorem wkF_y {F : Fs} {b k : Nat} {sun noon : Int32} (hbk : b ≠ k) (hf : 10 ≤ woI (F k 0) (F k 1) (F k 3) noon) :
    wkF F b k sun noon b 1 = F b 1 - (clI F k sun noon - reI (clI F k sun noon) (F b 3) (F b 4)) ∧ wkF F b k sun noon b 5 = F b 5 + reI (clI F k sun noon) (F b 3) (F b 4) ∧ wkF F b k sun noon k 0 = F k 0 ∧ wkF F b k sun noon k 1 = F k 1 ∧ wkF F b k sun noon k 2 = mx0 (F k 2 - 1) ∧ wkF F b k sun noon k 3 = 0 ∧ wkF F b k sun noon k 4 = F k 4 + 1 ∧ wkF F b k sun noon k 5 = F k 5 := by
  have hkb : k ≠ b := Ne.symm hbk
  unfold wkF
  rw [if_pos (by rw [wk1_w]; exact hf)]
  unfold fallF wk3 wk2
  rw [wkr_eq F hbk, wkl_eq]
  refine ⟨?_, ?_, ?_, ?_, ?_, ?_, ?_, ?_⟩ <;> simp [wk1, up2, hbk, hkb]
theorem wkF_n {F : Fs} {b k : Nat} {sun noon : Int32} (hf : ¬ 10 ≤ woI (F k 0) (F k 1) (F k 3) noon) : wkF F b k sun noon = up2 F k 3 (woI (F k 0) (F k 1) (F k 3) noon) := by
  unfold wkF
  rw [if_neg (by rw [wk1_w]; exact hf)]
  rfl
theorem wk_hour {F : Fs} {b k h : Nat} (hbk : b ≠ k) (w : Wk F k h) : Wk (wkF F b k (suH h) (noH h)) k (h + 1) := by
  obtain ⟨a, sk, nt, wo, f, m, h1, h2, h3, h4, h5, h6, h7, e0, e1, e2, e3, e4, e5⟩ := w
  have ew : woI (F k 0) (F k 1) (F k 3) (noH h) = nI (woN a sk wo h) := by rw [e0, e1, e3, wo_nI h2 h3 h5]
  have hwn : woN a sk wo h ≤ 20 := by have := no_bd h; unfold woN; omega
  by_cases hf : 10 ≤ woI (F k 0) (F k 1) (F k 3) (noH h)
  · obtain ⟨-, -, z0, z1, z2, z3, z4, z5⟩ := wkF_y (sun := suH h) hbk hf
    refine ⟨a, sk, nt - 1, 0, f + 1, m, h1, h2, h3, by omega, by omega, by omega, h7, z0.trans e0, z1.trans e1, ?_, z3, ?_, z5.trans e5⟩
    · rw [z2, e2, show (1 : Int32) = nI 1 from rfl, mx0_sub (by omega) (by omega)]
    · rw [z4, e4]; exact nI_1 f
  · rw [wkF_n hf]
    have hw9 : woN a sk wo h ≤ 9 := by
      rw [ew] at hf
      have : ¬ 10 ≤ woN a sk wo h := fun z => hf ((nI_leI (a := 10) (by omega) (by omega)).mpr z)
      omega
    refine ⟨a, sk, nt, woN a sk wo h, f, m, h1, h2, h3, h4, hw9, by omega, h7, ?_, ?_, ?_, ?_, ?_, ?_⟩
    · rw [up2_ne _ _ (by omega)]; exact e0
    · rw [up2_ne _ _ (by omega)]; exact e1
    · rw [up2_ne _ _ (by omega)]; exact e2
    · rw [up2_s]; exact ew
    · rw [up2_ne _ _ (by omega)]; exact e4
    · rw [up2_ne _ _ (by omega)]; exact e5
theorem Bf.same {F F' : Fs} {b : Nat} (h : Bf F b) (e2 : F' b 2 = F b 2) (e3 : F' b 3 = F b 3) (e4 : F' b 4 = F b 4) : Bf F' b := by
  obtain ⟨⟨r, hr, g2⟩, ⟨q, hq, g3⟩, ⟨t, ht, g4⟩⟩ := h
  exact ⟨⟨r, hr, e2.trans g2⟩, ⟨q, hq, e3.trans g3⟩, ⟨t, ht, e4.trans g4⟩⟩
theorem hr_step {F2 F' : Fs} {b i n h : Nat} (hB : b = 1 ∨ b = 2) (e : F' = wkF F2 b (wb b i) (suH h) (noH h)) (h0 : F2 b 0 = nI h) (hb2 : Bf F2 b) (hw2 : ∀ j, i ≤ j → j < n → Wk F2 (wb b j) h) : F' b 0 = nI h ∧ Bf F' b ∧ ∀ j, i + 1 ≤ j → j < n → Wk F' (wb b j) h := by
  have hbk : b ≠ wb b i := fun z => by have := wb_lo hB i; omega
  have eb : ∀ q, ¬ (q = 1 ∨ q = 5) → F' b q = F2 b q := fun q hq => by rw [e]; exact wk_ne _ _ _ _ _ (fun z => hq z.2) hbk
  refine ⟨(eb 0 (by omega)).trans h0, hb2.same (eb 2 (by omega)) (eb 3 (by omega)) (eb 4 (by omega)), fun j hj hn => ?_⟩
  refine (hw2 j (by omega) hn).same (fun q _ => ?_)
  rw [e]
  exact wk_ne _ _ _ _ _ (fun z => by have := wb_lo hB j; omega) (fun z => by have := wb_inj z; omega)
theorem py_n {F : Fs} {b n : Nat} (hbf : Bf F b) (h : pay1 F b n b 4 ≤ 0) : payF F b n = pay1 F b n := by
  obtain ⟨-, -, q, hq, e4⟩ := hbf
  have e : pay1 F b n b 4 = nI q := by unfold pay1; rw [up2_ne _ _ (by omega)]; exact e4
  have h0 : pay1 F b n b 4 = 0 := by
    rw [e] at h ⊢
    have := (nI_leI (b := 0) (by omega) (by omega)).mp h
    rw [show q = 0 by omega]; rfl
  unfold payF
  rw [if_pos h0]
theorem py_y {F : Fs} {b n : Nat} (h : ¬ pay1 F b n b 4 ≤ 0) : pay3 F b n = payF F b n := by
  unfold payF
  rw [if_neg (fun z => h (by rw [z]; decide))]
theorem hr_start {F F1 : Fs} {b n h : Nat} (hB : b = 1 ∨ b = 2) (hK : Bk F b n h) (e : F1 = if nI (h % 12) = 0 then payF F b n else F) : F1 b 0 = nI h ∧ Bf F1 b ∧ F1 b 6 = nI n ∧ ∀ j, j < n → Wk F1 (wb b j) h := by
  obtain ⟨hn8, h6, h0, hb, hw⟩ := hK
  have eq : ∀ a q, ¬ (a = b ∧ (q = 1 ∨ q = 5)) → F1 a q = F a q := fun a q hq => by
    rw [e]
    split
    · exact pay_ne F b n hq
    · rfl
  refine ⟨(eq b 0 (by omega)).trans h0, hb.same (eq b 2 (by omega)) (eq b 3 (by omega)) (eq b 4 (by omega)), (eq b 6 (by omega)).trans h6, fun j hj => (hw j hj).same (fun q _ => eq _ q (fun z => by have := wb_lo hB j; omega))⟩
theorem hrL_wk {b n h : Nat} (hB : b = 1 ∨ b = 2) : ∀ (k i : Nat) (acc : Int32) (F : Fs), i + k = n → (∀ j, j < i → Wk F (wb b j) (h + 1)) → (∀ j, i ≤ j → j < n → Wk F (wb b j) h) → ∀ j, j < n → Wk (hrL b (suH h) (noH h) k i acc F).2 (wb b j) (h + 1) := by
  intro k
  induction k with
  | zero => intro i acc F hi h1 _ j hj; exact h1 j (by omega)
  | succ k ih =>
    intro i acc F hi h1 h2
    have hbk : b ≠ wb b i := fun z => by have := wb_lo hB i; omega
    refine ih (i + 1) _ _ (by omega) (fun j hj => ?_) (fun j hj hn => ?_)
    · by_cases hji : j = i
      · subst hji
        exact wk_hour hbk (h2 j (Nat.le_refl _) (by omega))
      · exact (h1 j (by omega)).same (fun q _ => wk_ne _ _ _ _ _ (fun z => by have := wb_lo hB j; omega) (fun z => hji (wb_inj z)))
    · exact (h2 j (by omega) hn).same (fun q _ => wk_ne _ _ _ _ _ (fun z => by have := wb_lo hB j; omega) (fun z => by have := wb_inj z; omega))
theorem bk_hour {F : Fs} {b n h : Nat} (hB : b = 1 ∨ b = 2) (hK : Bk F b n h) : Bk (hrF F b n h) b n (h + 1) := by
  obtain ⟨f0, fb, f6, fw⟩ := hr_start (F1 := if nI (h % 12) = 0 then payF F b n else F) hB hK rfl
  have hw := hrL_wk hB n 0 0 (if nI (h % 12) = 0 then payF F b n else F) (by omega) (fun j hj => absurd hj (by omega)) (fun j _ hj => fw j hj)
  have eb : ∀ q, ¬ (q = 1 ∨ q = 5) → (hr0 F b n h).2 b q = (if nI (h % 12) = 0 then payF F b n else F) b q := fun q hq => hrL_ne b _ _ (fun z => hq z.2) n 0 _ _ (fun j _ _ => wb_ne hB (by omega))
  have ex : ∀ a q, ¬ (a = b ∧ q = 0) → hrF F b n h a q = (hr0 F b n h).2 a q := fun a q hq => up2_ne _ _ hq
  refine ⟨hK.1, ?_, ?_, ?_, fun j hj => (hw j hj).same (fun q _ => ex _ q (fun z => by have := wb_lo hB j; omega))⟩
  · rw [ex b 6 (by omega), eb 6 (by omega)]; exact f6
  · rw [hrF_hour F b n h hB, hK.2.2.1]; exact nI_1 h
  · exact fb.same (by rw [ex b 2 (by omega), eb 2 (by omega)]) (by rw [ex b 3 (by omega), eb 3 (by omega)]) (by rw [ex b 4 (by omega), eb 4 (by omega)])
theorem bk_hours {b n : Nat} (hB : b = 1 ∨ b = 2) : ∀ (t h : Nat) (acc : Int32) (F : Fs), Bk F b n h → Bk (gbL b n t h acc F).2 b n (h + t) := by
  intro t
  induction t with
  | zero => intro h acc F hK; exact hK
  | succ t ih =>
    intro h acc F hK
    have := ih (h + 1) (acc + hrR F b n h) (hrF F b n h) (bk_hour hB hK)
    rw [show h + (t + 1) = h + 1 + t by omega]
    exact this
theorem wk1_b {F : Fs} {b k j : Nat} {noon : Int32} (hk : k ≠ b) : wk1 F k noon b j = F b j := up2_ne _ _ (fun z => hk z.1.symm)
