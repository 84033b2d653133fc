/-! hours to come: ruin, falls -/
theorem gb_acc {b n : Nat} : ∀ (t h : Nat) (acc : Int32) (F : Fs), (gbL b n t h acc F).2 = (gbL b n t h 0 F).2 := by
  intro t
  induction t with
  | zero => intro h acc F; rfl
  | succ t ih =>
    intro h acc F
    show (gbL b n t (h + 1) (acc + hrR F b n h) (hrF F b n h)).2 = (gbL b n t (h + 1) (0 + hrR F b n h) (hrF F b n h)).2
    rw [ih (h + 1) (acc + hrR F b n h), ih (h + 1) (0 + hrR F b n h)]
theorem gb_succ {b n : Nat} : ∀ (t h : Nat) (F : Fs), (gbL b n (t + 1) h 0 F).2 = hrF (gbL b n t h 0 F).2 b n (h + t) := by
  intro t
  induction t with
  | zero => intro h F; rfl
  | succ t ih =>
    intro h F
    have e : (gbL b n (t + 1 + 1) h 0 F).2 = (gbL b n (t + 1) (h + 1) 0 (hrF F b n h)).2 := gb_acc (t + 1) (h + 1) (0 + hrR F b n h) (hrF F b n h)
    have e2 : (gbL b n (t + 1) h 0 F).2 = (gbL b n t (h + 1) 0 (hrF F b n h)).2 := gb_acc t (h + 1) (0 + hrR F b n h) (hrF F b n h)
    rw [e, e2, ih (h + 1) (hrF F b n h), show h + 1 + t = h + (t + 1) by omega]
/-- the pool i hours on -/
def Hh (F : Fs) (n h i : Nat) : Fs := (gbL 1 n i h 0 F).2
theorem Hh_0 (F : Fs) (n h : Nat) : Hh F n h 0 = F := rfl
theorem Hh_s (F : Fs) (n h i : Nat) : Hh F n h (i + 1) = hrF (Hh F n h i) 1 n (h + i) := gb_succ i h F
theorem Hh_bk {F : Fs} {n h i : Nat} (hK : Bk F 1 n h) : Bk (Hh F n h i) 1 n (h + i) := bk_hours (Or.inl rfl) i h 0 F hK
theorem ru_gen {F : Fs} {n h : Nat} : ∀ (k i : Nat) (F2 : Fs), i + k = 100 → AgD 0 0 2 F2 1 (Hh F n h i) n → (∀ j, j < i → ¬ Hh F n h j 1 1 < 0) →
    ((ruL n k i (h + i) F2).1 = -1 ∧ ∀ j, j ≤ 100 → ¬ Hh F n h j 1 1 < 0) ∨ ∃ r, r ≤ 100 ∧ (ruL n k i (h + i) F2).1 = nI r ∧ Hh F n h r 1 1 < 0 ∧ ∀ j, j < r → ¬ Hh F n h j 1 1 < 0 := by
  intro k
  induction k with
  | zero =>
    intro i F2 hi R h1
    have e1 : F2 2 1 = Hh F n h i 1 1 := ag_1 R
    unfold ruL
    by_cases hc : 0 ≤ F2 2 1
    · rw [if_pos hc]
      rw [e1] at hc
      refine Or.inl ⟨rfl, fun j hj => ?_⟩
      by_cases e : j = i
      · subst e; exact Int32.not_lt.mpr hc
      · exact h1 j (by omega)
    · rw [if_neg hc]
      rw [e1] at hc
      refine Or.inr ⟨i, by omega, ?_, Int32.not_le.mp hc, h1⟩
      rw [show i = 100 by omega]; rfl
  | succ k ih =>
    intro i F2 hi R h1
    have e1 : F2 2 1 = Hh F n h i 1 1 := ag_1 R
    unfold ruL
    by_cases hc : 0 ≤ F2 2 1
    · rw [if_pos hc]
      rw [e1] at hc
      obtain ⟨-, K, -, R1⟩ := ag_hour (h := h + i) (Or.inr rfl) (Or.inl rfl) R
      have R2 : AgD 0 0 2 (hrF F2 2 n (h + i)) 1 (Hh F n h (i + 1)) n := by
        rw [Hh_s]
        obtain ⟨r1, r2, r3, r4⟩ := R1
        exact ⟨r1, r2, r3, by rw [r4, Nat.zero_mul, Nat.zero_mul]⟩
      exact ih (i + 1) (hrF F2 2 n (h + i)) (by omega) R2 (fun j hj => by
        by_cases e : j = i
        · subst e; exact Int32.not_lt.mpr hc
        · exact h1 j (by omega))
    · rw [if_neg hc]
      rw [e1] at hc
      exact Or.inr ⟨i, by omega, rfl, Int32.not_le.mp hc, h1⟩
theorem ru_spec {F : Fs} {n h : Nat} (hn8 : n ≤ 8) : ((ruL n 100 0 h (cpyF F n)).1 = -1 ∧ ∀ j, j ≤ 100 → ¬ Hh F n h j 1 1 < 0) ∨ ∃ r, r ≤ 100 ∧ (ruL n 100 0 h (cpyF F n)).1 = nI r ∧ Hh F n h r 1 1 < 0 ∧ ∀ j, j < r → ¬ Hh F n h j 1 1 < 0 :=
  ru_gen 100 0 _ rfl (ag_0 (fun j hj => cpyF_2 F n hj) (fun i hi j hj => cpy_w hn8 hi hj)) (fun j hj => absurd hj (Nat.not_lt_zero j))
/-- whether walker j falls in hour h -/
def fl (F : Fs) (h j : Nat) : Prop := 10 ≤ woI (F (wb 1 j) 0) (F (wb 1 j) 1) (F (wb 1 j) 3) (noH h)
theorem fl_dec (F : Fs) (h j : Nat) : fl F h j ∨ ¬ fl F h j := Classical.em _
theorem hrL_snoc {b : Nat} {su no : Int32} : ∀ (k i : Nat) (acc : Int32) (F : Fs), hrL b su no (k + 1) i acc F = (if wkR (hrL b su no k i acc F).2 (wb b (i + k)) no = 0 then (hrL b su no k i acc F).1 + 0 else (hrL b su no k i acc F).1 + 1, wkF (hrL b su no k i acc F).2 b (wb b (i + k)) su no) := by
  intro k
  induction k with
  | zero => intro i acc F; rfl
  | succ k ih =>
    intro i acc F
    have e : hrL b su no (k + 1 + 1) i acc F = hrL b su no (k + 1) (i + 1) (if wkR F (wb b i) no = 0 then acc + 0 else acc + 1) (wkF F b (wb b i) su no) := rfl
    have e2 : hrL b su no (k + 1) i acc F = hrL b su no k (i + 1) (if wkR F (wb b i) no = 0 then acc + 0 else acc + 1) (wkF F b (wb b i) su no) := rfl
    rw [e, e2, ih (i + 1) _ _, show i + 1 + k = i + (k + 1) by omega]
/-- the hour of the pool, when w of its walkers have walked: how many fell, and the pool -/
def Pw (F : Fs) (n h w : Nat) : Int32 × Fs := hrL 1 (suH h) (noH h) w 0 0 (if nI (h % 12) = 0 then payF F 1 n else F)
theorem Pw_s (F : Fs) (n h w : Nat) : Pw F n h (w + 1) = (if wkR (Pw F n h w).2 (wb 1 w) (noH h) = 0 then (Pw F n h w).1 + 0 else (Pw F n h w).1 + 1, wkF (Pw F n h w).2 1 (wb 1 w) (suH h) (noH h)) := by
  have := hrL_snoc (b := 1) (su := suH h) (no := noH h) w 0 0 (if nI (h % 12) = 0 then payF F 1 n else F)
  rw [Nat.zero_add] at this
  exact this
theorem Pw_2 (F : Fs) (n h w : Nat) : (Pw F n h (w + 1)).2 = wkF (Pw F n h w).2 1 (wb 1 w) (suH h) (noH h) := by rw [Pw_s]
theorem Pw_1 (F : Fs) (n h w : Nat) : (Pw F n h (w + 1)).1 = if 10 ≤ woI ((Pw F n h w).2 (wb 1 w) 0) ((Pw F n h w).2 (wb 1 w) 1) ((Pw F n h w).2 (wb 1 w) 3) (noH h) then (Pw F n h w).1 + 1 else (Pw F n h w).1 := by
  rw [Pw_s]
  show (if wkR (Pw F n h w).2 (wb 1 w) (noH h) = 0 then (Pw F n h w).1 + 0 else (Pw F n h w).1 + 1) = _
  unfold wkR
  rw [wk1_w]
  by_cases hc : 10 ≤ woI ((Pw F n h w).2 (wb 1 w) 0) ((Pw F n h w).2 (wb 1 w) 1) ((Pw F n h w).2 (wb 1 w) 3) (noH h)
  · simp only [if_pos hc]
    rw [if_neg (by decide)]
  · simp only [if_neg hc]
    rw [if_pos trivial]
    grind
theorem py_ne {F : Fs} {n h a q : Nat} (hq : ¬ (a = 1 ∧ (q = 1 ∨ q = 5))) : (if nI (h % 12) = 0 then payF F 1 n else F) a q = F a q := by
  split
  · exact pay_ne F 1 n hq
  · rfl
/-- those who have not walked yet, and the pool's other numbers, are as before -/
theorem Pw_ne {F : Fs} {n h w a q : Nat} (h1 : ¬ (a = 1 ∧ (q = 1 ∨ q = 5))) (h2 : ∀ i, i < w → a ≠ wb 1 i) : (Pw F n h w).2 a q = F a q := by
  unfold Pw
  rw [hrL_ne 1 _ _ h1 w 0 _ _ (fun i _ hi => h2 i (by omega)), py_ne h1]
theorem Pw_w {F : Fs} {n h w j q : Nat} (hj : w ≤ j) : (Pw F n h w).2 (wb 1 j) q = F (wb 1 j) q := Pw_ne (fun z => wb1_ne (j := j) (a := 1) (by omega) z.1.symm) (fun i hi e => by have := wb_inj e; omega)
theorem Pw_fl {F : Fs} {n h w : Nat} : 10 ≤ woI ((Pw F n h w).2 (wb 1 w) 0) ((Pw F n h w).2 (wb 1 w) 1) ((Pw F n h w).2 (wb 1 w) 3) (noH h) ↔ fl F h w := by
  rw [Pw_w (Nat.le_refl _), Pw_w (Nat.le_refl _), Pw_w (Nat.le_refl _)]
  exact Iff.rfl
theorem Pw_cl {F : Fs} {n h w : Nat} : clI (Pw F n h w).2 (wb 1 w) (suH h) (noH h) = clI F (wb 1 w) (suH h) (noH h) := by
  unfold clI
  rw [Pw_w (Nat.le_refl _), Pw_w (Nat.le_refl _), Pw_w (Nat.le_refl _)]
theorem ne1w (w : Nat) : 1 ≠ wb 1 w := wb1_ne (by omega)
/-- what a walker's step does to the count, the fund and the loss -/
theorem Pw_y {F : Fs} {n h w : Nat} (hf : fl F h w) : (Pw F n h (w + 1)).1 = (Pw F n h w).1 + 1 ∧ (Pw F n h (w + 1)).2 1 1 = (Pw F n h w).2 1 1 - (clI F (wb 1 w) (suH h) (noH h) - reI (clI F (wb 1 w) (suH h) (noH h)) (F 1 3) (F 1 4)) ∧ (Pw F n h (w + 1)).2 1 5 = (Pw F n h w).2 1 5 + reI (clI F (wb 1 w) (suH h) (noH h)) (F 1 3) (F 1 4) := by
  have hf' := (Pw_fl (n := n)).mpr hf
  obtain ⟨y1, y5, -⟩ := wkF_y (sun := suH h) (ne1w w) hf'
  have e3 : (Pw F n h w).2 1 3 = F 1 3 := Pw_ne (by omega) (fun i _ => ne1w i)
  have e4 : (Pw F n h w).2 1 4 = F 1 4 := Pw_ne (by omega) (fun i _ => ne1w i)
  exact ⟨by rw [Pw_1, if_pos hf'], by rw [Pw_2, y1, Pw_cl, e3, e4], by rw [Pw_2, y5, Pw_cl, e3, e4]⟩
theorem Pw_n {F : Fs} {n h w : Nat} (hf : ¬ fl F h w) : (Pw F n h (w + 1)).1 = (Pw F n h w).1 ∧ (Pw F n h (w + 1)).2 1 1 = (Pw F n h w).2 1 1 ∧ (Pw F n h (w + 1)).2 1 5 = (Pw F n h w).2 1 5 := by
  have hf' : ¬ 10 ≤ woI ((Pw F n h w).2 (wb 1 w) 0) ((Pw F n h w).2 (wb 1 w) 1) ((Pw F n h w).2 (wb 1 w) 3) (noH h) := fun z => hf (Pw_fl.mp z)
  have nn := wkF_n (b := 1) (sun := suH h) hf'
  exact ⟨by rw [Pw_1, if_neg hf'], by rw [Pw_2, nn, up2_ne _ _ (fun z => ne1w w z.1)], by rw [Pw_2, nn, up2_ne _ _ (fun z => ne1w w z.1)]⟩
theorem hr_Pw (F : Fs) (n h : Nat) : hrR F 1 n h = (Pw F n h n).1 ∧ hrF F 1 n h 1 1 = (Pw F n h n).2 1 1 ∧ hrF F 1 n h 1 5 = (Pw F n h n).2 1 5 := ⟨rfl, up2_ne _ _ (by omega), up2_ne _ _ (by omega)⟩
/-- a walker behind the hour -/
theorem hr_in {F : Fs} {n h j : Nat} (hj : j < n) :
    (fl F h j → hrF F 1 n h (wb 1 j) 3 = 0 ∧ hrF F 1 n h (wb 1 j) 4 = F (wb 1 j) 4 + 1 ∧ hrF F 1 n h (wb 1 j) 2 = mx0 (F (wb 1 j) 2 - 1)) ∧
    (¬ fl F h j → hrF F 1 n h (wb 1 j) 3 = woI (F (wb 1 j) 0) (F (wb 1 j) 1) (F (wb 1 j) 3) (noH h) ∧ hrF F 1 n h (wb 1 j) 4 = F (wb 1 j) 4 ∧ hrF F 1 n h (wb 1 j) 2 = F (wb 1 j) 2) ∧
    hrF F 1 n h (wb 1 j) 0 = F (wb 1 j) 0 ∧ hrF F 1 n h (wb 1 j) 1 = F (wb 1 j) 1 := by
  have late : ∀ (k : Nat), j + 1 ≤ k → ∀ q, (Pw F n h k).2 (wb 1 j) q = (Pw F n h (j + 1)).2 (wb 1 j) q := by
    intro k
    induction k with
    | zero => intro hk; omega
    | succ k ih =>
      intro hk q
      by_cases e : k = j
      · subst e; rfl
      · rw [Pw_s]
        show wkF (Pw F n h k).2 1 (wb 1 k) (suH h) (noH h) (wb 1 j) q = _
        rw [wk_ne _ _ _ _ _ (fun z => wb1_ne (j := j) (a := 1) (by omega) z.1.symm) (fun z => e (wb_inj z.symm))]
        exact ih (by omega) q
  have ex : ∀ q, hrF F 1 n h (wb 1 j) q = (Pw F n h (j + 1)).2 (wb 1 j) q := fun q => by
    have e1 : hrF F 1 n h (wb 1 j) q = (Pw F n h n).2 (wb 1 j) q := up2_ne _ _ (fun z => wb1_ne (j := j) (a := 1) (by omega) z.1.symm)
    rw [e1]
    exact late n (by omega) q
  have e0 : ∀ q, (Pw F n h j).2 (wb 1 j) q = F (wb 1 j) q := fun q => Pw_w (Nat.le_refl _)
  have es : ∀ q, hrF F 1 n h (wb 1 j) q = wkF (Pw F n h j).2 1 (wb 1 j) (suH h) (noH h) (wb 1 j) q := fun q => by rw [ex, Pw_s]
  rcases fl_dec F h j with hf | hf
  · obtain ⟨-, -, z0, z1, z2, z3, z4, z5⟩ := wkF_y (sun := suH h) (ne1w j) ((Pw_fl (n := n)).mpr hf)
    exact ⟨fun _ => ⟨by rw [es, z3], by rw [es, z4, e0], by rw [es, z2, e0]⟩, fun q => absurd hf q, by rw [es, z0, e0], by rw [es, z1, e0]⟩
  · have nn := wkF_n (F := (Pw F n h j).2) (b := 1) (k := wb 1 j) (sun := suH h) (noon := noH h) (fun z => hf (Pw_fl.mp z))
    refine ⟨fun q => absurd q hf, fun _ => ⟨by rw [es, nn, up2_s, e0, e0, e0], by rw [es, nn, up2_ne _ _ (by omega), e0], by rw [es, nn, up2_ne _ _ (by omega), e0]⟩, by rw [es, nn, up2_ne _ _ (by omega), e0], by rw [es, nn, up2_ne _ _ (by omega), e0]⟩
theorem Hh_w {F : Fs} {n h j : Nat} (hj : j < n) : ∀ i, Hh F n h i (wb 1 j) 0 = F (wb 1 j) 0 ∧ Hh F n h i (wb 1 j) 1 = F (wb 1 j) 1 := by
  intro i
  induction i with
  | zero => exact ⟨rfl, rfl⟩
  | succ i ih =>
    obtain ⟨-, -, h0, h1⟩ := hr_in (F := Hh F n h i) (h := h + i) hj
    rw [Hh_s]
    exact ⟨h0.trans ih.1, h1.trans ih.2⟩
/-- walker j falls in the hour i from now on -/
def flH (F : Fs) (n h i j : Nat) : Prop := fl (Hh F n h i) (h + i) j
theorem fa_gen {F : Fs} {n h j : Nat} (hj : j < n) : ∀ (k i : Nat) (r : Int32), i + k = 100 → r = Hh F n h i (wb 1 j) 3 → (∀ z, z < i → ¬ flH F n h z j) →
    (faB (F (wb 1 j) 0) (F (wb 1 j) 1) h k i r = -1 ∧ ∀ z, z < 100 → ¬ flH F n h z j) ∨ ∃ m, m < 100 ∧ faB (F (wb 1 j) 0) (F (wb 1 j) 1) h k i r = nI (m + 1) ∧ flH F n h m j ∧ ∀ z, z < m → ¬ flH F n h z j := by
  intro k
  induction k with
  | zero => intro i r hi _ h1; exact Or.inl ⟨rfl, fun z hz => h1 z (by omega)⟩
  | succ k ih =>
    intro i r hi hr h1
    obtain ⟨w0, w1⟩ := Hh_w (F := F) (h := h) hj i
    rw [faB_s]
    by_cases hc : 10 ≤ woI (F (wb 1 j) 0) (F (wb 1 j) 1) r (noH (h + i))
    · rw [if_pos hc]
      refine Or.inr ⟨i, by omega, rfl, ?_, h1⟩
      unfold flH fl
      rw [w0, w1, ← hr]
      exact hc
    · rw [if_neg hc]
      have hn : ¬ flH F n h i j := by
        unfold flH fl
        rw [w0, w1, ← hr]
        exact hc
      refine ih (i + 1) _ (by omega) ?_ (fun z hz => by
        by_cases e : z = i
        · subst e; exact hn
        · exact h1 z (by omega))
      rw [Hh_s, ((hr_in (F := Hh F n h i) (h := h + i) hj).2.1 hn).1, w0, w1, ← hr]
theorem fa_spec {F : Fs} {n h j : Nat} (hj : j < n) : (fbI F (wb 1 j) h = -1 ∧ ∀ z, z < 100 → ¬ flH F n h z j) ∨ ∃ m, m < 100 ∧ fbI F (wb 1 j) h = nI (m + 1) ∧ flH F n h m j ∧ ∀ z, z < m → ¬ flH F n h z j :=
  fa_gen hj 100 0 _ rfl rfl (fun z hz => absurd hz (Nat.not_lt_zero z))
/-- who falls next: nobody, or j0 in hour m, the first one to -/
theorem nf_spec {F : Fs} {n h : Nat} : (nfL F h n 0 (-1) 101 = -1 ∧ ∀ j, j < n → fbI F (wb 1 j) h = -1) ∨ ∃ j0 m, j0 < n ∧ m < 100 ∧ nfL F h n 0 (-1) 101 = nI j0 ∧ fbI F (wb 1 j0) h = nI (m + 1) ∧ (∀ j, j < n → ∀ z, z < m → ¬ flH F n h z j) ∧ (∀ j, j < j0 → ¬ flH F n h m j) ∧ flH F n h m j0 := by
  by_cases hx : ∃ m, m < 100 ∧ ∃ j, j < n ∧ flH F n h m j
  · obtain ⟨m, hm, ⟨j, hj, hf⟩, hmin⟩ := leastP (P := fun m => ∃ j, j < n ∧ flH F n h m j) 100 hx
    obtain ⟨j0, hj0, hf0, hmin0⟩ := leastP (P := fun j => flH F n h m j) n ⟨j, hj, hf⟩
    have none : ∀ j, j < n → ∀ z, z < m → ¬ flH F n h z j := fun j hj z hz q => hmin z hz ⟨j, hj, q⟩
    have val : ∀ j, j < n → flH F n h m j → fbI F (wb 1 j) h = nI (m + 1) := fun j hj hq => by
      rcases fa_spec (F := F) (h := h) hj with ⟨-, a⟩ | ⟨m', hm', a1, a2, a3⟩
      · exact absurd hq (a m hm)
      · rcases Nat.lt_trichotomy m m' with l | l | l
        · exact absurd hq (a3 m l)
        · rw [l]; exact a1
        · exact absurd a2 (none j hj m' l)
    refine Or.inr ⟨j0, m, hj0, hm, ?_, val j0 hj0 hf0, none, fun j hj => hmin0 j hj, hf0⟩
    refine nf_at (T := m + 1) (by omega) (by omega) (val j0 hj0 hf0) n 0 (-1) 101 (Nat.zero_le _) (by omega) ((nI_ltI (b := 101) (by omega) (by omega)).mpr (by omega)) (fun j _ hj => ?_) (fun j _ hj => ?_)
    · rcases fa_spec (F := F) (h := h) (show j < n by omega) with ⟨a, -⟩ | ⟨m', hm', a1, a2, -⟩
      · rw [a]; exact Or.inl (by decide)
      · rw [a1]
        refine Or.inr (nI_le ?_ (by omega))
        rcases Nat.lt_or_ge m' m with l | l
        · exact absurd a2 (none j (by omega) m' l)
        · omega
    · rcases fa_spec (F := F) (h := h) (show j < n by omega) with ⟨a, -⟩ | ⟨m', hm', a1, a2, -⟩
      · rw [a]; exact fun e => nI_m1 (a := m + 1) (by omega) e.symm
      · rw [a1]
        intro e
        have := (nI_eq (by omega) (by omega)).mp e
        have e2 : m' = m := by omega
        subst e2
        exact hmin0 j hj a2
  · have all : ∀ j, j < n → fbI F (wb 1 j) h = -1 := fun j hj => by
      rcases fa_spec (F := F) (h := h) hj with ⟨a, -⟩ | ⟨m', hm', -, a2, -⟩
      · exact a
      · exact absurd ⟨m', hm', j, hj, a2⟩ hx
    refine Or.inl ⟨nf_none n 0 (-1) 101 (fun j _ hj => Or.inl (by rw [all j (by omega)]; decide)), all⟩
