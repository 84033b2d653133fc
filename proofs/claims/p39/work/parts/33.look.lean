/-! looks leave the book of now alone -/
theorem nI_m1 {a : Nat} (h : a < 2 ^ 31) : ¬ nI a = -1 := fun e => by
  have := nI_pos h
  rw [e] at this
  exact this (by decide)
theorem nI_fut {a : Nat} (h : a < 2 ^ 31) : (-1 : Int32) < nI a := by
  rcases Int32.lt_or_eq_of_le (Int32.not_lt.mp (nI_pos h)) with h1 | h1
  · exact Int32.lt_of_lt_of_le (by decide) (Int32.le_of_lt h1)
  · rw [← h1]; decide
def SameC (F F' : Fs) : Prop := (∀ q, F' 1 q = F 1 q) ∧ ∀ j, j < 8 → ∀ q, F' (wb 1 j) q = F (wb 1 j) q
theorem SameC.rf (F : Fs) : SameC F F := ⟨fun _ => rfl, fun _ _ _ => rfl⟩
theorem SameC.tr {A B C : Fs} (h : SameC A B) (k : SameC B C) : SameC A C := ⟨fun q => (k.1 q).trans (h.1 q), fun j hj q => (k.2 j hj q).trans (h.2 j hj q)⟩
theorem sc_fb (F : Fs) (n h t : Nat) (rate lim : Int32) : SameC F (fbF F n h t rate lim) := ⟨fun q => fbF_ne F n h t rate lim (off1 n) q, fun _ hj q => fbF_ne F n h t rate lim (offw hj) q⟩
theorem sc_be (F : Fs) (n h : Nat) : SameC F (beF F n h).2 := ⟨fun q => beF_ne (off1 n) q, fun _ hj q => beF_ne (offw hj) q⟩
theorem sc_fi (F : Fs) (n h : Nat) : SameC F (fiF F n h).2 := ⟨fun q => fiL_ne (off1 n) 10 0 F q, fun _ hj q => fiL_ne (offw hj) 10 0 F q⟩
theorem ruL_ne {n a : Nat} (ho : offT n a) : ∀ (k i h : Nat) (F : Fs) (b : Nat), (ruL n k i h F).2 a b = F a b := by
  intro k
  induction k with
  | zero => intro i h F b; rfl
  | succ k ih =>
    intro i h F b
    unfold ruL
    split
    · rw [ih, gbL_ne n ho]
    · rfl
theorem sc_ru (F : Fs) (n h : Nat) : SameC F (ruL n 100 0 h (cpyF F n)).2 := ⟨fun q => by rw [ruL_ne (off1 n), cpyF_ne F n (off1 n)], fun _ hj q => by rw [ruL_ne (offw hj), cpyF_ne F n (offw hj)]⟩
theorem cpyL_w : ∀ (k i : Nat) (F : Fs) (j q : Nat), i ≤ j → j < i + k → i + k ≤ 8 → q < 6 → cpyL k i F (wb 2 j) q = F (wb 1 j) q := by
  intro k
  induction k with
  | zero => intro i F j q h1 h2; omega
  | succ k ih =>
    intro i F j q h1 h2 h3 hq
    show cpyL k (i + 1) (cpwF F (wb 2 i) (wb 1 i)) (wb 2 j) q = _
    by_cases hji : j = i
    · subst hji
      rw [cpyL_ne k (j + 1) _ q (fun z hz _ e => by have := wb_inj e; omega), cpwF_eq _ _ _ hq]
    · rw [ih (i + 1) _ j q (by omega) (by omega) (by omega) hq]
      exact cpwF_ne _ _ _ (wb_ne2 (by omega)) q
theorem cpy_w {F : Fs} {n j q : Nat} (hn8 : n ≤ 8) (hj : j < n) (hq : q < 6) : cpyF F n (wb 2 j) q = F (wb 1 j) q := by
  unfold cpyF
  rw [cpyL_w n 0 _ j q (by omega) (by omega) (by omega) hq]
  exact hdrF_ne F (Ne.symm (wb_ne (Or.inl rfl) (by decide))) q
theorem faB_s (ht sk : Int32) (h n i : Nat) (r : Int32) : faB ht sk h (n + 1) i r = if 10 ≤ woI ht sk r (noH (h + i)) then nI (i + 1) else faB ht sk h n (i + 1) (woI ht sk r (noH (h + i))) := by
  by_cases hc : 10 ≤ woI ht sk r (noH (h + i))
  · rw [if_pos hc]
    show (if woI ht sk r (noH (h + i)) < 10 then _ else _) = _
    rw [if_neg (Int32.not_lt.mpr hc)]
  · rw [if_neg hc]
    show (if woI ht sk r (noH (h + i)) < 10 then _ else _) = _
    rw [if_pos (Int32.not_le.mp hc)]
    rfl
theorem faB_or (ht sk : Int32) (h : Nat) : ∀ (k i : Nat) (r : Int32), faB ht sk h k i r = -1 ∨ ∃ m, i < m ∧ m ≤ i + k ∧ faB ht sk h k i r = nI m := by
  intro k
  induction k with
  | zero => intro i r; exact Or.inl rfl
  | succ k ih =>
    intro i r
    rw [faB_s]
    split
    · exact Or.inr ⟨i + 1, by omega, by omega, rfl⟩
    · rcases ih (i + 1) (woI ht sk r (noH (h + i))) with e | ⟨m, m1, m2, m3⟩
      · exact Or.inl e
      · exact Or.inr ⟨m, by omega, by omega, m3⟩
theorem nf_none {F : Fs} {h : Nat} : ∀ (k i : Nat) (nx so : Int32), (∀ j, i ≤ j → j < i + k → fbI F (wb 1 j) h ≤ 0 ∨ so ≤ fbI F (wb 1 j) h) → nfL F h k i nx so = nx := by
  intro k
  induction k with
  | zero => intro i nx so _; rfl
  | succ k ih =>
    intro i nx so hj
    have hr := ih (i + 1) nx so (fun j h1 h2 => hj j (by omega) (by omega))
    unfold nfL
    rcases hj i (Nat.le_refl _) (by omega) with hc | hc
    · rw [if_pos hc]; exact hr
    · split
      · exact hr
      · exact hr
theorem nf_at {F : Fs} {h j0 T : Nat} (hT : 0 < T) (hT2 : T < 2 ^ 30) (e0 : fbI F (wb 1 j0) h = nI T) : ∀ (k i : Nat) (nx so : Int32), i ≤ j0 → j0 < i + k → nI T < so → (∀ j, i ≤ j → j < i + k → fbI F (wb 1 j) h ≤ 0 ∨ nI T ≤ fbI F (wb 1 j) h) → (∀ j, i ≤ j → j < j0 → ¬ fbI F (wb 1 j) h = nI T) → nfL F h k i nx so = nI j0 := by
  intro k
  induction k with
  | zero => intro i nx so h1 h2; omega
  | succ k ih =>
    intro i nx so h1 h2 hso hj hn
    unfold nfL
    by_cases hij : j0 = i
    · subst hij
      rw [e0, if_neg (nI_nle hT (by omega)), if_neg (Int32.not_le.mpr hso)]
      exact nf_none _ _ _ _ (fun j h3 h4 => hj j (by omega) (by omega))
    · have rest : ∀ nx so, nI T < so → nfL F h k (i + 1) nx so = nI j0 := fun nx so hs => ih (i + 1) nx so (by omega) (by omega) hs (fun j h3 h4 => hj j (by omega) (by omega)) (fun j h3 h4 => hn j (by omega) h4)
      split
      · exact rest _ _ hso
      · rename_i hp
        split
        · exact rest _ _ hso
        · refine rest _ _ ?_
          rcases hj i (Nat.le_refl _) (by omega) with hc | hc
          · exact absurd hc hp
          · rcases Int32.lt_or_eq_of_le hc with hl | hl
            · exact hl
            · exact absurd hl.symm (hn i (Nat.le_refl _) (by omega))
theorem leastP {P : Nat → Prop} : ∀ (n : Nat), (∃ j, j < n ∧ P j) → ∃ j, j < n ∧ P j ∧ ∀ i, i < j → ¬ P i := by
  intro n
  induction n with
  | zero => rintro ⟨j, h, _⟩; omega
  | succ n ih =>
    rintro ⟨j, h, hp⟩
    by_cases hx : ∃ j, j < n ∧ P j
    · obtain ⟨a, a1, a2, a3⟩ := ih hx
      exact ⟨a, by omega, a2, a3⟩
    · have hjn : j = n := by
        by_cases hh : j = n
        · exact hh
        · exact absurd ⟨j, by omega, hp⟩ hx
      subst hjn
      exact ⟨j, h, hp, fun i hi q => hx ⟨i, hi, q⟩⟩
theorem In.sc {F F' : Fs} {n h : Nat} (I : In F n h) (S : SameC F F') : In F' n h := by
  obtain ⟨⟨h1, h2, h3, h4, h5⟩, h6, h7⟩ := I
  exact ⟨⟨h1, by rw [S.1]; exact h2, by rw [S.1]; exact h3, h4.same (S.1 2) (S.1 3) (S.1 4), fun j hj => (h5 j hj).same (fun q _ => S.2 j (by omega) q)⟩, fun j hj => by rw [S.2 j hj]; exact h6 j hj, by rw [S.1]; exact h7⟩
theorem swl_sc (G : gT) (A : Nat → Nat) {n : Nat} {F F' : Fs} (hn : n ≤ 8) (S : SameC F F') : swl G A n F 1 = swl G A n F' 1 := swl_congr G A (fun j _ => (S.1 j).symm) (fun i hi j => (S.2 i (by omega) j).symm)
/-! two books that hold the same but for d more of rate, and d * K more of fund -/
def AgD (d K b : Nat) (F : Fs) (b' : Nat) (F' : Fs) (n : Nat) : Prop := (∀ j, j < 7 → j ≠ 1 → j ≠ 2 → F b j = F' b' j) ∧ (∀ i, i < n → ∀ j, j < 6 → F (wb b i) j = F' (wb b' i) j) ∧ F' b' 2 = F b 2 + nI d ∧ F' b' 1 = F b 1 + nI (d * K)
theorem cm_nat0 {F : Fs} {b : Nat} : ∀ (n i : Nat), ∃ c, c ≤ n ∧ cmL F b n i 0 = nI c := by
  intro n
  induction n with
  | zero => intro i; exact ⟨0, Nat.le_refl _, rfl⟩
  | succ n ih =>
    intro i
    obtain ⟨c, hc, e⟩ := ih (i + 1)
    show ∃ c, c ≤ n + 1 ∧ cmL F b n (i + 1) (if F (wb b i) 5 = 0 then 0 + 0 else 0 + 1) = nI c
    rw [cm_acc, e]
    by_cases h0 : F (wb b i) 5 = 0
    · rw [if_pos h0]
      exact ⟨c, by omega, by rw [show (0 : Int32) + 0 = nI 0 from rfl, nI_add, Nat.zero_add]⟩
    · rw [if_neg h0]
      exact ⟨1 + c, by omega, by rw [show (0 : Int32) + 1 = nI 1 from rfl, nI_add]⟩
theorem cm_ag {F F' : Fs} {b b' : Nat} : ∀ (k i : Nat) (acc : Int32), (∀ j, i ≤ j → j < i + k → F (wb b j) 5 = F' (wb b' j) 5) → cmL F b k i acc = cmL F' b' k i acc := by
  intro k
  induction k with
  | zero => intro i acc _; rfl
  | succ k ih =>
    intro i acc hj
    show cmL F b k (i + 1) _ = cmL F' b' k (i + 1) _
    rw [hj i (Nat.le_refl _) (by omega)]
    exact ih (i + 1) _ (fun j h1 h2 => hj j (by omega) (by omega))
theorem ag_pay {d K b b' n : Nat} {F F' : Fs} (hB : b = 1 ∨ b = 2) (hB' : b' = 1 ∨ b' = 2) (R : AgD d K b F b' F' n) : ∃ K', K' ≤ K + n ∧ AgD d K' b (payF F b n) b' (payF F' b' n) n := by
  obtain ⟨r1, r2, r3, r4⟩ := R
  obtain ⟨c, hc, ec⟩ := cm_nat0 (F := F) (b := b) n 0
  have ec' : cmL F' b' n 0 0 = nI c := by rw [← ec]; exact (cm_ag n 0 0 (fun j _ hj => r2 j (by omega) 5 (by omega))).symm
  have p1 : pay1 F' b' n b' 1 = pay1 F b n b 1 + nI (d * (K + c)) := by
    unfold pay1
    rw [up2_s, up2_s, r3, r4, ec, ec', Nat.mul_add, ← nI_add, ← pk_mul d c]
    grind
  have p4 : pay1 F b n b 4 = pay1 F' b' n b' 4 := by unfold pay1; rw [up2_ne _ _ (by omega), up2_ne _ _ (by omega)]; exact r1 4 (by omega) (by omega) (by omega)
  have p5 : pay1 F b n b 5 = pay1 F' b' n b' 5 := by unfold pay1; rw [up2_ne _ _ (by omega), up2_ne _ _ (by omega)]; exact r1 5 (by omega) (by omega) (by omega)
  have q1 : payF F' b' n b' 1 = payF F b n b 1 + nI (d * (K + c)) := by
    unfold payF
    rw [← p4]
    split
    · exact p1
    · unfold pay3
      rw [up2_ne _ _ (by omega), up2_ne _ _ (by omega)]
      unfold pay2
      rw [up2_s, up2_s, p1, ← p4]
      grind
  have q5 : payF F b n b 5 = payF F' b' n b' 5 := by
    unfold payF
    rw [← p4]
    split
    · exact p5
    · unfold pay3 pay2
      rw [up2_s, up2_s, up2_ne _ _ (by omega), up2_ne _ _ (by omega), p5, p4]
  refine ⟨K + c, by omega, fun j hj h1 h2 => ?_, fun i hi j hj => ?_, ?_, q1⟩
  · by_cases e : j = 5
    · subst e; exact q5
    · rw [pay_ne F b n (by omega), pay_ne F' b' n (by omega)]; exact r1 j hj h1 h2
  · rw [pay_ne F b n (fun z => by have := wb_lo hB i; omega), pay_ne F' b' n (fun z => by have := wb_lo hB' i; omega)]; exact r2 i hi j hj
  · rw [pay_ne F b n (by omega), pay_ne F' b' n (by omega)]; exact r3
theorem ag_wk {d K b b' n i : Nat} {F F' : Fs} {su no : Int32} (hB : b = 1 ∨ b = 2) (hB' : b' = 1 ∨ b' = 2) (hi : i < n) (R : AgD d K b F b' F' n) : wkR F (wb b i) no = wkR F' (wb b' i) no ∧ AgD d K b (wkF F b (wb b i) su no) b' (wkF F' b' (wb b' i) su no) n := by
  obtain ⟨r1, r2, r3, r4⟩ := R
  have hbk : b ≠ wb b i := fun z => by have := wb_lo hB i; omega
  have hbk' : b' ≠ wb b' i := fun z => by have := wb_lo hB' i; omega
  have w := r2 i hi
  have ew : woI (F (wb b i) 0) (F (wb b i) 1) (F (wb b i) 3) no = woI (F' (wb b' i) 0) (F' (wb b' i) 1) (F' (wb b' i) 3) no := by rw [w 0 (by omega), w 1 (by omega), w 3 (by omega)]
  have ecl : clI F (wb b i) su no = clI F' (wb b' i) su no := by unfold clI; rw [w 0 (by omega), w 2 (by omega), w 5 (by omega)]
  have eo : ∀ j, j ≠ i → ∀ q, wkF F b (wb b i) su no (wb b j) q = F (wb b j) q := fun j hj q => wk_ne _ _ _ _ _ (fun z => by have := wb_lo hB j; omega) (fun z => hj (wb_inj z))
  have eo' : ∀ j, j ≠ i → ∀ q, wkF F' b' (wb b' i) su no (wb b' j) q = F' (wb b' j) q := fun j hj q => wk_ne _ _ _ _ _ (fun z => by have := wb_lo hB' j; omega) (fun z => hj (wb_inj z))
  have eb : ∀ q, ¬ (q = 1 ∨ q = 5) → wkF F b (wb b i) su no b q = F b q := fun q hq => wk_ne _ _ _ _ _ (fun z => hq z.2) hbk
  have eb' : ∀ q, ¬ (q = 1 ∨ q = 5) → wkF F' b' (wb b' i) su no b' q = F' b' q := fun q hq => wk_ne _ _ _ _ _ (fun z => hq z.2) hbk'
  refine ⟨by unfold wkR; rw [wk1_w, wk1_w, ew], ?_⟩
  by_cases hf : 10 ≤ woI (F (wb b i) 0) (F (wb b i) 1) (F (wb b i) 3) no
  · obtain ⟨y1, y5, z0, z1, z2, z3, z4, z5⟩ := wkF_y (sun := su) hbk hf
    obtain ⟨y1', y5', z0', z1', z2', z3', z4', z5'⟩ := wkF_y (sun := su) hbk' (by rw [← ew]; exact hf)
    refine ⟨fun j hj h1 h2 => ?_, fun j hj q hq => ?_, ?_, ?_⟩
    · by_cases e : j = 5
      · subst e; rw [y5, y5', ecl, r1 5 (by omega) (by omega) (by omega), r1 3 (by omega) (by omega) (by omega), r1 4 (by omega) (by omega) (by omega)]
      · rw [eb j (by omega), eb' j (by omega)]; exact r1 j hj h1 h2
    · by_cases e : j = i
      · subst e
        rcases (show q = 0 ∨ q = 1 ∨ q = 2 ∨ q = 3 ∨ q = 4 ∨ q = 5 by omega) with rfl | rfl | rfl | rfl | rfl | rfl
        · rw [z0, z0']; exact w 0 (by omega)
        · rw [z1, z1']; exact w 1 (by omega)
        · rw [z2, z2', w 2 (by omega)]
        · rw [z3, z3']
        · rw [z4, z4', w 4 (by omega)]
        · rw [z5, z5']; exact w 5 (by omega)
      · rw [eo j e, eo' j e]; exact r2 j hj q hq
    · rw [eb 2 (by omega), eb' 2 (by omega)]; exact r3
    · rw [y1, y1', ecl, r4, r1 3 (by omega) (by omega) (by omega), r1 4 (by omega) (by omega) (by omega)]
      grind
  · have n1 := wkF_n (b := b) (sun := su) hf
    have n2 := wkF_n (F := F') (b := b') (k := wb b' i) (sun := su) (noon := no) (by rw [← ew]; exact hf)
    have b1 : wkF F b (wb b i) su no b 1 = F b 1 := by rw [n1, up2_ne _ _ (fun z => hbk z.1)]
    have b1' : wkF F' b' (wb b' i) su no b' 1 = F' b' 1 := by rw [n2, up2_ne _ _ (fun z => hbk' z.1)]
    have b5 : wkF F b (wb b i) su no b 5 = F b 5 := by rw [n1, up2_ne _ _ (fun z => hbk z.1)]
    have b5' : wkF F' b' (wb b' i) su no b' 5 = F' b' 5 := by rw [n2, up2_ne _ _ (fun z => hbk' z.1)]
    refine ⟨fun j hj h1 h2 => ?_, fun j hj q hq => ?_, ?_, ?_⟩
    · by_cases e : j = 5
      · subst e; rw [b5, b5']; exact r1 5 hj h1 h2
      · rw [eb j (by omega), eb' j (by omega)]; exact r1 j hj h1 h2
    · by_cases e : j = i
      · subst e
        rw [n1, n2]
        by_cases e3 : q = 3
        · subst e3; rw [up2_s, up2_s, ew]
        · rw [up2_ne _ _ (fun z => e3 z.2), up2_ne _ _ (fun z => e3 z.2)]; exact w q hq
      · rw [eo j e, eo' j e]; exact r2 j hj q hq
    · rw [eb 2 (by omega), eb' 2 (by omega)]; exact r3
    · rw [b1, b1']; exact r4
theorem ag_hrL {d K b b' n : Nat} {su no : Int32} (hB : b = 1 ∨ b = 2) (hB' : b' = 1 ∨ b' = 2) : ∀ (k i : Nat) (acc : Int32) (F F' : Fs), i + k = n → AgD d K b F b' F' n → (hrL b su no k i acc F).1 = (hrL b' su no k i acc F').1 ∧ AgD d K b (hrL b su no k i acc F).2 b' (hrL b' su no k i acc F').2 n := by
  intro k
  induction k with
  | zero => intro i acc F F' _ R; exact ⟨rfl, R⟩
  | succ k ih =>
    intro i acc F F' hi R
    obtain ⟨e1, R1⟩ := ag_wk (su := su) (no := no) hB hB' (i := i) (by omega) R
    show (hrL b su no k (i + 1) _ _).1 = (hrL b' su no k (i + 1) _ _).1 ∧ AgD d K b (hrL b su no k (i + 1) _ _).2 b' (hrL b' su no k (i + 1) _ _).2 n
    rw [e1]
    exact ih (i + 1) _ _ _ (by omega) R1
theorem ag_hour {d K b b' n h : Nat} {F F' : Fs} (hB : b = 1 ∨ b = 2) (hB' : b' = 1 ∨ b' = 2) (R : AgD d K b F b' F' n) : hrR F b n h = hrR F' b' n h ∧ ∃ K', K' ≤ K + n ∧ AgD d K' b (hrF F b n h) b' (hrF F' b' n h) n := by
  obtain ⟨K', hK', R0⟩ : ∃ K', K' ≤ K + n ∧ AgD d K' b (if nI (h % 12) = 0 then payF F b n else F) b' (if nI (h % 12) = 0 then payF F' b' n else F') n := by
    split
    · exact ag_pay hB hB' R
    · exact ⟨K, by omega, R⟩
  obtain ⟨e1, R1⟩ := ag_hrL (su := sunAtI (nI (h % 12))) (no := noonAtI (nI (h % 12))) hB hB' n 0 0 _ _ (by omega) R0
  refine ⟨e1, K', hK', ?_⟩
  obtain ⟨r1, r2, r3, r4⟩ := R1
  have ex : ∀ a q, ¬ (a = b ∧ q = 0) → hrF F b n h a q = (hr0 F b n h).2 a q := fun a q hq => up2_ne _ _ hq
  have ex' : ∀ a q, ¬ (a = b' ∧ q = 0) → hrF F' b' n h a q = (hr0 F' b' n h).2 a q := fun a q hq => up2_ne _ _ hq
  refine ⟨fun j hj h1 h2 => ?_, fun i hi j hj => ?_, ?_, ?_⟩
  · by_cases e : j = 0
    · subst e; rw [hrF_hour F b n h hB, hrF_hour F' b' n h hB', R.1 0 (by omega) (by omega) (by omega)]
    · rw [ex b j (by omega), ex' b' j (by omega)]; exact r1 j hj h1 h2
  · rw [ex _ j (fun z => by have := wb_lo hB i; omega), ex' _ j (fun z => by have := wb_lo hB' i; omega)]; exact r2 i hi j hj
  · rw [ex b 2 (by omega), ex' b' 2 (by omega)]; exact r3
  · rw [ex b 1 (by omega), ex' b' 1 (by omega)]; exact r4
theorem ag_hours {d b b' n : Nat} (hB : b = 1 ∨ b = 2) (hB' : b' = 1 ∨ b' = 2) : ∀ (t h : Nat) (acc : Int32) (K : Nat) (F F' : Fs), AgD d K b F b' F' n → (gbL b n t h acc F).1 = (gbL b' n t h acc F').1 ∧ ∃ K', K' ≤ K + n * t ∧ AgD d K' b (gbL b n t h acc F).2 b' (gbL b' n t h acc F').2 n := by
  intro t
  induction t with
  | zero => intro h acc K F F' R; exact ⟨rfl, K, by omega, R⟩
  | succ t ih =>
    intro h acc K F F' R
    obtain ⟨e1, K1, hK1, R1⟩ := ag_hour (h := h) hB hB' R
    show (gbL b n t (h + 1) _ _).1 = (gbL b' n t (h + 1) _ _).1 ∧ ∃ K', K' ≤ K + n * (t + 1) ∧ AgD d K' b (gbL b n t (h + 1) _ _).2 b' (gbL b' n t (h + 1) _ _).2 n
    rw [e1]
    obtain ⟨e2, K2, hK2, R2⟩ := ih (h + 1) (acc + hrR F' b' n h) K1 _ _ R1
    exact ⟨e2, K2, by rw [Nat.mul_succ]; omega, R2⟩
theorem ag_0 {b b' n : Nat} {F F' : Fs} (h1 : ∀ j, j < 7 → F b j = F' b' j) (h2 : ∀ i, i < n → ∀ j, j < 6 → F (wb b i) j = F' (wb b' i) j) : AgD 0 0 b F b' F' n := ⟨fun j hj _ _ => h1 j hj, h2, by rw [h1 2 (by omega)]; show _ = _ + 0; grind, by rw [h1 1 (by omega)]; show _ = _ + 0; grind⟩
theorem ag_1 {b b' n K : Nat} {F F' : Fs} (R : AgD 0 K b F b' F' n) : F b 1 = F' b' 1 := by
  have := R.2.2.2
  rw [Nat.zero_mul] at this
  rw [this]
  show _ = _ + 0
  grind
/-! the fund behind t hours, with another rate and another limit -/
def fd (F : Fs) (n h t : Nat) (r l : Int32) : Int32 := (gbL 1 n t h 0 (up2 (up2 F 1 2 r) 1 4 l)).2 1 1
theorem fb_fd {F : Fs} {n h t : Nat} {r l : Int32} (hn8 : n ≤ 8) : fbF F n h t r l 2 1 = fd F n h t r l := by
  have R : AgD 0 0 2 (fb0 F n r l) 1 (up2 (up2 F 1 2 r) 1 4 l) n := by
    refine ag_0 (fun j hj => ?_) (fun i hi j hj => ?_)
    · unfold fb0
      by_cases e4 : j = 4
      · subst e4; rw [up2_s, up2_s]
      · rw [up2_ne _ _ (fun z => e4 z.2), up2_ne _ _ (fun z => e4 z.2)]
        by_cases e2 : j = 2
        · subst e2; rw [up2_s, up2_s]
        · rw [up2_ne _ _ (fun z => e2 z.2), up2_ne _ _ (fun z => e2 z.2)]
          exact cpyF_2 F n hj
    · unfold fb0
      have e2 : wb 2 i ≠ 2 := fun e => by have := wb_lo (Or.inr rfl : (2 : Nat) = 1 ∨ 2 = 2) i; omega
      have e1 : wb 1 i ≠ 1 := fun e => by have := wb_lo (Or.inl rfl : (1 : Nat) = 1 ∨ 1 = 2) i; omega
      rw [up2_ne _ _ (fun z => e2 z.1), up2_ne _ _ (fun z => e2 z.1), up2_ne _ _ (fun z => e1 z.1), up2_ne _ _ (fun z => e1 z.1)]
      exact cpy_w hn8 hi hj
  obtain ⟨-, K, -, R1⟩ := ag_hours (Or.inr rfl) (Or.inl rfl) t h 0 0 _ _ R
  exact ag_1 R1
theorem fd_sc {F F' : Fs} {n h t : Nat} {r l : Int32} (hn8 : n ≤ 8) (S : SameC F F') : fd F' n h t r l = fd F n h t r l := by
  have e1 : ∀ i, wb 1 i ≠ 1 := fun i e => by have := wb_lo (Or.inl rfl : (1 : Nat) = 1 ∨ 1 = 2) i; omega
  have R : AgD 0 0 1 (up2 (up2 F' 1 2 r) 1 4 l) 1 (up2 (up2 F 1 2 r) 1 4 l) n := by
    refine ag_0 (fun j hj => ?_) (fun i hi j hj => ?_)
    · simp only [up2_at, S.1]
    · rw [up2_ne _ _ (fun z => e1 i z.1), up2_ne _ _ (fun z => e1 i z.1), up2_ne _ _ (fun z => e1 i z.1), up2_ne _ _ (fun z => e1 i z.1)]
      exact S.2 i (by omega) j
  obtain ⟨-, K, -, R1⟩ := ag_hours (Or.inl rfl) (Or.inl rfl) t h 0 0 _ _ R
  exact ag_1 R1
theorem fd_lim {F : Fs} {n h t : Nat} {l : Int32} : fd F n h t (F 1 2) l = (gbL 1 n t h 0 (up2 F 1 4 l)).2 1 1 := by unfold fd; rw [up2_id]
theorem fd_rate {F : Fs} {n h t : Nat} {r : Int32} : fd F n h t r (F 1 4) = (gbL 1 n t h 0 (up2 F 1 2 r)).2 1 1 := by
  unfold fd
  have e : up2 (up2 F 1 2 r) 1 4 (F 1 4) = up2 F 1 2 r := by
    have : F 1 4 = up2 F 1 2 r 1 4 := (up2_ne _ _ (by omega)).symm
    rw [this, up2_id]
  rw [e]
theorem fd_both {F : Fs} {n h t : Nat} : fd F n h t (F 1 2) (F 1 4) = (gbL 1 n t h 0 F).2 1 1 := by rw [fd_lim, up2_id]
theorem In.lim {F : Fs} {n h l : Nat} (I : In F n h) (hl : l ≤ 400) : Bk (up2 F 1 4 (nI l)) 1 n h := by
  obtain ⟨⟨h1, h2, h3, ⟨⟨r, hr, e2⟩, ⟨q, hq, e3⟩, -⟩, h5⟩, -, -⟩ := I
  exact ⟨h1, by rw [up2_ne _ _ (by omega)]; exact h2, by rw [up2_ne _ _ (by omega)]; exact h3, ⟨⟨r, hr, by rw [up2_ne _ _ (by omega)]; exact e2⟩, ⟨q, hq, by rw [up2_ne _ _ (by omega)]; exact e3⟩, ⟨l, hl, up2_s _ _ _ _⟩⟩, fun j hj => (h5 j hj).same (fun q _ => up1_w j q)⟩
theorem In.rt {F : Fs} {n h r : Nat} (I : In F n h) (hr : r ≤ 9) : Bk (up2 F 1 2 (nI r)) 1 n h := by
  obtain ⟨⟨h1, h2, h3, ⟨-, ⟨q, hq, e3⟩, ⟨l, hl, e4⟩⟩, h5⟩, -, -⟩ := I
  exact ⟨h1, by rw [up2_ne _ _ (by omega)]; exact h2, by rw [up2_ne _ _ (by omega)]; exact h3, ⟨⟨r, hr, up2_s _ _ _ _⟩, ⟨q, hq, by rw [up2_ne _ _ (by omega)]; exact e3⟩, ⟨l, hl, by rw [up2_ne _ _ (by omega)]; exact e4⟩⟩, fun j hj => (h5 j hj).same (fun q _ => up1_w j q)⟩
theorem Bd.le {x : Int32} {B k : Nat} (h : Bd x B) (hs : B + k < 2 ^ 30) : x ≤ x + nI k := by
  obtain ⟨h1, h2⟩ := h
  have e : (x + nI k).toInt = x.toInt + (k : Int) := by
    rw [Int32.toInt_add, nI_toInt (by omega)]
    exact Int.bmod_eq_of_le (by omega) (by omega)
  rw [Int32.le_iff_toInt_le, e]
  omega
/-- a greater rate leaves no less -/
theorem fd_mono {F : Fs} {n h r r' : Nat} (I : In F n h) (hh : h ≤ 10000) (hr : r ≤ r') (hr9 : r' ≤ 9) : fd F n h 48 (nI r) (F 1 4) ≤ fd F n h 48 (nI r') (F 1 4) := by
  rw [fd_rate, fd_rate]
  have e1 : ∀ i, wb 1 i ≠ 1 := fun i e => by have := wb_lo (Or.inl rfl : (1 : Nat) = 1 ∨ 1 = 2) i; omega
  have R : AgD (r' - r) 0 1 (up2 F 1 2 (nI r)) 1 (up2 F 1 2 (nI r')) n := by
    refine ⟨fun j _ _ h2 => ?_, fun i _ j _ => ?_, ?_, ?_⟩
    · rw [up2_ne _ _ (fun z => h2 z.2), up2_ne _ _ (fun z => h2 z.2)]
    · rw [up2_ne _ _ (fun z => e1 i z.1), up2_ne _ _ (fun z => e1 i z.1)]
    · rw [up2_s, up2_s, nI_add]; congr 1; omega
    · rw [up2_ne _ _ (by omega), up2_ne _ _ (by omega), Nat.mul_zero]; show _ = _ + 0; grind
  obtain ⟨-, K, hK, R1⟩ := ag_hours (Or.inl rfl) (Or.inl rfl) 48 h 0 0 _ _ R
  rw [R1.2.2.2]
  have hb := bd_hours (Or.inl rfl) 48 h 0 _ (100 + 1600 * h) (I.rt (r := r) (by omega)) (by rw [up2_ne _ _ (by omega)]; exact I.2.2) (by omega)
  have h8 := I.n8
  have hn : n * 48 ≤ 384 := by omega
  have hd : (r' - r) * K ≤ 9 * 384 := Nat.mul_le_mul (by omega) (by omega)
  exact hb.le (by omega)
/-! the best limit -/
theorem be_gen {F : Fs} {n h : Nat} (hn8 : n ≤ 8) : ∀ (k i q : Nat) (F' : Fs), SameC F F' → i + k = 5 → q ≤ i → (∀ z, z ≤ i → fd F n h 48 (F 1 2) (nI (20 * z)) ≤ fd F n h 48 (F 1 2) (nI (20 * q))) → (∀ z, z < q → fd F n h 48 (F 1 2) (nI (20 * z)) < fd F n h 48 (F 1 2) (nI (20 * q))) →
    ∃ q2, q2 ≤ 5 ∧ (beL n h k i (nI (20 * q)) (fd F n h 48 (F 1 2) (nI (20 * q))) F').1 = nI (20 * q2) ∧ (∀ z, z ≤ 5 → fd F n h 48 (F 1 2) (nI (20 * z)) ≤ fd F n h 48 (F 1 2) (nI (20 * q2))) ∧ ∀ z, z < q2 → fd F n h 48 (F 1 2) (nI (20 * z)) < fd F n h 48 (F 1 2) (nI (20 * q2)) := by
  intro k
  induction k with
  | zero => intro i q F' _ hi hq h1 h2; exact ⟨q, by omega, rfl, fun z hz => h1 z (by omega), h2⟩
  | succ k ih =>
    intro i q F' S hi hq h1 h2
    have ev : fbF F' n h 48 (F' 1 2) (nI (20 * (i + 1))) 2 1 = fd F n h 48 (F 1 2) (nI (20 * (i + 1))) := by rw [fb_fd hn8, fd_sc hn8 S, S.1]
    have S2 := S.tr (sc_fb F' n h 48 (F' 1 2) (nI (20 * (i + 1))))
    unfold beL
    rw [ev]
    by_cases hc : fd F n h 48 (F 1 2) (nI (20 * (i + 1))) ≤ fd F n h 48 (F 1 2) (nI (20 * q))
    · rw [if_pos hc]
      exact ih (i + 1) q _ S2 (by omega) (by omega) (fun z hz => by
        by_cases e : z = i + 1
        · subst e; exact hc
        · exact h1 z (by omega)) h2
    · rw [if_neg hc]
      have hl := Int32.not_le.mp hc
      exact ih (i + 1) (i + 1) _ S2 (by omega) (by omega) (fun z hz => by
        by_cases e : z = i + 1
        · subst e; exact Int32.le_refl _
        · exact Int32.le_of_lt (Int32.lt_of_le_of_lt (h1 z (by omega)) hl)) (fun z hz => Int32.lt_of_le_of_lt (h1 z (by omega)) hl)
theorem be_spec {F : Fs} {n h : Nat} (hn8 : n ≤ 8) : ∃ q, q ≤ 5 ∧ (beF F n h).1 = nI (20 * q) ∧ (∀ z, z ≤ 5 → fd F n h 48 (F 1 2) (nI (20 * z)) ≤ fd F n h 48 (F 1 2) (nI (20 * q))) ∧ ∀ z, z < q → fd F n h 48 (F 1 2) (nI (20 * z)) < fd F n h 48 (F 1 2) (nI (20 * q)) := by
  have e : be0 F n h 2 1 = fd F n h 48 (F 1 2) (nI (20 * 0)) := fb_fd hn8
  unfold beF
  rw [e]
  exact be_gen hn8 5 0 0 _ (sc_fb F n h 48 (F 1 2) 0) (by omega) (Nat.le_refl _) (fun z hz => by rw [show z = 0 by omega]; exact Int32.le_refl _) (fun z hz => absurd hz (Nat.not_lt_zero z))
/-! the fair rate -/
theorem fi_gen {F : Fs} {n h : Nat} (hn8 : n ≤ 8) : ∀ (k i : Nat) (F' : Fs), SameC F F' → i + k = 10 → (∀ z, z < i → fd F n h 48 (nI z) (F 1 4) < F 1 1) →
    ((fiL n h k i F').1 = -1 ∧ ∀ z, z < 10 → fd F n h 48 (nI z) (F 1 4) < F 1 1) ∨ ∃ q, q < 10 ∧ (fiL n h k i F').1 = nI q ∧ ¬ fd F n h 48 (nI q) (F 1 4) < F 1 1 ∧ ∀ z, z < q → fd F n h 48 (nI z) (F 1 4) < F 1 1 := by
  intro k
  induction k with
  | zero => intro i F' _ hi h1; exact Or.inl ⟨rfl, fun z hz => h1 z (by omega)⟩
  | succ k ih =>
    intro i F' S hi h1
    have ev : fbF F' n h 48 (nI i) (F' 1 4) 2 1 = fd F n h 48 (nI i) (F 1 4) := by rw [fb_fd hn8, fd_sc hn8 S, S.1]
    have e1 : fbF F' n h 48 (nI i) (F' 1 4) 1 1 = F 1 1 := by rw [fbF_ne F' n h 48 _ _ (off1 n)]; exact S.1 1
    have S2 := S.tr (sc_fb F' n h 48 (nI i) (F' 1 4))
    unfold fiL
    rw [ev, e1]
    by_cases hc : fd F n h 48 (nI i) (F 1 4) < F 1 1
    · rw [if_pos hc]
      exact ih (i + 1) _ S2 (by omega) (fun z hz => by
        by_cases e : z = i
        · subst e; exact hc
        · exact h1 z (by omega))
    · rw [if_neg hc]
      exact Or.inr ⟨i, by omega, rfl, hc, h1⟩
theorem fi_spec {F : Fs} {n h : Nat} (hn8 : n ≤ 8) : ((fiF F n h).1 = -1 ∧ ∀ z, z < 10 → fd F n h 48 (nI z) (F 1 4) < F 1 1) ∨ ∃ q, q < 10 ∧ (fiF F n h).1 = nI q ∧ ¬ fd F n h 48 (nI q) (F 1 4) < F 1 1 ∧ ∀ z, z < q → fd F n h 48 (nI z) (F 1 4) < F 1 1 :=
  fi_gen hn8 10 0 F (SameC.rf F) rfl (fun z hz => absurd hz (Nat.not_lt_zero z))
/-- what the law asks of the fair rate -/
theorem fi_law {F : Fs} {n h z : Nat} (I : In F n h) (hh : h ≤ 10000) (hz : z < 10) : F 1 1 ≤ fd F n h 48 (nI z) (F 1 4) ↔ (0 ≤ (fiF F n h).1 ∧ (fiF F n h).1 ≤ nI z) := by
  rcases fi_spec (F := F) (h := h) I.n8 with ⟨e, h1⟩ | ⟨q, hq, e, h1, h2⟩
  · rw [e]
    exact ⟨fun z9 => absurd (h1 z hz) (Int32.not_lt.mpr z9), fun z9 => absurd z9.1 (by decide)⟩
  · rw [e]
    constructor
    · intro z9
      refine ⟨nI_pos' (by omega), nI_le ?_ (by omega)⟩
      rcases Nat.lt_or_ge z q with hl | hl
      · exact absurd (h2 z hl) (Int32.not_lt.mpr z9)
      · exact hl
    · rintro ⟨-, z9⟩
      have hqz : q ≤ z := (nI_leI (by omega) (by omega)).mp z9
      exact Int32.le_trans (Int32.not_lt.mp h1) (fd_mono I hh hqz (by omega))
/-! the digest sees the book of now alone -/
theorem be_sc {F F' : Fs} {n h : Nat} (hn8 : n ≤ 8) (S : SameC F F') : (beF F' n h).1 = (beF F n h).1 := by
  obtain ⟨q, hq, e, h1, h2⟩ := be_spec (F := F) (h := h) hn8
  obtain ⟨q', hq', e', h1', h2'⟩ := be_spec (F := F') (h := h) hn8
  rw [e, e']
  have ev : ∀ z, fd F' n h 48 (F' 1 2) (nI (20 * z)) = fd F n h 48 (F 1 2) (nI (20 * z)) := fun z => by rw [fd_sc hn8 S, S.1]
  rcases Nat.lt_trichotomy q q' with l | l | l
  · have a := h2' q l
    rw [ev, ev] at a
    exact absurd (h1 q' hq') (Int32.not_le.mpr a)
  · rw [l]
  · have a := h1' q hq
    rw [ev, ev] at a
    exact absurd a (Int32.not_le.mpr (h2 q' l))
theorem fi_sc {F F' : Fs} {n h : Nat} (hn8 : n ≤ 8) (S : SameC F F') : (fiF F' n h).1 = (fiF F n h).1 := by
  have ev : ∀ z, fd F' n h 48 (nI z) (F' 1 4) = fd F n h 48 (nI z) (F 1 4) := fun z => by rw [fd_sc hn8 S, S.1]
  rcases fi_spec (F := F) (h := h) hn8 with ⟨e, h1⟩ | ⟨q, hq, e, h1, h2⟩ <;> rcases fi_spec (F := F') (h := h) hn8 with ⟨e', h1'⟩ | ⟨q', hq', e', h1', h2'⟩ <;> rw [e, e']
  · rw [ev, S.1] at h1'
    exact absurd (h1 q' hq') h1'
  · have a := h1' q hq
    rw [ev, S.1] at a
    exact absurd a h1
  · rw [ev, S.1] at h1'
    rcases Nat.lt_trichotomy q q' with l | l | l
    · have a := h2' q l
      rw [ev, S.1] at a
      exact absurd a h1
    · rw [l]
    · exact absurd (h2 q' l) h1'
theorem nf_sc {F F' : Fs} {h : Nat} (S : SameC F F') : ∀ (k i : Nat) (nx so : Int32), i + k ≤ 8 → nfL F' h k i nx so = nfL F h k i nx so := by
  intro k
  induction k with
  | zero => intro i nx so _; rfl
  | succ k ih =>
    intro i nx so hi
    have e : fbI F' (wb 1 i) h = fbI F (wb 1 i) h := by unfold fbI; rw [S.2 i (by omega), S.2 i (by omega), S.2 i (by omega)]
    unfold nfL
    rw [e, ih (i + 1) nx so (by omega), ih (i + 1) (nI i) (fbI F (wb 1 i) h) (by omega)]
theorem dL_sc {F F' : Fs} {su no : Int32} (S : SameC F F') : ∀ (k i : Nat) (d : Int64), i + k ≤ 8 → dgL F' su no k i d = dgL F su no k i d := by
  intro k
  induction k with
  | zero => intro i d _; rfl
  | succ k ih =>
    intro i d hi
    have e : cwkI F' (wb 1 i) su no d = cwkI F (wb 1 i) su no d := by
      have w := S.2 i (by omega)
      have ec : clI F' (wb 1 i) su no = clI F (wb 1 i) su no := by unfold clI; rw [w 0, w 2, w 5]
      unfold cwkI cw5 cw3
      rw [ec, w 0, w 2, w 3, w 4, w 5, S.1, S.1]
    show dgL F' su no k (i + 1) (cwkI F' (wb 1 i) su no d) = dgL F su no k (i + 1) (cwkI F (wb 1 i) su no d)
    rw [e]
    exact ih (i + 1) _ (by omega)
theorem sc_dg (F : Fs) (n h : Nat) : SameC F (dgF F n h) := (sc_be F n h).tr (sc_fi _ n h)
theorem dg_sc {F F' : Fs} {n h : Nat} (hn8 : n ≤ 8) (S : SameC F F') : dgI F' n h = dgI F n h := by
  have e9 : dg9 F' n h = dg9 F n h := by
    unfold dg9
    rw [S.1, S.1, S.1, S.1, S.1, S.1, S.1, cm_ag (F := F') (F' := F) (b := 1) (b' := 1) n 0 0 (fun j _ hj => S.2 j (by omega) 5)]
  have S2 : SameC (beF F n h).2 (beF F' n h).2 := ⟨fun q => by rw [(sc_be F' n h).1, S.1, (sc_be F n h).1], fun j hj q => by rw [(sc_be F' n h).2 j hj, S.2 j hj, (sc_be F n h).2 j hj]⟩
  have S3 : SameC (dgF F n h) (dgF F' n h) := ⟨fun q => by rw [(sc_dg F' n h).1, S.1, (sc_dg F n h).1], fun j hj q => by rw [(sc_dg F' n h).2 j hj, S.2 j hj, (sc_dg F n h).2 j hj]⟩
  have eH : dgH F' n h = dgH F n h := by
    unfold dgH
    rw [e9, nf_sc S n 0 (-1) 101 (by omega), be_sc hn8 S, fi_sc hn8 S2]
  unfold dgI
  rw [eH]
  exact dL_sc S3 n 0 _ (by omega)
