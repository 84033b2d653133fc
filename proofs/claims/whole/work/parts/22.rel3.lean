/-! CLASS AND REFERENCE: falls to come, the longest shadow, the mean, the digest -/
theorem ho_2223 (M : Fs) (n h q : Nat) : hoF M n h 22 q = M 22 q ∧ hoF M n h 23 q = M 23 q ∧ hoF M n h 26 q = M 26 q := ⟨hoF_ne M n h (by omega), hoF_ne M n h (by omega), hoF_ne M n h (by omega)⟩
theorem faB_s (ht sk : Int32) (h n i : Nat) (r : Int32) : faB ht sk h (n + 1) i r = if 10 ≤ woI ht sk r (noH (h + i)) then nI (i + 1) else faB ht sk h n (i + 1) (woI ht sk r (noH (h + i))) := by
  by_cases hc : 10 ≤ woI ht sk r (noH (h + i))
  · rw [if_pos hc]
    show (if woI ht sk r (noH (h + i)) < 10 then _ else _) = _
    rw [if_neg (Int32.not_lt.mpr hc)]
  · rw [if_neg hc]
    show (if woI ht sk r (noH (h + i)) < 10 then _ else _) = _
    rw [if_pos (Int32.not_le.mp hc)]
    rfl
theorem faB_y {M : Fs} {h k i j : Nat} (hf : fellM M (h + i) j) : faB (M 22 j) (M 23 j) h (k + 1) i (M 25 (13 + j)) = nI (i + 1) := by
  rw [faB_s]; exact if_pos hf
theorem faB_n {M : Fs} {h k i j : Nat} (hf : ¬ fellM M (h + i) j) : faB (M 22 j) (M 23 j) h (k + 1) i (M 25 (13 + j)) = faB (M 22 j) (M 23 j) h k (i + 1) (woI (M 22 j) (M 23 j) (M 25 (13 + j)) (noH (h + i))) := by
  rw [faB_s]; exact if_neg hf
theorem faB_or (ht sk : Int32) (h : Nat) : ∀ (k i : Nat) (r : Int32), faB ht sk h k i r = -1 ∨ ∃ m, i < m ∧ m ≤ i + k ∧ faB ht sk h k i r = nI m := by
  intro k
  induction k with
  | zero => intro i r; exact Or.inl rfl
  | succ k ih =>
    intro i r
    rw [faB_s]
    split
    · exact Or.inr ⟨i + 1, by omega, by omega, rfl⟩
    · rcases ih (i + 1) (woI ht sk r (noH (h + i))) with e | ⟨m, m1, m2, m3⟩
      · exact Or.inl e
      · exact Or.inr ⟨m, by omega, by omega, m3⟩
theorem hm_told {w n h : Nat} (k i : Nat) (told : Int32) (M : Fs) (ht : ¬ told = -1) : (hmL w n h k i told M).1 = told := by
  cases k with
  | zero => rfl
  | succ k => unfold hmL; rw [if_neg ht]
theorem nm_told {n h : Nat} (k i : Nat) (told : Int32) (M : Fs) (ht : ¬ told = -1) : (nmL n h k i told M).1 = told := by
  cases k with
  | zero => rfl
  | succ k => unfold nmL; rw [if_neg ht]
theorem hm_eq {w n h : Nat} (hn8 : n ≤ 8) (hw : w < n) : ∀ (k i f : Nat) (M : Fs), i + k ≤ 100 → f < 2 ^ 30 → M 25 (21 + w) = nI f → M 26 (21 + w) = nI f → (hmL w n h k i (-1) M).1 = faB (M 22 w) (M 23 w) h k i (M 25 (13 + w)) := by
  intro k
  induction k with
  | zero => intro i f M _ _ _ _; rfl
  | succ k ih =>
    intro i f M hi hf e1 e2
    obtain ⟨y, z⟩ := ho_in (M := M) (h := h + i) hn8 hw
    obtain ⟨o1, o2, o3⟩ := ho_2223 M n (h + i) w
    unfold hmL
    rw [if_pos rfl, (ho_2223 M n (h + i) (21 + w)).2.2, e2]
    by_cases hc : fellM M (h + i) w
    · have e : hoF M n (h + i) 25 (21 + w) = nI (f + 1) := by rw [(y hc).2, e1, nI_1]
      rw [faB_y hc, e, if_neg (nI_ge (by omega) (by omega))]
      exact hm_told _ _ _ _ (nI_m1 (by omega))
    · have e : hoF M n (h + i) 25 (21 + w) = nI f := by rw [(z hc).2, e1]
      rw [faB_n hc, e, if_pos (Int32.le_refl _), ih (i + 1) f _ (by omega) hf e (by rw [(ho_2223 M n (h + i) (21 + w)).2.2]; exact e2), o1, o2, (z hc).1]
theorem rel_hm {w n h f : Nat} {F M : Fs} (hn8 : n ≤ 8) (hw : w < n) (R : RelB 1 F M n h) (hf : f < 2 ^ 30) (e1 : M 25 (21 + w) = nI f) : fbI F (wb 1 w) h = hmR M w n h := by
  obtain ⟨t0, t1, t2, t3, t4, t5⟩ := R.2.2.2.2.2.2.2.2.2 w hw
  have e26 : kpF M 26 (21 + w) = nI f := by rw [kpF_in M (by omega)]; exact e1
  unfold hmR
  rw [hm_eq hn8 hw 100 0 f (kpF M) (by omega) hf (by rw [kpF_ne M (by decide)]; exact e1) e26, kpF_ne M (by decide), kpF_ne M (by decide), kpF_ne M (by decide)]
  unfold fbI
  rw [t0, t1, t3]
-- next to fall
theorem nw_all {F : Fs} : ∀ (m : Nat) (told : Int32), (∀ j, j < m → F 25 (21 + j) ≤ F 26 (21 + j)) → nwL F m told = told := by
  intro m
  induction m with
  | zero => intro told _; rfl
  | succ m ih =>
    intro told hj
    unfold nwL
    rw [if_pos (hj m (by omega))]
    exact ih told (fun j h => hj j (by omega))
theorem nw_at {F : Fs} {j0 : Nat} : ∀ (m : Nat) (told : Int32), j0 < m → ¬ F 25 (21 + j0) ≤ F 26 (21 + j0) → (∀ j, j < j0 → F 25 (21 + j) ≤ F 26 (21 + j)) → nwL F m told = nI j0 := by
  intro m
  induction m with
  | zero => intro told h; omega
  | succ m ih =>
    intro told h1 h2 h3
    unfold nwL
    by_cases hm : j0 = m
    · subst hm
      rw [if_neg h2]
      exact nw_all _ _ h3
    · split
      · exact ih _ (by omega) h2 h3
      · exact ih _ (by omega) h2 h3
theorem nf_none {F : Fs} {h : Nat} : ∀ (k i : Nat) (nx so : Int32), (∀ j, i ≤ j → j < i + k → fbI F (wb 1 j) h ≤ 0 ∨ so ≤ fbI F (wb 1 j) h) → nfL F h k i nx so = nx := by
  intro k
  induction k with
  | zero => intro i nx so _; rfl
  | succ k ih =>
    intro i nx so hj
    have hr := ih (i + 1) nx so (fun j h1 h2 => hj j (by omega) (by omega))
    unfold nfL
    rcases hj i (Nat.le_refl _) (by omega) with hc | hc
    · rw [if_pos hc]; exact hr
    · split
      · exact hr
      · exact hr
theorem nf_at {F : Fs} {h j0 T : Nat} (hT : 0 < T) (hT2 : T < 2 ^ 30) (e0 : fbI F (wb 1 j0) h = nI T) : ∀ (k i : Nat) (nx so : Int32), i ≤ j0 → j0 < i + k → nI T < so → (∀ j, i ≤ j → j < i + k → fbI F (wb 1 j) h ≤ 0 ∨ nI T ≤ fbI F (wb 1 j) h) → (∀ j, i ≤ j → j < j0 → ¬ fbI F (wb 1 j) h = nI T) → nfL F h k i nx so = nI j0 := by
  intro k
  induction k with
  | zero => intro i nx so h1 h2; omega
  | succ k ih =>
    intro i nx so h1 h2 hso hj hn
    unfold nfL
    by_cases hij : j0 = i
    · subst hij
      rw [e0, if_neg (nI_nle hT (by omega)), if_neg (Int32.not_le.mpr hso)]
      exact nf_none _ _ _ _ (fun j h3 h4 => hj j (by omega) (by omega))
    · have rest : ∀ nx so, nI T < so → nfL F h k (i + 1) nx so = nI j0 := fun nx so hs => ih (i + 1) nx so (by omega) (by omega) hs (fun j h3 h4 => hj j (by omega) (by omega)) (fun j h3 h4 => hn j (by omega) h4)
      split
      · exact rest _ _ hso
      · rename_i hp
        split
        · exact rest _ _ hso
        · refine rest _ _ ?_
          rcases hj i (Nat.le_refl _) (by omega) with hc | hc
          · exact absurd hc hp
          · rcases Int32.lt_or_eq_of_le hc with hl | hl
            · exact hl
            · exact absurd hl.symm (hn i (Nat.le_refl _) (by omega))
theorem leastP {P : Nat → Prop} : ∀ (n : Nat), (∃ j, j < n ∧ P j) → ∃ j, j < n ∧ P j ∧ ∀ i, i < j → ¬ P i := by
  intro n
  induction n with
  | zero => rintro ⟨j, h, _⟩; omega
  | succ n ih =>
    rintro ⟨j, h, hp⟩
    by_cases hx : ∃ j, j < n ∧ P j
    · obtain ⟨a, a1, a2, a3⟩ := ih hx
      exact ⟨a, by omega, a2, a3⟩
    · have hjn : j = n := by
        by_cases hh : j = n
        · exact hh
        · exact absurd ⟨j, by omega, hp⟩ hx
      subst hjn
      exact ⟨j, h, hp, fun i hi q => hx ⟨i, hi, q⟩⟩
theorem nm_eq {n h : Nat} {F0 : Fs} (hn8 : n ≤ 8) : ∀ (k i : Nat) (M : Fs), i + k ≤ 100 → (∀ j, j < n → faB (M 22 j) (M 23 j) h k i (M 25 (13 + j)) = fbI F0 (wb 1 j) h) → (∀ j, j < n → ∃ f, f < 2 ^ 30 ∧ M 25 (21 + j) = nI f ∧ M 26 (21 + j) = nI f) → (nmL n h k i (-1) M).1 = nfL F0 h n 0 (-1) 101 := by
  intro k
  induction k with
  | zero =>
    intro i M _ hT _
    refine (nf_none n 0 (-1) 101 (fun j _ h2 => Or.inl ?_)).symm
    rw [← hT j (by omega)]
    show (-1 : Int32) ≤ 0
    decide
  | succ k ih =>
    intro i M hi hT hF
    have hI : ∀ j, j < n → (fellM M (h + i) j → hoF M n (h + i) 25 (13 + j) = 0 ∧ hoF M n (h + i) 25 (21 + j) = M 25 (21 + j) + 1) ∧ (¬ fellM M (h + i) j → hoF M n (h + i) 25 (13 + j) = woI (M 22 j) (M 23 j) (M 25 (13 + j)) (noH (h + i)) ∧ hoF M n (h + i) 25 (21 + j) = M 25 (21 + j)) := fun j hj => ho_in hn8 hj
    unfold nmL
    rw [if_pos rfl]
    by_cases hc : ∀ j, j < n → ¬ fellM M (h + i) j
    · rw [if_pos ((ho_cnt hn8).mpr hc)]
      refine ih (i + 1) _ (by omega) (fun j hj => ?_) (fun j hj => ?_)
      · obtain ⟨o1, o2, o3⟩ := ho_2223 M n (h + i) j
        have e := hT j hj
        rw [faB_n (hc j hj)] at e
        rw [o1, o2, ((hI j hj).2 (hc j hj)).1]
        exact e
      · obtain ⟨f, f1, f2, f3⟩ := hF j hj
        exact ⟨f, f1, by rw [((hI j hj).2 (hc j hj)).2]; exact f2, by rw [(ho_2223 M n (h + i) _).2.2]; exact f3⟩
    · rw [if_neg (fun q => hc ((ho_cnt hn8).mp q))]
      obtain ⟨j0, j1, j2, j3⟩ := leastP (P := fellM M (h + i)) n (by
        by_cases hx : ∃ j, j < n ∧ fellM M (h + i) j
        · exact hx
        · exact absurd (fun j hj q => hx ⟨j, hj, q⟩) hc)
      have eN : nwL (hoF M n (h + i)) n (-1) = nI j0 := by
        refine nw_at n _ j1 ?_ (fun j hj => ?_)
        · obtain ⟨f, f1, f2, f3⟩ := hF j0 j1
          rw [((hI j0 j1).1 j2).2, (ho_2223 M n (h + i) _).2.2, f2, f3, nI_1]
          exact nI_ge (by omega) (by omega)
        · obtain ⟨f, f1, f2, f3⟩ := hF j (by omega)
          rw [((hI j (by omega)).2 (j3 j hj)).2, (ho_2223 M n (h + i) _).2.2, f2, f3]
          exact Int32.le_refl _
      rw [eN, nm_told _ _ _ _ (nI_m1 (by omega))]
      have e0 : fbI F0 (wb 1 j0) h = nI (i + 1) := by rw [← hT j0 j1, faB_y j2]
      refine (nf_at (T := i + 1) (by omega) (by omega) e0 n 0 (-1) 101 (by omega) (by omega) ?_ (fun j _ h2 => ?_) (fun j _ h2 => ?_)).symm
      · exact nI_lt (b := 101) (by omega) (by decide)
      · rw [← hT j (by omega)]
        rcases faB_or (M 22 j) (M 23 j) h (k + 1) i (M 25 (13 + j)) with e | ⟨m, m1, m2, m3⟩
        · rw [e]; exact Or.inl (by decide)
        · rw [m3]; exact Or.inr (nI_le (by omega) (by omega))
      · rw [← hT j (by omega), faB_n (j3 j h2)]
        rcases faB_or (M 22 j) (M 23 j) h k (i + 1) (woI (M 22 j) (M 23 j) (M 25 (13 + j)) (noH (h + i))) with e | ⟨m, m1, m2, m3⟩
        · rw [e]; exact fun q => nI_m1 (by omega) q.symm
        · rw [m3]; exact fun q => by rw [nI_eq (by omega) (by omega)] at q; omega
theorem rel_nm {n h : Nat} {F M : Fs} (hn8 : n ≤ 8) (R : RelB 1 F M n h) (hf : ∀ j, j < n → ∃ f, f < 2 ^ 30 ∧ M 25 (21 + j) = nI f) : nfL F h n 0 (-1) 101 = nmR M n h := by
  refine (nm_eq hn8 100 0 (kpF M) (by omega) (fun j hj => ?_) (fun j hj => ?_)).symm
  · obtain ⟨t0, t1, t2, t3, t4, t5⟩ := R.2.2.2.2.2.2.2.2.2 j hj
    rw [kpF_ne M (by decide), kpF_ne M (by decide), kpF_ne M (by decide)]
    unfold fbI
    rw [t0, t1, t3]
  · obtain ⟨f, f1, f2⟩ := hf j hj
    exact ⟨f, f1, by rw [kpF_ne M (by decide)]; exact f2, by rw [kpF_in M (by omega)]; exact f2⟩
-- shadows
theorem sh_in : ∀ a, a < 31 → ∀ d, d < 12 → ∃ q, q ≤ 180 ∧ shI (nI a) (sunAtI (nI d)) = nI q := by
  have key : ∀ a, a < 31 → ∀ d, d < 12 → (shI (nI a) (sunAtI (nI d))).toNatClampNeg ≤ 180 ∧ shI (nI a) (sunAtI (nI d)) = nI (shI (nI a) (sunAtI (nI d))).toNatClampNeg := by decide +kernel
  exact fun a ha d hd => ⟨_, (key a ha d hd).1, (key a ha d hd).2⟩
theorem sh_su {a : Nat} (ha : a ≤ 30) (h : Nat) : ∃ q, q ≤ 180 ∧ shI (nI a) (suH h) = nI q := sh_in a (by omega) _ (Nat.mod_lt _ (by decide))
theorem rel_ms {F M : Fs} {sun : Int32} : ∀ (k i : Nat) (acc : Int32), (∀ j, i ≤ j → j < i + k → F (wb 1 j) 0 = M 22 j) → msL F sun k i acc = tmL M sun k i acc := by
  intro k
  induction k with
  | zero => intro i acc _; rfl
  | succ k ih =>
    intro i acc hj
    show msL F sun k (i + 1) _ = tmL M sun k (i + 1) _
    rw [hj i (Nat.le_refl _) (by omega)]
    exact ih (i + 1) _ (fun j h1 h2 => hj j (by omega) (by omega))
theorem tm_nat {M : Fs} {h : Nat} : ∀ (k i c : Nat), (∀ j, i ≤ j → j < i + k → ∃ a, a ≤ 30 ∧ M 22 j = nI a) → ∃ q, q ≤ c + 180 * k ∧ tmL M (suH h) k i (nI c) = nI q := by
  intro k
  induction k with
  | zero => intro i c _; exact ⟨c, by omega, rfl⟩
  | succ k ih =>
    intro i c hj
    obtain ⟨a, a1, a2⟩ := hj i (Nat.le_refl _) (by omega)
    obtain ⟨q, q1, q2⟩ := sh_su a1 h
    obtain ⟨r, r1, r2⟩ := ih (i + 1) (c + q) (fun j h1 h2 => hj j (by omega) (by omega))
    refine ⟨r, by omega, ?_⟩
    show tmL M (suH h) k (i + 1) (nI c + shI (M 22 i) (suH h)) = nI r
    rw [a2, q2, nI_add]
    exact r2
theorem rel_lm {F M : Fs} {sun : Int32} {n : Nat} (hn8 : n ≤ 8) (hj : ∀ j, j < n → F (wb 1 j) 0 = M 22 j) : ∀ (k i b : Nat), i + k = n → 0 < i → b < i → loL F sun k i (nI b) (shI (F (wb 1 b) 0) sun) = lmL M sun k i b := by
  intro k
  induction k with
  | zero => intro i b h1 h2 h3; show nI b = bst i b; unfold bst; rw [if_neg (by omega)]
  | succ k ih =>
    intro i b h1 h2 h3
    have eb : bst i b = nI b := by unfold bst; rw [if_neg (by omega)]
    unfold loL lmL
    rw [eb, if_neg (nI_m1 (by omega)), hj i (by omega), hj b (by omega)]
    split
    · have := ih (i + 1) b (by omega) (by omega) (by omega)
      rw [hj b (by omega)] at this
      exact this
    · have := ih (i + 1) i (by omega) (by omega) (by omega)
      rw [hj i (by omega)] at this
      exact this
theorem rel_lo {F M : Fs} {n h : Nat} (hn8 : n ≤ 8) (hj : ∀ j, j < n → F (wb 1 j) 0 = M 22 j) (hh : ∀ j, j < n → ∃ a, a ≤ 30 ∧ M 22 j = nI a) : loL F (suH h) n 0 (-1) (-1) = lmL M (suH h) n 0 0 := by
  cases n with
  | zero => rfl
  | succ n =>
    obtain ⟨a, a1, a2⟩ := hh 0 (by omega)
    obtain ⟨q, q1, q2⟩ := sh_su a1 h
    have e : ¬ shI (F (wb 1 0) 0) (suH h) ≤ -1 := by
      rw [hj 0 (by omega), a2, q2]
      exact Int32.not_le.mpr (nI_fut (by omega))
    unfold loL lmL
    rw [if_neg e, if_pos (show bst 0 0 = -1 from rfl)]
    exact rel_lm hn8 hj n 1 0 (by omega) (by omega) (by omega)
theorem rel_hu (h : Nat) : huN h = huM h := by
  have key : ∀ d, d < 12 → (if noonAtI (nI d) = 0 then fmI (5 - nI d) else 0) = (if 5 ≤ nI d then (if 7 ≤ nI d then 17 - nI d else 0) else 5 - nI d) := by decide +kernel
  exact key _ (Nat.mod_lt _ (by decide))
-- parts of a claim
theorem rel_co {k j h : Nat} {F M : Fs} (R : RelW k j F M) : coI (F k 0) (F k 2) (suH h) = coM M j h := by
  obtain ⟨r0, r1, r2, r3, r4, r5⟩ := R
  unfold coM; rw [r0, r2]
theorem rel_ow {k j h : Nat} {F M : Fs} (R : RelW k j F M) : owI (F k 5) (coI (F k 0) (F k 2) (suH h)) (noH h) = owM M j h := by
  rw [rel_co R]
  unfold owM
  rw [R.2.2.2.2.2, noM_eq]
theorem rel_re {j h n : Nat} {F M : Fs} (R : RelB 1 F M n h) (hj : j < n) : reI (clI F (wb 1 j) (suH h) (noH h)) (F 1 3) (F 1 4) = reM M j h := reM_rel (R.2.2.2.2.2.2.2.2.2 j hj) R.2.2.2.2.2.2.1 R.2.2.2.2.2.2.2.1
theorem rel_po {j h n : Nat} {F M : Fs} (R : RelB 1 F M n h) (hj : j < n) : clI F (wb 1 j) (suH h) (noH h) - reI (clI F (wb 1 j) (suH h) (noH h)) (F 1 3) (F 1 4) = poM M j h := by
  rw [rel_re R hj, clI_rel (R.2.2.2.2.2.2.2.2.2 j hj)]
  rfl
-- the digest
theorem rel_dw {j h n : Nat} {F M : Fs} (R : RelB 1 F M n h) (hj : j < n) (d : Int64) : cwkI F (wb 1 j) (suH h) (noH h) d = dxL (dmw M j h) 8 0 d := by
  have W := R.2.2.2.2.2.2.2.2.2 j hj
  have e1 := rel_po R hj
  have e2 := rel_re R hj
  have e3 := rel_co (h := h) W
  obtain ⟨r0, r1, r2, r3, r4, r5⟩ := W
  unfold cwkI cw5 cw3
  rw [e1, e2, e3, r0, r2, r3, r4, r5]
  have e4 : (if M 24 j = 0 then (0 : Int64) else 1) = (if M 24 j = 0 then (0 : Int32) else 1).toInt64 := by split <;> rfl
  rfl
theorem rel_dL {h n : Nat} {F M : Fs} (R : RelB 1 F M n h) : ∀ (k i : Nat) (d : Int64), i + k ≤ n → dgL F (suH h) (noH h) k i d = dmL M h k i d := by
  intro k
  induction k with
  | zero => intro i d _; rfl
  | succ k ih =>
    intro i d hi
    show dgL F (suH h) (noH h) k (i + 1) _ = dmL M h k (i + 1) _
    rw [rel_dw R (by omega)]
    exact ih (i + 1) _ (by omega)
