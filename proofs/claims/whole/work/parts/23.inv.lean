/-! WHAT HOLDS AT THE LOOP'S HEAD, and what each call keeps -/
def InvL (F : Fs) (n h : Nat) : Prop := n ≤ 8 ∧ RelB 1 F F n h ∧ (∀ j, j < 8 → F (wb 1 j) 5 = 0 ∨ F (wb 1 j) 5 = 1) ∧ (∀ j, j < n → ∃ a, a ≤ 30 ∧ F 22 j = nI a) ∧ (∀ j, n ≤ j → j < 8 → F 25 (13 + j) = 0 ∧ F 25 (21 + j) = 0) ∧ ∀ j, j < n → ∃ f, f ≤ h ∧ F 25 (21 + j) = nI f
theorem InvL.same {F F' : Fs} {n h : Nat} (I : InvL F n h) (hC : SameC F F') (hM : SameM F F') : InvL F' n h := by
  obtain ⟨i1, i2, i3, i4, i5, i6⟩ := I
  refine ⟨i1, (i2.sc i1 hC).sm i1 hM, fun j hj => by rw [hC.2 j hj]; exact i3 j hj, fun j hj => by rw [hM.2.1]; exact i4 j hj, fun j h1 h2 => by rw [hM.2.2.2.2 _ (by omega), hM.2.2.2.2 _ (by omega)]; exact i5 j h1 h2, fun j hj => by rw [hM.2.2.2.2 _ (by omega)]; exact i6 j hj⟩
theorem InvL.okP {F : Fs} {n h : Nat} (I : InvL F n h) : okP F n h := ⟨I.2.1.2.2.1, I.2.1.1, I.2.2.1⟩
theorem InvL.okM {F : Fs} {n h : Nat} (I : InvL F n h) : okM F n h := ⟨I.2.1.2.2.2.1, I.2.1.2.1⟩
theorem InvL.w {F : Fs} {n h : Nat} (I : InvL F n h) {j : Nat} (hj : j < n) : RelW (wb 1 j) j F F := I.2.1.2.2.2.2.2.2.2.2.2 j hj
theorem InvL.m24 {F : Fs} {n h : Nat} (I : InvL F n h) {j : Nat} (hj : j < n) : F 24 j = 0 ∨ F 24 j = 1 := by
  rw [← (I.w hj).2.2.2.2.2]
  exact I.2.2.1 j (Nat.lt_of_lt_of_le hj I.1)
theorem InvL.up {F : Fs} {n h : Nat} (I : InvL F n h) : n ≤ 8 := I.1
-- a change at one walker
theorem inv_w {F F2 : Fs} {n h j : Nat} (I : InvL F n h) (hj : j < n) (hlow : ∀ a q, a < 21 → a ≠ wb 1 j → F2 a q = F a q) (h21 : ∀ q, 1 ≤ q → F2 21 q = F 21 q) (h22 : ∀ q, F2 22 q = F 22 q) (h23 : ∀ q, F2 23 q = F 23 q) (h24 : ∀ q, q ≠ j → F2 24 q = F 24 q) (h25 : ∀ q, q ≠ 5 + j → q ≠ 13 + j → F2 25 q = F 25 q) (hw : RelW (wb 1 j) j F2 F2) (hm : F2 (wb 1 j) 5 = 0 ∨ F2 (wb 1 j) 5 = 1) : InvL F2 n h := by
  obtain ⟨i1, i2, i3, i4, i5, i6⟩ := I
  obtain ⟨a0, m0, a6, m1, a1, a2, a3, a4, a5, aw⟩ := i2
  have hb : ∀ q, F2 1 q = F 1 q := fun q => hlow 1 q (by omega) (by unfold wb; omega)
  have ho : ∀ i q, i < 8 → i ≠ j → F2 (wb 1 i) q = F (wb 1 i) q := fun i q h8 hij => hlow _ q (by unfold wb; omega) (fun e => hij (wb_inj e))
  refine ⟨i1, ⟨by rw [hb]; exact a0, by rw [h25 _ (by omega) (by omega)]; exact m0, by rw [hb]; exact a6, by rw [h21 _ (by omega)]; exact m1, by rw [hb, h25 _ (by omega) (by omega)]; exact a1, by rw [hb, h25 _ (by omega) (by omega)]; exact a2, by rw [hb, h21 _ (by omega)]; exact a3, by rw [hb, h25 _ (by omega) (by omega)]; exact a4, by rw [hb, h25 _ (by omega) (by omega)]; exact a5, fun i hi => ?_⟩, fun i hi => ?_, fun i hi => by rw [h22]; exact i4 i hi, fun i h1 h2 => by rw [h25 _ (by omega) (by omega), h25 _ (by omega) (by omega)]; exact i5 i h1 h2, fun i hi => by rw [h25 _ (by omega) (by omega)]; exact i6 i hi⟩
  · by_cases hij : i = j
    · subst hij; exact hw
    · obtain ⟨t0, t1, t2, t3, t4, t5⟩ := aw i hi
      have e := fun q => ho i q (by omega) hij
      refine ⟨by rw [e, h22]; exact t0, by rw [e, h23]; exact t1, by rw [e, h25 _ (by omega) (by omega)]; exact t2, by rw [e, h25 _ (by omega) (by omega)]; exact t3, by rw [e, h25 _ (by omega) (by omega)]; exact t4, by rw [e, h24 _ hij]; exact t5⟩
  · by_cases hij : i = j
    · subst hij; exact hm
    · rw [ho i 5 hi hij]; exact i3 i hi
theorem wb21 {j : Nat} (hj : j < 8) : wb 1 j < 21 := by unfold wb; omega
theorem inv_turn {F : Fs} {n h j : Nat} (I : InvL F n h) (hj : j < n) : InvL (up2 (th0 (up2 F (wb 1 j) 5 (if F (wb 1 j) 5 = 0 then 1 else 0)) 0) 24 j (if up2 F (wb 1 j) 5 (if F (wb 1 j) 5 = 0 then 1 else 0) 24 j = 0 then 1 else 0)) n h := by
  have h8 : wb 1 j < 21 := wb21 (Nat.lt_of_lt_of_le hj I.1)
  obtain ⟨t0, t1, t2, t3, t4, t5⟩ := I.w hj
  have e24 : up2 F (wb 1 j) 5 (if F (wb 1 j) 5 = 0 then 1 else 0) 24 j = F 24 j := up2_ne _ _ (by omega)
  rw [e24]
  have el : ∀ a q, a < 21 → ¬ (a = wb 1 j ∧ q = 5) → up2 (th0 (up2 F (wb 1 j) 5 (if F (wb 1 j) 5 = 0 then 1 else 0)) 0) 24 j (if F 24 j = 0 then 1 else 0) a q = F a q := fun a q ha hq => by
    rw [up2_ne _ _ (by omega), th0, up2_ne _ _ (by omega), up2_ne _ _ hq]
  have eh : ∀ a q, 21 < a ∨ (a = 21 ∧ 1 ≤ q) → ¬ (a = 24 ∧ q = j) → up2 (th0 (up2 F (wb 1 j) 5 (if F (wb 1 j) 5 = 0 then 1 else 0)) 0) 24 j (if F 24 j = 0 then 1 else 0) a q = F a q := fun a q ha hq => by
    rw [up2_ne _ _ hq, th0, up2_ne _ _ (by omega), up2_ne _ _ (by omega)]
  have e5 : up2 (th0 (up2 F (wb 1 j) 5 (if F (wb 1 j) 5 = 0 then 1 else 0)) 0) 24 j (if F 24 j = 0 then 1 else 0) (wb 1 j) 5 = (if F 24 j = 0 then 1 else 0) := by
    rw [up2_ne _ _ (by omega), th0, up2_ne _ _ (by omega), up2_s, t5]
  refine inv_w I hj (fun a q h1 h2 => el a q h1 (fun z => h2 z.1)) (fun q hq => eh 21 q (Or.inr ⟨rfl, hq⟩) (by omega)) (fun q => eh 22 q (Or.inl (by omega)) (by omega)) (fun q => eh 23 q (Or.inl (by omega)) (by omega)) (fun q hq => eh 24 q (Or.inl (by omega)) (fun z => hq z.2)) (fun q h1 h2 => eh 25 q (Or.inl (by omega)) (by omega)) ?_ ?_
  · refine ⟨by rw [el _ _ h8 (by omega), eh _ _ (by omega) (by omega)]; exact t0, by rw [el _ _ h8 (by omega), eh _ _ (by omega) (by omega)]; exact t1, by rw [el _ _ h8 (by omega), eh _ _ (by omega) (by omega)]; exact t2, by rw [el _ _ h8 (by omega), eh _ _ (by omega) (by omega)]; exact t3, by rw [el _ _ h8 (by omega), eh _ _ (by omega) (by omega)]; exact t4, ?_⟩
    rw [e5, up2_s]
  · rw [e5]
    split
    · exact Or.inr rfl
    · exact Or.inl rfl
theorem inv_set {F : Fs} {n h j c : Nat} {y : Int32} (I : InvL F n h) (hj : j < n) (c2 : Nat) (hc : c = 2 ∧ c2 = 5 ∨ c = 3 ∧ c2 = 13) : InvL (up2 (th0 (up2 F (wb 1 j) c y) 0) 25 (c2 + j) y) n h := by
  have h8 : wb 1 j < 21 := wb21 (Nat.lt_of_lt_of_le hj I.1)
  have hj8 : j < 8 := Nat.lt_of_lt_of_le hj I.1
  obtain ⟨t0, t1, t2, t3, t4, t5⟩ := I.w hj
  have el : ∀ a q, a < 21 → ¬ (a = wb 1 j ∧ q = c) → up2 (th0 (up2 F (wb 1 j) c y) 0) 25 (c2 + j) y a q = F a q := fun a q ha hq => by
    rw [up2_ne _ _ (by omega), th0, up2_ne _ _ (by omega), up2_ne _ _ hq]
  have eh : ∀ a q, 21 < a ∨ (a = 21 ∧ 1 ≤ q) → ¬ (a = 25 ∧ q = c2 + j) → up2 (th0 (up2 F (wb 1 j) c y) 0) 25 (c2 + j) y a q = F a q := fun a q ha hq => by
    rw [up2_ne _ _ hq, th0, up2_ne _ _ (by omega), up2_ne _ _ (by omega)]
  have es : up2 (th0 (up2 F (wb 1 j) c y) 0) 25 (c2 + j) y (wb 1 j) c = y := by rw [up2_ne _ _ (by omega), th0, up2_ne _ _ (by omega), up2_s]
  have et : up2 (th0 (up2 F (wb 1 j) c y) 0) 25 (c2 + j) y 25 (c2 + j) = y := up2_s _ _ _ _
  refine inv_w I hj (fun a q h1 h2 => el a q h1 (fun z => h2 z.1)) (fun q hq => eh 21 q (Or.inr ⟨rfl, hq⟩) (by omega)) (fun q => eh 22 q (Or.inl (by omega)) (by omega)) (fun q => eh 23 q (Or.inl (by omega)) (by omega)) (fun q hq => eh 24 q (Or.inl (by omega)) (by omega)) (fun q h1 h2 => eh 25 q (Or.inl (by omega)) (by omega)) ?_ ?_
  · rcases hc with ⟨rfl, rfl⟩ | ⟨rfl, rfl⟩
    · refine ⟨by rw [el _ _ h8 (by omega), eh _ _ (by omega) (by omega)]; exact t0, by rw [el _ _ h8 (by omega), eh _ _ (by omega) (by omega)]; exact t1, by rw [es, et], by rw [el _ _ h8 (by omega), eh _ _ (by omega) (by omega)]; exact t3, by rw [el _ _ h8 (by omega), eh _ _ (by omega) (by omega)]; exact t4, by rw [el _ _ h8 (by omega), eh _ _ (by omega) (by omega)]; exact t5⟩
    · refine ⟨by rw [el _ _ h8 (by omega), eh _ _ (by omega) (by omega)]; exact t0, by rw [el _ _ h8 (by omega), eh _ _ (by omega) (by omega)]; exact t1, by rw [el _ _ h8 (by omega), eh _ _ (by omega) (by omega)]; exact t2, by rw [es, et], by rw [el _ _ h8 (by omega), eh _ _ (by omega) (by omega)]; exact t4, by rw [el _ _ h8 (by omega), eh _ _ (by omega) (by omega)]; exact t5⟩
  · rw [el _ _ h8 (by omega)]
    exact I.2.2.1 j hj8
-- the pool's own numbers
theorem inv_b {F F2 : Fs} {n h h2 : Nat} (I : InvL F n h) (R : F2 1 0 = nI h2 ∧ F2 25 0 = nI h2 ∧ F2 1 6 = F 1 6 ∧ F2 21 1 = F 21 1 ∧ F2 1 1 = F2 25 1 ∧ F2 1 2 = F2 25 2 ∧ F2 1 3 = F2 21 2 ∧ F2 1 4 = F2 25 3 ∧ F2 1 5 = F2 25 4) (hw : ∀ j, j < 8 → ∀ q, F2 (wb 1 j) q = F (wb 1 j) q) (h22 : ∀ q, F2 22 q = F 22 q) (h23 : ∀ q, F2 23 q = F 23 q) (h24 : ∀ q, F2 24 q = F 24 q) (h25 : ∀ q, 5 ≤ q → F2 25 q = F 25 q) (hh : h ≤ h2) : InvL F2 n h2 := by
  obtain ⟨i1, i2, i3, i4, i5, i6⟩ := I
  obtain ⟨a0, m0, a6, m1, a1, a2, a3, a4, a5, aw⟩ := i2
  obtain ⟨r1, r2, r3, r4, r5, r6, r7, r8, r9⟩ := R
  refine ⟨i1, ⟨r1, r2, r3.trans a6, r4.trans m1, r5, r6, r7, r8, r9, fun i hi => ?_⟩, fun i hi => by rw [hw i hi]; exact i3 i hi, fun i hi => by rw [h22]; exact i4 i hi, fun i h1 h2 => by rw [h25 _ (by omega), h25 _ (by omega)]; exact i5 i h1 h2, fun i hi => ?_⟩
  · obtain ⟨t0, t1, t2, t3, t4, t5⟩ := aw i hi
    have e := hw i (by omega)
    exact ⟨by rw [e, h22]; exact t0, by rw [e, h23]; exact t1, by rw [e, h25 _ (by omega)]; exact t2, by rw [e, h25 _ (by omega)]; exact t3, by rw [e, h25 _ (by omega)]; exact t4, by rw [e, h24]; exact t5⟩
  · obtain ⟨f, f1, f2⟩ := i6 i hi
    exact ⟨f, by omega, by rw [h25 _ (by omega)]; exact f2⟩
theorem inv_rate {F : Fs} {n h : Nat} {x : Int32} (I : InvL F n h) : InvL (up2 (th0 (up2 F 1 2 x) 0) 25 2 x) n h := by
  obtain ⟨a0, m0, a6, m1, a1, a2, a3, a4, a5, aw⟩ := I.2.1
  have e : ∀ a q, ¬ (a = 1 ∧ q = 2) → ¬ (a = 21 ∧ q = 0) → ¬ (a = 25 ∧ q = 2) → up2 (th0 (up2 F 1 2 x) 0) 25 2 x a q = F a q := fun a q h1 h2 h3 => by rw [up2_ne _ _ h3, th0, up2_ne _ _ h2, up2_ne _ _ h1]
  have e1 : up2 (th0 (up2 F 1 2 x) 0) 25 2 x 1 2 = x := by rw [up2_ne _ _ (by omega), th0, up2_ne _ _ (by omega), up2_s]
  refine inv_b I ⟨by rw [e _ _ (by omega) (by omega) (by omega)]; exact a0, by rw [e _ _ (by omega) (by omega) (by omega)]; exact m0, e _ _ (by omega) (by omega) (by omega), e _ _ (by omega) (by omega) (by omega), ?_, by rw [e1, up2_s], ?_, ?_, ?_⟩ (fun j hj q => e _ _ (by unfold wb; omega) (by unfold wb; omega) (by unfold wb; omega)) (fun q => e _ _ (by omega) (by omega) (by omega)) (fun q => e _ _ (by omega) (by omega) (by omega)) (fun q => e _ _ (by omega) (by omega) (by omega)) (fun q hq => e _ _ (by omega) (by omega) (by omega)) (Nat.le_refl _)
  all_goals rw [e _ _ (by omega) (by omega) (by omega), e _ _ (by omega) (by omega) (by omega)]; assumption
theorem inv_reins {F : Fs} {n h : Nat} {x y : Int32} (I : InvL F n h) : InvL (up2 (up2 (th0 (up2 (up2 F 1 3 x) 1 4 y) 0) 21 2 x) 25 3 y) n h := by
  obtain ⟨a0, m0, a6, m1, a1, a2, a3, a4, a5, aw⟩ := I.2.1
  have e : ∀ a q, ¬ (a = 1 ∧ (q = 3 ∨ q = 4)) → ¬ (a = 21 ∧ (q = 0 ∨ q = 2)) → ¬ (a = 25 ∧ q = 3) → up2 (up2 (th0 (up2 (up2 F 1 3 x) 1 4 y) 0) 21 2 x) 25 3 y a q = F a q := fun a q h1 h2 h3 => by rw [up2_ne _ _ h3, up2_ne _ _ (by omega), th0, up2_ne _ _ (by omega), up2_ne _ _ (by omega), up2_ne _ _ (by omega)]
  have e1 : up2 (up2 (th0 (up2 (up2 F 1 3 x) 1 4 y) 0) 21 2 x) 25 3 y 1 3 = x := by rw [up2_ne _ _ (by omega), up2_ne _ _ (by omega), th0, up2_ne _ _ (by omega), up2_ne _ _ (by omega), up2_s]
  have e2 : up2 (up2 (th0 (up2 (up2 F 1 3 x) 1 4 y) 0) 21 2 x) 25 3 y 1 4 = y := by rw [up2_ne _ _ (by omega), up2_ne _ _ (by omega), th0, up2_ne _ _ (by omega), up2_s]
  have e3 : up2 (up2 (th0 (up2 (up2 F 1 3 x) 1 4 y) 0) 21 2 x) 25 3 y 21 2 = x := by rw [up2_ne _ _ (by omega), up2_s]
  refine inv_b I ⟨by rw [e _ _ (by omega) (by omega) (by omega)]; exact a0, by rw [e _ _ (by omega) (by omega) (by omega)]; exact m0, e _ _ (by omega) (by omega) (by omega), e _ _ (by omega) (by omega) (by omega), ?_, ?_, by rw [e1, e3], by rw [e2, up2_s], ?_⟩ (fun j hj q => e _ _ (by unfold wb; omega) (by unfold wb; omega) (by unfold wb; omega)) (fun q => e _ _ (by omega) (by omega) (by omega)) (fun q => e _ _ (by omega) (by omega) (by omega)) (fun q => e _ _ (by omega) (by omega) (by omega)) (fun q hq => e _ _ (by omega) (by omega) (by omega)) (Nat.le_refl _)
  all_goals rw [e _ _ (by omega) (by omega) (by omega), e _ _ (by omega) (by omega) (by omega)]; assumption
-- a new walker
theorem entF_at (F : Fs) (n : Nat) (hi sk nt : Int32) (hn : n < 8) : entF F 1 n hi sk nt (wb 1 n) 0 = hi ∧ entF F 1 n hi sk nt (wb 1 n) 1 = sk ∧ entF F 1 n hi sk nt (wb 1 n) 2 = nt ∧ entF F 1 n hi sk nt (wb 1 n) 3 = 0 ∧ entF F 1 n hi sk nt (wb 1 n) 4 = 0 ∧ entF F 1 n hi sk nt (wb 1 n) 5 = 1 ∧ entF F 1 n hi sk nt 1 6 = F 1 6 + 1 := by
  have h1 : wb 1 n ≠ 1 := by unfold wb; omega
  have h2 : 1 ≠ wb 1 n := Ne.symm h1
  refine ⟨?_, ?_, ?_, ?_, ?_, ?_, ?_⟩ <;> simp [entF, begF, up2, h1, h2]
theorem entF_ne (F : Fs) (n : Nat) (hi sk nt : Int32) {a q : Nat} (h1 : a ≠ wb 1 n) (h2 : ¬ (a = 1 ∧ q = 6)) : entF F 1 n hi sk nt a q = F a q := by
  unfold entF
  rw [up2_ne _ _ h2]
  simp [begF, up2, h1]
theorem amA_ne (F : Fs) (n : Nat) (hi sk nt : Int32) {a q : Nat} (h : ¬ (a = 21 ∧ (q = 0 ∨ q = 1)) ∧ ¬ (a = 22 ∧ q = n) ∧ ¬ (a = 23 ∧ q = n) ∧ ¬ (a = 24 ∧ q = n) ∧ ¬ (a = 25 ∧ q = 5 + n)) : amA F n hi sk nt a q = F a q := by
  unfold amA th0
  rw [up2_ne _ _ (by omega), up2_ne _ _ (by omega), up2_ne _ _ (by omega), up2_ne _ _ (by omega), up2_ne _ _ (by omega), up2_ne _ _ (by omega)]
theorem amA_at (F : Fs) (n : Nat) (hi sk nt : Int32) : amA F n hi sk nt 22 n = hi ∧ amA F n hi sk nt 23 n = sk ∧ amA F n hi sk nt 24 n = 1 ∧ amA F n hi sk nt 25 (5 + n) = nt ∧ amA F n hi sk nt 21 1 = nI (n + 1) := by
  refine ⟨?_, ?_, ?_, ?_, ?_⟩ <;> simp [amA, up2]
theorem inv_add {F : Fs} {n h a : Nat} {hi sk nt : Int32} (I : InvL F n h) (hn : n < 8) (ha : a ≤ 30) (hhi : hi = nI a) : InvL (amA (entF F 1 n hi sk nt) n hi sk nt) (n + 1) h := by
  obtain ⟨i1, i2, i3, i4, i5, i6⟩ := I
  obtain ⟨a0, m0, a6, m1, a1, a2, a3, a4, a5, aw⟩ := i2
  obtain ⟨x0, x1, x2, x3, x4, x5, x6⟩ := entF_at F n hi sk nt hn
  obtain ⟨y0, y1, y2, y3, y4⟩ := amA_at (entF F 1 n hi sk nt) n hi sk nt
  have hw21 : wb 1 n < 21 := wb21 hn
  have el : ∀ a q, a < 21 → amA (entF F 1 n hi sk nt) n hi sk nt a q = entF F 1 n hi sk nt a q := fun a q h1 => amA_ne _ _ _ _ _ (by omega)
  have eh : ∀ a q, 21 ≤ a → ¬ (a = 21 ∧ (q = 0 ∨ q = 1)) ∧ ¬ (a = 22 ∧ q = n) ∧ ¬ (a = 23 ∧ q = n) ∧ ¬ (a = 24 ∧ q = n) ∧ ¬ (a = 25 ∧ q = 5 + n) → amA (entF F 1 n hi sk nt) n hi sk nt a q = F a q := fun a q h1 h2 => by rw [amA_ne _ _ _ _ _ h2, entF_ne _ _ _ _ _ (by omega) (by omega)]
  have eb : ∀ q, q ≠ 6 → amA (entF F 1 n hi sk nt) n hi sk nt 1 q = F 1 q := fun q hq => by rw [el _ _ (by omega), entF_ne _ _ _ _ _ (by unfold wb; omega) (by omega)]
  have ew : ∀ j q, j < 8 → j ≠ n → amA (entF F 1 n hi sk nt) n hi sk nt (wb 1 j) q = F (wb 1 j) q := fun j q h8 hj => by rw [el _ _ (wb21 h8), entF_ne _ _ _ _ _ (fun z => hj (wb_inj z)) (by unfold wb; omega)]
  have hz := i5 n (Nat.le_refl _) hn
  refine ⟨by omega, ⟨by rw [eb _ (by omega)]; exact a0, by rw [eh _ _ (by omega) (by omega)]; exact m0, by rw [el _ _ (by omega), x6, a6, nI_1], y4, by rw [eb _ (by omega), eh _ _ (by omega) (by omega)]; exact a1, by rw [eb _ (by omega), eh _ _ (by omega) (by omega)]; exact a2, by rw [eb _ (by omega), eh _ _ (by omega) (by omega)]; exact a3, by rw [eb _ (by omega), eh _ _ (by omega) (by omega)]; exact a4, by rw [eb _ (by omega), eh _ _ (by omega) (by omega)]; exact a5, fun j hj => ?_⟩, fun j hj => ?_, fun j hj => ?_, fun j h1 h2 => by rw [eh _ _ (by omega) (by omega), eh _ _ (by omega) (by omega)]; exact i5 j (by omega) h2, fun j hj => ?_⟩
  · by_cases hjn : j = n
    · subst hjn
      refine ⟨by rw [el _ _ hw21, x0, y0], by rw [el _ _ hw21, x1, y1], by rw [el _ _ hw21, x2, y3], by rw [el _ _ hw21, x3, eh _ _ (by omega) (by omega)]; exact hz.1.symm, by rw [el _ _ hw21, x4, eh _ _ (by omega) (by omega)]; exact hz.2.symm, by rw [el _ _ hw21, x5, y2]⟩
    · obtain ⟨t0, t1, t2, t3, t4, t5⟩ := aw j (by omega)
      have e := fun q => ew j q (by omega) hjn
      exact ⟨by rw [e, eh _ _ (by omega) (by omega)]; exact t0, by rw [e, eh _ _ (by omega) (by omega)]; exact t1, by rw [e, eh _ _ (by omega) (by omega)]; exact t2, by rw [e, eh _ _ (by omega) (by omega)]; exact t3, by rw [e, eh _ _ (by omega) (by omega)]; exact t4, by rw [e, eh _ _ (by omega) (by omega)]; exact t5⟩
  · by_cases hjn : j = n
    · subst hjn; rw [el _ _ hw21, x5]; exact Or.inr rfl
    · rw [ew j 5 hj hjn]; exact i3 j hj
  · by_cases hjn : j = n
    · subst hjn; exact ⟨a, ha, y0.trans hhi⟩
    · rw [eh _ _ (by omega) (by omega)]; exact i4 j (by omega)
  · by_cases hjn : j = n
    · subst hjn; exact ⟨0, by omega, by rw [eh _ _ (by omega) (by omega)]; exact hz.2⟩
    · rw [eh _ _ (by omega) (by omega)]; exact i6 j (by omega)
-- hours
theorem gm_fell {n : Nat} (hn8 : n ≤ 8) : ∀ (t h : Nat) (acc : Int32) (M : Fs), (∀ j, n ≤ j → j < 8 → M 25 (13 + j) = 0 ∧ M 25 (21 + j) = 0) → (∀ j, j < n → ∃ f, f ≤ h ∧ M 25 (21 + j) = nI f) →
    (∀ j, n ≤ j → j < 8 → (gmL n t h acc M).2 25 (13 + j) = 0 ∧ (gmL n t h acc M).2 25 (21 + j) = 0) ∧ (∀ j, j < n → ∃ f, f ≤ h + t ∧ (gmL n t h acc M).2 25 (21 + j) = nI f) := by
  intro t
  induction t with
  | zero => intro h acc M h1 h2; exact ⟨h1, fun j hj => h2 j hj⟩
  | succ t ih =>
    intro h acc M h1 h2
    have r := ih (h + 1) (acc + hoR M n h) (hoF M n h) (fun j q1 q2 => by rw [(ho_out hn8 q1 q2).1, (ho_out hn8 q1 q2).2]; exact h1 j q1 q2) (fun j hj => by
      obtain ⟨f, f1, f2⟩ := h2 j hj
      by_cases hc : fellM M h j
      · exact ⟨f + 1, by omega, by rw [((ho_in hn8 hj).1 hc).2, f2, nI_1]⟩
      · exact ⟨f, by omega, by rw [((ho_in hn8 hj).2 hc).2, f2]⟩)
    rw [show h + (t + 1) = h + 1 + t by omega]
    exact r
theorem gb_mem (n : Nat) : ∀ (t h : Nat) (acc : Int32) (F : Fs) (k : Nat), 5 ≤ k → (gbL 1 n t h acc F).2 k 5 = F k 5 := by
  have hr : ∀ (sun noon : Int32) (m i : Nat) (acc : Int32) (F : Fs) (k : Nat), 5 ≤ k → (hrL 1 sun noon m i acc F).2 k 5 = F k 5 := by
    intro sun noon m
    induction m with
    | zero => intro i acc F k _; rfl
    | succ m ih =>
      intro i acc F k hk
      show (hrL 1 sun noon m (i + 1) _ _).2 k 5 = F k 5
      rw [ih (i + 1) _ _ k hk]
      rcases wk_mem F 1 (wb 1 i) sun noon (wb_lo (Or.inl rfl) i) (by omega) k with e | e
      · exact e
      · omega
  intro t
  induction t with
  | zero => intro h acc F k _; rfl
  | succ t ih =>
    intro h acc F k hk
    show (gbL 1 n t (h + 1) _ _).2 k 5 = F k 5
    rw [ih (h + 1) _ _ k hk]
    unfold hrF
    rw [up2_ne _ _ (by omega)]
    unfold hr0
    rw [hr _ _ n 0 0 _ k hk]
    split
    · exact pay_ne F 1 n (by omega)
    · rfl
theorem gb_high {n : Nat} (hn8 : n ≤ 8) : ∀ (t h : Nat) (acc : Int32) (F : Fs), HighS F (gbL 1 n t h acc F).2 := by
  intro t
  induction t with
  | zero => intro h acc F a ha q; rfl
  | succ t ih =>
    intro h acc F a ha q
    show (gbL 1 n t (h + 1) _ _).2 a q = F a q
    rw [ih (h + 1) _ _ a ha q]
    exact hrF_ne F 1 n h (by omega) (fun z hz => by unfold wb; omega)
theorem gb_other {n : Nat} (hn8 : n ≤ 8) : ∀ (t h : Nat) (acc : Int32) (F : Fs) (j q : Nat), n ≤ j → (gbL 1 n t h acc F).2 (wb 1 j) q = F (wb 1 j) q := by
  intro t
  induction t with
  | zero => intro h acc F j q _; rfl
  | succ t ih =>
    intro h acc F j q hj
    show (gbL 1 n t (h + 1) _ _).2 (wb 1 j) q = _
    rw [ih (h + 1) _ _ j q hj]
    exact hrF_ne F 1 n h (by have := wb_lo (Or.inl rfl : (1 : Nat) = 1 ∨ (1 : Nat) = 2) j; omega) (fun z hz e => by have := wb_inj e; omega)
theorem rel_cross {n h : Nat} {F M X : Fs} (hn8 : n ≤ 8) (R : RelB 1 F M n h) (hl : LowS F X) (hh : HighS M X) : RelB 1 X X n h := (R.sc hn8 hl.sc).sm hn8 hh.sm
theorem inv_pass {F : Fs} {n h t : Nat} (I : InvL F n h) : InvL (gmL n t h 0 (th0 (gbL 1 n t h 0 F).2 0)).2 n (h + t) ∧ (gbL 1 n t h 0 F).1 = (gmL n t h 0 (th0 (gbL 1 n t h 0 F).2 0)).1 := by
  obtain ⟨i1, i2, i3, i4, i5, i6⟩ := I
  have sm1 : SameM F (th0 (gbL 1 n t h 0 F).2 0) := (gb_high i1 t h 0 F).sm.tr (sm_th _ 0)
  obtain ⟨e, R⟩ := rel_hours (b := 1) (Or.inl rfl) i1 t h 0 F _ (i2.sm i1 sm1)
  obtain ⟨z1, z2⟩ := gm_fell i1 t h 0 (th0 (gbL 1 n t h 0 F).2 0) (fun j h1 h2 => by rw [sm1.2.2.2.2 _ (by omega), sm1.2.2.2.2 _ (by omega)]; exact i5 j h1 h2) (fun j hj => by rw [sm1.2.2.2.2 _ (by omega)]; exact i6 j hj)
  have low : LowS (gbL 1 n t h 0 F).2 (gmL n t h 0 (th0 (gbL 1 n t h 0 F).2 0)).2 := fun a ha q => by rw [gmL_ne n (by omega), th0, up2_ne _ _ (by omega)]
  refine ⟨⟨i1, R.sc i1 low.sc, fun j hj => ?_, fun j hj => ?_, z1, z2⟩, e⟩
  · rw [low _ (wb21 hj), gb_mem n t h 0 F _ (wb_lo (Or.inl rfl) j)]
    exact i3 j hj
  · rw [gmL_ne n (by omega), sm1.2.1]
    exact i4 j hj
-- the digest
theorem dma_at (M : Fs) (n h : Nat) : dma M n h 0 = dm0 M 25 0 ∧ dma M n h 1 = suH h ∧ dma M n h 2 = dm0 M 21 1 ∧ dma M n h 3 = inL (dm0 M) n 0 0 ∧ dma M n h 4 = dm0 M 25 1 ∧ dma M n h 5 = dm0 M 25 2 ∧ dma M n h 6 = dm0 M 21 2 ∧ dma M n h 7 = dm0 M 25 3 ∧ dma M n h 8 = dm0 M 25 4 ∧ dma M n h 9 = nmR (dm0 M) n h ∧ dma M n h 10 = (bmF (dm1 M n h) n h).1 ∧ dma M n h 11 = (amF (dm2 M n h) n h).1 := by
  refine ⟨?_, ?_, ?_, ?_, ?_, ?_, ?_, ?_, ?_, ?_, ?_, ?_⟩ <;> simp [dma, upd]
theorem dx12 (f : Nat → Int32) (d : Int64) : dxL f 12 0 d = chI (chI (chI (chI (chI (chI (chI (chI (chI (chI (chI (chI (d) (f 0)) (f 1)) (f 2)) (f 3)) (f 4)) (f 5)) (f 6)) (f 7)) (f 8)) (f 9)) (f 10)) (f 11) := rfl
theorem rel_dg {F M : Fs} {n h : Nat} (hn8 : n ≤ 8) (R : RelB 1 F M n h) (hf : ∀ j, j < n → ∃ f, f < 2 ^ 30 ∧ M 25 (21 + j) = nI f) : dgI F n h = dmI M n h := by
  have s0 : SameM M (dm0 M) := sm_th M 0
  have s1 : SameM M (dm1 M n h) := s0.tr (nm_keep _ n h).1
  have s2 : SameM M (dm2 M n h) := s1.tr (bm_keep _ n h).1
  have s3 : SameM M (dmF M n h) := s2.tr (am_keep _ n h).1
  have R0 := R.sm hn8 s0
  have c1 := sc_be F n h
  have c2 : SameC F (dgF F n h) := c1.tr (sc_fi _ n h)
  have e9 : nfL F h n 0 (-1) 101 = nmR (dm0 M) n h := rel_nm hn8 R0 (fun j hj => by rw [s0.2.2.2.2 _ (by omega)]; exact hf j hj)
  have e10 : (beF F n h).1 = (bmF (dm1 M n h) n h).1 := rel_be hn8 (R.sm hn8 s1)
  have e11 : (fiF (beF F n h).2 n h).1 = (amF (dm2 M n h) n h).1 := rel_fi hn8 ((R.sc hn8 c1).sm hn8 s2)
  have e3 : cmL F 1 n 0 0 = inL (dm0 M) n 0 0 := rel_cm n 0 0 (fun j _ h2 => (R0.2.2.2.2.2.2.2.2.2 j (by omega)).2.2.2.2.2)
  have eL := rel_dL ((R.sc hn8 c2).sm hn8 s3) n 0 (dgH F n h) (by omega)
  have eH : dgH F n h = dxL (dma M n h) 12 0 2069 := by
    obtain ⟨a0, m0, a6, m1, a1, a2, a3, a4, a5, aw⟩ := R0
    obtain ⟨d0, d1, d2, d3, d4, d5, d6, d7, d8, d9, d10, d11⟩ := dma_at M n h
    rw [dx12, d0, d1, d2, d3, d4, d5, d6, d7, d8, d9, d10, d11]
    unfold dgH dg9
    rw [e9, e10, e11, e3, a0.trans m0.symm, a6.trans m1.symm, a1, a2, a3, a4, a5]
  exact eL.trans (congrArg (fun d => dmL (dmF M n h) h n 0 d) eH)
