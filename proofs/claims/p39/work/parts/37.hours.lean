/-! the law's hours, one by one -/
def Fe (F : Fs) (n h : Nat) (xo : Int32) (k : Nat) (xl : Int32) : Prop := xl = 1 ∨ (xl = 0 ∧ ∀ w, w < n → xo = nI w → ∀ z, z < k → ¬ flH F n h z w)
def Fi (F : Fs) (n h k : Nat) (xi : Int32) : Prop := xi = 0 ∨ (xi = 1 ∧ ∀ j, j < n → ∀ z, z < k → ¬ flH F n h z j)
def Fi2 (F : Fs) (n h k i : Nat) (xi : Int32) : Prop := xi = 0 ∨ (xi = 1 ∧ (∀ j, j < n → ∀ z, z < k → ¬ flH F n h z j) ∧ ∀ j, j < i → ¬ flH F n h k j)
theorem Fi.two {F : Fs} {n h k : Nat} {xi : Int32} (H : Fi F n h k xi) : Fi2 F n h k 0 xi := H.imp id (fun a => ⟨a.1, a.2, fun j hj => absurd hj (Nat.not_lt_zero j)⟩)
theorem Fi2.one {F : Fs} {n h k i : Nat} {xi : Int32} (hi : i = n) (H : Fi2 F n h k i xi) : Fi F n h (k + 1) xi := H.imp id (fun a => ⟨a.1, fun j hj z hz => by
  by_cases e : z = k
  · subst e; exact a.2.2 j (by omega)
  · exact a.2.1 j hj z (by omega)⟩)
def Ar (F : Fs) (h i : Nat) (f1 f2 f3 f4 f5 : Nat → Int32) : Prop := ∀ j, j < i → f1 j = F (wb 1 j) 3 ∧ f2 j = F (wb 1 j) 4 ∧ f3 j = F (wb 1 j) 2 ∧ f4 j = clI F (wb 1 j) (suH h) (noH h) - reI (clI F (wb 1 j) (suH h) (noH h)) (F 1 3) (F 1 4) ∧ f5 j = reI (clI F (wb 1 j) (suH h) (noH h)) (F 1 3) (F 1 4)
theorem upd_s (f : Nat → Int32) (i : Nat) (x : Int32) : upd f i x i = x := by simp [upd]
theorem upd_ne (f : Nat → Int32) {i j : Nat} (x : Int32) (h : j ≠ i) : upd f i x j = f j := by simp [upd, h]
theorem Ar.up {F : Fs} {h i : Nat} {f1 f2 f3 f4 f5 : Nat → Int32} (H : Ar F h i f1 f2 f3 f4 f5) : Ar F h (i + 1) (upd f1 i (F (wb 1 i) 3)) (upd f2 i (F (wb 1 i) 4)) (upd f3 i (F (wb 1 i) 2)) (upd f4 i (clI F (wb 1 i) (suH h) (noH h) - reI (clI F (wb 1 i) (suH h) (noH h)) (F 1 3) (F 1 4))) (upd f5 i (reI (clI F (wb 1 i) (suH h) (noH h)) (F 1 3) (F 1 4))) := by
  intro j hj
  by_cases e : j = i
  · subst e; exact ⟨upd_s _ _ _, upd_s _ _ _, upd_s _ _ _, upd_s _ _ _, upd_s _ _ _⟩
  · rw [upd_ne _ _ e, upd_ne _ _ e, upd_ne _ _ e, upd_ne _ _ e, upd_ne _ _ e]; exact H j (by omega)
theorem pw_0 {F : Fs} {n h : Nat} (c : ¬ nI (h % 12) = 0) : (Pw F n h 0).2 = F := if_neg c
theorem pw_p {F : Fs} {n h : Nat} (c : nI (h % 12) = 0) : (Pw F n h 0).2 = payF F 1 n := if_pos c
theorem pf_0 {F : Fs} {n h : Nat} (c : nI (h % 12) = 0) (hb : Bf F 1) (l : F 1 4 ≤ 0) : F 1 1 + (F 1 2 * cmL F 1 n 0 0 - 0) = (Pw F n h 0).2 1 1 := by
  have e4 : pay1 F 1 n 1 4 = F 1 4 := up2_ne _ _ (by omega)
  rw [pw_p c, py_n hb (by rw [e4]; exact l)]
  unfold pay1
  rw [up2_s]
  grind
theorem pf_1 {F : Fs} {n h : Nat} (c : nI (h % 12) = 0) (l : ¬ F 1 4 ≤ 0) : F 1 1 + (F 1 2 * cmL F 1 n 0 0 - (F 1 4 / 20 + 1)) = (Pw F n h 0).2 1 1 := by
  have e4 : pay1 F 1 n 1 4 = F 1 4 := up2_ne _ _ (by omega)
  rw [pw_p c, ← py_y (by rw [e4]; exact l)]
  unfold pay3
  rw [up2_ne _ _ (by omega)]
  unfold pay2
  rw [up2_s, e4]
  unfold pay1
  rw [up2_s]
  grind
theorem pl_0 {F : Fs} {n h : Nat} (c : nI (h % 12) = 0) (hb : Bf F 1) (l : F 1 4 ≤ 0) : F 1 5 - 0 = (Pw F n h 0).2 1 5 := by
  have e4 : pay1 F 1 n 1 4 = F 1 4 := up2_ne _ _ (by omega)
  rw [pw_p c, py_n hb (by rw [e4]; exact l)]
  unfold pay1
  rw [up2_ne _ _ (by omega)]
  grind
theorem pl_1 {F : Fs} {n h : Nat} (c : nI (h % 12) = 0) (l : ¬ F 1 4 ≤ 0) : F 1 5 - (F 1 4 / 20 + 1) = (Pw F n h 0).2 1 5 := by
  have e4 : pay1 F 1 n 1 4 = F 1 4 := up2_ne _ _ (by omega)
  have e5 : pay1 F 1 n 1 5 = F 1 5 := up2_ne _ _ (by omega)
  rw [pw_p c, ← py_y (by rw [e4]; exact l)]
  unfold pay3
  rw [up2_s]
  unfold pay2
  rw [up2_ne _ _ (by omega), e4, e5]
theorem ps_1 (F : Fs) (n h : Nat) : (gbL 1 n 1 h 0 F).1 = hrR F 1 n h := by
  show 0 + hrR F 1 n h = _
  grind
theorem pw_z (F : Fs) (n h : Nat) : hrR F 1 n h - (Pw F n h 0).1 = hrR F 1 n h := by
  show hrR F 1 n h - 0 = _
  grind
theorem pw_e {F : Fs} {n h i : Nat} (hi : i = n) : hrR F 1 n h - (Pw F n h i).1 = 0 := by
  rw [hi, (hr_Pw F n h).1]
  grind
theorem In.wo {F : Fs} {n h j : Nat} (I : In F n h) (hj : j < n) : ∃ w, w ≤ 9 ∧ F (wb 1 j) 3 = nI w := by
  obtain ⟨a, sk, nt, wo, f, m, -, -, -, -, h5, -, -, -, -, -, e3, -⟩ := I.wk hj
  exact ⟨wo, h5, e3⟩
theorem ab_le {u v : Nat} (hu : u ≤ 9) (hv : v ≤ 9) : (if 0 ≤ nI u - nI v then nI u - nI v else 0 - (nI u - nI v)) ≤ 10 := by
  have key : ∀ u, u < 10 → ∀ v, v < 10 → (if 0 ≤ nI u - nI v then nI u - nI v else 0 - (nI u - nI v)) ≤ 10 := by decide
  exact key u (by omega) v (by omega)
theorem nx_first {F : Fs} {n h k i : Nat} {xn xs : Int32} (H : Nx F n h xn xs) (h1 : ∀ j, j < n → ∀ z, z < k → ¬ flH F n h z j) (h2 : ∀ j, j < i → ¬ flH F n h k j) (hi : i < n) (hk : k < 100) (hf : flH F n h k i) : nI i = xn ∧ nI (k + 1) = xs := by
  rcases H with ⟨-, -, a⟩ | ⟨j0, m, a, b, rfl, rfl, c, d, e⟩
  · exact absurd hf (a i hi k hk)
  · have hm : m = k := by
      rcases Nat.lt_trichotomy m k with l | l | l
      · exact absurd e (h1 j0 a m l)
      · exact l
      · exact absurd hf (c i hi k l)
    subst hm
    have hj : j0 = i := by
      rcases Nat.lt_trichotomy j0 i with l | l | l
      · exact absurd e (h2 j0 l)
      · exact l
      · exact absurd hf (d i l)
    subst hj
    exact ⟨rfl, rfl⟩
theorem on_eq {F : Fs} {n h k w : Nat} {y : Int32} (H : (y = -1 ∧ ∀ z, z < 100 → ¬ flH F n h z w) ∨ ∃ m, m < 100 ∧ y = nI (m + 1) ∧ flH F n h m w ∧ ∀ z, z < m → ¬ flH F n h z w) (hk : k < 100) (h0 : ∀ z, z < k → ¬ flH F n h z w) (hf : flH F n h k w) : y = nI (k + 1) := by
  rcases H with ⟨-, a⟩ | ⟨m, hm, rfl, a, b⟩
  · exact absurd hf (a k hk)
  · rcases Nat.lt_trichotomy m k with l | l | l
    · exact absurd a (h0 m l)
    · rw [l]
    · exact absurd hf (b k l)
theorem on_ne {F : Fs} {n h k w : Nat} {y : Int32} (H : (y = -1 ∧ ∀ z, z < 100 → ¬ flH F n h z w) ∨ ∃ m, m < 100 ∧ y = nI (m + 1) ∧ flH F n h m w ∧ ∀ z, z < m → ¬ flH F n h z w) (hk : k < 100) (hf : ¬ flH F n h k w) : ¬ y = nI (k + 1) := by
  rcases H with ⟨rfl, -⟩ | ⟨m, hm, rfl, a, b⟩
  · exact fun e => nI_m1 (a := k + 1) (by omega) e.symm
  · intro e
    have e2 : m = k := by have := (nI_eq (by omega) (by omega)).mp e; omega
    subst e2
    exact hf a
theorem Fe.y {F : Fs} {n h k : Nat} {xo : Int32} : Fe F n h xo k 1 := Or.inl rfl
theorem Fe.n {F : Fs} {n h k w : Nat} (hw : w < n) (hn8 : n ≤ 8) (h0 : ∀ z, z < k → ¬ flH F n h z w) (hf : ¬ flH F n h k w) : Fe F n h (nI w) (k + 1) 0 := Or.inr ⟨rfl, fun w' hw' e z hz => by
  have e2 : w' = w := ((nI_eq (by omega) (by omega)).mp e).symm
  subst e2
  by_cases ez : z = k
  · subst ez; exact hf
  · exact h0 z (by omega)⟩
theorem Fe.o {F : Fs} {n h k : Nat} {xl : Int32} (hn8 : n ≤ 8) (H : Fe F n h (-1) k xl) : Fe F n h (-1) (k + 1) xl := H.imp id (fun a => ⟨a.1, fun w hw e => absurd e.symm (nI_m1 (by omega))⟩)
