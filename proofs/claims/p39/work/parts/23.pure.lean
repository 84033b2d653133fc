/-! the law's Sim in the class's words -/
theorem ct_eq (s n : Int32) : s - n - n = s - 2 * n := by grind
theorem ct_pos {v : Int32} (h : 0 < v) : mx0 v = v := if_pos h
theorem ct_neg {v : Int32} (h : ¬ 0 < v) : mx0 v = 0 := if_neg h
/-- what parts asks of a walker -/
def Wc (F : Fs) (k : Nat) : Prop := ∃ a nt m : Nat, a ≤ 30 ∧ nt ≤ 9 ∧ m ≤ 1 ∧ F k 0 = nI a ∧ F k 2 = nI nt ∧ F k 5 = nI m
theorem Wk.c {F : Fs} {k h : Nat} (w : Wk F k h) : Wc F k := by
  obtain ⟨a, sk, nt, wo, f, m, h1, h2, h3, h4, h5, h6, h7, e0, e1, e2, e3, e4, e5⟩ := w
  exact ⟨a, nt, m, h2, h4, h7, e0, e2, e5⟩
theorem Wc.same {F F' : Fs} {k : Nat} (w : Wc F k) (e0 : F' k 0 = F k 0) (e2 : F' k 2 = F k 2) (e5 : F' k 5 = F k 5) : Wc F' k := by
  obtain ⟨a, nt, m, h1, h2, h3, g0, g2, g5⟩ := w
  exact ⟨a, nt, m, h1, h2, h3, e0.trans g0, e2.trans g2, e5.trans g5⟩
/-- the numbers of a walker's claim -/
theorem wc_nat {F : Fs} {k h : Nat} (w : Wc F k) : ∃ c m : Nat, c ≤ 180 ∧ m ≤ 1 ∧ F k 5 = nI m ∧ coI (F k 0) (F k 2) (suH h) = nI c ∧ owI (F k 5) (nI c) (noH h) = nI (owN m c h) ∧ clI F k (suH h) (noH h) = nI (c - owN m c h) := by
  obtain ⟨a, nt, m, h1, h2, h3, g0, g2, g5⟩ := w
  have hc := co_bd (nt := nt) (h := h) h1
  have ec : coI (F k 0) (F k 2) (suH h) = nI (coN a nt h) := by rw [g0, g2, co_nI h1 h2]
  have eo : owI (F k 5) (nI (coN a nt h)) (noH h) = nI (owN m (coN a nt h) h) := by rw [g5, ow_nI h3 hc.2]
  refine ⟨coN a nt h, m, hc.2, h3, g5, ec, eo, ?_⟩
  unfold clI
  rw [ec, eo, pk_sub (ow_bd _ _ _)]
theorem re_0 {r l : Nat} (hr : r ≤ 200) (hl : l ≤ 400) : reI 0 (nI r) (nI l) = 0 := by
  rw [show (0 : Int32) = nI 0 from rfl, re_nI (by omega) (by omega) (by omega)]
  have e : reN 0 r l = 0 := by unfold reN; omega
  rw [e]
def fiI (h : Nat) : Int32 := if noH h = 0 then 3 else 6
theorem fi_3 {h : Nat} (c : noH h = 0) : (3 : Int32) = fiI h := by unfold fiI; rw [if_pos c]
theorem fi_6 {h : Nat} (c : ¬ noH h = 0) : (6 : Int32) = fiI h := by unfold fiI; rw [if_neg c]
theorem ow_fi {m c : Int32} {h : Nat} (hm : ¬ m = 0) : owI m c (noH h) = if fiI h < c then fiI h else c := by
  unfold owI fiI
  rw [if_neg hm]
  split <;> rfl
theorem pt_ext {F : Fs} {b k h : Nat} {f : Nat → Int32} (h0 : f 0 = coI (F k 0) (F k 2) (suH h)) (h1 : f 1 = owI (F k 5) (coI (F k 0) (F k 2) (suH h)) (noH h)) (h2 : f 2 = clI F k (suH h) (noH h) - reI (clI F k (suH h) (noH h)) (F b 3) (F b 4)) (h3 : f 3 = reI (clI F k (suH h) (noH h)) (F b 3) (F b 4)) (h4 : ∀ j, 4 ≤ j → f j = 0) : f = ptI F b k h := by
  funext j
  unfold ptI
  split
  · subst_vars; exact h0
  · split
    · subst_vars; exact h1
    · split
      · subst_vars; exact h2
      · split
        · subst_vars; exact h3
        · exact h4 j (by omega)
def up4 (x0 x1 x2 x3 : Int32) : Nat → Int32 := upd (upd (upd (upd (fun _ => 0) 0 x0) 1 x1) 2 x2) 3 x3
theorem up4_at (x0 x1 x2 x3 : Int32) : up4 x0 x1 x2 x3 0 = x0 ∧ up4 x0 x1 x2 x3 1 = x1 ∧ up4 x0 x1 x2 x3 2 = x2 ∧ up4 x0 x1 x2 x3 3 = x3 ∧ ∀ j, 4 ≤ j → up4 x0 x1 x2 x3 j = 0 := by
  refine ⟨by simp [up4, upd], by simp [up4, upd], by simp [up4, upd], by simp [up4, upd], fun j hj => ?_⟩
  have e0 : j ≠ 0 := by omega
  have e1 : j ≠ 1 := by omega
  have e2 : j ≠ 2 := by omega
  have e3 : j ≠ 3 := by omega
  simp [up4, upd, e0, e1, e2, e3]
/-- nothing is paid -/
theorem pt_z {F : Fs} {b k h : Nat} (w : Wc F k) (hb : Bf F b) (hx : ¬ 0 < shI (F k 0) (suH h) - 2 * F k 2) : (fun _ : Nat => (0 : Int32)) = ptI F b k h := by
  obtain ⟨c, m, hc, hm, e5, ec, eo, el⟩ := wc_nat (h := h) w
  obtain ⟨-, ⟨r, hr, e3⟩, ⟨q, hq, e4⟩⟩ := hb
  have ec0 : coI (F k 0) (F k 2) (suH h) = 0 := ct_neg hx
  have hc0 : c = 0 := (nI_eq (by omega) (by omega)).mp (ec.symm.trans ec0)
  subst hc0
  have ow0 : owN m 0 h = 0 := by have := ow_bd m 0 h; omega
  rw [ow0] at eo el
  refine pt_ext ec0.symm ?_ ?_ ?_ (fun _ _ => rfl)
  · rw [ec, eo]; rfl
  · rw [el, e3, e4, show nI (0 - 0) = 0 from rfl, re_0 hr hq]; rfl
  · rw [el, e3, e4, show nI (0 - 0) = 0 from rfl, re_0 hr hq]
/-- one pays all -/
theorem pt_a {F : Fs} {b k h : Nat} (w : Wc F k) (hb : Bf F b) (hx : 0 < shI (F k 0) (suH h) - 2 * F k 2) (hm : F k 5 = 0 ∨ ¬ F k 5 = 0 ∧ ¬ fiI h < shI (F k 0) (suH h) - 2 * F k 2) : up4 (shI (F k 0) (suH h) - 2 * F k 2) (shI (F k 0) (suH h) - 2 * F k 2) 0 0 = ptI F b k h := by
  obtain ⟨c, m, hc, -, e5, ec, eo, el⟩ := wc_nat (h := h) w
  obtain ⟨-, ⟨r, hr, e3⟩, ⟨q, hq, e4⟩⟩ := hb
  have ev : coI (F k 0) (F k 2) (suH h) = shI (F k 0) (suH h) - 2 * F k 2 := ct_pos hx
  have ow : owI (F k 5) (coI (F k 0) (F k 2) (suH h)) (noH h) = coI (F k 0) (F k 2) (suH h) := by
    rcases hm with hm | ⟨hm, hf⟩
    · unfold owI; rw [if_pos hm]
    · rw [ow_fi hm, ev, if_neg hf]
  have cl : clI F k (suH h) (noH h) = 0 := by unfold clI; rw [ow]; grind
  obtain ⟨a0, a1, a2, a3, a4⟩ := up4_at (shI (F k 0) (suH h) - 2 * F k 2) (shI (F k 0) (suH h) - 2 * F k 2) 0 0
  refine pt_ext (by rw [a0, ev]) (by rw [a1, ow, ev]) ?_ ?_ a4
  · rw [a2, cl, e3, e4, re_0 hr hq]; rfl
  · rw [a3, cl, e3, e4, re_0 hr hq]
/-- what the pool and the reinsurer pay -/
theorem pt_c {F : Fs} {b k h : Nat} {t : Int32} (hx : 0 < shI (F k 0) (suH h) - 2 * F k 2) (hm : ¬ F k 5 = 0) (hf : fiI h < shI (F k 0) (suH h) - 2 * F k 2) (ht : t = reI (shI (F k 0) (suH h) - 2 * F k 2 - fiI h) (F b 3) (F b 4)) : up4 (shI (F k 0) (suH h) - 2 * F k 2) (fiI h) (shI (F k 0) (suH h) - 2 * F k 2 - fiI h - t) t = ptI F b k h := by
  have ev : coI (F k 0) (F k 2) (suH h) = shI (F k 0) (suH h) - 2 * F k 2 := ct_pos hx
  have ow : owI (F k 5) (coI (F k 0) (F k 2) (suH h)) (noH h) = fiI h := by rw [ow_fi hm, ev, if_pos hf]
  have cl : clI F k (suH h) (noH h) = shI (F k 0) (suH h) - 2 * F k 2 - fiI h := by
    show coI _ _ _ - owI _ (coI _ _ _) _ = _
    rw [ow, ev]
  obtain ⟨a0, a1, a2, a3, a4⟩ := up4_at (shI (F k 0) (suH h) - 2 * F k 2) (fiI h) (shI (F k 0) (suH h) - 2 * F k 2 - fiI h - t) t
  exact pt_ext (by rw [a0, ev]) (by rw [a1, ow]) (by rw [a2, cl, ht]) (by rw [a3, cl, ht]) a4
/-- the claim of one who pays a first part is a small natural -/
theorem cl_nat {F : Fs} {k h : Nat} (w : Wc F k) (hx : 0 < shI (F k 0) (suH h) - 2 * F k 2) (hf : fiI h < shI (F k 0) (suH h) - 2 * F k 2) : ∃ c, c ≤ 180 ∧ shI (F k 0) (suH h) - 2 * F k 2 - fiI h = nI c := by
  obtain ⟨c, m, hc, -, -, ec, -, -⟩ := wc_nat (h := h) w
  have ev : shI (F k 0) (suH h) - 2 * F k 2 = nI c := by rw [← ec]; exact (ct_pos hx).symm
  rw [ev] at hf ⊢
  unfold fiI at hf ⊢
  split at hf
  · rename_i h0
    rw [if_pos h0]
    have h3 : 3 < c := (nI_ltI (a := 3) (by omega) (by omega)).mp hf
    exact ⟨c - 3, by omega, pk_sub (b := 3) (by omega)⟩
  · rename_i h0
    rw [if_neg h0]
    have h3 : 6 < c := (nI_ltI (a := 6) (by omega) (by omega)).mp hf
    exact ⟨c - 6, by omega, pk_sub (b := 6) (by omega)⟩
theorem ab_y {x y : Int32} {c r : Nat} (ex : x = nI c) (ey : y = nI r) (hc : c < 2 ^ 30) (hr : r < 2 ^ 30) (h : ¬ x ≤ y) : x - y = mx0 (x - y) := by
  subst ex; subst ey
  have h1 : ¬ c ≤ r := fun z => h ((nI_leI (by omega) (by omega)).mpr z)
  rw [mx0_sub hc hr, pk_sub (by omega)]
theorem ab_n {x y : Int32} {c r : Nat} (ex : x = nI c) (ey : y = nI r) (hc : c < 2 ^ 30) (hr : r < 2 ^ 30) (h : x ≤ y) : (0 : Int32) = mx0 (x - y) := by
  subst ex; subst ey
  have h1 : c ≤ r := (nI_leI (by omega) (by omega)).mp h
  rw [mx0_sub hc hr, show c - r = 0 by omega]; rfl
theorem th_y {x y l : Int32} (h : ¬ l ≤ mx0 (x - y)) : mx0 (x - y) = reI x y l := by
  unfold reI
  rw [if_neg (fun z => h (Int32.le_of_lt z))]
theorem th_n {x y l : Int32} (h : l ≤ mx0 (x - y)) : l = reI x y l := by
  unfold reI
  by_cases h1 : l < mx0 (x - y)
  · rw [if_pos h1]
  · rw [if_neg h1]
    exact Int32.le_antisymm h (Int32.not_lt.mp h1)
/-! an hour: the rates -/
theorem cm_acc (F : Fs) (b : Nat) : ∀ (n i : Nat) (acc : Int32), cmL F b n i acc = acc + cmL F b n i 0 := by
  intro n
  induction n with
  | zero => intro i acc; show acc = acc + 0; grind
  | succ n ih =>
    intro i acc
    show cmL F b n (i + 1) (if F (wb b i) 5 = 0 then acc + 0 else acc + 1) = acc + cmL F b n (i + 1) (if F (wb b i) 5 = 0 then 0 + 0 else 0 + 1)
    rw [ih (i + 1) (if F (wb b i) 5 = 0 then acc + 0 else acc + 1), ih (i + 1) (if F (wb b i) 5 = 0 then 0 + 0 else 0 + 1)]
    split <;> grind
theorem rt_y {F : Fs} {b n i : Nat} {v t : Int32} (hm : F (wb b i) 5 = 1) (h : v + F b 2 * cmL F b (n + 1) i 0 = t) : v + F b 2 + F b 2 * cmL F b n (i + 1) 0 = t := by
  rw [← h]
  show _ = v + F b 2 * cmL F b n (i + 1) (if F (wb b i) 5 = 0 then 0 + 0 else 0 + 1)
  rw [hm, if_neg (by decide), cm_acc F b n (i + 1) (0 + 1)]
  grind
theorem rt_n {F : Fs} {b n i : Nat} {v t : Int32} (hm : F (wb b i) 5 = 0) (h : v + F b 2 * cmL F b (n + 1) i 0 = t) : v + 0 + F b 2 * cmL F b n (i + 1) 0 = t := by
  rw [← h]
  show _ = v + F b 2 * cmL F b n (i + 1) (if F (wb b i) 5 = 0 then 0 + 0 else 0 + 1)
  rw [hm, if_pos rfl, cm_acc F b n (i + 1) (0 + 0)]
  grind
theorem rt_end {F : Fs} {b n i : Nat} {v : Int32} (h : v + F b 2 * cmL F b 0 i 0 = F b 1 + F b 2 * cmL F b n 0 0) : up2 F b 1 v = pay1 F b n := by
  unfold pay1
  rw [← h]
  congr 1
  show v = v + F b 2 * 0
  grind
theorem rt_wk {F : Fs} {b n i j : Nat} (hB : b = 1 ∨ b = 2) : pay1 F b n (wb b i) j = F (wb b i) j := by
  unfold pay1
  rw [up2_ne _ _ (fun z => by have := wb_lo hB i; omega)]
theorem py_eq {F : Fs} {b n : Nat} {f2 : Fs} (h : pay3 F b n = f2) : up2 (up2 (pay1 F b n) b 1 (pay1 F b n b 1 - (1 + pay1 F b n b 4 / 20))) b 5 (up2 (pay1 F b n) b 1 (pay1 F b n b 1 - (1 + pay1 F b n b 4 / 20)) b 5 - (1 + pay1 F b n b 4 / 20)) = f2 := by
  rw [← h]
  unfold pay3 pay2
  rw [show (1 : Int32) + pay1 F b n b 4 / 20 = pay1 F b n b 4 / 20 + 1 by grind]
theorem Wk.py {F : Fs} {b n k h : Nat} (w : Wk F k h) (hk : k ≠ b) : Wk (payF F b n) k h := w.same (fun j _ => pay_ne F b n (fun z => hk z.1))
/-! an hour: a walker -/
theorem wk_y {F : Fs} {k : Nat} {noon x : Int32} (h : 0 ≤ F k 3 + (F k 0 / 5 + x - F k 1)) (hx : noon = 0 ∧ x = 1 ∨ ¬ noon = 0 ∧ x = 2) : up2 F k 3 (F k 3 + (F k 0 / 5 + x - F k 1)) = wk1 F k noon := by
  have e : F k 3 + (F k 0 / 5 + x) - F k 1 = F k 3 + (F k 0 / 5 + x - F k 1) := by grind
  have m : mx0 (F k 3 + (F k 0 / 5 + x - F k 1)) = F k 3 + (F k 0 / 5 + x - F k 1) := by
    unfold mx0
    by_cases h0 : 0 < F k 3 + (F k 0 / 5 + x - F k 1)
    · rw [if_pos h0]
    · rw [if_neg h0]
      exact Int32.le_antisymm h (Int32.not_lt.mp h0)
  unfold wk1 woI
  rcases hx with ⟨h1, rfl⟩ | ⟨h1, rfl⟩
  · rw [if_pos h1, e, m]
  · rw [if_neg h1, e, m]
theorem wk_z {F : Fs} {k : Nat} {noon x : Int32} (h : ¬ 0 ≤ F k 3 + (F k 0 / 5 + x - F k 1)) (hx : noon = 0 ∧ x = 1 ∨ ¬ noon = 0 ∧ x = 2) : up2 (up2 F k 3 (F k 3 + (F k 0 / 5 + x - F k 1))) k 3 0 = wk1 F k noon := by
  have e : F k 3 + (F k 0 / 5 + x) - F k 1 = F k 3 + (F k 0 / 5 + x - F k 1) := by grind
  have m : mx0 (F k 3 + (F k 0 / 5 + x - F k 1)) = 0 := if_neg (fun z => h (Int32.le_of_lt z))
  have t : up2 F k 3 0 = wk1 F k noon := by
    unfold wk1 woI
    rcases hx with ⟨h1, rfl⟩ | ⟨h1, rfl⟩
    · rw [if_pos h1, e, m]
    · rw [if_neg h1, e, m]
  rw [← t]
  funext a q
  unfold up2
  split <;> rfl
theorem fl_eq {F : Fs} {k : Nat} {x : Int32} (h : mx0 (F k 2 - 1) = F k 2 - x) : up2 (up2 (up2 F k 2 (F k 2 - x)) k 3 0) k 4 (up2 (up2 F k 2 (F k 2 - x)) k 3 0 k 4 + 1) = fallF F k := by
  have e2 : up2 F k 4 (F k 4 + 1) k 2 = F k 2 := up2_ne _ _ (by omega)
  have e4 : up2 (up2 F k 2 (F k 2 - x)) k 3 0 k 4 = F k 4 := by rw [up2_ne _ _ (by omega), up2_ne _ _ (by omega)]
  unfold fallF
  rw [e2, e4, h]
  funext a q
  simp only [up2_at]
  by_cases ha : a = k
  · subst ha
    by_cases h2 : q = 2
    · subst h2; simp
    · by_cases h3 : q = 3
      · subst h3; simp
      · by_cases h4 : q = 4
        · subst h4; simp
        · simp [h2, h3, h4]
  · simp [ha]
theorem nt_y {F : Fs} {k : Nat} (w : Wc F k) (h : ¬ F k 2 ≤ 0) : mx0 (F k 2 - 1) = F k 2 - 1 := by
  obtain ⟨a, nt, m, -, h2, -, -, e, -⟩ := w
  rw [e] at h ⊢
  have h0 : ¬ nt ≤ 0 := fun z => h (nI_le (b := 0) z (by omega))
  rw [show (1 : Int32) = nI 1 from rfl, mx0_sub (by omega) (by omega), pk_sub (by omega)]
theorem nt_n {F : Fs} {k : Nat} (w : Wc F k) (h : F k 2 ≤ 0) : mx0 (F k 2 - 1) = F k 2 - 0 := by
  obtain ⟨a, nt, m, -, h2, -, -, e, -⟩ := w
  rw [e] at h ⊢
  have h0 : nt ≤ 0 := (nI_leI (b := 0) (by omega) (by omega)).mp h
  have h1 : nt = 0 := by omega
  subst h1
  decide
theorem hr_n {F : Fs} {b n i : Nat} {noon sun acc : Int32} {t : Int32 × Fs} (h : ¬ 10 ≤ wk1 F (wb b i) noon (wb b i) 3) (hr : hrL b sun noon (n + 1) i acc F = t) : hrL b sun noon n (i + 1) acc (wk1 F (wb b i) noon) = t := by
  rw [← hr]
  show _ = hrL b sun noon n (i + 1) (if wkR F (wb b i) noon = 0 then acc + 0 else acc + 1) (wkF F b (wb b i) sun noon)
  unfold wkR wkF
  rw [if_neg h, if_neg h, if_pos rfl]
  congr 1
  grind
theorem hr_y {F : Fs} {b n i : Nat} {noon sun acc : Int32} {t : Int32 × Fs} (h : 10 ≤ wk1 F (wb b i) noon (wb b i) 3) (hr : hrL b sun noon (n + 1) i acc F = t) : hrL b sun noon n (i + 1) (acc + 1) (fallF (wk3 F b (wb b i) sun noon) (wb b i)) = t := by
  rw [← hr]
  show _ = hrL b sun noon n (i + 1) (if wkR F (wb b i) noon = 0 then acc + 0 else acc + 1) (wkF F b (wb b i) sun noon)
  unfold wkR wkF
  rw [if_pos h, if_pos h, if_neg (by decide)]
theorem wkF_fl {F : Fs} {b k : Nat} {sun noon : Int32} (h : 10 ≤ wk1 F k noon k 3) : wkF F b k sun noon = fallF (wk3 F b k sun noon) k := if_pos h
theorem wkF_no {F : Fs} {b k : Nat} {sun noon : Int32} (h : ¬ 10 ≤ wk1 F k noon k 3) : wkF F b k sun noon = wk1 F k noon := if_neg h
theorem wk_c1 {F : Fs} {k : Nat} {noon : Int32} (w : Wc F k) : Wc (wk1 F k noon) k := w.same (up2_ne _ _ (by omega)) (up2_ne _ _ (by omega)) (up2_ne _ _ (by omega))
theorem wk_c3 {F : Fs} {b k : Nat} {sun noon : Int32} (w : Wc F k) (hk : k ≠ b) : Wc (wk3 F b k sun noon) k := by
  have e : ∀ j, j ≠ 3 → wk3 F b k sun noon k j = F k j := fun j hj => by
    unfold wk3 wk2 wk1
    rw [up2_ne _ _ (fun z => hk z.1), up2_ne _ _ (fun z => hk z.1), up2_ne _ _ (fun z => hj z.2)]
  exact w.same (e 0 (by omega)) (e 2 (by omega)) (e 5 (by omega))
theorem pt_2 (F : Fs) (b k h : Nat) : ptI F b k h 2 = clI F k (suH h) (noH h) - reI (clI F k (suH h) (noH h)) (F b 3) (F b 4) := by
  unfold ptI; rw [if_neg (by decide), if_neg (by decide), if_pos rfl]
theorem pt_3 (F : Fs) (b k h : Nat) : ptI F b k h 3 = reI (clI F k (suH h) (noH h)) (F b 3) (F b 4) := by
  unfold ptI; rw [if_neg (by decide), if_neg (by decide), if_neg (by decide), if_pos rfl]
theorem wl_eq (F : Fs) (k : Nat) (sun noon : Int32) : clI (wk1 F k noon) k sun noon = wkl F k sun noon := by
  unfold clI wkl wkc; rfl
theorem w2_eq (F : Fs) (b k h : Nat) : up2 (wk1 F k (noH h)) b 1 (wk1 F k (noH h) b 1 - ptI (wk1 F k (noH h)) b k h 2) = wk2 F b k (suH h) (noH h) := by
  rw [pt_2, wl_eq]
  unfold wk2 wkr
  rfl
theorem w3_eq (F : Fs) (b k h : Nat) : up2 (wk2 F b k (suH h) (noH h)) b 5 (wk2 F b k (suH h) (noH h) b 5 + ptI (wk1 F k (noH h)) b k h 3) = wk3 F b k (suH h) (noH h) := by
  rw [pt_3, wl_eq]
  unfold wk3 wkr
  rfl
