/-! numbers: what the class's words say of small naturals -/
def suN (h : Nat) : Nat := [1, 2, 3, 4, 5, 6, 6, 5, 4, 3, 2, 1].getD (h % 12) 0
def noN (h : Nat) : Nat := if h % 12 = 5 ∨ h % 12 = 6 then 1 else 0
def shN (a h : Nat) : Nat := 6 * a / suN h
def coN (a nt h : Nat) : Nat := shN a h - 2 * nt
def owN (m c h : Nat) : Nat := if m = 0 then c else min c (3 + 3 * noN h)
def woN (a sk wo h : Nat) : Nat := wo + (a / 5 + 1 + noN h) - sk
def reN (cl r l : Nat) : Nat := min (cl - r) l
theorem su_nI (h : Nat) : suH h = nI (suN h) := by
  have key : ∀ d, d < 12 → sunAtI (nI d) = nI ([1, 2, 3, 4, 5, 6, 6, 5, 4, 3, 2, 1].getD d 0) := by decide
  exact key _ (Nat.mod_lt _ (by decide))
theorem su_bd (h : Nat) : 1 ≤ suN h ∧ suN h ≤ 6 := by
  have key : ∀ d, d < 12 → 1 ≤ [1, 2, 3, 4, 5, 6, 6, 5, 4, 3, 2, 1].getD d 0 ∧ [1, 2, 3, 4, 5, 6, 6, 5, 4, 3, 2, 1].getD d 0 ≤ 6 := by decide
  exact key _ (Nat.mod_lt _ (by decide))
theorem no_nI (h : Nat) : noH h = nI (noN h) := by
  have key : ∀ d, d < 12 → noonAtI (nI d) = nI (if d = 5 ∨ d = 6 then 1 else 0) := by decide
  exact key _ (Nat.mod_lt _ (by decide))
theorem no_bd (h : Nat) : noN h ≤ 1 := by unfold noN; split <;> omega
theorem no_su (h : Nat) : noN h = 1 ↔ suN h = 6 := by
  have key : ∀ d, d < 12 → ((if d = 5 ∨ d = 6 then 1 else 0) = 1 ↔ [1, 2, 3, 4, 5, 6, 6, 5, 4, 3, 2, 1].getD d 0 = 6) := by decide
  exact key _ (Nat.mod_lt _ (by decide))
theorem nI_toI {a : Nat} (h : a < 2 ^ 31) : (nI a).toInt = (a : Int) := nI_toInt h
theorem mx0_nI {a : Nat} (h : a < 2 ^ 31) : mx0 (nI a) = nI a := by
  unfold mx0
  by_cases h0 : 0 < nI a
  · rw [if_pos h0]
  · rw [if_neg h0]
    rw [show (0 : Int32) = nI 0 from rfl, nI_ltI (by omega) h] at h0
    rw [show a = 0 by omega]; rfl
theorem mx0_sub {a b : Nat} (ha : a < 2 ^ 30) (hb : b < 2 ^ 30) : mx0 (nI a - nI b) = nI (a - b) := by
  by_cases h : a < b
  · have h1 := pk_sneg hb h
    unfold mx0
    rw [if_neg (Int32.lt_asymm h1), show a - b = 0 by omega]; rfl
  · rw [pk_sub (by omega)]
    exact mx0_nI (by omega)
theorem sh_nI {a : Nat} (ha : a ≤ 30) (h : Nat) : shI (nI a) (suH h) = nI (shN a h) := by
  have hs := su_bd h
  unfold shI shN
  rw [su_nI, show (6 : Int32) = nI 6 from rfl, pk_mul, pk_div (by omega) (by omega) (by omega)]
theorem sh_bd {a : Nat} (ha : a ≤ 30) (h : Nat) : a ≤ shN a h ∧ shN a h ≤ 6 * a ∧ shN a h ≤ 180 := by
  obtain ⟨h1, h2⟩ := su_bd h
  unfold shN
  have e1 : 6 * a / suN h ≤ 6 * a := Nat.div_le_self _ _
  refine ⟨?_, e1, by omega⟩
  rw [Nat.le_div_iff_mul_le (by omega)]
  have := Nat.mul_le_mul_left a h2
  omega
theorem co_nI {a nt : Nat} (ha : a ≤ 30) (hn : nt ≤ 9) (h : Nat) : coI (nI a) (nI nt) (suH h) = nI (coN a nt h) := by
  have := sh_bd ha h
  unfold coI coN
  rw [sh_nI ha, show (2 : Int32) = nI 2 from rfl, pk_mul, mx0_sub (by omega) (by omega)]
theorem co_bd {a nt h : Nat} (ha : a ≤ 30) : coN a nt h ≤ shN a h ∧ coN a nt h ≤ 180 := by
  have := sh_bd ha h
  unfold coN
  omega
theorem ow_nI {m c : Nat} (hm : m ≤ 1) (hc : c ≤ 180) (h : Nat) : owI (nI m) (nI c) (noH h) = nI (owN m c h) := by
  unfold owI owN
  rw [no_nI]
  have hn := no_bd h
  have z0 : nI 0 = 0 := rfl
  have z1 : ¬ nI 1 = 0 := by decide
  rcases (show m = 0 ∨ m = 1 by omega) with rfl | rfl
  · rw [if_pos z0, if_pos (show (0 : Nat) = 0 from rfl)]
  · rw [if_neg z1, if_neg (show ¬ (1 : Nat) = 0 by decide)]
    rcases (show noN h = 0 ∨ noN h = 1 by omega) with e | e <;> rw [e]
    · rw [if_pos z0]
      by_cases h3 : 3 < c
      · rw [if_pos (show (3 : Int32) < nI c from (nI_ltI (a := 3) (by omega) (by omega)).mpr h3), Nat.min_eq_right (by omega)]; rfl
      · rw [if_neg (show ¬ (3 : Int32) < nI c from fun z => h3 ((nI_ltI (a := 3) (by omega) (by omega)).mp z)), Nat.min_eq_left (by omega)]
    · rw [if_neg z1]
      by_cases h3 : 6 < c
      · rw [if_pos (show (6 : Int32) < nI c from (nI_ltI (a := 6) (by omega) (by omega)).mpr h3), Nat.min_eq_right (by omega)]; rfl
      · rw [if_neg (show ¬ (6 : Int32) < nI c from fun z => h3 ((nI_ltI (a := 6) (by omega) (by omega)).mp z)), Nat.min_eq_left (by omega)]
theorem ow_bd (m c h : Nat) : owN m c h ≤ c := by
  unfold owN
  split
  · omega
  · exact Nat.min_le_left _ _
theorem wo_nI {a sk wo : Nat} (ha : a ≤ 30) (hs : sk ≤ 5) (hw : wo ≤ 9) (h : Nat) : woI (nI a) (nI sk) (nI wo) (noH h) = nI (woN a sk wo h) := by
  unfold woI woN
  have hn := no_bd h
  rw [no_nI, show (5 : Int32) = nI 5 from rfl, pk_div (by omega) (by omega) (by omega), show (1 : Int32) = nI 1 from rfl, show (2 : Int32) = nI 2 from rfl, nI_add, nI_add, nI_add, nI_add, mx0_sub (by omega) (by omega), mx0_sub (by omega) (by omega)]
  rcases (show noN h = 0 ∨ noN h = 1 by omega) with e | e <;> rw [e]
  · rw [if_pos (show nI 0 = 0 from rfl)]
  · rw [if_neg (show ¬ nI 1 = 0 by decide)]
theorem re_nI {c r l : Nat} (hc : c < 2 ^ 30) (hr : r < 2 ^ 30) (hl : l < 2 ^ 30) : reI (nI c) (nI r) (nI l) = nI (reN c r l) := by
  unfold reI reN
  rw [mx0_sub hc hr]
  by_cases h : l < c - r
  · rw [if_pos ((nI_ltI (by omega) (by omega)).mpr h), Nat.min_eq_right (by omega)]
  · rw [if_neg (fun z => h ((nI_ltI (by omega) (by omega)).mp z)), Nat.min_eq_left (by omega)]
theorem re_bd (c r l : Nat) : reN c r l ≤ l ∧ reN c r l ≤ c := by
  unfold reN
  omega
/-- what is known of a walker, and of a book -/
def Wk (F : Fs) (k h : Nat) : Prop := ∃ a sk nt wo f m : Nat, 1 ≤ a ∧ a ≤ 30 ∧ sk ≤ 5 ∧ nt ≤ 9 ∧ wo ≤ 9 ∧ f ≤ h ∧ m ≤ 1 ∧ F k 0 = nI a ∧ F k 1 = nI sk ∧ F k 2 = nI nt ∧ F k 3 = nI wo ∧ F k 4 = nI f ∧ F k 5 = nI m
def Bf (F : Fs) (b : Nat) : Prop := (∃ r, r ≤ 9 ∧ F b 2 = nI r) ∧ (∃ r, r ≤ 200 ∧ F b 3 = nI r) ∧ ∃ r, r ≤ 400 ∧ F b 4 = nI r
def Bk (F : Fs) (b n h : Nat) : Prop := n ≤ 8 ∧ F b 6 = nI n ∧ F b 0 = nI h ∧ Bf F b ∧ ∀ j, j < n → Wk F (wb b j) h
theorem Wk.mem {F : Fs} {k h : Nat} (w : Wk F k h) : F k 5 = 0 ∨ F k 5 = 1 := by
  obtain ⟨a, sk, nt, wo, f, m, -, -, -, -, -, -, h7, -, -, -, -, -, e⟩ := w
  rw [e]
  rcases (show m = 0 ∨ m = 1 by omega) with rfl | rfl
  · exact Or.inl rfl
  · exact Or.inr rfl
theorem Wk.same {F F' : Fs} {k h : Nat} (w : Wk F k h) (e : ∀ j, j < 6 → F' k j = F k j) : Wk F' k h := by
  obtain ⟨a, sk, nt, wo, f, m, h1, h2, h3, h4, h5, h6, h7, e0, e1, e2, e3, e4, e5⟩ := w
  exact ⟨a, sk, nt, wo, f, m, h1, h2, h3, h4, h5, h6, h7, by rw [e 0 (by omega)]; exact e0, by rw [e 1 (by omega)]; exact e1, by rw [e 2 (by omega)]; exact e2, by rw [e 3 (by omega)]; exact e3, by rw [e 4 (by omega)]; exact e4, by rw [e 5 (by omega)]; exact e5⟩
theorem Wk.up {F : Fs} {k h h' : Nat} (w : Wk F k h) (hh : h ≤ h') : Wk F k h' := by
  obtain ⟨a, sk, nt, wo, f, m, h1, h2, h3, h4, h5, h6, h7, es⟩ := w
  exact ⟨a, sk, nt, wo, f, m, h1, h2, h3, h4, h5, by omega, h7, es⟩
/-- words of the tables for what the law's side alone uses -/
theorem qAbs : Cond.code Lib.Math.abs.name Lib.Math.abs.code 1 (some .int) ∈ lw_all := lw_in (List.mem_of_getElem? (i := 603) (by decide +kernel)) (by decide +kernel)
theorem qAbsS : Cond.static Lib.Math.abs.name ∈ lw_all := lw_in (List.mem_of_getElem? (i := 602) (by decide +kernel)) (by decide +kernel)
theorem qSame : Cond.sameMethod "[I" "java/lang/Object" "clone" "()Ljava/lang/Object;" ∈ lw_all := q462
theorem qSel : Cond.selects "[I" ⟨"[I", "clone", "()Ljava/lang/Object;"⟩ ⟨"java/lang/Object", "clone", "()Ljava/lang/Object;"⟩ ∈ lw_all := q465
/-! what the law's Sim answers -/
theorem si_lo (h : Nat) (c : nI (h % 12) < 6) : nI (h % 12) + 1 = suH h := by
  have key : ∀ d, d < 12 → nI d < 6 → nI d + 1 = sunAtI (nI d) := by decide
  exact key _ (Nat.mod_lt _ (by decide)) c
theorem si_hi (h : Nat) (c : ¬ nI (h % 12) < 6) : 12 - nI (h % 12) = suH h := by
  have key : ∀ d, d < 12 → ¬ nI d < 6 → 12 - nI d = sunAtI (nI d) := by decide
  exact key _ (Nat.mod_lt _ (by decide)) c
theorem si_no (h : Nat) (c : suH h = 6) : (1 : Int32) = noH h := by
  have key : ∀ d, d < 12 → sunAtI (nI d) = 6 → (1 : Int32) = noonAtI (nI d) := by decide
  exact key _ (Nat.mod_lt _ (by decide)) c
theorem si_nn (h : Nat) (c : ¬ suH h = 6) : (0 : Int32) = noH h := by
  have key : ∀ d, d < 12 → ¬ sunAtI (nI d) = 6 → (0 : Int32) = noonAtI (nI d) := by decide
  exact key _ (Nat.mod_lt _ (by decide)) c
theorem si_sh (ht sun : Int32) : ht * 6 / sun = shI ht sun := by unfold shI; rw [Int32.mul_comm]
/-- what a fall costs, and who pays it: four numbers -/
def ptI (F : Fs) (b k h : Nat) : Nat → Int32 := fun j => if j = 0 then coI (F k 0) (F k 2) (suH h) else if j = 1 then owI (F k 5) (coI (F k 0) (F k 2) (suH h)) (noH h) else if j = 2 then clI F k (suH h) (noH h) - reI (clI F k (suH h) (noH h)) (F b 3) (F b 4) else if j = 3 then reI (clI F k (suH h) (noH h)) (F b 3) (F b 4) else 0
