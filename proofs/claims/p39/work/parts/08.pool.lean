/-! what the class's methods answer and do, in plain words over F -/
theorem nx_xor (a b : Nat) : nI a ^^^ nI b = nI (a ^^^ b) := by
  apply Int32.toBitVec_inj.1
  show BitVec.ofNat 32 a ^^^ BitVec.ofNat 32 b = BitVec.ofNat 32 (a ^^^ b)
  apply BitVec.eq_of_getLsbD_eq
  intro i hi
  simp [hi]
theorem ne0_pos {x : Int32} (h : 1 ≤ x) : ¬ x = 0 := fun e => by rw [e] at h; exact absurd h (by decide)
def mx0 (v : Int32) : Int32 := if 0 < v then v else 0
def inR (v lo hi : Int32) : Int32 := if v < lo then 0 else if hi < v then 0 else 1
def sunAtI (d : Int32) : Int32 := if 5 < d then 12 - d else d + 1
def noonAtI (d : Int32) : Int32 := if d < 5 then 0 else if 6 < d then 0 else 1
def shI (ht sun : Int32) : Int32 := 6 * ht / sun
def coI (ht net sun : Int32) : Int32 := mx0 (shI ht sun - 2 * net)
def owI (mem cost noon : Int32) : Int32 := if mem = 0 then cost else if noon = 0 then (if 3 < cost then 3 else cost) else (if 6 < cost then 6 else cost)
def woI (ht sk before noon : Int32) : Int32 := if noon = 0 then mx0 (before + (ht / 5 + 1) - sk) else mx0 (before + (ht / 5 + 2) - sk)
def reI (claim ret lim : Int32) : Int32 := if lim < mx0 (claim - ret) then lim else mx0 (claim - ret)
def faB (ht sk : Int32) (h : Nat) : Nat → Nat → Int32 → Int32
  | 0, _, _ => -1
  | n + 1, i, r => if woI ht sk r (noonAtI (nI ((h + i) % 12))) < 10 then faB ht sk h n (i + 1) (woI ht sk r (noonAtI (nI ((h + i) % 12)))) else nI (i + 1)
def fallF (F : Fs) (k : Nat) : Fs := up2 (up2 (up2 F k 4 (F k 4 + 1)) k 2 (mx0 ((up2 F k 4 (F k 4 + 1)) k 2 - 1))) k 3 0
def begF (F : Fs) (k : Nat) (h s n : Int32) : Fs := up2 (up2 (up2 (up2 (up2 (up2 F k 0 h) k 1 s) k 2 n) k 3 0) k 4 0) k 5 1
def cpw1 (F : Fs) (k k2 : Nat) : Fs := up2 F k 0 (F k2 0)
def cpw2 (F : Fs) (k k2 : Nat) : Fs := up2 (cpw1 F k k2) k 1 (cpw1 F k k2 k2 1)
def cpw3 (F : Fs) (k k2 : Nat) : Fs := up2 (cpw2 F k k2) k 2 (cpw2 F k k2 k2 2)
def cpw4 (F : Fs) (k k2 : Nat) : Fs := up2 (cpw3 F k k2) k 3 (cpw3 F k k2 k2 3)
def cpw5 (F : Fs) (k k2 : Nat) : Fs := up2 (cpw4 F k k2) k 4 (cpw4 F k k2 k2 4)
def cpwF (F : Fs) (k k2 : Nat) : Fs := up2 (cpw5 F k k2) k 5 (cpw5 F k k2 k2 5)
theorem cpw5_5 (F : Fs) (k k2 : Nat) : cpw5 F k k2 k2 5 = F k2 5 := by simp [cpw5, cpw4, cpw3, cpw2, cpw1, up2]
def entF (F : Fs) (b j : Nat) (h s n : Int32) : Fs := up2 (begF F (wb b j) h s n) b 6 (begF F (wb b j) h s n b 6 + 1)
def hdr1 (F : Fs) : Fs := up2 F 2 0 (F 1 0)
def hdr2 (F : Fs) : Fs := up2 (hdr1 F) 2 1 (hdr1 F 1 1)
def hdr3 (F : Fs) : Fs := up2 (hdr2 F) 2 2 (hdr2 F 1 2)
def hdr4 (F : Fs) : Fs := up2 (hdr3 F) 2 3 (hdr3 F 1 3)
def hdr5 (F : Fs) : Fs := up2 (hdr4 F) 2 4 (hdr4 F 1 4)
def hdr6 (F : Fs) : Fs := up2 (hdr5 F) 2 5 (hdr5 F 1 5)
def hdrF (F : Fs) : Fs := up2 (hdr6 F) 2 6 (hdr6 F 1 6)
def cpyL : Nat → Nat → Fs → Fs
  | 0, _, F => F
  | n + 1, i, F => cpyL n (i + 1) (cpwF F (wb 2 i) (wb 1 i))
def cpyF (F : Fs) (n : Nat) : Fs := cpyL n 0 (hdrF F)
theorem up2_at (F : Fs) (k j : Nat) (v : Int32) (a b : Nat) : up2 F k j v a b = if a = k ∧ b = j then v else F a b := rfl
theorem cpwF_ne (F : Fs) (k k2 : Nat) {a : Nat} (h : a ≠ k) (b : Nat) : cpwF F k k2 a b = F a b := by simp [cpwF, cpw5, cpw4, cpw3, cpw2, cpw1, up2, h]
theorem cpwF_eq (F : Fs) (k k2 : Nat) {j : Nat} (h : j < 6) : cpwF F k k2 k j = F k2 j := by
  rcases (show j = 0 ∨ j = 1 ∨ j = 2 ∨ j = 3 ∨ j = 4 ∨ j = 5 by omega) with rfl | rfl | rfl | rfl | rfl | rfl <;> simp [cpwF, cpw5, cpw4, cpw3, cpw2, cpw1, up2]
theorem hdrF_eq (F : Fs) {j : Nat} (h : j < 7) : hdrF F 2 j = F 1 j := by
  rcases (show j = 0 ∨ j = 1 ∨ j = 2 ∨ j = 3 ∨ j = 4 ∨ j = 5 ∨ j = 6 by omega) with rfl | rfl | rfl | rfl | rfl | rfl | rfl <;> simp [hdrF, hdr6, hdr5, hdr4, hdr3, hdr2, hdr1, up2]
theorem hdrF_ne (F : Fs) {a : Nat} (h : a ≠ 2) (b : Nat) : hdrF F a b = F a b := by simp [hdrF, hdr6, hdr5, hdr4, hdr3, hdr2, hdr1, up2, h]
theorem wb_ne {b j a : Nat} (hB : b = 1 ∨ b = 2) (h : a < 5) : a ≠ wb b j := by unfold wb; omega
theorem wb_ne2 {i j : Nat} (hi : i < 8) : wb 1 i ≠ wb 2 j := by unfold wb; omega
def cmL (F : Fs) (b : Nat) : Nat → Nat → Int32 → Int32
  | 0, _, acc => acc
  | n + 1, i, acc => cmL F b n (i + 1) (if F (wb b i) 5 = 0 then acc + 0 else acc + 1)
def pay1 (F : Fs) (b n : Nat) : Fs := up2 F b 1 (F b 1 + F b 2 * cmL F b n 0 0)
def pay2 (F : Fs) (b n : Nat) : Fs := up2 (pay1 F b n) b 1 (pay1 F b n b 1 - (pay1 F b n b 4 / 20 + 1))
def pay3 (F : Fs) (b n : Nat) : Fs := up2 (pay2 F b n) b 5 (pay2 F b n b 5 - (pay1 F b n b 4 / 20 + 1))
def payF (F : Fs) (b n : Nat) : Fs := if pay1 F b n b 4 = 0 then pay1 F b n else pay3 F b n
def wk1 (F : Fs) (k : Nat) (noon : Int32) : Fs := up2 F k 3 (woI (F k 0) (F k 1) (F k 3) noon)
def wkc (F : Fs) (k : Nat) (sun noon : Int32) : Int32 := coI (wk1 F k noon k 0) (wk1 F k noon k 2) sun
def wkl (F : Fs) (k : Nat) (sun noon : Int32) : Int32 := wkc F k sun noon - owI (wk1 F k noon k 5) (wkc F k sun noon) noon
def wkr (F : Fs) (b k : Nat) (sun noon : Int32) : Int32 := reI (wkl F k sun noon) (wk1 F k noon b 3) (wk1 F k noon b 4)
def wk2 (F : Fs) (b k : Nat) (sun noon : Int32) : Fs := up2 (wk1 F k noon) b 1 (wk1 F k noon b 1 - (wkl F k sun noon - wkr F b k sun noon))
def wk3 (F : Fs) (b k : Nat) (sun noon : Int32) : Fs := up2 (wk2 F b k sun noon) b 5 (wk2 F b k sun noon b 5 + wkr F b k sun noon)
def wkF (F : Fs) (b k : Nat) (sun noon : Int32) : Fs := if 10 ≤ wk1 F k noon k 3 then fallF (wk3 F b k sun noon) k else wk1 F k noon
def wkR (F : Fs) (k : Nat) (noon : Int32) : Int32 := if 10 ≤ wk1 F k noon k 3 then 1 else 0
def hrL (b : Nat) (sun noon : Int32) : Nat → Nat → Int32 → Fs → Int32 × Fs
  | 0, _, acc, F => (acc, F)
  | n + 1, i, acc, F => hrL b sun noon n (i + 1) (if wkR F (wb b i) noon = 0 then acc + 0 else acc + 1) (wkF F b (wb b i) sun noon)
def hr0 (F : Fs) (b n h : Nat) : Int32 × Fs := hrL b (sunAtI (nI (h % 12))) (noonAtI (nI (h % 12))) n 0 0 (if nI (h % 12) = 0 then payF F b n else F)
def hrF (F : Fs) (b n h : Nat) : Fs := up2 (hr0 F b n h).2 b 0 ((hr0 F b n h).2 b 0 + 1)
def hrR (F : Fs) (b n h : Nat) : Int32 := (hr0 F b n h).1
def gbL (b n : Nat) : Nat → Nat → Int32 → Fs → Int32 × Fs
  | 0, _, acc, F => (acc, F)
  | k + 1, h, acc, F => gbL b n k (h + 1) (acc + hrR F b n h) (hrF F b n h)
theorem sun_pos (h : Nat) : 1 ≤ sunAtI (nI (h % 12)) := by
  have key : ∀ d, d < 12 → 1 ≤ sunAtI (nI d) := by decide
  exact key _ (Nat.mod_lt _ (by decide))
theorem pay_ne (F : Fs) (b n : Nat) {a j : Nat} (h : ¬ (a = b ∧ (j = 1 ∨ j = 5))) : payF F b n a j = F a j := by
  have h1 : ¬ (a = b ∧ j = 1) := fun q => h ⟨q.1, Or.inl q.2⟩
  have h5 : ¬ (a = b ∧ j = 5) := fun q => h ⟨q.1, Or.inr q.2⟩
  unfold payF
  split
  · simp only [pay1, up2_at, if_neg h1]
  · simp only [pay3, pay2, pay1, up2_at, if_neg h1, if_neg h5]
theorem wk_ne (F : Fs) (b k : Nat) (sun noon : Int32) {a j : Nat} (h : ¬ (a = b ∧ (j = 1 ∨ j = 5))) (h2 : a ≠ k) : wkF F b k sun noon a j = F a j := by
  have h1 : ¬ (a = b ∧ j = 1) := fun q => h ⟨q.1, Or.inl q.2⟩
  have h5 : ¬ (a = b ∧ j = 5) := fun q => h ⟨q.1, Or.inr q.2⟩
  unfold wkF
  split
  · simp only [fallF, wk3, wk2, wk1, up2_at, if_neg h1, if_neg h5, h2, false_and, if_false]
  · simp only [wk1, up2_at, h2, false_and, if_false]
theorem hrL_ne (b : Nat) (sun noon : Int32) {a j : Nat} (h : ¬ (a = b ∧ (j = 1 ∨ j = 5))) : ∀ (n i : Nat) (acc : Int32) (F : Fs), (∀ q, i ≤ q → q < i + n → a ≠ wb b q) → (hrL b sun noon n i acc F).2 a j = F a j := by
  intro n
  induction n with
  | zero => intro i acc F _; rfl
  | succ n ih =>
    intro i acc F hq
    show (hrL b sun noon n (i + 1) _ _).2 a j = F a j
    rw [ih (i + 1) _ _ (fun q h1 h2 => hq q (by omega) (by omega))]
    exact wk_ne F b _ sun noon h (hq i (Nat.le_refl _) (by omega))
theorem hrF_ne (F : Fs) (b n h : Nat) {a j : Nat} (h0 : ¬ (a = b ∧ (j = 0 ∨ j = 1 ∨ j = 5))) (hw : ∀ q, q < n → a ≠ wb b q) : hrF F b n h a j = F a j := by
  have e1 : ¬ (a = b ∧ (j = 1 ∨ j = 5)) := fun q => h0 ⟨q.1, Or.inr q.2⟩
  unfold hrF
  rw [up2_ne _ _ (fun q => h0 ⟨q.1, Or.inl q.2⟩)]
  unfold hr0
  rw [hrL_ne b _ _ e1 n 0 _ _ (fun q _ h2 => hw q (by omega))]
  split
  · exact pay_ne F b n e1
  · rfl
theorem hrF_hour (F : Fs) (b n h : Nat) (hB : b = 1 ∨ b = 2) : hrF F b n h b 0 = F b 0 + 1 := by
  unfold hrF
  rw [up2_s]
  unfold hr0
  rw [hrL_ne b _ _ (a := b) (j := 0) (by omega) n 0 _ _ (fun q _ _ => wb_ne hB (by omega))]
  split
  · rw [pay_ne F b n (by omega)]
  · rfl
theorem wk_mem (F : Fs) (b k : Nat) (sun noon : Int32) (hk : 5 ≤ k) (hb : b < 5) (a : Nat) : wkF F b k sun noon a 5 = F a 5 ∨ a = b := by
  by_cases h : a = b
  · exact Or.inr h
  · refine Or.inl ?_
    unfold wkF
    split <;> simp [fallF, wk3, wk2, wk1, up2, h]
