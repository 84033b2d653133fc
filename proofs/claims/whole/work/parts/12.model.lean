/-! what the reference's methods answer and do, in plain words over F -/
def noM (h : Nat) : Int32 := if nI (h % 12) = 5 then 1 else if nI (h % 12) = 6 then 1 else 0
theorem noM01 (h : Nat) : noM h = 0 ∨ noM h = 1 := by
  unfold noM
  split
  · exact Or.inr rfl
  · split
    · exact Or.inr rfl
    · exact Or.inl rfl
theorem noM_eq (h : Nat) : noM h = noH h := by
  have key : ∀ d, d < 12 → (if nI d = 5 then (1 : Int32) else if nI d = 6 then 1 else 0) = noonAtI (nI d) := by decide
  exact key _ (Nat.mod_lt _ (by decide))
theorem sunT_eq (h : Nat) : sunT (h % 12) = suH h := by
  have key : ∀ d, d < 12 → sunT d = sunAtI (nI d) := by decide
  exact key _ (Nat.mod_lt _ (by decide))
theorem isW_ok {j n : Nat} (hj : j < n) (hn8 : n ≤ 8) : inR (nI j) 0 (nI n - 1) = 1 := by
  obtain ⟨m, rfl⟩ : ∃ m, n = m + 1 := ⟨n - 1, by omega⟩
  unfold inR
  rw [if_neg (nI_pos (by omega)), nI_pred, if_neg (nI_nlt (by omega) (by omega))]
theorem isW_no {x : Int32} {n : Nat} (hn8 : n ≤ 8) (h : x < 0 ∨ nI n ≤ x) : inR x 0 (nI n - 1) = 0 := by
  unfold inR
  by_cases h0 : x < 0
  · rw [if_pos h0]
  · rw [if_neg h0]
    have h1 : nI n - 1 < x := by
      have h2 := h.resolve_left h0
      rcases Nat.eq_zero_or_pos n with rfl | hp
      · have h3 : (0 : Int32) ≤ x := Int32.not_lt.mp h0
        exact Int32.lt_of_lt_of_le (by decide) h3
      · obtain ⟨m, rfl⟩ : ∃ m, n = m + 1 := ⟨n - 1, by omega⟩
        rw [nI_pred]
        exact Int32.lt_of_lt_of_le (nI_lt (by omega) (by omega)) h2
    rw [if_pos h1]
def rmI (claim ret lim : Int32) : Int32 := if mx0 (claim - ret) < lim then mx0 (claim - ret) else lim
def kpF (F : Fs) : Fs := upA F 26 (va_cpy (F 25) (F 26) 0 0 29)
def brF (F : Fs) : Fs := upA F 25 (va_cpy (F 26) (F 25) 0 0 29)
def coM (F : Fs) (j h : Nat) : Int32 := coI (F 22 j) (F 25 (5 + j)) (suH h)
def owM (F : Fs) (j h : Nat) : Int32 := owI (F 24 j) (coM F j h) (noM h)
def reM (F : Fs) (j h : Nat) : Int32 := rmI (coM F j h - owM F j h) (F 21 2) (F 25 3)
def poM (F : Fs) (j h : Nat) : Int32 := coM F j h - owM F j h - reM F j h
def inL (F : Fs) : Nat → Nat → Int32 → Int32
  | 0, _, acc => acc
  | n + 1, i, acc => inL F n (i + 1) (if F 24 i = 0 then acc + 0 else acc + 1)
def pm1 (F : Fs) (n : Nat) : Fs := up2 F 25 1 (F 25 1 + F 25 2 * inL F n 0 0)
def pm2 (F : Fs) (n : Nat) : Fs := up2 (pm1 F n) 25 1 (pm1 F n 25 1 - (pm1 F n 25 3 / 20 + 1))
def pm3 (F : Fs) (n : Nat) : Fs := up2 (pm2 F n) 25 4 (pm2 F n 25 4 - (pm1 F n 25 3 / 20 + 1))
def pmF (F : Fs) (n : Nat) : Fs := if pm1 F n 25 3 = 0 then pm1 F n else pm3 F n
def flm1 (F : Fs) (j h : Nat) : Fs := up2 F 25 1 (F 25 1 - poM F j h)
def flm2 (F : Fs) (j h : Nat) : Fs := up2 (flm1 F j h) 25 4 (flm1 F j h 25 4 + reM (flm1 F j h) j h)
def flm3 (F : Fs) (j h : Nat) : Fs := up2 (flm2 F j h) 25 (5 + j) (mx0 (flm2 F j h 25 (5 + j) - 1))
def flm4 (F : Fs) (j h : Nat) : Fs := up2 (flm3 F j h) 25 (13 + j) 0
def flmF (F : Fs) (j h : Nat) : Fs := up2 (flm4 F j h) 25 (21 + j) (flm4 F j h 25 (21 + j) + 1)
def wmI (ht sk before noon : Int32) : Int32 := if noon = 0 then mx0 (before + ht / 5 + 1 - sk) else mx0 (before + ht / 5 + 2 - sk)
def hw1 (F : Fs) (j h : Nat) : Fs := up2 F 25 (13 + j) (wmI (F 22 j) (F 23 j) (F 25 (13 + j)) (noM h))
def hoL (h : Nat) : Nat → Nat → Int32 → Fs → Int32 × Fs
  | 0, _, acc, F => (acc, F)
  | n + 1, i, acc, F => if 10 ≤ hw1 F i h 25 (13 + i) then hoL h n (i + 1) (acc + 1) (flmF (hw1 F i h) i h) else hoL h n (i + 1) acc (hw1 F i h)
def ho0 (F : Fs) (n h : Nat) : Int32 × Fs := hoL h n 0 0 (if nI (h % 12) = 0 then pmF F n else F)
def hoF (F : Fs) (n h : Nat) : Fs := up2 (ho0 F n h).2 25 0 ((ho0 F n h).2 25 0 + 1)
def hoR (F : Fs) (n h : Nat) : Int32 := (ho0 F n h).1
def gmL (n : Nat) : Nat → Nat → Int32 → Fs → Int32 × Fs
  | 0, _, acc, F => (acc, F)
  | k + 1, h, acc, F => gmL n k (h + 1) (acc + hoR F n h) (hoF F n h)
/-- what hours leave alone in the reference: all but its row 'now', there all but fund, loss, hour, net, wobble, fell -/
theorem pmF_ne (F : Fs) (n : Nat) {a j : Nat} (h : ¬ (a = 25 ∧ (j = 1 ∨ j = 4))) : pmF F n a j = F a j := by
  have h1 : ¬ (a = 25 ∧ j = 1) := fun q => h ⟨q.1, Or.inl q.2⟩
  have h4 : ¬ (a = 25 ∧ j = 4) := fun q => h ⟨q.1, Or.inr q.2⟩
  unfold pmF
  split
  · simp only [pm1, up2_at, if_neg h1]
  · simp only [pm3, pm2, pm1, up2_at, if_neg h1, if_neg h4]
theorem hw1_ne (F : Fs) (j h : Nat) {a q : Nat} (hn : ¬ (a = 25 ∧ q = 13 + j)) : hw1 F j h a q = F a q := by
  unfold hw1; exact up2_ne _ _ hn
theorem flmF_ne (F : Fs) (j h : Nat) {a q : Nat} (hn : ¬ (a = 25 ∧ (q = 1 ∨ q = 4 ∨ q = 5 + j ∨ q = 13 + j ∨ q = 21 + j))) : flmF F j h a q = F a q := by
  have h1 : ¬ (a = 25 ∧ q = 1) := fun z => hn ⟨z.1, Or.inl z.2⟩
  have h2 : ¬ (a = 25 ∧ q = 4) := fun z => hn ⟨z.1, Or.inr (Or.inl z.2)⟩
  have h3 : ¬ (a = 25 ∧ q = 5 + j) := fun z => hn ⟨z.1, Or.inr (Or.inr (Or.inl z.2))⟩
  have h4 : ¬ (a = 25 ∧ q = 13 + j) := fun z => hn ⟨z.1, Or.inr (Or.inr (Or.inr (Or.inl z.2)))⟩
  have h5 : ¬ (a = 25 ∧ q = 21 + j) := fun z => hn ⟨z.1, Or.inr (Or.inr (Or.inr (Or.inr z.2)))⟩
  simp only [flmF, flm4, flm3, flm2, flm1, up2_at, if_neg h1, if_neg h2, if_neg h3, if_neg h4, if_neg h5]
theorem hoL_ne (h : Nat) {a q : Nat} (hn : ¬ (a = 25 ∧ (q = 1 ∨ q = 4 ∨ 5 ≤ q))) : ∀ (n i : Nat) (acc : Int32) (F : Fs), (hoL h n i acc F).2 a q = F a q := by
  intro n
  induction n with
  | zero => intro i acc F; rfl
  | succ n ih =>
    intro i acc F
    unfold hoL
    have e1 : ∀ F : Fs, hw1 F i h a q = F a q := fun F => hw1_ne F i h (by omega)
    split
    · rw [ih, flmF_ne _ _ _ (by omega), e1]
    · rw [ih, e1]
theorem hoF_ne (F : Fs) (n h : Nat) {a q : Nat} (hn : ¬ (a = 25 ∧ (q = 0 ∨ q = 1 ∨ q = 4 ∨ 5 ≤ q))) : hoF F n h a q = F a q := by
  unfold hoF
  rw [up2_ne _ _ (by omega)]
  unfold ho0
  rw [hoL_ne h (by omega)]
  split
  · exact pmF_ne F n (by omega)
  · rfl
theorem hoF_hour (F : Fs) (n h : Nat) : hoF F n h 25 0 = F 25 0 + 1 := by
  unfold hoF
  rw [up2_s]
  unfold ho0
  rw [hoL_ne h (by omega)]
  split
  · rw [pmF_ne F n (by omega)]
  · rfl
theorem gmL_ne (n : Nat) {a q : Nat} (hn : ¬ (a = 25 ∧ (q = 0 ∨ q = 1 ∨ q = 4 ∨ 5 ≤ q))) : ∀ (k t : Nat) (acc : Int32) (F : Fs), (gmL n k t acc F).2 a q = F a q := by
  intro k
  induction k with
  | zero => intro t acc F; rfl
  | succ k ih =>
    intro t acc F
    show (gmL n k (t + 1) _ _).2 a q = F a q
    rw [ih, hoF_ne F n t hn]
theorem gmL_0 (n : Nat) : ∀ (k t : Nat) (acc : Int32) (F : Fs) (h : Nat), F 25 0 = nI h → (gmL n k t acc F).2 25 0 = nI (h + k) := by
  intro k
  induction k with
  | zero => intro t acc F h h0; exact h0
  | succ k ih =>
    intro t acc F h h0
    show (gmL n k (t + 1) _ _).2 25 0 = nI (h + (k + 1))
    rw [ih (t + 1) _ _ (h + 1) (by rw [hoF_hour F n t, h0]; exact nI_1 h)]
    congr 1; omega
theorem kpF_ne (F : Fs) {a : Nat} (h : a ≠ 26) : kpF F a = F a := upA_row F 26 _ h
theorem brF_ne (F : Fs) {a : Nat} (h : a ≠ 25) : brF F a = F a := upA_row F 25 _ h
theorem kpF_in (F : Fs) {q : Nat} (h : q < 29) : kpF F 26 q = F 25 q := by
  unfold kpF
  rw [upA_s, pk_cpy_in (Nat.zero_le _) (by omega)]
  congr 1; omega
theorem brF_in (F : Fs) {q : Nat} (h : q < 29) : brF F 25 q = F 26 q := by
  unfold brF
  rw [upA_s, pk_cpy_in (Nat.zero_le _) (by omega)]
  congr 1; omega
def bst (i b : Nat) : Int32 := if i = 0 then -1 else nI b
theorem bst_ne {i b : Nat} (h : ¬ bst i b = -1) : bst i b = nI b := by
  unfold bst at *
  split
  · rename_i h0; rw [if_pos h0] at h; exact absurd rfl h
  · rfl
def lmL (F : Fs) (sun : Int32) : Nat → Nat → Nat → Int32
  | 0, i, b => bst i b
  | n + 1, i, b => if bst i b = -1 then lmL F sun n (i + 1) i else if shI (F 22 i) sun ≤ shI (F 22 b) sun then lmL F sun n (i + 1) b else lmL F sun n (i + 1) i
def hmL (w n h : Nat) : Nat → Nat → Int32 → Fs → Int32 × Fs
  | 0, _, told, F => (told, F)
  | k + 1, i, told, F => if told = -1 then (if hoF F n (h + i) 25 (21 + w) ≤ hoF F n (h + i) 26 (21 + w) then hmL w n h k (i + 1) told (hoF F n (h + i)) else hmL w n h k (i + 1) (nI (i + 1)) (hoF F n (h + i))) else (told, F)
def hmR (F : Fs) (w n h : Nat) : Int32 := (hmL w n h 100 0 (-1) (kpF F)).1
def hmF (F : Fs) (w n h : Nat) : Fs := brF (hmL w n h 100 0 (-1) (kpF F)).2
def nwL (F : Fs) : Nat → Int32 → Int32
  | 0, told => told
  | m + 1, told => if F 25 (21 + m) ≤ F 26 (21 + m) then nwL F m told else nwL F m (nI m)
def nmL (n h : Nat) : Nat → Nat → Int32 → Fs → Int32 × Fs
  | 0, _, told, F => (told, F)
  | k + 1, i, told, F => if told = -1 then (if hoR F n (h + i) = 0 then nmL n h k (i + 1) told (hoF F n (h + i)) else nmL n h k (i + 1) (nwL (hoF F n (h + i)) n told) (hoF F n (h + i))) else (told, F)
def nmR (F : Fs) (n h : Nat) : Int32 := (nmL n h 100 0 (-1) (kpF F)).1
def nmF (F : Fs) (n h : Nat) : Fs := brF (nmL n h 100 0 (-1) (kpF F)).2
def fdR (F : Fs) (n h t : Nat) : Int32 := (gmL n t h 0 F).2 25 1
def fdF (F : Fs) (n h t : Nat) : Fs := brF (gmL n t h 0 F).2
def rmL (n h : Nat) : Nat → Nat → Fs → Int32 × Fs
  | 0, _, F => (-1, F)
  | k + 1, i, F => if F 25 1 < 0 then (nI i, F) else rmL n h k (i + 1) (hoF F n (h + i))
def bm1 (F : Fs) (i : Nat) : Fs := up2 F 25 3 (nI (20 * i))
def bmL (n h : Nat) : Nat → Nat → Int32 → Int32 → Fs → Int32 × Fs
  | 0, _, best, _, F => (best, F)
  | k + 1, i, best, most, F => if nI (20 * i) ≤ 0 then bmL n h k (i + 1) (nI (20 * i)) (fdR (bm1 F i) n h 48) (fdF (bm1 F i) n h 48) else if most < fdR (bm1 F i) n h 48 then bmL n h k (i + 1) (nI (20 * i)) (fdR (bm1 F i) n h 48) (fdF (bm1 F i) n h 48) else bmL n h k (i + 1) best most (fdF (bm1 F i) n h 48)
def bmF (F : Fs) (n h : Nat) : Int32 × Fs := bmL n h 6 0 0 0 (kpF F)
def am1 (F : Fs) (i : Nat) : Fs := up2 F 25 2 (nI i)
def amL (n h : Nat) : Nat → Nat → Fs → Int32 × Fs
  | 0, _, F => (-1, F)
  | k + 1, i, F => if fdR (am1 F i) n h 48 < fdF (am1 F i) n h 48 26 1 then amL n h k (i + 1) (fdF (am1 F i) n h 48) else (nI i, fdF (am1 F i) n h 48)
def amF (F : Fs) (n h : Nat) : Int32 × Fs := amL n h 10 0 (kpF F)
def tmL (F : Fs) (sun : Int32) : Nat → Nat → Int32 → Int32
  | 0, _, acc => acc
  | n + 1, i, acc => tmL F sun n (i + 1) (acc + shI (F 22 i) sun)
def tmD (F : Fs) (n h : Nat) : UInt64 := if nI n = 0 then FP.dconst0 else FP.ddiv (FP.i2d (tmL F (suH h) n 0 0)) (FP.i2d (nI n))
def huM (h : Nat) : Int32 := if 5 ≤ nI (h % 12) then (if 7 ≤ nI (h % 12) then 17 - nI (h % 12) else 0) else 5 - nI (h % 12)
def th0 (F : Fs) (v : Int32) : Fs := up2 F 21 0 v
def amA (F : Fs) (n : Nat) (hi sk nt : Int32) : Fs := up2 (up2 (up2 (up2 (up2 (th0 F 0) 22 n hi) 23 n sk) 24 n 1) 25 (5 + n) nt) 21 1 (nI (n + 1))
/-- what the reference's methods ask of F: n walkers, hour h -/
def okM (F : Fs) (n h : Nat) : Prop := F 21 1 = nI n ∧ F 25 0 = nI h
theorem okM_th {F : Fs} {n h : Nat} (o : okM F n h) (v : Int32) : okM (th0 F v) n h := ⟨by rw [th0, up2_ne _ _ (by decide)]; exact o.1, by rw [th0, up2_ne _ _ (by decide)]; exact o.2⟩
theorem okM_kp {F : Fs} {n h : Nat} (o : okM F n h) : okM (kpF F) n h := ⟨by rw [kpF_ne F (by decide)]; exact o.1, by rw [kpF_ne F (by decide)]; exact o.2⟩
theorem okM_ho {F : Fs} {n h t : Nat} (o : okM F n h) : okM (hoF F n t) n (h + 1) := ⟨by rw [hoF_ne F n t (by decide)]; exact o.1, by rw [hoF_hour F n t, o.2]; exact nI_1 h⟩
theorem okM_fd {F : Fs} {n h t : Nat} (o : okM F n h) (hk : F 26 0 = nI h) : okM (fdF F n h t) n h ∧ fdF F n h t 26 0 = nI h := by
  have e26 : (gmL n t h 0 F).2 26 0 = nI h := by rw [gmL_ne n (by omega)]; exact hk
  refine ⟨⟨?_, ?_⟩, ?_⟩
  · unfold fdF; rw [brF_ne _ (by decide), gmL_ne n (by omega)]; exact o.1
  · unfold fdF; rw [brF_in _ (by decide)]; exact e26
  · unfold fdF; rw [brF_ne _ (by decide)]; exact e26
