/-! what the class's public methods answer, in plain words over F: n walkers, hour h -/
def fmI (x : Int32) : Int32 := if 0 ≤ x ^^^ 12 then x - x / 12 * 12 else if x - x / 12 * 12 = 0 then x - x / 12 * 12 else x - x / 12 * 12 + 12
theorem noon01 (d : Int32) : noonAtI d = 0 ∨ noonAtI d = 1 := by
  unfold noonAtI
  split
  · exact Or.inl rfl
  · split
    · exact Or.inl rfl
    · exact Or.inr rfl
theorem z01 {v : Int32} (h : v = 0 ∨ v = 1) : narrow .boolean (.int v) = .int v := by rcases h with rfl | rfl <;> rfl
theorem inR01 (v lo hi : Int32) : inR v lo hi = 0 ∨ inR v lo hi = 1 := by
  unfold inR
  split
  · exact Or.inl rfl
  · split
    · exact Or.inl rfl
    · exact Or.inr rfl
def suH (h : Nat) : Int32 := sunAtI (nI (h % 12))
def noH (h : Nat) : Int32 := noonAtI (nI (h % 12))
def huN (h : Nat) : Int32 := if noonAtI (nI (h % 12)) = 0 then fmI (5 - nI (h % 12)) else 0
def loL (F : Fs) (sun : Int32) : Nat → Nat → Int32 → Int32 → Int32
  | 0, _, best, _ => best
  | n + 1, i, best, len => if shI (F (wb 1 i) 0) sun ≤ len then loL F sun n (i + 1) best len else loL F sun n (i + 1) (nI i) (shI (F (wb 1 i) 0) sun)
def clI (F : Fs) (k : Nat) (sun noon : Int32) : Int32 := coI (F k 0) (F k 2) sun - owI (F k 5) (coI (F k 0) (F k 2) sun) noon
def fbI (F : Fs) (k h : Nat) : Int32 := faB (F k 0) (F k 1) h 100 0 (F k 3)
def nfL (F : Fs) (h : Nat) : Nat → Nat → Int32 → Int32 → Int32
  | 0, _, nx, _ => nx
  | n + 1, i, nx, so => if fbI F (wb 1 i) h ≤ 0 then nfL F h n (i + 1) nx so else if so ≤ fbI F (wb 1 i) h then nfL F h n (i + 1) nx so else nfL F h n (i + 1) (nI i) (fbI F (wb 1 i) h)
def fb0 (F : Fs) (n : Nat) (rate lim : Int32) : Fs := up2 (up2 (cpyF F n) 2 2 rate) 2 4 lim
def fbF (F : Fs) (n h t : Nat) (rate lim : Int32) : Fs := (gbL 2 n t h 0 (fb0 F n rate lim)).2
def ruL (n : Nat) : Nat → Nat → Nat → Fs → Int32 × Fs
  | 0, _, _, F => (if 0 ≤ F 2 1 then -1 else 100, F)
  | k + 1, i, h, F => if 0 ≤ F 2 1 then ruL n k (i + 1) (h + 1) (gbL 2 n 1 h 0 F).2 else (nI i, F)
def beL (n h : Nat) : Nat → Nat → Int32 → Int32 → Fs → Int32 × Fs
  | 0, _, best, _, F => (best, F)
  | k + 1, i, best, gr, F => if fbF F n h 48 (F 1 2) (nI (20 * (i + 1))) 2 1 ≤ gr then beL n h k (i + 1) best gr (fbF F n h 48 (F 1 2) (nI (20 * (i + 1)))) else beL n h k (i + 1) (nI (20 * (i + 1))) (fbF F n h 48 (F 1 2) (nI (20 * (i + 1))) 2 1) (fbF F n h 48 (F 1 2) (nI (20 * (i + 1))))
def be0 (F : Fs) (n h : Nat) : Fs := fbF F n h 48 (F 1 2) 0
def beF (F : Fs) (n h : Nat) : Int32 × Fs := beL n h 5 0 0 (be0 F n h 2 1) (be0 F n h)
def fiL (n h : Nat) : Nat → Nat → Fs → Int32 × Fs
  | 0, _, F => (-1, F)
  | k + 1, i, F => if fbF F n h 48 (nI i) (F 1 4) 2 1 < fbF F n h 48 (nI i) (F 1 4) 1 1 then fiL n h k (i + 1) (fbF F n h 48 (nI i) (F 1 4)) else (nI i, fbF F n h 48 (nI i) (F 1 4))
def fiF (F : Fs) (n h : Nat) : Int32 × Fs := fiL n h 10 0 F
def msL (F : Fs) (sun : Int32) : Nat → Nat → Int32 → Int32
  | 0, _, acc => acc
  | n + 1, i, acc => msL F sun n (i + 1) (acc + shI (F (wb 1 i) 0) sun)
def msD (F : Fs) (n h : Nat) : UInt64 := if nI n = 0 then FP.dconst0 else FP.ddiv (FP.i2d (msL F (suH h) n 0 0)) (FP.i2d (nI n))
def chI (d : Int64) (x : Int32) : Int64 := d * 31 + x.toInt64
def cw3 (F : Fs) (k : Nat) (d : Int64) : Int64 := chI (chI (chI (chI d (if F k 5 = 0 then 0 else 1)) (F k 2)) (F k 3)) (F k 4)
def cw5 (F : Fs) (k : Nat) (sun : Int32) (d : Int64) : Int64 := chI (chI (cw3 F k d) (shI (F k 0) sun)) (coI (F k 0) (F k 2) sun)
def cwkI (F : Fs) (k : Nat) (sun noon : Int32) (d : Int64) : Int64 := chI (chI (cw5 F k sun d) (clI F k sun noon - reI (clI F k sun noon) (F 1 3) (F 1 4))) (reI (clI F k sun noon) (F 1 3) (F 1 4))
def dgL (F : Fs) (sun noon : Int32) : Nat → Nat → Int64 → Int64
  | 0, _, d => d
  | n + 1, i, d => dgL F sun noon n (i + 1) (cwkI F (wb 1 i) sun noon d)
def dg9 (F : Fs) (n h : Nat) : Int64 := chI (chI (chI (chI (chI (chI (chI (chI (chI 2069 (F 1 0)) (suH h)) (F 1 6)) (cmL F 1 n 0 0)) (F 1 1)) (F 1 2)) (F 1 3)) (F 1 4)) (F 1 5)
def dgF (F : Fs) (n h : Nat) : Fs := (fiF (beF F n h).2 n h).2
def dgH (F : Fs) (n h : Nat) : Int64 := chI (chI (chI (dg9 F n h) (nfL F h n 0 (-1) 101)) (beF F n h).1) (fiF (beF F n h).2 n h).1
def dgI (F : Fs) (n h : Nat) : Int64 := dgL (dgF F n h) (suH h) (noH h) n 0 (dgH F n h)
/-- a place that no hour in the second book touches -/
def offT (n a : Nat) : Prop := a ≠ 2 ∧ ∀ q, q < n → a ≠ wb 2 q
theorem cpyL_ne {a : Nat} : ∀ (n i : Nat) (F : Fs) (b : Nat), (∀ q, i ≤ q → q < i + n → a ≠ wb 2 q) → cpyL n i F a b = F a b := by
  intro n
  induction n with
  | zero => intro i F b _; rfl
  | succ n ih =>
    intro i F b hq
    show cpyL n (i + 1) _ a b = F a b
    rw [ih (i + 1) _ b (fun q h1 h2 => hq q (by omega) (by omega)), cpwF_ne _ _ _ (hq i (Nat.le_refl _) (by omega))]
theorem cpyF_ne (F : Fs) (n : Nat) {a : Nat} (h : offT n a) (b : Nat) : cpyF F n a b = F a b := by
  unfold cpyF
  rw [cpyL_ne n 0 _ b (fun q _ h2 => h.2 q (by omega)), hdrF_ne F h.1]
theorem cpyF_2 (F : Fs) (n : Nat) {j : Nat} (h : j < 7) : cpyF F n 2 j = F 1 j := by
  unfold cpyF
  rw [cpyL_ne n 0 _ j (fun q _ h2 => wb_ne (Or.inr rfl) (by decide)), hdrF_eq F h]
theorem gbL_ne (n : Nat) {a : Nat} (h : offT n a) : ∀ (k t : Nat) (acc : Int32) (F : Fs) (b : Nat), (gbL 2 n k t acc F).2 a b = F a b := by
  intro k
  induction k with
  | zero => intro t acc F b; rfl
  | succ k ih =>
    intro t acc F b
    show (gbL 2 n k (t + 1) _ _).2 a b = F a b
    rw [ih, hrF_ne F 2 n t (fun q => h.1 q.1) h.2]
theorem fbF_ne (F : Fs) (n h t : Nat) (rate lim : Int32) {a : Nat} (ho : offT n a) (b : Nat) : fbF F n h t rate lim a b = F a b := by
  unfold fbF fb0
  rw [gbL_ne n ho, up2_ne _ _ (fun q => ho.1 q.1), up2_ne _ _ (fun q => ho.1 q.1), cpyF_ne F n ho]
theorem off1 (n : Nat) : offT n 1 := ⟨by decide, fun q _ => wb_ne (Or.inr rfl) (by decide)⟩
theorem offw {n j : Nat} (hj : j < 8) : offT n (wb 1 j) := ⟨Ne.symm (wb_ne (Or.inl rfl) (by decide)), fun q _ => wb_ne2 hj⟩
theorem gbL_6 (b n : Nat) (hB : b = 1 ∨ b = 2) : ∀ (k t : Nat) (acc : Int32) (F : Fs), (gbL b n k t acc F).2 b 6 = F b 6 := by
  intro k
  induction k with
  | zero => intro t acc F; rfl
  | succ k ih =>
    intro t acc F
    show (gbL b n k (t + 1) _ _).2 b 6 = F b 6
    rw [ih, hrF_ne F b n t (by omega) (fun q _ => wb_ne hB (by omega))]
theorem gbL_0 (b n : Nat) (hB : b = 1 ∨ b = 2) : ∀ (k t : Nat) (acc : Int32) (F : Fs) (h : Nat), F b 0 = nI h → (gbL b n k t acc F).2 b 0 = nI (h + k) := by
  intro k
  induction k with
  | zero => intro t acc F h h0; exact h0
  | succ k ih =>
    intro t acc F h h0
    show (gbL b n k (t + 1) _ _).2 b 0 = nI (h + (k + 1))
    rw [ih (t + 1) _ _ (h + 1) (by rw [hrF_hour F b n t hB, h0]; exact nI_1 h)]
    congr 1; omega
/-- what the methods over both books ask of F -/
def okP (F : Fs) (n h : Nat) : Prop := F 1 6 = nI n ∧ F 1 0 = nI h ∧ ∀ j, j < 8 → F (wb 1 j) 5 = 0 ∨ F (wb 1 j) 5 = 1
theorem okP_fb {F : Fs} {n h : Nat} (ho : okP F n h) (t : Nat) (rate lim : Int32) : okP (fbF F n h t rate lim) n h := by
  refine ⟨by rw [fbF_ne F n h t rate lim (off1 n)]; exact ho.1, by rw [fbF_ne F n h t rate lim (off1 n)]; exact ho.2.1, fun j hj => ?_⟩
  rw [fbF_ne F n h t rate lim (offw hj)]
  exact ho.2.2 j hj
theorem beL_ok {n h : Nat} : ∀ (k i : Nat) (best gr : Int32) (F : Fs), okP F n h → okP (beL n h k i best gr F).2 n h := by
  intro k
  induction k with
  | zero => intro i best gr F ho; exact ho
  | succ k ih =>
    intro i best gr F ho
    unfold beL
    split
    · exact ih _ _ _ _ (okP_fb ho _ _ _)
    · exact ih _ _ _ _ (okP_fb ho _ _ _)
theorem beF_ok {F : Fs} {n h : Nat} (ho : okP F n h) : okP (beF F n h).2 n h := beL_ok 5 0 _ _ _ (okP_fb ho _ _ _)
theorem fiL_ok {n h : Nat} : ∀ (k i : Nat) (F : Fs), okP F n h → okP (fiL n h k i F).2 n h := by
  intro k
  induction k with
  | zero => intro i F ho; exact ho
  | succ k ih =>
    intro i F ho
    unfold fiL
    split
    · exact ih _ _ (okP_fb ho _ _ _)
    · exact okP_fb ho _ _ _
theorem fiF_ok {F : Fs} {n h : Nat} (ho : okP F n h) : okP (fiF F n h).2 n h := fiL_ok 10 0 _ ho
theorem beL_ne {n h a : Nat} (ho : offT n a) : ∀ (k i : Nat) (best gr : Int32) (F : Fs) (b : Nat), (beL n h k i best gr F).2 a b = F a b := by
  intro k
  induction k with
  | zero => intro i best gr F b; rfl
  | succ k ih =>
    intro i best gr F b
    unfold beL
    split
    · rw [ih, fbF_ne F n h _ _ _ ho]
    · rw [ih, fbF_ne F n h _ _ _ ho]
theorem beF_ne {F : Fs} {n h a : Nat} (ho : offT n a) (b : Nat) : (beF F n h).2 a b = F a b := by
  unfold beF be0
  rw [beL_ne ho, fbF_ne F n h _ _ _ ho]
theorem fiL_ne {n h a : Nat} (ho : offT n a) : ∀ (k i : Nat) (F : Fs) (b : Nat), (fiL n h k i F).2 a b = F a b := by
  intro k
  induction k with
  | zero => intro i F b; rfl
  | succ k ih =>
    intro i F b
    unfold fiL
    split
    · rw [ih, fbF_ne F n h _ _ _ ho]
    · exact fbF_ne F n h 48 (nI i) (F 1 4) ho b
