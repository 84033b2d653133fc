/-! what the law asks, in numbers -/
theorem su_min (h : Nat) : suH h = if 12 - nI (h % 12) < nI (h % 12) + 1 then 12 - nI (h % 12) else nI (h % 12) + 1 := by
  have key : ∀ d, d < 12 → sunAtI (nI d) = if 12 - nI d < nI d + 1 then 12 - nI d else nI d + 1 := by decide
  exact key _ (Nat.mod_lt _ (by decide))
theorem hn_0 (h : Nat) (c : ¬ huN h = 0) : (0 : Int32) = noH h := by
  have key : ∀ d, d < 12 → ¬ (if noonAtI (nI d) = 0 then fmI (5 - nI d) else 0) = 0 → (0 : Int32) = noonAtI (nI d) := by decide
  exact key _ (Nat.mod_lt _ (by decide)) c
theorem hn_1 (h : Nat) (c : huN h = 0) : (1 : Int32) = noH h := by
  have key : ∀ d, d < 12 → (if noonAtI (nI d) = 0 then fmI (5 - nI d) else 0) = 0 → (1 : Int32) = noonAtI (nI d) := by decide
  exact key _ (Nat.mod_lt _ (by decide)) c
theorem hu_le (h : Nat) : huN h ≤ 10 := by
  have key : ∀ d, d < 12 → (if noonAtI (nI d) = 0 then fmI (5 - nI d) else 0) ≤ 10 := by decide
  exact key _ (Nat.mod_lt _ (by decide))
theorem cm_snoc {F : Fs} {b : Nat} : ∀ (k i : Nat) (acc : Int32), cmL F b (k + 1) i acc = if F (wb b (i + k)) 5 = 0 then cmL F b k i acc + 0 else cmL F b k i acc + 1 := by
  intro k
  induction k with
  | zero => intro i acc; rfl
  | succ k ih =>
    intro i acc
    have e : cmL F b (k + 1 + 1) i acc = cmL F b (k + 1) (i + 1) (if F (wb b i) 5 = 0 then acc + 0 else acc + 1) := rfl
    have e2 : cmL F b (k + 1) i acc = cmL F b k (i + 1) (if F (wb b i) 5 = 0 then acc + 0 else acc + 1) := rfl
    rw [e, e2, ih (i + 1) _, show i + 1 + k = i + (k + 1) by omega]
theorem cm_up0 {F : Fs} {i : Nat} (h : F (wb 1 i) 5 = 0) : cmL F 1 i 0 0 + 0 = cmL F 1 (i + 1) 0 0 := by
  rw [cm_snoc, Nat.zero_add, if_pos h]
theorem cm_up1 {F : Fs} {i : Nat} (h : ¬ F (wb 1 i) 5 = 0) : cmL F 1 i 0 0 + 1 = cmL F 1 (i + 1) 0 0 := by
  rw [cm_snoc, Nat.zero_add, if_neg h]
theorem wk_all {F : Fs} {n h j : Nat} (I : In F n h) (hj : j < n) : ∃ a nt wo f m r l S c o q t : Nat, (a ≤ 30 ∧ nt ≤ 9 ∧ wo ≤ 9 ∧ f ≤ h ∧ m ≤ 1 ∧ r ≤ 200 ∧ l ≤ 400 ∧ S ≤ 180 ∧ c ≤ 180) ∧ F (wb 1 j) 0 = nI a ∧ F (wb 1 j) 2 = nI nt ∧ F (wb 1 j) 3 = nI wo ∧ F (wb 1 j) 4 = nI f ∧ F (wb 1 j) 5 = nI m ∧ F 1 3 = nI r ∧ F 1 4 = nI l ∧ shI (F (wb 1 j) 0) (suH h) = nI S ∧ coI (F (wb 1 j) 0) (F (wb 1 j) 2) (suH h) = nI c ∧ owI (F (wb 1 j) 5) (coI (F (wb 1 j) 0) (F (wb 1 j) 2) (suH h)) (noH h) = nI o ∧ clI F (wb 1 j) (suH h) (noH h) - reI (clI F (wb 1 j) (suH h) (noH h)) (F 1 3) (F 1 4) = nI q ∧ reI (clI F (wb 1 j) (suH h) (noH h)) (F 1 3) (F 1 4) = nI t ∧
    a ≤ S ∧ S ≤ 6 * a ∧ (¬ noH h = 0 → S = a) ∧ (suH h = 1 → S = 6 * a) ∧ c ≤ S ∧ o + q + t = c ∧ t ≤ l ∧ (m = 0 → o = c) ∧ (m = 1 → o ≤ 6) ∧ (0 < t → q = r ∨ t = l) := by
  obtain ⟨a, sk, nt, wo, f, m, h1, h2, h3, h4, h5, h6, h7, e0, e1, e2, e3, e4, e5⟩ := I.wk hj
  obtain ⟨-, ⟨r, hr, er⟩, ⟨l, hl, el⟩⟩ := I.bf
  have hS := sh_bd h2 h
  have hc := co_bd (nt := nt) (h := h) h2
  have ho := ow_bd m (coN a nt h) h
  have eS : shI (F (wb 1 j) 0) (suH h) = nI (shN a h) := by rw [e0, sh_nI h2]
  have ec : coI (F (wb 1 j) 0) (F (wb 1 j) 2) (suH h) = nI (coN a nt h) := by rw [e0, e2, co_nI h2 h4]
  have eo : owI (F (wb 1 j) 5) (coI (F (wb 1 j) 0) (F (wb 1 j) 2) (suH h)) (noH h) = nI (owN m (coN a nt h) h) := by rw [ec, e5, ow_nI h7 hc.2]
  have ecl : clI F (wb 1 j) (suH h) (noH h) = nI (coN a nt h - owN m (coN a nt h) h) := by
    show coI _ _ _ - owI _ (coI _ _ _) _ = _
    rw [eo, ec, pk_sub ho]
  have ht := re_bd (coN a nt h - owN m (coN a nt h) h) r l
  have ere : reI (clI F (wb 1 j) (suH h) (noH h)) (F 1 3) (F 1 4) = nI (reN (coN a nt h - owN m (coN a nt h) h) r l) := by rw [ecl, er, el, re_nI (by omega) (by omega) (by omega)]
  have eq : clI F (wb 1 j) (suH h) (noH h) - reI (clI F (wb 1 j) (suH h) (noH h)) (F 1 3) (F 1 4) = nI (coN a nt h - owN m (coN a nt h) h - reN (coN a nt h - owN m (coN a nt h) h) r l) := by rw [ere, ecl, pk_sub ht.2]
  refine ⟨a, nt, wo, f, m, r, l, shN a h, coN a nt h, owN m (coN a nt h) h, coN a nt h - owN m (coN a nt h) h - reN (coN a nt h - owN m (coN a nt h) h) r l, reN (coN a nt h - owN m (coN a nt h) h) r l, ⟨h2, h4, h5, h6, h7, hr, hl, hS.2.2, hc.2⟩, e0, e2, e3, e4, e5, er, el, eS, ec, eo, eq, ere, hS.1, hS.2.1, fun hn => ?_, fun hs => ?_, hc.1, by omega, ht.1, fun hm => ?_, fun hm => ?_, fun ht0 => ?_⟩
  · have h9 := no_bd h
    have h8 : noN h = 1 := by
      rw [no_nI] at hn
      by_cases e : noN h = 0
      · exact absurd (by rw [e]; rfl) hn
      · omega
    unfold shN
    rw [(no_su h).mp h8]
    omega
  · have h9 := su_bd h
    rw [su_nI] at hs
    have h8 : suN h = 1 := (nI_eq (b := 1) (by omega) (by omega)).mp hs
    unfold shN
    rw [h8]
    omega
  · unfold owN; rw [if_pos hm]
  · unfold owN
    rw [if_neg (by omega)]
    have := no_bd h
    have := Nat.min_le_right (coN a nt h) (3 + 3 * noN h)
    omega
  · generalize coN a nt h - owN m (coN a nt h) h = cl at ht0 ⊢
    unfold reN at ht0 ⊢
    omega
/-- the best limit and the fair rate, told over the pool as it is behind the two looks -/
theorem looks4 {F : Fs} {n h : Nat} (I : In F n h) (hh : h ≤ 10000) : ∃ (F3 : Fs) (x : Int32) (q : Nat), (fiF (beF F n h).2 n h).2 = F3 ∧ (fiF (beF F n h).2 n h).1 = x ∧ SameC F F3 ∧ In F3 n h ∧ q ≤ 5 ∧ (beF F n h).1 = nI (20 * q) ∧
    (∀ z, z ≤ 5 → (gbL 1 n 48 h 0 (up2 F3 1 4 (nI (20 * z)))).2 1 1 ≤ (gbL 1 n 48 h 0 (up2 F3 1 4 (nI (20 * q)))).2 1 1) ∧ (∀ z, z < q → (gbL 1 n 48 h 0 (up2 F3 1 4 (nI (20 * z)))).2 1 1 < (gbL 1 n 48 h 0 (up2 F3 1 4 (nI (20 * q)))).2 1 1) ∧
    ∀ z, z < 10 → (F3 1 1 ≤ (gbL 1 n 48 h 0 (up2 F3 1 2 (nI z))).2 1 1 ↔ (0 ≤ x ∧ x ≤ nI z)) := by
  have S2 := sc_be F n h
  have S3 := S2.tr (sc_fi (beF F n h).2 n h)
  obtain ⟨q, hq, e, h1, h2⟩ := be_spec (F := F) (h := h) I.n8
  have ev : ∀ l, fd F n h 48 (F 1 2) l = (gbL 1 n 48 h 0 (up2 (fiF (beF F n h).2 n h).2 1 4 l)).2 1 1 := fun l => by rw [← fd_lim, fd_sc I.n8 S3, S3.1]
  refine ⟨_, _, q, rfl, rfl, S3, I.sc S3, hq, e, fun z hz => by rw [← ev, ← ev]; exact h1 z hz, fun z hz => by rw [← ev, ← ev]; exact h2 z hz, fun z hz => ?_⟩
  have a := fi_law (I.sc S2) hh hz
  rw [← fd_rate, fd_sc I.n8 (sc_fi (beF F n h).2 n h), (sc_fi (beF F n h).2 n h).1, (sc_fi (beF F n h).2 n h).1]
  exact a
theorem be_ge {q z : Nat} {V : Nat → Int32} (h : ∀ z, z < q → V z < V q) (e : V z = V q) : q ≤ z := by
  rcases Nat.lt_or_ge z q with l | l
  · have := h z l
    rw [e] at this
    exact absurd this Int32.lt_irrefl
  · exact l
/-- what is told of ruin, of the next one to fall, of one's own fall -/
def Ru (F : Fs) (n h : Nat) (x : Int32) : Prop := (x = -1 ∧ ∀ j, j ≤ 100 → ¬ Hh F n h j 1 1 < 0) ∨ ∃ r, r ≤ 100 ∧ x = nI r ∧ Hh F n h r 1 1 < 0 ∧ ∀ j, j < r → ¬ Hh F n h j 1 1 < 0
def Nx (F : Fs) (n h : Nat) (x y : Int32) : Prop := (x = -1 ∧ y = -1 ∧ ∀ j, j < n → ∀ z, z < 100 → ¬ flH F n h z j) ∨ ∃ j0 m, j0 < n ∧ m < 100 ∧ x = nI j0 ∧ y = nI (m + 1) ∧ (∀ j, j < n → ∀ z, z < m → ¬ flH F n h z j) ∧ (∀ j, j < j0 → ¬ flH F n h m j) ∧ flH F n h m j0
def On (F : Fs) (n h : Nat) (x y : Int32) : Prop := x = -1 ∨ ∃ w, w < n ∧ x = nI w ∧ ((y = -1 ∧ ∀ z, z < 100 → ¬ flH F n h z w) ∨ ∃ m, m < 100 ∧ y = nI (m + 1) ∧ flH F n h m w ∧ ∀ z, z < m → ¬ flH F n h z w)
theorem nf_all {F : Fs} {n h : Nat} (H : ∀ j, j < n → fbI F (wb 1 j) h = -1) : ∀ j, j < n → ∀ z, z < 100 → ¬ flH F n h z j := fun j hj => by
  rcases fa_spec (F := F) (h := h) hj with ⟨-, a⟩ | ⟨m, hm, a, -⟩
  · exact a
  · rw [H j hj] at a
    exact absurd a.symm (nI_m1 (by omega))
theorem looks5 {F : Fs} {n h t : Nat} (I : In F n h) : ∃ (F4 : Fs) (x : Int32), (ruL n 100 0 h (cpyF (fbF F n h t (F 1 2) (F 1 4)) n)).2 = F4 ∧ (ruL n 100 0 h (cpyF (fbF F n h t (F 1 2) (F 1 4)) n)).1 = x ∧ SameC F F4 ∧ In F4 n h ∧ fbF F n h t (F 1 2) (F 1 4) 2 1 = Hh F4 n h t 1 1 ∧ Ru F4 n h x := by
  have S2 := sc_fb F n h t (F 1 2) (F 1 4)
  have S3 := sc_ru (fbF F n h t (F 1 2) (F 1 4)) n h
  have S := S2.tr S3
  have hv : ∀ (A B : Fs), SameC A B → ∀ i, Hh B n h i 1 1 = Hh A n h i 1 1 := fun A B s i => by
    have := fd_sc (n := n) (h := h) (t := i) (r := B 1 2) (l := B 1 4) I.n8 s
    rw [fd_both] at this
    rw [show Hh B n h i 1 1 = _ from this, s.1, s.1, fd_both]
    rfl
  refine ⟨_, _, rfl, rfl, S, I.sc S, ?_, ?_⟩
  · rw [fb_fd I.n8, hv _ _ S, fd_both]; rfl
  · rcases ru_spec (F := fbF F n h t (F 1 2) (F 1 4)) (h := h) I.n8 with ⟨e, a⟩ | ⟨r, hr, e, a1, a2⟩
    · exact Or.inl ⟨e, fun j hj => by rw [hv _ _ S3]; exact a j hj⟩
    · exact Or.inr ⟨r, hr, e, by rw [hv _ _ S3]; exact a1, fun j hj => by rw [hv _ _ S3]; exact a2 j hj⟩
theorem Hh_sc {F F' : Fs} {n h : Nat} (hn8 : n ≤ 8) (S : SameC F F') : ∀ i, AgD 0 0 1 (Hh F' n h i) 1 (Hh F n h i) n := by
  intro i
  have R : AgD 0 0 1 F' 1 F n := ag_0 (fun j _ => S.1 j) (fun j hj q _ => S.2 j (by omega) q)
  obtain ⟨-, K, -, R1⟩ := ag_hours (Or.inl rfl) (Or.inl rfl) i h 0 0 _ _ R
  obtain ⟨r1, r2, r3, r4⟩ := R1
  exact ⟨r1, r2, r3, by rw [Nat.zero_mul] at r4 ⊢; exact r4⟩
theorem flH_sc {F F' : Fs} {n h i j : Nat} (hn8 : n ≤ 8) (hj : j < n) (S : SameC F F') : flH F' n h i j ↔ flH F n h i j := by
  obtain ⟨-, r2, -⟩ := Hh_sc (h := h) hn8 S i
  unfold flH fl
  rw [r2 j hj 0 (by omega), r2 j hj 1 (by omega), r2 j hj 3 (by omega)]
theorem Ru.sc {F F' : Fs} {n h : Nat} {x : Int32} (hn8 : n ≤ 8) (S : SameC F F') (H : Ru F n h x) : Ru F' n h x := by
  have e : ∀ i, Hh F' n h i 1 1 = Hh F n h i 1 1 := fun i => ag_1 (Hh_sc hn8 S i)
  rcases H with ⟨a, b⟩ | ⟨r, a, b, c, d⟩
  · exact Or.inl ⟨a, fun j hj => by rw [e]; exact b j hj⟩
  · exact Or.inr ⟨r, a, b, by rw [e]; exact c, fun j hj => by rw [e]; exact d j hj⟩
theorem Nx.sc {F F' : Fs} {n h : Nat} {x y : Int32} (hn8 : n ≤ 8) (S : SameC F F') (H : Nx F n h x y) : Nx F' n h x y := by
  rcases H with ⟨a, b, c⟩ | ⟨j0, m, a, b, c, d, e, f, g⟩
  · exact Or.inl ⟨a, b, fun j hj z hz q => c j hj z hz ((flH_sc hn8 hj S).mp q)⟩
  · exact Or.inr ⟨j0, m, a, b, c, d, fun j hj z hz q => e j hj z hz ((flH_sc hn8 hj S).mp q), fun j hj q => f j hj ((flH_sc hn8 (by omega) S).mp q), (flH_sc hn8 a S).mpr g⟩
theorem On.sc {F F' : Fs} {n h : Nat} {x y : Int32} (hn8 : n ≤ 8) (S : SameC F F') (H : On F n h x y) : On F' n h x y := by
  rcases H with a | ⟨w, a, b, c⟩
  · exact Or.inl a
  · refine Or.inr ⟨w, a, b, ?_⟩
    rcases c with ⟨c, d⟩ | ⟨m, c, d, e, f⟩
    · exact Or.inl ⟨c, fun z hz q => d z hz ((flH_sc hn8 a S).mp q)⟩
    · exact Or.inr ⟨m, c, d, (flH_sc hn8 a S).mpr e, fun z hz q => f z hz ((flH_sc hn8 a S).mp q)⟩
theorem ru_0 {F : Fs} {n h : Nat} {x : Int32} (H : Ru F n h x) : x = 0 ↔ F 1 1 < 0 := by
  rcases H with ⟨rfl, b⟩ | ⟨r, a, rfl, c, d⟩
  · exact ⟨fun z => absurd z (by decide), fun z => absurd z (b 0 (by omega))⟩
  · constructor
    · intro z
      have : r = 0 := (nI_eq (b := 0) (by omega) (by omega)).mp z
      subst this
      exact c
    · intro z
      rcases Nat.eq_zero_or_pos r with e | e
      · rw [e]; rfl
      · exact absurd z (d 0 e)
theorem lg_self (x : Int64) : lg_cmp x x = 0 := (lg_cmp_eq x x).mpr rfl
/-- the next one to fall is no later than this one, and no greater at once -/
theorem nx_le {F : Fs} {n h j0 m w m' : Nat} (h1 : ∀ j, j < n → ∀ z, z < m → ¬ flH F n h z j) (hw : w < n) (hf : flH F n h m' w) : m ≤ m' := by
  rcases Nat.lt_or_ge m' m with l | l
  · exact absurd hf (h1 w hw m' l)
  · exact l
theorem nx_le2 {F : Fs} {n h j0 m w m' : Nat} (h2 : ∀ j, j < j0 → ¬ flH F n h m j) (hf : flH F n h m' w) (e : m' = m) : j0 ≤ w := by
  subst e
  rcases Nat.lt_or_ge w j0 with l | l
  · exact absurd hf (h2 w l)
  · exact l
