/-! WHAT HOLDS BETWEEN THE LAW'S STEPS: F is the pool's and the Sim's, n walkers, hour h -/
def Bd (x : Int32) (B : Nat) : Prop := -(B : Int) ≤ x.toInt ∧ x.toInt ≤ (B : Int)
theorem Bd.up {x : Int32} {B B' : Nat} (h : Bd x B) (hB : B ≤ B') : Bd x B' := by
  obtain ⟨h1, h2⟩ := h
  exact ⟨by omega, by omega⟩
theorem bd_add {x : Int32} {B K k : Nat} (h : Bd x B) (hk : k ≤ K) (hB : B + K < 2 ^ 30) : Bd (x + nI k) (B + K) := by
  obtain ⟨h1, h2⟩ := h
  have e : (x + nI k).toInt = x.toInt + (k : Int) := by
    rw [Int32.toInt_add, nI_toInt (by omega)]
    exact Int.bmod_eq_of_le (by omega) (by omega)
  exact ⟨by rw [e]; omega, by rw [e]; omega⟩
theorem bd_sub {x : Int32} {B K k : Nat} (h : Bd x B) (hk : k ≤ K) (hB : B + K < 2 ^ 30) : Bd (x - nI k) (B + K) := by
  obtain ⟨h1, h2⟩ := h
  have e : (x - nI k).toInt = x.toInt - (k : Int) := by
    rw [Int32.toInt_sub, nI_toInt (by omega)]
    exact Int.bmod_eq_of_le (by omega) (by omega)
  exact ⟨by rw [e]; omega, by rw [e]; omega⟩
def In (F : Fs) (n h : Nat) : Prop := Bk F 1 n h ∧ (∀ j, j < 8 → F (wb 1 j) 5 = 0 ∨ F (wb 1 j) 5 = 1) ∧ Bd (F 1 1) (100 + 1600 * h)
theorem In.n8 {F : Fs} {n h : Nat} (I : In F n h) : n ≤ 8 := I.1.1
theorem In.c6 {F : Fs} {n h : Nat} (I : In F n h) : F 1 6 = nI n := I.1.2.1
theorem In.c0 {F : Fs} {n h : Nat} (I : In F n h) : F 1 0 = nI h := I.1.2.2.1
theorem In.bf {F : Fs} {n h : Nat} (I : In F n h) : Bf F 1 := I.1.2.2.2.1
theorem In.wk {F : Fs} {n h j : Nat} (I : In F n h) (hj : j < n) : Wk F (wb 1 j) h := I.1.2.2.2.2 j hj
theorem In.ok {F : Fs} {n h : Nat} (I : In F n h) : okP F n h := ⟨I.c6, I.c0, I.2.1⟩
theorem wb1_ne {j a : Nat} (h : a < 5) : a ≠ wb 1 j := wb_ne (Or.inl rfl) h
-- a change at one walker
theorem in_w {F : Fs} {n h j c : Nat} {x : Int32} (I : In F n h) (hj : j < n) (hw : Wk (up2 F (wb 1 j) c x) (wb 1 j) h) : In (up2 F (wb 1 j) c x) n h := by
  obtain ⟨⟨h1, h2, h3, h4, h5⟩, h6, h7⟩ := I
  have eb : ∀ q, up2 F (wb 1 j) c x 1 q = F 1 q := fun q => up2_ne _ _ (fun z => wb1_ne (by omega) z.1)
  have eo : ∀ i q, i ≠ j → up2 F (wb 1 j) c x (wb 1 i) q = F (wb 1 i) q := fun i q hi => up2_ne _ _ (fun z => hi (wb_inj z.1))
  refine ⟨⟨h1, by rw [eb]; exact h2, by rw [eb]; exact h3, h4.same (eb 2) (eb 3) (eb 4), fun i hi => ?_⟩, fun i hi => ?_, by rw [eb]; exact h7⟩
  · by_cases e : i = j
    · subst e; exact hw
    · exact (h5 i hi).same (fun q _ => eo i q e)
  · by_cases e : i = j
    · subst e; exact hw.mem
    · rw [eo i 5 e]; exact h6 i hi
theorem tm_eq {F : Fs} {k : Nat} (hm : F k 5 = 0 ∨ F k 5 = 1) : 1 - F k 5 = if F k 5 = 0 then 1 else 0 := by
  rcases hm with e | e <;> rw [e] <;> decide
theorem tm_01 {F : Fs} {k : Nat} (h : ¬ (if F k 5 = 0 then (1 : Int32) else 0) = 1) : (if F k 5 = 0 then (1 : Int32) else 0) = 0 := by
  split
  · rename_i h1; rw [if_pos h1] at h; exact absurd rfl h
  · rfl
theorem tm_z (F : Fs) (k : Nat) : (if F k 5 = 0 then (1 : Int32) else 0) = 0 ∨ (if F k 5 = 0 then (1 : Int32) else 0) = 1 := by
  split
  · exact Or.inr rfl
  · exact Or.inl rfl
theorem in_turn {F : Fs} {n h j : Nat} (I : In F n h) (hj : j < n) : In (up2 F (wb 1 j) 5 (if F (wb 1 j) 5 = 0 then 1 else 0)) n h := by
  refine in_w I hj ?_
  obtain ⟨a, sk, nt, wo, f, m, h1, h2, h3, h4, h5, h6, h7, e0, e1, e2, e3, e4, e5⟩ := I.wk hj
  have e : ∀ q, q ≠ 5 → up2 F (wb 1 j) 5 (if F (wb 1 j) 5 = 0 then 1 else 0) (wb 1 j) q = F (wb 1 j) q := fun q hq => up2_ne _ _ (fun z => hq z.2)
  refine ⟨a, sk, nt, wo, f, if m = 0 then 1 else 0, h1, h2, h3, h4, h5, h6, by split <;> omega, by rw [e 0 (by omega)]; exact e0, by rw [e 1 (by omega)]; exact e1, by rw [e 2 (by omega)]; exact e2, by rw [e 3 (by omega)]; exact e3, by rw [e 4 (by omega)]; exact e4, ?_⟩
  rw [up2_s, e5]
  rcases (show m = 0 ∨ m = 1 by omega) with rfl | rfl <;> decide
theorem in_net {F : Fs} {n h j z : Nat} (I : In F n h) (hj : j < n) (hz : z < 10) : In (up2 F (wb 1 j) 2 (nI z)) n h := by
  refine in_w I hj ?_
  obtain ⟨a, sk, nt, wo, f, m, h1, h2, h3, h4, h5, h6, h7, e0, e1, e2, e3, e4, e5⟩ := I.wk hj
  have e : ∀ q, q ≠ 2 → up2 F (wb 1 j) 2 (nI z) (wb 1 j) q = F (wb 1 j) q := fun q hq => up2_ne _ _ (fun z => hq z.2)
  exact ⟨a, sk, z, wo, f, m, h1, h2, h3, by omega, h5, h6, h7, by rw [e 0 (by omega)]; exact e0, by rw [e 1 (by omega)]; exact e1, up2_s _ _ _ _, by rw [e 3 (by omega)]; exact e3, by rw [e 4 (by omega)]; exact e4, by rw [e 5 (by omega)]; exact e5⟩
theorem in_rest {F : Fs} {n h j : Nat} (I : In F n h) (hj : j < n) : In (up2 F (wb 1 j) 3 0) n h := by
  refine in_w I hj ?_
  obtain ⟨a, sk, nt, wo, f, m, h1, h2, h3, h4, h5, h6, h7, e0, e1, e2, e3, e4, e5⟩ := I.wk hj
  have e : ∀ q, q ≠ 3 → up2 F (wb 1 j) 3 0 (wb 1 j) q = F (wb 1 j) q := fun q hq => up2_ne _ _ (fun z => hq z.2)
  exact ⟨a, sk, nt, 0, f, m, h1, h2, h3, h4, by omega, h6, h7, by rw [e 0 (by omega)]; exact e0, by rw [e 1 (by omega)]; exact e1, by rw [e 2 (by omega)]; exact e2, up2_s _ _ _ _, by rw [e 4 (by omega)]; exact e4, by rw [e 5 (by omega)]; exact e5⟩
-- the pool's own numbers
theorem in_b {F F2 : Fs} {n h : Nat} (I : In F n h) (e0 : F2 1 0 = F 1 0) (e1 : F2 1 1 = F 1 1) (e6 : F2 1 6 = F 1 6) (hb : Bf F2 1) (hw : ∀ j q, F2 (wb 1 j) q = F (wb 1 j) q) : In F2 n h := by
  obtain ⟨⟨h1, h2, h3, h4, h5⟩, h6, h7⟩ := I
  exact ⟨⟨h1, e6.trans h2, e0.trans h3, hb, fun i hi => (h5 i hi).same (fun q _ => hw i q)⟩, fun i hi => by rw [hw]; exact h6 i hi, by rw [e1]; exact h7⟩
theorem up1_w {F : Fs} {c : Nat} {x : Int32} (j q : Nat) : up2 F 1 c x (wb 1 j) q = F (wb 1 j) q := up2_ne _ _ (fun z => wb1_ne (j := j) (a := 1) (by omega) z.1.symm)
theorem in_rate {F : Fs} {n h z : Nat} (I : In F n h) (hz : z < 10) : In (up2 F 1 2 (nI z)) n h := by
  refine in_b I (up2_ne _ _ (by omega)) (up2_ne _ _ (by omega)) (up2_ne _ _ (by omega)) ?_ up1_w
  obtain ⟨-, ⟨r, hr, e3⟩, ⟨q, hq, e4⟩⟩ := I.bf
  exact ⟨⟨z, by omega, up2_s _ _ _ _⟩, ⟨r, hr, by rw [up2_ne _ _ (by omega)]; exact e3⟩, ⟨q, hq, by rw [up2_ne _ _ (by omega)]; exact e4⟩⟩
theorem in_reins {F : Fs} {n h x y : Nat} (I : In F n h) (hx : x < 201) (hy : y < 401) : In (up2 (up2 F 1 3 (nI x)) 1 4 (nI y)) n h := by
  refine in_b I (by rw [up2_ne _ _ (by omega), up2_ne _ _ (by omega)]) (by rw [up2_ne _ _ (by omega), up2_ne _ _ (by omega)]) (by rw [up2_ne _ _ (by omega), up2_ne _ _ (by omega)]) ?_ (fun j q => by rw [up1_w, up1_w])
  obtain ⟨⟨r, hr, e2⟩, -, -⟩ := I.bf
  exact ⟨⟨r, hr, by rw [up2_ne _ _ (by omega), up2_ne _ _ (by omega)]; exact e2⟩, ⟨x, by omega, by rw [up2_ne _ _ (by omega), up2_s]⟩, ⟨y, by omega, up2_s _ _ _ _⟩⟩
theorem in_add {F : Fs} {n h a sk nt : Nat} (I : In F n h) (hn : n < 8) (ha : a < 30) (hs : sk < 6) (ht : nt < 10) : In (entF F 1 n (nI (1 + a)) (nI sk) (nI nt)) (n + 1) h := by
  obtain ⟨⟨h1, h2, h3, h4, h5⟩, h6, h7⟩ := I
  obtain ⟨x0, x1, x2, x3, x4, x5, x6⟩ := ent_at F (n := n) (Or.inl rfl) (nI (1 + a)) (nI sk) (nI nt)
  have eb : ∀ q, q ≠ 6 → entF F 1 n (nI (1 + a)) (nI sk) (nI nt) 1 q = F 1 q := fun q hq => ent_ne F 1 n _ _ _ (wb1_ne (by omega)) (fun z => hq z.2)
  have eo : ∀ i q, i ≠ n → entF F 1 n (nI (1 + a)) (nI sk) (nI nt) (wb 1 i) q = F (wb 1 i) q := fun i q hi => ent_ne F 1 n _ _ _ (fun z => hi (wb_inj z)) (fun z => wb1_ne (j := i) (a := 1) (by omega) z.1.symm)
  refine ⟨⟨by omega, by rw [x6, h2]; exact nI_1 n, by rw [eb 0 (by omega)]; exact h3, h4.same (eb 2 (by omega)) (eb 3 (by omega)) (eb 4 (by omega)), fun i hi => ?_⟩, fun i hi => ?_, by rw [eb 1 (by omega)]; exact h7⟩
  · by_cases e : i = n
    · subst e
      exact ⟨1 + a, sk, nt, 0, 0, 1, by omega, by omega, by omega, by omega, by omega, by omega, by omega, x0, x1, x2, x3, x4, x5⟩
    · exact (h5 i (by omega)).same (fun q _ => eo i q e)
  · by_cases e : i = n
    · subst e; exact Or.inr x5
    · rw [eo i 5 e]; exact h6 i hi
-- hours
theorem cm_nat {F : Fs} {b : Nat} : ∀ (n i : Nat), (∀ j, i ≤ j → j < i + n → F (wb b j) 5 = 0 ∨ F (wb b j) 5 = 1) → ∃ c, c ≤ n ∧ cmL F b n i 0 = nI c := by
  intro n
  induction n with
  | zero => intro i _; exact ⟨0, Nat.le_refl _, rfl⟩
  | succ n ih =>
    intro i hm
    obtain ⟨c, hc, e⟩ := ih (i + 1) (fun j h1 h2 => hm j (by omega) (by omega))
    show ∃ c, c ≤ n + 1 ∧ cmL F b n (i + 1) (if F (wb b i) 5 = 0 then 0 + 0 else 0 + 1) = nI c
    rw [cm_acc, e]
    by_cases h0 : F (wb b i) 5 = 0
    · rw [if_pos h0]
      exact ⟨c, by omega, by rw [show (0 : Int32) + 0 = nI 0 from rfl, nI_add, Nat.zero_add]⟩
    · rw [if_neg h0]
      exact ⟨1 + c, by omega, by rw [show (0 : Int32) + 1 = nI 1 from rfl, nI_add]⟩
theorem pay_bd {F : Fs} {b n h B : Nat} (hB : b = 1 ∨ b = 2) (hK : Bk F b n h) (hb : Bd (F b 1) B) (hs : B + 200 < 2 ^ 30) : Bd (payF F b n b 1) (B + 100) := by
  obtain ⟨h8, -, -, ⟨⟨r, hr, e2⟩, -, ⟨q, hq, e4⟩⟩, hw⟩ := hK
  obtain ⟨c, hc, ec⟩ := cm_nat (F := F) (b := b) n 0 (fun j _ hj => (hw j (by omega)).mem)
  have hrc : r * c ≤ 72 := by have := Nat.mul_le_mul hr (Nat.le_trans hc h8); omega
  have e1 : pay1 F b n b 1 = F b 1 + nI (r * c) := by unfold pay1; rw [up2_s, e2, ec, pk_mul]
  have b1 : Bd (pay1 F b n b 1) (B + 72) := by rw [e1]; exact bd_add hb hrc (by omega)
  have p4 : pay1 F b n b 4 = nI q := by unfold pay1; rw [up2_ne _ _ (by omega)]; exact e4
  unfold payF
  split
  · exact b1.up (by omega)
  · have e3 : pay3 F b n b 1 = pay1 F b n b 1 - nI (q / 20 + 1) := by
      unfold pay3
      rw [up2_ne _ _ (by omega)]
      unfold pay2
      rw [up2_s, p4, show (20 : Int32) = nI 20 from rfl, pk_div (by omega) (by omega) (by omega), nI_1]
    rw [e3]
    exact (bd_sub (K := 28) b1 (by omega) (by omega)).up (by omega)
theorem wk_bd {F : Fs} {b k h B : Nat} (hbk : b ≠ k) (w : Wk F k h) (hf : Bf F b) (hb : Bd (F b 1) B) (hs : B + 200 < 2 ^ 30) : Bd (wkF F b k (suH h) (noH h) b 1) (B + 180) := by
  by_cases hc : 10 ≤ woI (F k 0) (F k 1) (F k 3) (noH h)
  · obtain ⟨y1, -⟩ := wkF_y (sun := suH h) hbk hc
    obtain ⟨c, m, hc1, -, -, -, -, ecl⟩ := wc_nat (h := h) w.c
    obtain ⟨-, ⟨r, hr, e3⟩, ⟨q, hq, e4⟩⟩ := hf
    have hr2 := re_bd (c - owN m c h) r q
    rw [y1, ecl, e3, e4, re_nI (by omega) (by omega) (by omega), pk_sub hr2.2]
    exact bd_sub hb (by omega) (by omega)
  · rw [wkF_n hc, up2_ne _ _ (fun z => hbk z.1)]
    exact hb.up (by omega)
theorem hrL_bd {b n h : Nat} (hB : b = 1 ∨ b = 2) : ∀ (k i : Nat) (acc : Int32) (F : Fs) (B : Nat), i + k = n → F b 0 = nI h → Bf F b → (∀ j, i ≤ j → j < n → Wk F (wb b j) h) → Bd (F b 1) B → B + 180 * k + 200 < 2 ^ 30 → Bd ((hrL b (suH h) (noH h) k i acc F).2 b 1) (B + 180 * k) := by
  intro k
  induction k with
  | zero => intro i acc F B _ _ _ _ hb _; exact hb
  | succ k ih =>
    intro i acc F B hi h0 hf hw hb hs
    have hbk : b ≠ wb b i := fun z => by have := wb_lo hB i; omega
    obtain ⟨e9, b9, w9⟩ := hr_step (n := n) (i := i) (F' := wkF F b (wb b i) (suH h) (noH h)) hB rfl h0 hf hw
    have := ih (i + 1) (if wkR F (wb b i) (noH h) = 0 then acc + 0 else acc + 1) _ (B + 180) (by omega) e9 b9 w9 (wk_bd hbk (hw i (Nat.le_refl _) (by omega)) hf hb (by omega)) (by omega)
    rw [show B + 180 * (k + 1) = B + 180 + 180 * k by omega]
    exact this
theorem bd_hour {F : Fs} {b n h B : Nat} (hB : b = 1 ∨ b = 2) (hK : Bk F b n h) (hb : Bd (F b 1) B) (hs : B + 2000 < 2 ^ 30) : Bd (hrF F b n h b 1) (B + 1600) := by
  obtain ⟨f0, fb, f6, fw⟩ := hr_start (F1 := if nI (h % 12) = 0 then payF F b n else F) hB hK rfl
  have h8 := hK.1
  have hp : Bd ((if nI (h % 12) = 0 then payF F b n else F) b 1) (B + 100) := by
    split
    · exact pay_bd hB hK hb (by omega)
    · exact hb.up (by omega)
  have := hrL_bd (n := n) hB n 0 0 _ (B + 100) (by omega) f0 fb (fun j _ hj => fw j hj) hp (by omega)
  have e : hrF F b n h b 1 = (hr0 F b n h).2 b 1 := up2_ne _ _ (by omega)
  rw [e]
  exact Bd.up this (by omega)
theorem bd_hours {b n : Nat} (hB : b = 1 ∨ b = 2) : ∀ (t h : Nat) (acc : Int32) (F : Fs) (B : Nat), Bk F b n h → Bd (F b 1) B → B + 1600 * t + 2000 < 2 ^ 30 → Bd ((gbL b n t h acc F).2 b 1) (B + 1600 * t) := by
  intro t
  induction t with
  | zero => intro h acc F B _ hb _; exact hb
  | succ t ih =>
    intro h acc F B hK hb hs
    have := ih (h + 1) (acc + hrR F b n h) (hrF F b n h) (B + 1600) (bk_hour hB hK) (bd_hour hB hK hb (by omega)) (by omega)
    rw [show B + 1600 * (t + 1) = B + 1600 + 1600 * t by omega]
    exact this
theorem gbL_ne1 {b n : Nat} (hB : b = 1 ∨ b = 2) {a j : Nat} (h0 : ¬ (a = b ∧ (j = 0 ∨ j = 1 ∨ j = 5))) (hw : ∀ q, q < n → a ≠ wb b q) : ∀ (t h : Nat) (acc : Int32) (F : Fs), (gbL b n t h acc F).2 a j = F a j := by
  intro t
  induction t with
  | zero => intro h acc F; rfl
  | succ t ih =>
    intro h acc F
    show (gbL b n t (h + 1) _ _).2 a j = F a j
    rw [ih, hrF_ne F b n h h0 hw]
theorem in_pass {F : Fs} {n h t : Nat} (I : In F n h) (ht : t ≤ 60) (hh : h ≤ 10000) : In (gbL 1 n t h 0 F).2 n (h + t) := by
  have hK := bk_hours (Or.inl rfl) t h 0 F I.1
  refine ⟨hK, fun j hj => ?_, ?_⟩
  · by_cases hjn : j < n
    · exact (hK.2.2.2.2 j hjn).mem
    · rw [gbL_ne1 (Or.inl rfl) (fun z => wb1_ne (j := j) (a := 1) (by omega) z.1.symm) (fun q hq e => by have := wb_inj e; omega)]
      exact I.2.1 j hj
  · have := bd_hours (Or.inl rfl) t h 0 F (100 + 1600 * h) I.1 I.2.2 (by omega)
    exact this.up (by omega)
theorem a0_eq {A u : Nat → Nat} (h : u 0 = A 0) : (fun k => if k = 0 then A 0 else u k) = u := by
  funext k
  by_cases e : k = 0
  · subst e; simp [h]
  · simp [e]
