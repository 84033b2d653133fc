/-! words for the law's small methods -/
theorem be_ne {n : Nat} (h1 : 1 ≤ n) (h2 : n < 2 ^ 31) : ¬ nI n = 0 := nI_ne0 (by omega) h2
theorem be_ok (v : Int32) {n : Nat} (h1 : 1 ≤ n) (h2 : n < 2 ^ 31) : ∃ q, q < n ∧ (v &&& 2147483647) - (v &&& 2147483647) / nI n * nI n = nI q := by
  obtain ⟨j, hj, e⟩ := pk_andE v (m := 2147483647) 31 (by decide)
  rw [e, pk_rem hj (by omega) h2]
  exact ⟨j % n, Nat.mod_lt _ (by omega), rfl⟩
theorem ce_in {k L : Nat} (hk : k < 2 ^ 30) (h : ¬ Int32.ofNat L ≤ nI k) : vp_in (nI k) L := by
  have hc : (nI k).toNatClampNeg = k := nI_clamp (by omega)
  intro z
  rcases z with z | z
  · exact nI_pos (by omega) z
  · rw [hc] at z
    exact h (nI_le (a := L) (b := k) z (by omega))
def mkA (a q1 : Nat) (B : Nat → Nat) : Nat → Nat := fun k => if k = 0 then a else if k = 1 then q1 else B (k - 2)
theorem mkA_r (a q1 : Nat) (B : Nat → Nat) (i : Nat) : mkA a q1 B (2 + i) = B i := by
  unfold mkA
  rw [if_neg (by omega), if_neg (by omega), show 2 + i - 2 = i by omega]
theorem swl_make (G : gT) (B : Nat → Nat) (n : Nat) (F : Fs) (b a q1 : Nat) (X : va_W) : [(a, simO q1 F b)] ++ ([(q1, arrR G n (fun i => some (B i)))] ++ (crow G B n F b ++ X)) = swl G (mkA a q1 B) n F b ++ X := by
  rw [swl_open]
  have e : (fun i => mkA a q1 B (2 + i)) = B := funext (mkA_r a q1 B)
  have e2 : (fun i => some (mkA a q1 B (2 + i))) = fun i => some (B i) := by funext i; rw [mkA_r]
  rw [e, e2]
  rfl
theorem fz_eq : ∀ j, j < 6 → up2 (up2 (up2 (fun _ _ => 0) 1 1 100) 1 2 2) 1 3 30 1 j = Fz 1 j := by
  intro j hj
  rcases (show j = 0 ∨ j = 1 ∨ j = 2 ∨ j = 3 ∨ j = 4 ∨ j = 5 by omega) with rfl | rfl | rfl | rfl | rfl | rfl <;> rfl
theorem cp_eq {F : Fs} {b : Nat} : ∀ j, j < 6 → up2 (up2 (up2 (up2 (up2 (up2 Fz 1 0 (F b 0)) 1 1 (F b 1)) 1 2 (F b 2)) 1 3 (F b 3)) 1 4 (F b 4)) 1 5 (F b 5) 1 j = F b j := by
  intro j hj
  rcases (show j = 0 ∨ j = 1 ∨ j = 2 ∨ j = 3 ∨ j = 4 ∨ j = 5 by omega) with rfl | rfl | rfl | rfl | rfl | rfl <;> simp [up2]
theorem ent_at (F : Fs) {b n : Nat} (hB : b = 1 ∨ b = 2) (hi sk nt : Int32) : entF F b n hi sk nt (wb b n) 0 = hi ∧ entF F b n hi sk nt (wb b n) 1 = sk ∧ entF F b n hi sk nt (wb b n) 2 = nt ∧ entF F b n hi sk nt (wb b n) 3 = 0 ∧ entF F b n hi sk nt (wb b n) 4 = 0 ∧ entF F b n hi sk nt (wb b n) 5 = 1 ∧ entF F b n hi sk nt b 6 = F b 6 + 1 := by
  have h1 : wb b n ≠ b := fun e => by have := wb_lo hB n; omega
  have h2 : b ≠ wb b n := Ne.symm h1
  refine ⟨?_, ?_, ?_, ?_, ?_, ?_, ?_⟩ <;> simp [entF, begF, up2, h1, h2]
theorem ent_ne (F : Fs) (b n : Nat) (hi sk nt : Int32) {a q : Nat} (h1 : a ≠ wb b n) (h2 : ¬ (a = b ∧ q = 6)) : entF F b n hi sk nt a q = F a q := by
  unfold entF
  rw [up2_ne _ _ h2]
  simp [begF, up2, h1]
theorem ent_row {F : Fs} {b n : Nat} {hi sk nt : Int32} (hB : b = 1 ∨ b = 2) {j : Nat} (hj : j < 6) : upd (upd (upd (upd (upd (upd (fun _ => 0) 0 hi) 1 sk) 2 nt) 3 0) 4 1) 5 0 j = rowS (entF F b n hi sk nt) (wb b n) j := by
  obtain ⟨e0, e1, e2, e3, e4, e5, -⟩ := ent_at F (n := n) hB hi sk nt
  unfold rowS
  rcases (show j = 0 ∨ j = 1 ∨ j = 2 ∨ j = 3 ∨ j = 4 ∨ j = 5 by omega) with rfl | rfl | rfl | rfl | rfl | rfl
  · rw [show sw 0 = 0 from rfl, e0]; simp [upd]
  · rw [show sw 1 = 1 from rfl, e1]; simp [upd]
  · rw [show sw 2 = 2 from rfl, e2]; simp [upd]
  · rw [show sw 3 = 3 from rfl, e3]; simp [upd]
  · rw [show sw 4 = 5 from rfl, e5]; simp [upd]
  · rw [show sw 5 = 4 from rfl, e4]; simp [upd]
theorem ent_book {F : Fs} {b n : Nat} {hi sk nt : Int32} (hB : b = 1 ∨ b = 2) : ∀ j, j < 6 → F b j = entF F b n hi sk nt b j := fun j hj => (ent_ne F b n hi sk nt (fun e => by have := wb_lo hB n; omega) (by omega)).symm
theorem ent_crow (G : gT) (A : Nat → Nat) {F : Fs} {b n : Nat} {hi sk nt : Int32} (q : Nat) (hB : b = 1 ∨ b = 2) : crow G (fun k => if k = n then q else A (2 + k)) (n + 1) (entF F b n hi sk nt) b = crow G (fun k => A (2 + k)) n F b ++ [(q, arrI G 6 (rowS (entF F b n hi sk nt) (wb b n)))] := by
  rw [crow_s G (fun k => A (2 + k)) n (entF F b n hi sk nt) b q]
  congr 1
  exact crow_congr G _ (fun i hi j => ent_ne F b n _ _ _ (fun e => by have := wb_inj e; omega) (fun z => by have := wb_lo hB i; omega))
