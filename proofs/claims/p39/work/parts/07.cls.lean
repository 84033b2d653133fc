theorem iX0 : ∀ w ∈ u_ws RX0 TX0 8, w ∈ lw_all := by
  intro w hw
  obtain ⟨k, hk, rfl⟩ := List.mem_map.mp hw
  have hk := List.mem_range.mp hk
  rcases (show k = 0 ∨ k = 1 ∨ k = 2 ∨ k = 3 ∨ k = 4 ∨ k = 5 ∨ k = 6 ∨ k = 7 by omega) with rfl | rfl | rfl | rfl | rfl | rfl | rfl | rfl
  · exact q73
  · exact q75
  · exact q77
  · exact q79
  · exact q81
  · exact q83
  · exact q85
  · exact q87
theorem iX1 : ∀ w ∈ u_ws RX1 TX1 6, w ∈ lw_all := by
  intro w hw
  obtain ⟨k, hk, rfl⟩ := List.mem_map.mp hw
  have hk := List.mem_range.mp hk
  rcases (show k = 0 ∨ k = 1 ∨ k = 2 ∨ k = 3 ∨ k = 4 ∨ k = 5 by omega) with rfl | rfl | rfl | rfl | rfl | rfl
  · exact q45
  · exact q47
  · exact q49
  · exact q51
  · exact q53
  · exact q55
theorem iX2 : ∀ w ∈ u_ws RX2 TX2 2, w ∈ lw_all := by
  intro w hw
  obtain ⟨k, hk, rfl⟩ := List.mem_map.mp hw
  have hk := List.mem_range.mp hk
  rcases (show k = 0 ∨ k = 1 by omega) with rfl | rfl
  · exact q92
  · exact q94
theorem iX3 : ∀ w ∈ u_ws RX3 TX3 7, w ∈ lw_all := by
  intro w hw
  obtain ⟨k, hk, rfl⟩ := List.mem_map.mp hw
  have hk := List.mem_range.mp hk
  rcases (show k = 0 ∨ k = 1 ∨ k = 2 ∨ k = 3 ∨ k = 4 ∨ k = 5 ∨ k = 6 by omega) with rfl | rfl | rfl | rfl | rfl | rfl | rfl
  · exact q446
  · exact q448
  · exact q450
  · exact q452
  · exact q454
  · exact q456
  · exact q458
theorem qMax : Cond.code Lib.Math.max.name Lib.Math.max.code 2 (some .int) ∈ lw_all := lw_in (List.mem_of_getElem? (i := 214) (by decide +kernel)) (by decide +kernel)
theorem qMin : Cond.code Lib.Math.min.name Lib.Math.min.code 2 (some .int) ∈ lw_all := lw_in (List.mem_of_getElem? (i := 229) (by decide +kernel)) (by decide +kernel)
theorem qMaxS : Cond.static Lib.Math.max.name ∈ lw_all := lw_in (List.mem_of_getElem? (i := 213) (by decide +kernel)) (by decide +kernel)
theorem qMinS : Cond.static Lib.Math.min.name ∈ lw_all := lw_in (List.mem_of_getElem? (i := 228) (by decide +kernel)) (by decide +kernel)
/-- walker j of book b -/
def wb (b j : Nat) : Nat := 8 * b - 3 + j
theorem wb_lo {b : Nat} (h : b = 1 ∨ b = 2) (j : Nat) : 5 ≤ wb b j := by unfold wb; omega
theorem wb_hi {b j : Nat} (h : b = 1 ∨ b = 2) (hj : j < 8) : wb b j < 21 := by unfold wb; omega
section GC
variable {p : Program} {l : Launch} {e : Env} {R : Room} {s : State} {m : MethodId} {args : Array Value} {below : List Frame} {meth : Method} {c : Code} {H : Heap} {locs : List Loc} {cells slots : Nat} {Q : State → Prop}
variable {cc : ByteArray} {pc nL : Nat} {ls : Array Slot} {rest st0 : List Value} {own : String} {G : gT} {F F' : Fs} {o : Int64} {X : va_W} {Y : List (ClassId × FieldType)}
theorem set_B {k : Nat} (hB : k = 1 ∨ k = 2) (j : Nat) (hj : j < 7) (x : Int32) : (wld G F o ++ X).set k (gA G k, .inr (0, ([.int (F k 0), .int (F k 1), .int (F k 2), .int (F k 3), .int (F k 4), .int (F k 5), .int (F k 6), .ref (gA G (k + 2))] : List Value).set j (.int x))) = wld G (up2 F k j x) o ++ X := by
  refine wld_set G X (by omega) ?_ (fun i _ h2 => cE_congr G o (up2_row F k j x h2))
  rw [cEb G _ o hB]
  rcases (show j = 0 ∨ j = 1 ∨ j = 2 ∨ j = 3 ∨ j = 4 ∨ j = 5 ∨ j = 6 by omega) with rfl | rfl | rfl | rfl | rfl | rfl | rfl <;> simp [up2]
theorem set_W {k : Nat} (h1 : 5 ≤ k) (h2 : k < 21) (j : Nat) (hj : j < 6) (x : Int32) : (wld G F o ++ X).set k (gA G k, .inr (1, ([.int (F k 0), .int (F k 1), .int (F k 2), .int (F k 3), .int (F k 4), .int (F k 5)] : List Value).set j (.int x))) = wld G (up2 F k j x) o ++ X := by
  refine wld_set G X (by omega) ?_ (fun i _ h2 => cE_congr G o (up2_row F k j x h2))
  rw [cEw G _ o h1 h2]
  rcases (show j = 0 ∨ j = 1 ∨ j = 2 ∨ j = 3 ∨ j = 4 ∨ j = 5 by omega) with rfl | rfl | rfl | rfl | rfl | rfl <;> simp [up2]
theorem tyX0_int {j : Nat} (hj : j < 7) : tyX0 j = .int := by
  rcases (show j = 0 ∨ j = 1 ∨ j = 2 ∨ j = 3 ∨ j = 4 ∨ j = 5 ∨ j = 6 by omega) with rfl | rfl | rfl | rfl | rfl | rfl | rfl <;> rfl
theorem tyX1_int {j : Nat} (hj : j < 5) : tyX1 j = .int := by
  rcases (show j = 0 ∨ j = 1 ∨ j = 2 ∨ j = 3 ∨ j = 4 by omega) with rfl | rfl | rfl | rfl | rfl <;> rfl
theorem tyX3_int {j : Nat} (hj : j < 6) : tyX3 j = .int := by
  rcases (show j = 0 ∨ j = 1 ∨ j = 2 ∨ j = 3 ∨ j = 4 ∨ j = 5 by omega) with rfl | rfl | rfl | rfl | rfl | rfl <;> rfl
theorem oX0 {j : Nat} : (TX0 j).1 = RX0 := by
  match j with
  | 0 => rfl | 1 => rfl | 2 => rfl | 3 => rfl | 4 => rfl | 5 => rfl | 6 => rfl | n + 7 => rfl
theorem oX1 {j : Nat} : (TX1 j).1 = RX1 := by
  match j with
  | 0 => rfl | 1 => rfl | 2 => rfl | 3 => rfl | 4 => rfl | n + 5 => rfl
theorem oX2 {j : Nat} : (TX2 j).1 = RX2 := by
  match j with
  | 0 => rfl | n + 1 => rfl
theorem oX3 {j : Nat} : (TX3 j).1 = RX3 := by
  match j with
  | 0 => rfl | 1 => rfl | 2 => rfl | 3 => rfl | 4 => rfl | 5 => rfl | n + 6 => rfl
theorem fX0 {j : Nat} (hj : j < 7) : (TX0 j).2.2.2 = false := by
  rcases (show j = 0 ∨ j = 1 ∨ j = 2 ∨ j = 3 ∨ j = 4 ∨ j = 5 ∨ j = 6 by omega) with rfl | rfl | rfl | rfl | rfl | rfl | rfl <;> rfl
theorem fX1 {j : Nat} : (TX1 j).2.2.2 = false := by
  match j with
  | 0 => rfl | 1 => rfl | 2 => rfl | 3 => rfl | 4 => rfl | n + 5 => rfl
theorem fX3 {j : Nat} : (TX3 j).2.2.2 = false := by
  match j with
  | 0 => rfl | 1 => rfl | 2 => rfl | 3 => rfl | 4 => rfl | 5 => rfl | n + 6 => rfl
theorem vB {k : Nat} (j : Nat) (hj : j < 7) : ([.int (F k 0), .int (F k 1), .int (F k 2), .int (F k 3), .int (F k 4), .int (F k 5), .int (F k 6), .ref (gA G (k + 2))] : List Value)[j]? = some (.int (F k j)) := by
  rcases (show j = 0 ∨ j = 1 ∨ j = 2 ∨ j = 3 ∨ j = 4 ∨ j = 5 ∨ j = 6 by omega) with rfl | rfl | rfl | rfl | rfl | rfl | rfl <;> rfl
theorem vW {k : Nat} (j : Nat) (hj : j < 6) : ([.int (F k 0), .int (F k 1), .int (F k 2), .int (F k 3), .int (F k 4), .int (F k 5)] : List Value)[j]? = some (.int (F k j)) := by
  rcases (show j = 0 ∨ j = 1 ∨ j = 2 ∨ j = 3 ∨ j = 4 ∨ j = 5 by omega) with rfl | rfl | rfl | rfl | rfl | rfl <;> rfl
theorem gB {index : Nat} {k : Nat} (S : CallFix p m c cc nL s args lw_all own) (g : GB G F o X Y s H locs) (hB : k = 1 ∨ k = 2) (j : Nat) (hj : j < 7) (hq : Cond.fieldLink own index RX0 (TX0 j).2.1 (TX0 j).2.2.1 ∈ lw_all) (hdg : decode cc pc = .ok (.getfield index, 3))
    (kk : W p l e R s m args below meth c H locs cells slots Q (F0 m (pc + 3) ls (.int (F k j) :: rest))) : W p l e R s m args below meth c H locs cells slots Q (F0 m pc ls (.ref (gA G k) :: rest)) :=
  g_get S g iX0 (ci := 0) rfl (by omega) (cEb G F o hB) j (by omega) oX0 hq (vB j hj) hdg kk
theorem gBr {index : Nat} {k : Nat} (S : CallFix p m c cc nL s args lw_all own) (g : GB G F o X Y s H locs) (hB : k = 1 ∨ k = 2) (j : Nat) (hj : j = 7) (hq : Cond.fieldLink own index RX0 (TX0 j).2.1 (TX0 j).2.2.1 ∈ lw_all) (hdg : decode cc pc = .ok (.getfield index, 3))
    (kk : W p l e R s m args below meth c H locs cells slots Q (F0 m (pc + 3) ls (.ref (gA G (k + 2)) :: rest))) : W p l e R s m args below meth c H locs cells slots Q (F0 m pc ls (.ref (gA G k) :: rest)) :=
  g_get S g iX0 (ci := 0) rfl (by omega) (cEb G F o hB) j (by omega) oX0 hq (by subst hj; rfl) hdg kk
theorem gW {index : Nat} {k : Nat} (S : CallFix p m c cc nL s args lw_all own) (g : GB G F o X Y s H locs) (h1 : 5 ≤ k) (h2 : k < 21) (j : Nat) (hj : j < 6) (hq : Cond.fieldLink own index RX1 (TX1 j).2.1 (TX1 j).2.2.1 ∈ lw_all) (hdg : decode cc pc = .ok (.getfield index, 3))
    (kk : W p l e R s m args below meth c H locs cells slots Q (F0 m (pc + 3) ls (.int (F k j) :: rest))) : W p l e R s m args below meth c H locs cells slots Q (F0 m pc ls (.ref (gA G k) :: rest)) :=
  g_get S g iX1 (ci := 1) rfl (by omega) (cEw G F o h1 h2) j (by omega) oX1 hq (vW j hj) hdg kk
theorem gBN {index : Nat} {host : String} {k : Nat} (S : CallFix p m c cc nL s args lw_all own) (g : GB G F o X Y s H locs) (hB : k = 1 ∨ k = 2) (j : Nat) (hj : j < 7) (hq : Cond.fieldLinkNest own index RX0 (TX0 j).2.1 (TX0 j).2.2.1 host ∈ lw_nest) (hdg : decode cc pc = .ok (.getfield index, 3))
    (kk : W p l e R s m args below meth c H locs cells slots Q (F0 m (pc + 3) ls (.int (F k j) :: rest))) : W p l e R s m args below meth c H locs cells slots Q (F0 m pc ls (.ref (gA G k) :: rest)) :=
  g_getN S g iX0 (ci := 0) rfl (by omega) (cEb G F o hB) j (by omega) oX0 hq (vB j hj) hdg kk
theorem gBrN {index : Nat} {host : String} {k : Nat} (S : CallFix p m c cc nL s args lw_all own) (g : GB G F o X Y s H locs) (hB : k = 1 ∨ k = 2) (j : Nat) (hj : j = 7) (hq : Cond.fieldLinkNest own index RX0 (TX0 j).2.1 (TX0 j).2.2.1 host ∈ lw_nest) (hdg : decode cc pc = .ok (.getfield index, 3))
    (kk : W p l e R s m args below meth c H locs cells slots Q (F0 m (pc + 3) ls (.ref (gA G (k + 2)) :: rest))) : W p l e R s m args below meth c H locs cells slots Q (F0 m pc ls (.ref (gA G k) :: rest)) :=
  g_getN S g iX0 (ci := 0) rfl (by omega) (cEb G F o hB) j (by omega) oX0 hq (by subst hj; rfl) hdg kk
theorem gWN {index : Nat} {host : String} {k : Nat} (S : CallFix p m c cc nL s args lw_all own) (g : GB G F o X Y s H locs) (h1 : 5 ≤ k) (h2 : k < 21) (j : Nat) (hj : j < 6) (hq : Cond.fieldLinkNest own index RX1 (TX1 j).2.1 (TX1 j).2.2.1 host ∈ lw_nest) (hdg : decode cc pc = .ok (.getfield index, 3))
    (kk : W p l e R s m args below meth c H locs cells slots Q (F0 m (pc + 3) ls (.int (F k j) :: rest))) : W p l e R s m args below meth c H locs cells slots Q (F0 m pc ls (.ref (gA G k) :: rest)) :=
  g_getN S g iX1 (ci := 1) rfl (by omega) (cEw G F o h1 h2) j (by omega) oX1 hq (vW j hj) hdg kk
theorem gP {index : Nat} {k : Nat} (S : CallFix p m c cc nL s args lw_all own) (g : GB G F o X Y s H locs)  (j : Nat) (hj : j < 2) (hq : Cond.fieldLink own index RX2 (TX2 j).2.1 (TX2 j).2.2.1 ∈ lw_all) (hdg : decode cc pc = .ok (.getfield index, 3))
    (kk : W p l e R s m args below meth c H locs cells slots Q (F0 m (pc + 3) ls (.ref (gA G (j + 1)) :: rest))) : W p l e R s m args below meth c H locs cells slots Q (F0 m pc ls (.ref (gA G 0) :: rest)) :=
  g_get S g iX2 (ci := 2) rfl (by omega) (cE0 G F o) j (by omega) oX2 hq (by rcases (show j = 0 ∨ j = 1 by omega) with rfl | rfl <;> rfl) hdg kk
theorem gBp {index : Nat} {k : Nat} {x : Int32} (S : CallFix p m c cc nL s args lw_all own) (g : GB G F o X Y s H locs) (hB : k = 1 ∨ k = 2) (j : Nat) (hj : j < 7) (hq : Cond.fieldLink own index RX0 (TX0 j).2.1 (TX0 j).2.2.1 ∈ lw_all) (hdg : decode cc pc = .ok (.putfield index, 3))
    (kk : ∀ (H : Heap) (locs : List Loc), GB G (up2 F k j x) o X Y s H locs → W p l e R s m args below meth c H locs cells slots Q (F0 m (pc + 3) ls rest)) : W p l e R s m args below meth c H locs cells slots Q (F0 m pc ls (.int x :: .ref (gA G k) :: rest)) :=
  g_put S g iX0 tyX0 tyX0_ok nmX0 (ci := 0) rfl (by omega) (cEb G F o hB) j (by omega) oX0 (fX0 hj) hq (by rw [tyX0_int hj]; rfl) (by rw [tyX0_int hj]; rfl) (by simp only [List.length_cons, List.length_nil]; omega) (set_B hB j hj x) hdg kk
theorem gWp {index : Nat} {k : Nat} {x : Int32} (S : CallFix p m c cc nL s args lw_all own) (g : GB G F o X Y s H locs) (h1 : 5 ≤ k) (h2 : k < 21) (j : Nat) (hj : j < 5) (hq : Cond.fieldLink own index RX1 (TX1 j).2.1 (TX1 j).2.2.1 ∈ lw_all) (hdg : decode cc pc = .ok (.putfield index, 3))
    (kk : ∀ (H : Heap) (locs : List Loc), GB G (up2 F k j x) o X Y s H locs → W p l e R s m args below meth c H locs cells slots Q (F0 m (pc + 3) ls rest)) : W p l e R s m args below meth c H locs cells slots Q (F0 m pc ls (.int x :: .ref (gA G k) :: rest)) :=
  g_put S g iX1 tyX1 tyX1_ok nmX1 (ci := 1) rfl (by omega) (cEw G F o h1 h2) j (by omega) oX1 fX1 hq (by rw [tyX1_int hj]; rfl) (by rw [tyX1_int hj]; rfl) (by simp only [List.length_cons, List.length_nil]; omega) (set_W h1 h2 j (by omega) x) hdg kk
theorem gWz {index : Nat} {k : Nat} {x : Int32} (S : CallFix p m c cc nL s args lw_all own) (g : GB G F o X Y s H locs) (h1 : 5 ≤ k) (h2 : k < 21) (j : Nat) (hj : j = 5) (hx : x = 0 ∨ x = 1) (hq : Cond.fieldLink own index RX1 (TX1 j).2.1 (TX1 j).2.2.1 ∈ lw_all) (hdg : decode cc pc = .ok (.putfield index, 3))
    (kk : ∀ (H : Heap) (locs : List Loc), GB G (up2 F k j x) o X Y s H locs → W p l e R s m args below meth c H locs cells slots Q (F0 m (pc + 3) ls rest)) : W p l e R s m args below meth c H locs cells slots Q (F0 m pc ls (.int x :: .ref (gA G k) :: rest)) :=
  g_put S g iX1 tyX1 tyX1_ok nmX1 (ci := 1) rfl (by omega) (cEw G F o h1 h2) j (by omega) oX1 fX1 hq (by subst hj; rcases hx with rfl | rfl <;> rfl) (by subst hj; rcases hx with rfl | rfl <;> rfl) (by simp only [List.length_cons, List.length_nil]; omega) (set_W h1 h2 j (by omega) x) hdg kk
theorem gBpN {index : Nat} {host : String} {k : Nat} {x : Int32} (S : CallFix p m c cc nL s args lw_all own) (g : GB G F o X Y s H locs) (hB : k = 1 ∨ k = 2) (j : Nat) (hj : j < 7) (hq : Cond.fieldLinkNest own index RX0 (TX0 j).2.1 (TX0 j).2.2.1 host ∈ lw_nest) (hdg : decode cc pc = .ok (.putfield index, 3))
    (kk : ∀ (H : Heap) (locs : List Loc), GB G (up2 F k j x) o X Y s H locs → W p l e R s m args below meth c H locs cells slots Q (F0 m (pc + 3) ls rest)) : W p l e R s m args below meth c H locs cells slots Q (F0 m pc ls (.int x :: .ref (gA G k) :: rest)) :=
  g_putN S g iX0 tyX0 tyX0_ok nmX0 (ci := 0) rfl (by omega) (cEb G F o hB) j (by omega) oX0 (fX0 hj) hq (by rw [tyX0_int hj]; rfl) (by rw [tyX0_int hj]; rfl) (by simp only [List.length_cons, List.length_nil]; omega) (set_B hB j hj x) hdg kk
theorem gWpN {index : Nat} {host : String} {k : Nat} {x : Int32} (S : CallFix p m c cc nL s args lw_all own) (g : GB G F o X Y s H locs) (h1 : 5 ≤ k) (h2 : k < 21) (j : Nat) (hj : j < 5) (hq : Cond.fieldLinkNest own index RX1 (TX1 j).2.1 (TX1 j).2.2.1 host ∈ lw_nest) (hdg : decode cc pc = .ok (.putfield index, 3))
    (kk : ∀ (H : Heap) (locs : List Loc), GB G (up2 F k j x) o X Y s H locs → W p l e R s m args below meth c H locs cells slots Q (F0 m (pc + 3) ls rest)) : W p l e R s m args below meth c H locs cells slots Q (F0 m pc ls (.int x :: .ref (gA G k) :: rest)) :=
  g_putN S g iX1 tyX1 tyX1_ok nmX1 (ci := 1) rfl (by omega) (cEw G F o h1 h2) j (by omega) oX1 fX1 hq (by rw [tyX1_int hj]; rfl) (by rw [tyX1_int hj]; rfl) (by simp only [List.length_cons, List.length_nil]; omega) (set_W h1 h2 j (by omega) x) hdg kk
theorem gWzN {index : Nat} {host : String} {k : Nat} {x : Int32} (S : CallFix p m c cc nL s args lw_all own) (g : GB G F o X Y s H locs) (h1 : 5 ≤ k) (h2 : k < 21) (j : Nat) (hj : j = 5) (hx : x = 0 ∨ x = 1) (hq : Cond.fieldLinkNest own index RX1 (TX1 j).2.1 (TX1 j).2.2.1 host ∈ lw_nest) (hdg : decode cc pc = .ok (.putfield index, 3))
    (kk : ∀ (H : Heap) (locs : List Loc), GB G (up2 F k j x) o X Y s H locs → W p l e R s m args below meth c H locs cells slots Q (F0 m (pc + 3) ls rest)) : W p l e R s m args below meth c H locs cells slots Q (F0 m pc ls (.int x :: .ref (gA G k) :: rest)) :=
  g_putN S g iX1 tyX1 tyX1_ok nmX1 (ci := 1) rfl (by omega) (cEw G F o h1 h2) j (by omega) oX1 fX1 hq (by subst hj; rcases hx with rfl | rfl <;> rfl) (by subst hj; rcases hx with rfl | rfl <;> rfl) (by simp only [List.length_cons, List.length_nil]; omega) (set_W h1 h2 j (by omega) x) hdg kk
/-- the row of book b -/
theorem gRow (S : CallFix p m c cc nL s args lw_all own) (g : GB G F o X Y s H locs) {b : Nat} (hB : b = 1 ∨ b = 2) {i : Int32} (j : Nat) (hi : i = nI j) (hj : j < 8) (hdg : decode cc pc = .ok (.aaload, 1))
    (kk : W p l e R s m args below meth c H locs cells slots Q (F0 m (pc + 1) ls (.ref (gA G (wb b j)) :: rest))) : W p l e R s m args below meth c H locs cells slots Q (F0 m pc ls (.int i :: .ref (gA G (b + 2)) :: rest)) := by
  refine g_aald S g (by omega) j hi hj hdg ?_
  have e1 : 8 * (b + 2) - 19 + j = wb b j := by unfold wb; omega
  rw [e1]
  exact kk
theorem gRowLen (S : CallFix p m c cc nL s args lw_all own) (g : GB G F o X Y s H locs) {b : Nat} (hB : b = 1 ∨ b = 2) (hdg : decode cc pc = .ok (.arraylength, 1))
    (kk : W p l e R s m args below meth c H locs cells slots Q (F0 m (pc + 1) ls (.int 8 :: rest))) : W p l e R s m args below meth c H locs cells slots Q (F0 m pc ls (.ref (gA G (b + 2)) :: rest)) :=
  g_alen (t0 := 0) S g (by omega) (cEr G F o (by omega)) rfl rfl hdg kk
end GC
