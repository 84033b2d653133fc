/-! THE LAW'S SIDE: worlds of several blocks, in any order; a Sim's block -/
theorem va_P_mem {D : va_G} {cl : List vw_C} {w : va_W} {H : Heap} : va_P D cl w H ↔ ∀ q ∈ w, va_at D cl q H := by
  constructor
  · intro h q hq
    obtain ⟨k, hk⟩ := List.getElem?_of_mem hq
    exact h k q hk
  · intro h k q hk
    exact h q (List.mem_of_getElem? hk)
theorem va_D_nd {A : Nat → Prop} {w : va_W} : va_D A w ↔ (w.map Prod.fst).Nodup ∧ ∀ q ∈ w, A q.1 := by
  constructor
  · intro h
    refine ⟨?_, fun q hq => ?_⟩
    · rw [List.nodup_iff_pairwise_ne, List.pairwise_iff_getElem]
      intro i j hi hj hij e
      rw [List.length_map] at hi hj
      simp only [List.getElem_map] at e
      have h1 := h.1 i j w[i] w[j] (List.getElem?_eq_getElem hi) (List.getElem?_eq_getElem hj) e
      omega
    · obtain ⟨k, hk⟩ := List.getElem?_of_mem hq
      exact h.2 k q hk
  · rintro ⟨h1, h2⟩
    refine ⟨fun i j p q hi hj e => ?_, fun k q hk => h2 q (List.mem_of_getElem? hk)⟩
    have hi1 : (w.map Prod.fst)[i]? = some p.1 := by rw [List.getElem?_map, hi]; rfl
    have hj1 : (w.map Prod.fst)[j]? = some q.1 := by rw [List.getElem?_map, hj]; rfl
    exact (List.getElem?_inj (List.getElem?_eq_some_iff.mp hi1).1 h1).mp (by rw [hi1, hj1, e])
theorem va_A_mem {w : va_W} {sz q : Nat} : va_A w sz q ↔ (∃ c ∈ w, c.1 = q) ∨ sz ≤ q := by
  constructor
  · rintro (⟨k, e, h⟩ | h)
    · exact Or.inl ⟨(q, e), List.mem_of_getElem? h, rfl⟩
    · exact Or.inr h
  · rintro (⟨c, h, rfl⟩ | h)
    · obtain ⟨k, hk⟩ := List.getElem?_of_mem h
      exact Or.inl ⟨k, c.2, hk⟩
    · exact Or.inr h
theorem va_P.lt1 {D : va_G} {cl : List vw_C} {w : va_W} {H : Heap} (h : va_P D cl w H) {q : Nat × va_E} (hq : q ∈ w) : q.1 < H.size := by
  obtain ⟨k, hk⟩ := List.getElem?_of_mem hq
  exact (h k q hk).lt
/-- the world at a point of a body of the law's side: Z is what this body may write -/
def GX (G : gT) (Z : Nat → Prop) (w : va_W) (s : State) (H : Heap) (locs : List Loc) : Prop :=
  va_P G.1 vwCl w H ∧ va_D Z w ∧ va_K G.1 vwCl (tysG G) s ∧ va_S Z s.heap H locs ∧ EnvG Z s s.heap ∧ ∀ q, s.heap.size ≤ q → Z q
abbrev preX (G : gT) (w : va_W) (sz : Nat) : State → Prop := fun U => U.heap.size = sz ∧ va_P G.1 vwCl w U.heap ∧ va_D (fun _ => True) w ∧ va_K G.1 vwCl (tysG G) U ∧ EnvG (va_A w sz) U U.heap
abbrev poX {α : Type} (G : gT) (w : α → va_W) (Z : Nat → Prop) : α → State → Prop := fun u t => va_P G.1 vwCl (w u) t.heap ∧ va_D Z (w u)
theorem GX.perm {G : gT} {Z : Nat → Prop} {w w' : va_W} {s : State} {H : Heap} {locs : List Loc} (g : GX G Z w s H locs) (h : w.Perm w') : GX G Z w' s H locs := by
  obtain ⟨h1, h2, h3⟩ := g
  rw [va_P_mem] at h1
  rw [va_D_nd] at h2
  refine ⟨va_P_mem.mpr (fun q hq => h1 q (h.mem_iff.mpr hq)), va_D_nd.mpr ⟨(h.map Prod.fst).nodup h2.1, fun q hq => h2.2 q (h.mem_iff.mpr hq)⟩, h3⟩
theorem GX.sl {G : gT} {Z : Nat → Prop} {w w' : va_W} {s : State} {H : Heap} {locs : List Loc} (g : GX G Z w s H locs) (h : w'.Sublist w) : GX G Z w' s H locs := by
  obtain ⟨h1, h2, h3⟩ := g
  rw [va_P_mem] at h1
  rw [va_D_nd] at h2
  exact ⟨va_P_mem.mpr (fun q hq => h1 q (h.subset hq)), va_D_nd.mpr ⟨(h.map Prod.fst).nodup h2.1, fun q hq => h2.2 q (h.subset hq)⟩, h3⟩
theorem GX.drop {G : gT} {Z : Nat → Prop} {w X : va_W} {s : State} {H : Heap} {locs : List Loc} (g : GX G Z (w ++ X) s H locs) : GX G Z X s H locs := g.sl (List.sublist_append_right w X)
theorem GX.eqw {G : gT} {Z : Nat → Prop} {w w' : va_W} {s : State} {H : Heap} {locs : List Loc} (g : GX G Z w s H locs) (h : w = w') : GX G Z w' s H locs := h ▸ g
theorem pm2 (a b X : va_W) : (a ++ (b ++ X)).Perm (b ++ (a ++ X)) := List.perm_append_comm_assoc a b X
theorem pm3 (a b c X : va_W) : (a ++ (b ++ (c ++ X))).Perm (c ++ (a ++ (b ++ X))) := (List.Perm.append_left a (pm2 b c X)).trans (pm2 a c (b ++ X))
theorem pm4 (a b c d X : va_W) : (a ++ (b ++ (c ++ (d ++ X)))).Perm (d ++ (a ++ (b ++ (c ++ X)))) := (List.Perm.append_left a (pm3 b c d X)).trans (pm2 a d (b ++ (c ++ X)))
theorem pm5 (a b c d e X : va_W) : (a ++ (b ++ (c ++ (d ++ (e ++ X))))).Perm (e ++ (a ++ (b ++ (c ++ (d ++ X))))) := (List.Perm.append_left a (pm4 b c d e X)).trans (pm2 a e (b ++ (c ++ (d ++ X))))
theorem pm6 (a b c d e f X : va_W) : (a ++ (b ++ (c ++ (d ++ (e ++ (f ++ X)))))).Perm (f ++ (a ++ (b ++ (c ++ (d ++ (e ++ X)))))) := (List.Perm.append_left a (pm5 b c d e f X)).trans (pm2 a f (b ++ (c ++ (d ++ (e ++ X)))))
theorem pm7 (a b c d e f h X : va_W) : (a ++ (b ++ (c ++ (d ++ (e ++ (f ++ (h ++ X))))))).Perm (h ++ (a ++ (b ++ (c ++ (d ++ (e ++ (f ++ X))))))) := (List.Perm.append_left a (pm6 b c d e f h X)).trans (pm2 a h (b ++ (c ++ (d ++ (e ++ (f ++ X))))))
theorem pm8 (a b c d e f h i X : va_W) : (a ++ (b ++ (c ++ (d ++ (e ++ (f ++ (h ++ (i ++ X)))))))).Perm (i ++ (a ++ (b ++ (c ++ (d ++ (e ++ (f ++ (h ++ X)))))))) := (List.Perm.append_left a (pm7 b c d e f h i X)).trans (pm2 a i (b ++ (c ++ (d ++ (e ++ (f ++ (h ++ X)))))))
/-! before and behind a call -/
theorem GX.pre {G : gT} {Z : Nat → Prop} {wc X : va_W} {s : State} {H : Heap} {locs : List Loc} (g : GX G Z (wc ++ X) s H locs) {U : State} (hU : U.heap = H) (hW : s.WarmedH U.vm) : preX G wc H.size U := by
  obtain ⟨hP, hD, hK, hS, hE, hZ⟩ := g
  have hD2 := va_D_nd.mp hD
  rw [List.map_append, List.nodup_append] at hD2
  refine ⟨by rw [hU], by rw [hU]; exact va_P_mem.mpr (fun q hq => va_P_mem.mp hP q (List.mem_append_left _ hq)), va_D_nd.mpr ⟨hD2.1.1, fun _ _ => trivial⟩, va_K.moved hW.alike hK, ?_⟩
  rw [hU]
  refine (hE.warm hW).on (fun a h1 h2 => hS.2.1 a h1 h2) (fun q hq => ?_)
  rcases va_A_mem.mp hq with ⟨c, h, rfl⟩ | h
  · exact hD2.2 c (List.mem_append_left _ h)
  · exact hZ q (Nat.le_trans hS.1 h)
theorem GX.free {G : gT} {Z : Nat → Prop} {wc X : va_W} {s : State} {H : Heap} {locs : List Loc} (g : GX G Z (wc ++ X) s H locs) {q : Nat} (hq : va_A wc H.size q) : Z q := by
  rcases va_A_mem.mp hq with ⟨c, h, rfl⟩ | h
  · exact (va_D_nd.mp g.2.1).2 c (List.mem_append_left _ h)
  · exact g.2.2.2.2.2 q (Nat.le_trans g.2.2.2.1.1 h)
theorem GX.after {G : gT} {Z : Nat → Prop} {wc w1 X : va_W} {s : State} {H H1 : Heap} {locs locs1 : List Loc} (g : GX G Z (wc ++ X) s H locs) (hP1 : va_P G.1 vwCl w1 H1) (hD1 : va_D (va_A wc H.size) w1) (hk1 : ∀ q : Nat, q < H.size → ¬ va_A wc H.size q → H1[q]? = H[q]?) (hS1 : va_S Z s.heap H1 locs1) : GX G Z (w1 ++ X) s H1 locs1 := by
  have gf := fun (q : Nat) => g.free (q := q)
  obtain ⟨hP, hD, hK, hS, hE, hZ⟩ := g
  have hD2 := va_D_nd.mp hD
  rw [List.map_append, List.nodup_append] at hD2
  obtain ⟨⟨d1, d2, d3⟩, d4⟩ := hD2
  have hPm := va_P_mem.mp hP
  have hD1m := va_D_nd.mp hD1
  have out : ∀ q ∈ X, ¬ va_A wc H.size q.1 := fun q hq h => by
    rcases va_A_mem.mp h with ⟨c, h1, h2⟩ | h1
    · exact d3 c.1 (List.mem_map_of_mem h1) q.1 (List.mem_map_of_mem hq) h2
    · exact absurd (hP.lt1 (List.mem_append_right _ hq)) (Nat.not_lt.mpr h1)
  refine ⟨va_P_mem.mpr (fun q hq => ?_), va_D_nd.mpr ⟨?_, fun q hq => ?_⟩, hK, hS1, hE, hZ⟩
  · rcases List.mem_append.mp hq with h | h
    · exact va_P_mem.mp hP1 q h
    · exact (hPm q (List.mem_append_right _ h)).kept (hk1 _ (hP.lt1 (List.mem_append_right _ h)) (out q h))
  · rw [List.map_append, List.nodup_append]
    refine ⟨hD1m.1, d2, fun a ha b hb e => ?_⟩
    obtain ⟨q, hq, rfl⟩ := List.mem_map.mp ha
    obtain ⟨r, hr, rfl⟩ := List.mem_map.mp hb
    exact out r hr (by rw [← e]; exact hD1m.2 q hq)
  · rcases List.mem_append.mp hq with h | h
    · exact gf _ (hD1m.2 q h)
    · exact d4 q (List.mem_append_right _ h)
theorem GA_eq (G : gT) (F : Fs) (o : Int64) (sz : Nat) : va_A (wld G F o) sz = GA G sz := by
  funext q
  apply propext
  rw [va_A_mem]
  constructor
  · rintro (⟨c, h, rfl⟩ | h)
    · obtain ⟨k, hk, rfl⟩ := List.mem_map.mp h
      exact Or.inl ⟨k, List.mem_range.mp hk, rfl⟩
    · exact Or.inr h
  · rintro (⟨k, hk, rfl⟩ | h)
    · exact Or.inl ⟨(gA G k, cellE G F o k), List.mem_map.mpr ⟨k, List.mem_range.mpr hk, rfl⟩, rfl⟩
    · exact Or.inr h
theorem GX.preG {G : gT} {F : Fs} {o : Int64} {Z : Nat → Prop} {X : va_W} {s : State} {H : Heap} {locs : List Loc} (g : GX G Z (wld G F o ++ X) s H locs) {U : State} (hU : U.heap = H) (hW : s.WarmedH U.vm) : preG G F o H.size U := by
  have h := g.pre hU hW
  rw [preX, GA_eq] at h
  exact h
theorem GX.afterG {G : gT} {F F' : Fs} {o : Int64} {Z : Nat → Prop} {X : va_W} {s : State} {H H1 : Heap} {locs locs1 : List Loc} (g : GX G Z (wld G F o ++ X) s H locs) (hP1 : va_P G.1 vwCl (wld G F' o) H1) (hk1 : ∀ q : Nat, q < H.size → ¬ GA G H.size q → H1[q]? = H[q]?) (hS1 : va_S Z s.heap H1 locs1) : GX G Z (wld G F' o ++ X) s H1 locs1 := by
  refine g.after hP1 ?_ (by rw [GA_eq]; exact hk1) hS1
  have hD : va_D Z (wld G F o) := (g.sl (List.sublist_append_left _ _)).2.1
  have h0 := va_D_re (w' := wld G F' o) hD (by simpa using wld_fst G F F' o o [])
  rw [GA_eq]
  refine va_D_nd.mpr ⟨(va_D_nd.mp h0).1, fun q hq => ?_⟩
  obtain ⟨k, hk, rfl⟩ := List.mem_map.mp hq
  exact GA_in G _ (List.mem_range.mp hk)
/-! a Sim's block: A 0 the object, A 1 its row of rows, A (2 + i) walker i's row; what it holds is the class's book b in F -/
def sw (j : Nat) : Nat := if j = 4 then 5 else if j = 5 then 4 else j
def rowS (F : Fs) (k : Nat) : Nat → Int32 := fun j => F k (sw j)
def simO (a1 : Nat) (F : Fs) (b : Nat) : va_E := .inr (3, [.int (F b 0), .int (F b 1), .int (F b 2), .int (F b 3), .int (F b 4), .int (F b 5), .ref a1])
def arrR (G : gT) (n : Nat) (f : Nat → Option Nat) : va_E := .inl (G.2.1 2, n, .inr (.inr (.inr (.inr f))))
def arrI (G : gT) (n : Nat) (f : Nat → Int32) : va_E := .inl (G.2.1 1, n, .inl f)
def srow (G : gT) (A : Nat → Nat) (n : Nat) (F : Fs) (b : Nat) : va_W := (List.range n).map (fun i => (A (2 + i), arrI G 6 (rowS F (wb b i))))
def swl (G : gT) (A : Nat → Nat) (n : Nat) (F : Fs) (b : Nat) : va_W := (A 0, simO (A 1) F b) :: (A 1, arrR G n (fun i => some (A (2 + i)))) :: srow G A n F b
theorem sw_inj {i j : Nat} (h : sw i = sw j) : i = j := by unfold sw at h; split at h <;> split at h <;> (try split at h) <;> (try split at h) <;> omega
theorem srow_at (G : gT) (A : Nat → Nat) {n : Nat} (F : Fs) (b : Nat) {i : Nat} (h : i < n) : (srow G A n F b)[i]? = some (A (2 + i), arrI G 6 (rowS F (wb b i))) := by
  unfold srow
  rw [List.getElem?_map, List.getElem?_range h]
  rfl
theorem srow_len (G : gT) (A : Nat → Nat) (n : Nat) (F : Fs) (b : Nat) : (srow G A n F b).length = n := by simp [srow]
theorem srow_mem (G : gT) (A : Nat → Nat) {n : Nat} (F : Fs) (b : Nat) {i : Nat} (h : i < n) : (A (2 + i), arrI G 6 (rowS F (wb b i))) ∈ srow G A n F b := List.mem_of_getElem? (srow_at G A F b h)
theorem swl_m0 (G : gT) (A : Nat → Nat) (n : Nat) (F : Fs) (b : Nat) : (A 0, simO (A 1) F b) ∈ swl G A n F b := List.mem_cons_self
theorem swl_m1 (G : gT) (A : Nat → Nat) (n : Nat) (F : Fs) (b : Nat) : (A 1, arrR G n (fun i => some (A (2 + i)))) ∈ swl G A n F b := List.mem_cons_of_mem _ List.mem_cons_self
theorem swl_mr (G : gT) (A : Nat → Nat) {n : Nat} (F : Fs) (b : Nat) {i : Nat} (h : i < n) : (A (2 + i), arrI G 6 (rowS F (wb b i))) ∈ swl G A n F b := List.mem_cons_of_mem _ (List.mem_cons_of_mem _ (srow_mem G A F b h))
theorem arrI_congr (G : gT) {f g : Nat → Int32} (n : Nat) (h : ∀ j, f j = g j) : arrI G n f = arrI G n g := by rw [funext h]
/-- the block depends on what the book holds -/
theorem swl_congr (G : gT) (A : Nat → Nat) {n : Nat} {F F' : Fs} {b b' : Nat} (h : ∀ j, j < 6 → F b j = F' b' j) (hw : ∀ i, i < n → ∀ j, F (wb b i) j = F' (wb b' i) j) : swl G A n F b = swl G A n F' b' := by
  unfold swl simO
  rw [h 0 (by omega), h 1 (by omega), h 2 (by omega), h 3 (by omega), h 4 (by omega), h 5 (by omega)]
  congr 2
  unfold srow
  apply List.map_congr_left
  intro i hi
  have hi := List.mem_range.mp hi
  rw [arrI_congr G 6 (f := rowS F (wb b i)) (g := rowS F' (wb b' i)) (fun j => hw i hi _)]
theorem swl_fst (G : gT) (A : Nat → Nat) (n : Nat) (F F' : Fs) (b b' : Nat) : (swl G A n F' b').map Prod.fst = (swl G A n F b).map Prod.fst := by
  simp [swl, srow, List.map_map, Function.comp_def]
theorem swl_set0 (G : gT) (A : Nat → Nat) (n : Nat) (F : Fs) {b j : Nat} (X : va_W) (hB : b = 1 ∨ b = 2) (hj : j < 6) (x : Int32) : (swl G A n F b ++ X).set 0 (A 0, .inr (3, ([.int (F b 0), .int (F b 1), .int (F b 2), .int (F b 3), .int (F b 4), .int (F b 5), .ref (A 1)] : List Value).set j (.int x))) = swl G A n (up2 F b j x) b ++ X := by
  have hw : srow G A n (up2 F b j x) b = srow G A n F b := by
    unfold srow
    apply List.map_congr_left
    intro i _
    rw [arrI_congr G 6 (f := rowS (up2 F b j x) (wb b i)) (g := rowS F (wb b i)) (fun q => up2_ne _ _ (fun z => by have := wb_lo hB i; omega))]
  unfold swl
  rw [hw]
  show ((_ : Nat × va_E) :: _) = ((_ : Nat × va_E) :: _)
  congr 1
  unfold simO
  rcases (show j = 0 ∨ j = 1 ∨ j = 2 ∨ j = 3 ∨ j = 4 ∨ j = 5 by omega) with rfl | rfl | rfl | rfl | rfl | rfl <;> simp [up2]
theorem rowS_up (F : Fs) (k j : Nat) (x : Int32) : upd (rowS F k) j x = rowS (up2 F k (sw j) x) k := by
  funext q
  unfold rowS
  by_cases h : q = j
  · subst h; rw [up2_s]; simp [upd]
  · rw [up2_ne _ _ (fun z => h (sw_inj z.2))]; simp [upd, h]
theorem swl_setr (G : gT) (A : Nat → Nat) {n : Nat} (F : Fs) {b i : Nat} (X : va_W) (hB : b = 1 ∨ b = 2) (hi : i < n) (j : Nat) (x : Int32) : (swl G A n F b ++ X).set (i + 2) (A (2 + i), arrI G 6 (upd (rowS F (wb b i)) j x)) = swl G A n (up2 F (wb b i) (sw j) x) b ++ X := by
  have h0 : simO (A 1) (up2 F (wb b i) (sw j) x) b = simO (A 1) F b := by
    have e : ∀ q, up2 F (wb b i) (sw j) x b q = F b q := fun q => up2_ne _ _ (fun z => by have := wb_lo hB i; omega)
    unfold simO
    rw [e, e, e, e, e, e]
  have hs : (srow G A n F b ++ X).set i (A (2 + i), arrI G 6 (upd (rowS F (wb b i)) j x)) = srow G A n (up2 F (wb b i) (sw j) x) b ++ X := by
    rw [rowS_up]
    apply List.ext_getElem?
    intro q
    by_cases hq : q = i
    · subst hq
      rw [List.getElem?_set_self (by rw [List.length_append, srow_len]; omega), List.getElem?_append_left (by rw [srow_len]; exact hi), srow_at G A _ b hi]
    · rw [List.getElem?_set_ne (Ne.symm hq)]
      by_cases hl : q < n
      · rw [List.getElem?_append_left (by rw [srow_len]; exact hl), List.getElem?_append_left (by rw [srow_len]; exact hl), srow_at G A _ b hl, srow_at G A _ b hl]
        rw [arrI_congr G 6 (f := rowS (up2 F (wb b i) (sw j) x) (wb b q)) (g := rowS F (wb b q)) (fun z => up2_ne _ _ (fun y => hq (by have := y.1; unfold wb at this; omega)))]
      · rw [List.getElem?_append_right (by rw [srow_len]; omega), List.getElem?_append_right (by rw [srow_len]; omega), srow_len, srow_len]
  unfold swl
  rw [h0]
  show (A 0, simO (A 1) F b) :: (A 1, _) :: (srow G A n F b ++ X).set i _ = _
  rw [hs]
  rfl
