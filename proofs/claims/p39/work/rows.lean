section
-- ===== PART A: goes FIRST, ahead of the names: the tables' words, and 'selects' of the private methods out of them =====
/-- a private method of a class that the tables say can be made, by its rows of tables_1 -/
def lw_okq (q : MethodName × Nat) : Prop := (q.1.cls ≠ "java/lang/invoke/MethodHandle" ∧ q.1.cls ≠ "java/lang/invoke/VarHandle") ∧ Cond.instantiable q.1.cls q.2 ∈ tables_1 ∧ Cond.privateMethod q.1 ∈ tables_1 ∧ Cond.instanceMethod q.1 ∈ tables_1
theorem lw_p0 : lw_okq (⟨"java/lang/Throwable", "fillInStackTrace", "(I)Ljava/lang/Throwable;"⟩, 6) := ⟨⟨by decide +kernel, by decide +kernel⟩, List.mem_of_getElem? (i := 143) (by decide +kernel), List.mem_of_getElem? (i := 141) (by decide +kernel), List.mem_of_getElem? (i := 142) (by decide +kernel)⟩
theorem lw_p1 : lw_okq (⟨"ShadowPool$Book", "letGoBy", "(I)I"⟩, 8) := ⟨⟨by decide +kernel, by decide +kernel⟩, List.mem_of_getElem? (i := 21) (by decide +kernel), List.mem_of_getElem? (i := 173) (by decide +kernel), List.mem_of_getElem? (i := 174) (by decide +kernel)⟩
theorem lw_p2 : lw_okq (⟨"ShadowPool$Book", "letOneHourGoBy", "()I"⟩, 8) := ⟨⟨by decide +kernel, by decide +kernel⟩, List.mem_of_getElem? (i := 21) (by decide +kernel), List.mem_of_getElem? (i := 177) (by decide +kernel), List.mem_of_getElem? (i := 178) (by decide +kernel)⟩
theorem lw_p3 : lw_okq (⟨"ShadowPool$Book", "payDues", "()V"⟩, 8) := ⟨⟨by decide +kernel, by decide +kernel⟩, List.mem_of_getElem? (i := 21) (by decide +kernel), List.mem_of_getElem? (i := 187) (by decide +kernel), List.mem_of_getElem? (i := 188) (by decide +kernel)⟩
theorem lw_p4 : lw_okq (⟨"ShadowPool$Book", "countMembers", "()I"⟩, 8) := ⟨⟨by decide +kernel, by decide +kernel⟩, List.mem_of_getElem? (i := 21) (by decide +kernel), List.mem_of_getElem? (i := 191) (by decide +kernel), List.mem_of_getElem? (i := 192) (by decide +kernel)⟩
theorem lw_p5 : lw_okq (⟨"ShadowPool$Book", "find", "(I)LShadowPool$Walker;"⟩, 8) := ⟨⟨by decide +kernel, by decide +kernel⟩, List.mem_of_getElem? (i := 21) (by decide +kernel), List.mem_of_getElem? (i := 195) (by decide +kernel), List.mem_of_getElem? (i := 196) (by decide +kernel)⟩
theorem lw_p6 : lw_okq (⟨"ShadowPool$Book", "walk", "(LShadowPool$Walker;IZ)Z"⟩, 8) := ⟨⟨by decide +kernel, by decide +kernel⟩, List.mem_of_getElem? (i := 21) (by decide +kernel), List.mem_of_getElem? (i := 205) (by decide +kernel), List.mem_of_getElem? (i := 206) (by decide +kernel)⟩
theorem lw_p7 : lw_okq (⟨"ShadowPool$Walker", "wobbleBehind", "(IZ)I"⟩, 6) := ⟨⟨by decide +kernel, by decide +kernel⟩, List.mem_of_getElem? (i := 28) (by decide +kernel), List.mem_of_getElem? (i := 209) (by decide +kernel), List.mem_of_getElem? (i := 210) (by decide +kernel)⟩
theorem lw_p8 : lw_okq (⟨"ShadowPool$Walker", "costUnder", "(I)I"⟩, 6) := ⟨⟨by decide +kernel, by decide +kernel⟩, List.mem_of_getElem? (i := 28) (by decide +kernel), List.mem_of_getElem? (i := 216) (by decide +kernel), List.mem_of_getElem? (i := 217) (by decide +kernel)⟩
theorem lw_p9 : lw_okq (⟨"ShadowPool$Walker", "shadowUnder", "(I)I"⟩, 6) := ⟨⟨by decide +kernel, by decide +kernel⟩, List.mem_of_getElem? (i := 28) (by decide +kernel), List.mem_of_getElem? (i := 220) (by decide +kernel), List.mem_of_getElem? (i := 221) (by decide +kernel)⟩
theorem lw_p10 : lw_okq (⟨"ShadowPool$Walker", "ownPart", "(IZ)I"⟩, 6) := ⟨⟨by decide +kernel, by decide +kernel⟩, List.mem_of_getElem? (i := 28) (by decide +kernel), List.mem_of_getElem? (i := 224) (by decide +kernel), List.mem_of_getElem? (i := 225) (by decide +kernel)⟩
theorem lw_p11 : lw_okq (⟨"ShadowPool$Book", "reinsuredPart", "(I)I"⟩, 8) := ⟨⟨by decide +kernel, by decide +kernel⟩, List.mem_of_getElem? (i := 21) (by decide +kernel), List.mem_of_getElem? (i := 231) (by decide +kernel), List.mem_of_getElem? (i := 232) (by decide +kernel)⟩
theorem lw_p12 : lw_okq (⟨"ShadowPool$Walker", "fall", "()V"⟩, 6) := ⟨⟨by decide +kernel, by decide +kernel⟩, List.mem_of_getElem? (i := 28) (by decide +kernel), List.mem_of_getElem? (i := 237) (by decide +kernel), List.mem_of_getElem? (i := 238) (by decide +kernel)⟩
theorem lw_p13 : lw_okq (⟨"ShadowPool", "claimNow", "(LShadowPool$Walker;)I"⟩, 2) := ⟨⟨by decide +kernel, by decide +kernel⟩, List.mem_of_getElem? (i := 13) (by decide +kernel), List.mem_of_getElem? (i := 327) (by decide +kernel), List.mem_of_getElem? (i := 328) (by decide +kernel)⟩
theorem lw_p14 : lw_okq (⟨"ShadowPool$Walker", "fallsBehind", "(I)I"⟩, 6) := ⟨⟨by decide +kernel, by decide +kernel⟩, List.mem_of_getElem? (i := 28) (by decide +kernel), List.mem_of_getElem? (i := 360) (by decide +kernel), List.mem_of_getElem? (i := 361) (by decide +kernel)⟩
theorem lw_p15 : lw_okq (⟨"ShadowPool", "fundBehind", "(III)I"⟩, 2) := ⟨⟨by decide +kernel, by decide +kernel⟩, List.mem_of_getElem? (i := 13) (by decide +kernel), List.mem_of_getElem? (i := 375) (by decide +kernel), List.mem_of_getElem? (i := 376) (by decide +kernel)⟩
def lw_privs_1 : List (MethodName × Nat) := [(⟨"java/lang/Throwable", "fillInStackTrace", "(I)Ljava/lang/Throwable;"⟩, 6), (⟨"ShadowPool$Book", "letGoBy", "(I)I"⟩, 8), (⟨"ShadowPool$Book", "letOneHourGoBy", "()I"⟩, 8), (⟨"ShadowPool$Book", "payDues", "()V"⟩, 8), (⟨"ShadowPool$Book", "countMembers", "()I"⟩, 8), (⟨"ShadowPool$Book", "find", "(I)LShadowPool$Walker;"⟩, 8), (⟨"ShadowPool$Book", "walk", "(LShadowPool$Walker;IZ)Z"⟩, 8), (⟨"ShadowPool$Walker", "wobbleBehind", "(IZ)I"⟩, 6), (⟨"ShadowPool$Walker", "costUnder", "(I)I"⟩, 6), (⟨"ShadowPool$Walker", "shadowUnder", "(I)I"⟩, 6), (⟨"ShadowPool$Walker", "ownPart", "(IZ)I"⟩, 6), (⟨"ShadowPool$Book", "reinsuredPart", "(I)I"⟩, 8), (⟨"ShadowPool$Walker", "fall", "()V"⟩, 6), (⟨"ShadowPool", "claimNow", "(LShadowPool$Walker;)I"⟩, 2), (⟨"ShadowPool$Walker", "fallsBehind", "(I)I"⟩, 6), (⟨"ShadowPool", "fundBehind", "(III)I"⟩, 2)]
theorem lw_r1 : ∀ q ∈ lw_privs_1, lw_okq q := List.forall_mem_cons.mpr ⟨lw_p0, List.forall_mem_cons.mpr ⟨lw_p1, List.forall_mem_cons.mpr ⟨lw_p2, List.forall_mem_cons.mpr ⟨lw_p3, List.forall_mem_cons.mpr ⟨lw_p4, List.forall_mem_cons.mpr ⟨lw_p5, List.forall_mem_cons.mpr ⟨lw_p6, List.forall_mem_cons.mpr ⟨lw_p7, List.forall_mem_cons.mpr ⟨lw_p8, List.forall_mem_cons.mpr ⟨lw_p9, List.forall_mem_cons.mpr ⟨lw_p10, List.forall_mem_cons.mpr ⟨lw_p11, List.forall_mem_cons.mpr ⟨lw_p12, List.forall_mem_cons.mpr ⟨lw_p13, List.forall_mem_cons.mpr ⟨lw_p14, List.forall_mem_cons.mpr ⟨lw_p15, fun _ h => absurd h List.not_mem_nil⟩⟩⟩⟩⟩⟩⟩⟩⟩⟩⟩⟩⟩⟩⟩⟩
theorem lw_p16 : lw_okq (⟨"ShadowPool$Book", "copyFrom", "(LShadowPool$Book;)V"⟩, 8) := ⟨⟨by decide +kernel, by decide +kernel⟩, List.mem_of_getElem? (i := 21) (by decide +kernel), List.mem_of_getElem? (i := 379) (by decide +kernel), List.mem_of_getElem? (i := 380) (by decide +kernel)⟩
theorem lw_p17 : lw_okq (⟨"ShadowPool$Walker", "copyWalker", "(LShadowPool$Walker;)V"⟩, 6) := ⟨⟨by decide +kernel, by decide +kernel⟩, List.mem_of_getElem? (i := 28) (by decide +kernel), List.mem_of_getElem? (i := 383) (by decide +kernel), List.mem_of_getElem? (i := 384) (by decide +kernel)⟩
theorem lw_p18 : lw_okq (⟨"ShadowPool", "chainWalker", "(JLShadowPool$Walker;)J"⟩, 2) := ⟨⟨by decide +kernel, by decide +kernel⟩, List.mem_of_getElem? (i := 13) (by decide +kernel), List.mem_of_getElem? (i := 419) (by decide +kernel), List.mem_of_getElem? (i := 420) (by decide +kernel)⟩
theorem lw_p19 : lw_okq (⟨"ShadowPool$Book", "enter", "(III)I"⟩, 8) := ⟨⟨by decide +kernel, by decide +kernel⟩, List.mem_of_getElem? (i := 21) (by decide +kernel), List.mem_of_getElem? (i := 550) (by decide +kernel), List.mem_of_getElem? (i := 551) (by decide +kernel)⟩
theorem lw_p20 : lw_okq (⟨"ShadowPool$Walker", "begin", "(III)V"⟩, 6) := ⟨⟨by decide +kernel, by decide +kernel⟩, List.mem_of_getElem? (i := 28) (by decide +kernel), List.mem_of_getElem? (i := 554) (by decide +kernel), List.mem_of_getElem? (i := 555) (by decide +kernel)⟩
def lw_privs_2 : List (MethodName × Nat) := [(⟨"ShadowPool$Book", "copyFrom", "(LShadowPool$Book;)V"⟩, 8), (⟨"ShadowPool$Walker", "copyWalker", "(LShadowPool$Walker;)V"⟩, 6), (⟨"ShadowPool", "chainWalker", "(JLShadowPool$Walker;)J"⟩, 2), (⟨"ShadowPool$Book", "enter", "(III)I"⟩, 8), (⟨"ShadowPool$Walker", "begin", "(III)V"⟩, 6)]
theorem lw_r2 : ∀ q ∈ lw_privs_2, lw_okq q := List.forall_mem_cons.mpr ⟨lw_p16, List.forall_mem_cons.mpr ⟨lw_p17, List.forall_mem_cons.mpr ⟨lw_p18, List.forall_mem_cons.mpr ⟨lw_p19, List.forall_mem_cons.mpr ⟨lw_p20, fun _ h => absurd h List.not_mem_nil⟩⟩⟩⟩⟩
def lw_privs : List (MethodName × Nat) := lw_privs_1 ++ (lw_privs_2)
def lw_tbl : List Cond := k2_sels lw_privs ++ tables_1
theorem lw_privs_ok : ∀ q ∈ lw_privs, lw_okq q := by
  show ∀ q ∈ lw_privs_1 ++ (lw_privs_2), lw_okq q
  exact List.forall_mem_append.mpr ⟨lw_r1, lw_r2⟩
/-- the streams that the claim lets the run draw from -/
abbrev lw_cs : List Choice := [Jvm.Choice.named "NaN.bits"]
theorem lw_bits : nanBits ∈ lw_cs := by first | decide | exact List.mem_cons_self | simp [lw_cs, nanBits]
end
section
/-! ===== BEGIN words of one list among another's, by their places ===== -/
theorem goodIn_r {big : List Cond} (ws : List Cond) (ps : List Nat) (hp : ws = ps.filterMap (fun i => big[i]?)) (h : ws.all goodWord = true) : GoodIn big ws := by
  intro w hw
  have h1 := List.all_eq_true.mp h w hw
  rw [hp] at hw
  obtain ⟨i, -, hi⟩ := List.mem_filterMap.mp hw
  have hm : w ∈ big := by first | exact List.mem_of_getElem? hi | exact List.getElem?_mem hi
  exact ⟨hm, good_of_word h1⟩
theorem goodIn_app {big a b : List Cond} (ha : GoodIn big a) (hb : GoodIn big b) : GoodIn big (a ++ b) := fun w h => (List.mem_append.mp h).elim (ha w) (hb w)
theorem goodIn_ca {big a b : List Cond} {c : Cond} (ha : GoodIn big (c :: a)) (hb : GoodIn big b) : GoodIn big (c :: (a ++ b)) := fun w h => (List.mem_cons.mp h).elim (fun e => ha w (List.mem_cons.mpr (Or.inl e))) (fun h => (List.mem_append.mp h).elim (fun h => ha w (List.mem_cons.mpr (Or.inr h))) (hb w))
theorem goodIn_sub {big ws : List Cond} (hm : ∀ w ∈ ws, w ∈ big) (h : ws.all goodWord = true) : GoodIn big ws := fun w hw => ⟨hm w hw, good_of_word (List.all_eq_true.mp h w hw)⟩
/-! ===== END ===== -/

/-! ===== BEGIN exceptions that leave a method, and their catching by the caller (launches without stack traces) ===== -/
section VXA
/-! The laws vx_back, vx_callV, vx_callS, vx_callSW, vx_throw0, vx_throwS follow proofs of the library, with one case more: JvmDerived/Free/Laws.lean (Back.of_free), Shelf42/LK1.lean (callV, callS), Shelf/KitTraced.lean (throwNew0V, throwNewS). -/
/-- where a method has thrown q: the class by its name, the cell, what was written, the world -/
def vx_T (XC : String → State → State → Prop) (st : State) (q : Addr) (t : State) (mc ms : Nat) (free : Addr → Prop) : Prop :=
  ∃ (E : String) (ce : Cell) (L : List Loc), XC E st t ∧ t.heap[q]? = some ce ∧ ce.vm = .none ∧ st.vm.findClass E = some ce.cls ∧ st.WarmedH t.vm ∧ st.sameButNew ({ t with vm := st.vm } : State) L mc ms ∧ ∀ z ∈ L, free z.base
def vx_Q (Qc : Array Value → State → Outcome → State → Prop) (XC : String → State → State → Prop) (mc ms : Nat) (free : Addr → Prop) : Array Value → State → Outcome → State → Prop := fun a st o t =>
  (Qc a st o t ∧ ∃ L, FrameEnd st o t L mc ms ∧ ∀ q ∈ L, free q.base) ∨ ∃ q, o = .threw q ∧ vx_T XC st q t mc ms free
/-- a callee that returns or throws -/
def vx_Met (l : Launch) (y : MethodName) (ws : List Cond) (rm : Room) (Pc : Array Value → State → Prop) (Qc : Array Value → State → Outcome → State → Prop) (XC : String → State → State → Prop) (mc ms : Nat) (free : Addr → Prop) : Prop :=
  MetFree l y (headSpec ws rm) Pc (fun _ _ _ _ _ => True) (vx_Q Qc XC mc ms free)
def vx_Post (XC : String → State → State → Prop) (mc ms : Nat) (free : Addr → Prop) : Pt → Array Value → Addr → Pt → Prop := fun A a q B =>
  ∃ (g : JFrame) (mk : MethodId) (t : State) (L : List Loc) (E : String) (ce : Cell), B.U.heap = t.heap ∧ B.U.vm = t.vm ∧ XC E (A.U.calling g mk a) t ∧ t.heap[q]? = some ce ∧ ce.vm = .none ∧ A.U.vm.findClass E = some ce.cls ∧ B.locs = A.locs ++ L ∧ (∀ z ∈ L, free z.base) ∧ B.cells = A.cells + mc ∧ B.slots = A.slots + ms
def vx_Back (l : Launch) (R : Room) (p : Program) (e : Env) (below : List Frame) (s : State) (sargs : Array Value) (y : MethodName) (len W9 : Nat)
    (Pre : Pt → Array Value → Prop) (Post : Pt → Array Value → Option Value → Pt → Prop) (PostX : Pt → Array Value → Addr → Pt → Prop) : Prop :=
  ∀ (m : MethodId) (meth : Method) (c : Code) (A : Pt) (g : JFrame) (ig : Instr) (mk : MethodId) (a : Array Value),
    Stand p l e R s m sargs below meth c A.U A.locs A.cells A.slots → g.method = m → g.locals.size = c.maxLocals → decode c.code g.pc = .ok (ig, len) →
    2 * g.monitorRoom + (g.stack.map fun v => v.category).sum ≤ W9 → A.U.methodNamed? y = some mk → Pre A a →
    (∃ (v : Option Value) (B : Pt), Stand p l e R s m sargs below meth c B.U B.locs B.cells B.slots ∧ Post A a v B ∧
      Steps p.tables e below (doInvoke e (A.U.setTop g) [] mk a).1 (B.U.setTop { g with pc := g.pc + len, stack := v.toList ++ g.stack })) ∨
    (∃ (q : Addr) (B : Pt), Stand p l e R s m sargs below meth c B.U B.locs B.cells B.slots ∧ PostX A a q B ∧
      Steps p.tables e below (doInvoke e (A.U.setTop g) [] mk a).1 ((B.U.setTop g).pushFrame (.throwing q)))
section Payer
variable {l : Launch} {R : Room} {p : Program} {e : Env} {below : List Frame} {s : State} {sargs : Array Value} {y : MethodName} {len W9 : Nat}
theorem vx_back {ws : List Cond} {rm : Room} {Pc : Array Value → State → Prop} {Qc : Array Value → State → Outcome → State → Prop} {XC : String → State → State → Prop} {mc ms : Nat} {free : Addr → Prop} {bytes : ByteArray} {maxL : Nat} {ret : Option FieldType}
    (hM : vx_Met l y ws rm Pc Qc XC mc ms free) (hblind : FrameBlind Pc) (hrc : rm.cells = mc) (hrs : rm.slots = ms)
    (hframes : rm.frames + 1 ≤ R.frames) (hlocals : W9 + (maxL + 11) + rm.locals ≤ R.locals)
    (hws : ∀ w ∈ ws, ∀ a' U, s.WarmedH U.vm → w.before a' U = true) (hcode : Cond.code y bytes maxL ret ∈ ws) (hinit : ∀ a' U, s.WarmedH U.vm → (Cond.initialized y.cls).before a' U = true) :
    vx_Back l R p e below s sargs y len W9 (PreOf R mc ms Pc) (PostOf Qc mc ms free) (vx_Post XC mc ms free) := by
  intro m meth c A g ig mk a X hg hsize hdg hW hn hp
  have h1 : (headSpec ws rm).pre.before a A.U = true := atoms_intro fun w hw => hws w hw _ _ X.warmed
  have h2 : (Cond.code y bytes maxL ret).before a A.U = true := hws _ hcode _ _ X.warmed
  have h3 : (Cond.initialized y.cls).before a A.U = true := hinit _ _ X.warmed
  have h4 : A.cells + (headSpec ws rm).room.cells ≤ R.cells := by rw [show (headSpec ws rm).room.cells = mc from hrc]; exact hp.1
  have h5 : A.slots + (headSpec ws rm).room.slots ≤ R.slots := by rw [show (headSpec ws rm).room.slots = ms from hrs]; exact hp.2.1
  have hPc : Pc a (A.U.calling g mk a) := hblind _ _ _ _ hp.2.2
  obtain ⟨U, Ls, c0, s0⟩ := A
  dsimp only [Pt.U, Pt.locs, Pt.cells, Pt.slots] at h1 h2 h3 h4 h5 X hn hPc ⊢
  obtain ⟨methY, cY, hmY, hcY, -, hlY, -, -, -, -⟩ := Cond.code_spec hn h2
  obtain ⟨kY, hkY, -⟩ := className_of_methodNamed hn
  have hinitY : kY.init = .initialized := Cond.initialized_spec (findClass_of_methodNamed hn) hkY h3
  have h : At U g.method c below := by rw [hg]; exact X.here
  have hlocals9 : W9 + (maxL + 11) + (headSpec ws rm).room.locals ≤ R.locals := hlocals
  have happ : (headSpec ws rm).appliesLoose y e.platform (U.calling g mk a) = true :=
    Spec.appliesLoose_calling (g := g) h hdg hn hkY hinitY
      (X.room_calling (g := g) (R' := (headSpec ws rm).room) hsize hmY hcY hframes (by rw [hlY]; omega) h4 h5) h1
  obtain ⟨mid, hmid⟩ := h.above
  have hfr : (U.setTop g).frames = (.java g :: mid) ++ below := by rw [State.frames_setTop' g h.top, hmid]; rfl
  obtain ⟨o, s₂, hsteps, -, hend, hq⟩ := Steps.callFree hM p X.admits X.cas X.clock (acts := []) hfr happ hPc trivial
  have hq' : vx_Q Qc XC mc ms free a (U.calling g mk a) o s₂ := hq
  rw [State.frames_setTop' g h.top] at hend
  obtain ⟨g₀, hg0⟩ := Option.isSome_iff_exists.mp h.top
  obtain ⟨r, hr⟩ := State.topJava?_eq_some.mp hg0
  have hr' : (({ U with heap := s₂.heap, slotsUsed := s₂.slotsUsed } : State).setVm s₂.vm).frames = .java g₀ :: r := hr
  rcases hq' with ⟨hqc, L, hfe, hL⟩ | ⟨q, rfl, E, ce, L, hx, hce, hcv, hcl, hW₂, hsm, hL⟩
  · obtain ⟨⟨v, rfl⟩, hW₂, e2, q2, q3, q4, q5, q6⟩ := id hfe
    have e3 : s₂ = ({ (U.calling g mk a).setFrames s₂.frames with heap := s₂.heap, slotsUsed := s₂.slotsUsed } : State).setVm s₂.vm := by
      have : s₂ = ({ s₂ with vm := (U.calling g mk a).vm } : State).setVm s₂.vm := rfl
      rw [e2] at this
      exact this
    obtain ⟨c₂, i₂, len₂, hc₂, hd₂, hf₂⟩ := hend
    have hW' : U.WarmedH s₂.vm := hW₂
    have hcc : c₂ = c := by
      have h1 : s₂.code? g.method = U.code? g.method := by
        rw [State.code?_eq, State.code?_eq, hW'.alike.method?]
      exact Option.some.inj (hc₂.symm.trans (h1.trans h.code))
    subst hcc
    have hlen : len₂ = len := by rw [hdg] at hd₂; cases hd₂; rfl
    subst hlen
    have hs₂ : s₂ = (({ U with heap := s₂.heap, slotsUsed := s₂.slotsUsed } : State).setVm s₂.vm).setTop { g with pc := g.pc + len₂, stack := v.toList ++ g.stack } := by
      refine e3.trans ?_
      rw [hf₂, State.calling_eq h.top, State.setFrames_setFrames, State.setTop_of_frames _ hr', hr]
      rfl
    have hsame : U.sameButNew ({ U with heap := s₂.heap, slotsUsed := s₂.slotsUsed } : State) L mc ms := by
      refine ⟨?_, q2, q3, q4, q5, q6⟩
      obtain ⟨t, ht, -⟩ := State.frames_cons hr
      show ({ U with heap := s₂.heap, slotsUsed := s₂.slotsUsed } : State) = { U.setFrames U.frames with heap := s₂.heap, slotsUsed := s₂.slotsUsed }
      rw [State.setFrames_self ht]
    subst hg
    refine Or.inl ⟨v, ⟨(({ U with heap := s₂.heap, slotsUsed := s₂.slotsUsed } : State).setVm s₂.vm), Ls ++ L, c0 + mc, s0 + ms⟩,
      ⟨X.admits, X.cas, X.clock, X.frames, X.room, X.hears, X.method, X.code, (X.here.setHeapUsed s₂.heap s₂.slotsUsed).setVm hW'.alike, X.tail, State.WarmedH.trans X.warmed hW', X.limits, X.bytes, X.same.trans (hsame.setVm s.vm)⟩,
      ⟨g, mk, s₂, L, rfl, rfl, hqc, rfl, hL, rfl, rfl⟩, ?_⟩
    show Steps p.tables e below _ ((({ U with heap := s₂.heap, slotsUsed := s₂.slotsUsed } : State).setVm s₂.vm).setTop { g with pc := g.pc + len₂, stack := v.toList ++ g.stack })
    rw [← hs₂]
    exact hsteps
  · obtain ⟨e2, q2, q3, q4, q5, q6⟩ := id hsm
    have e3 : s₂ = ({ (U.calling g mk a).setFrames s₂.frames with heap := s₂.heap, slotsUsed := s₂.slotsUsed } : State).setVm s₂.vm := by
      have : s₂ = ({ s₂ with vm := (U.calling g mk a).vm } : State).setVm s₂.vm := rfl
      rw [e2] at this
      exact this
    have hf₂ : s₂.frames = .throwing q :: .java g :: U.frames.tail := hend
    have hW' : U.WarmedH s₂.vm := hW₂
    have hs₂ : s₂ = ((({ U with heap := s₂.heap, slotsUsed := s₂.slotsUsed } : State).setVm s₂.vm).setTop g).pushFrame (.throwing q) := by
      refine e3.trans ?_
      rw [hf₂, State.calling_eq h.top, State.setFrames_setFrames, State.pushFrame, State.frames_setTop _ hr', State.setTop_of_frames _ hr', State.setFrames_setFrames, hr]
      rfl
    have hsame : U.sameButNew ({ U with heap := s₂.heap, slotsUsed := s₂.slotsUsed } : State) L mc ms := by
      refine ⟨?_, q2, q3, q4, q5, q6⟩
      obtain ⟨t, ht, -⟩ := State.frames_cons hr
      show ({ U with heap := s₂.heap, slotsUsed := s₂.slotsUsed } : State) = { U.setFrames U.frames with heap := s₂.heap, slotsUsed := s₂.slotsUsed }
      rw [State.setFrames_self ht]
    subst hg
    refine Or.inr ⟨q, ⟨(({ U with heap := s₂.heap, slotsUsed := s₂.slotsUsed } : State).setVm s₂.vm), Ls ++ L, c0 + mc, s0 + ms⟩,
      ⟨X.admits, X.cas, X.clock, X.frames, X.room, X.hears, X.method, X.code, (X.here.setHeapUsed s₂.heap s₂.slotsUsed).setVm hW'.alike, X.tail, State.WarmedH.trans X.warmed hW', X.limits, X.bytes, X.same.trans (hsame.setVm s.vm)⟩,
      ⟨g, mk, s₂, L, E, ce, rfl, rfl, hx, hce, hcv, hcl, rfl, hL, rfl, rfl⟩, ?_⟩
    show Steps p.tables e below _ (((({ U with heap := s₂.heap, slotsUsed := s₂.slotsUsed } : State).setVm s₂.vm).setTop g).pushFrame (.throwing q))
    rw [← hs₂]
    exact hsteps
end Payer
section Calls
variable {p : Program} {l : Launch} {e : Env} {R : Room} {s : State} {m : MethodId} {args : Array Value} {below : List Frame} {meth : Method} {c : Code} {T : State} {locs : List Loc} {cells slots : Nat}
theorem vx_callV (X : Stand p l e R s m args below meth c T locs cells slots) (hexec : p.tables.exec = Jvm.exec) {own C : String} {index : Nat} {y : MethodName} {bytes : ByteArray} {maxL : Nat} {ret : Option FieldType}
    (hown : s.vm.findClass own = some m.cls) (hlink : (Cond.methodLink own index y).before args s = true) (hinst : (Cond.instanceMethod y).before args s = true) (hsel : (Cond.selects C y y).before args s = true)
    (hcode : (Cond.code y bytes maxL ret).before args s = true) (hy : y.cls ≠ "java/lang/invoke/MethodHandle" ∧ y.cls ≠ "java/lang/invoke/VarHandle")
    {W9 : Nat} {Pre : Pt → Array Value → Prop} {Post : Pt → Array Value → Option Value → Pt → Prop} {PostX : Pt → Array Value → Addr → Pt → Prop} (hK : vx_Back l R p e below s args y 3 W9 Pre Post PostX)
    {b : Addr} {cellB : Cell} (hcell : T.heap[b]? = some cellB) (hobj : cellB.vm.isStatics = false) (hcls : s.vm.findClass C = some cellB.cls)
    {g : JFrame} (hg : g.method = m) (hsize : g.locals.size = c.maxLocals) {argsL rest : List Value} (hlen : ∀ sig, parseMethodDescriptor y.desc = some sig → argsL.length = sig.parameters.length)
    (hstack : g.stack = argsL.reverse ++ .ref b :: rest) (hW : 2 * g.monitorRoom + (rest.map fun v => v.category).sum ≤ W9) (hdg : decode c.code g.pc = .ok (.invokevirtual index, 3))
    (hpre : ∀ vm₁, s.WarmedH vm₁ → Pre ⟨T.setVm vm₁, locs, cells, slots⟩ (Value.ref b :: argsL).toArray) :
    (∃ (v : Option Value) (vm₁ : Vm) (B : Pt), s.WarmedH vm₁ ∧ Stand p l e R s m args below meth c B.U B.locs B.cells B.slots ∧ Post ⟨T.setVm vm₁, locs, cells, slots⟩ (Value.ref b :: argsL).toArray v B ∧
      ∀ target, Steps p.tables e below (B.U.setTop { g with pc := g.pc + 3, stack := v.toList ++ rest }) target → Steps p.tables e below (T.setTop g) target) ∨
    (∃ (q : Addr) (vm₁ : Vm) (B : Pt), s.WarmedH vm₁ ∧ Stand p l e R s m args below meth c B.U B.locs B.cells B.slots ∧ PostX ⟨T.setVm vm₁, locs, cells, slots⟩ (Value.ref b :: argsL).toArray q B ∧
      Steps p.tables e below (T.setTop g) ((B.U.setTop { g with stack := rest }).pushFrame (.throwing q))) := by
  obtain ⟨mk, methM, hnamed, hmethM, hstM, habM⟩ := Cond.instanceMethod_spec hinst
  obtain ⟨methM', cM, hmethM', -, -, -, -, -, -, hsigM⟩ := Cond.code_spec hnamed hcode
  cases hmethM.symm.trans hmethM'
  obtain ⟨c2, r2, m2, q1, q2, q3, q4, kP, hkP, hkPi⟩ := Cond.selects_spec hsel
  cases hcls.symm.trans q1
  cases (State.methodFound?_of_named hnamed hy).symm.trans q2
  cases hnamed.symm.trans q3
  have hselP : selectMethod e.platform s.vm cellB.cls mk = .method mk := by rw [Launch.admits_selectMethod X.admits]; exact q4
  obtain ⟨vm₁, X₁, hstep₁⟩ := X.invokevirtual hexec hown hlink hnamed hmethM hstM hkP hkPi hy (a := b) (cell := cellB) hcell
    (fun z h => by rw [h] at hobj; cases hobj) hselP hmethM habM hkP hkPi (g := g) hg (argsL := argsL) (rest := rest) (hlen _ hsigM) hstack hdg
  rcases hK m meth c ⟨T.setVm vm₁, locs, cells, slots⟩ { g with stack := rest } (.invokevirtual index) mk (Value.ref b :: argsL).toArray X₁ hg hsize hdg hW (X₁.named hnamed) (hpre vm₁ X₁.warmed) with ⟨v, B, X', hpost, hsteps⟩ | ⟨q, B, X', hpost, hsteps⟩
  · exact Or.inl ⟨v, vm₁, B, X₁.warmed, X', hpost, fun target h => hstep₁ _ fun acts => by rw [doInvoke_state]; exact hsteps.trans h⟩
  · exact Or.inr ⟨q, vm₁, B, X₁.warmed, X', hpost, hstep₁ _ fun acts => by rw [doInvoke_state]; exact hsteps⟩
theorem vx_callS (X : Stand p l e R s m args below meth c T locs cells slots) (hexec : p.tables.exec = Jvm.exec) {own : String} {index : Nat} {y : MethodName} {bytes : ByteArray} {maxL : Nat} {ret : Option FieldType}
    (hown : s.vm.findClass own = some m.cls) (hlink : (Cond.methodLink own index y).before args s = true) (hstat : (Cond.static y).before args s = true) (hinit : (Cond.initialized y.cls).before args s = true)
    (hcode : (Cond.code y bytes maxL ret).before args s = true) (hy : y.cls ≠ "java/lang/invoke/MethodHandle" ∧ y.cls ≠ "java/lang/invoke/VarHandle")
    {W9 : Nat} {Pre : Pt → Array Value → Prop} {Post : Pt → Array Value → Option Value → Pt → Prop} {PostX : Pt → Array Value → Addr → Pt → Prop} (hK : vx_Back l R p e below s args y 3 W9 Pre Post PostX)
    {g : JFrame} (hg : g.method = m) (hsize : g.locals.size = c.maxLocals) {argsL rest : List Value} (hlen : ∀ sig, parseMethodDescriptor y.desc = some sig → argsL.length = sig.parameters.length)
    (hstack : g.stack = argsL.reverse ++ rest) (hW : 2 * g.monitorRoom + (rest.map fun v => v.category).sum ≤ W9) (hdg : decode c.code g.pc = .ok (.invokestatic index, 3))
    (hpre : ∀ vm₁, s.WarmedH vm₁ → Pre ⟨T.setVm vm₁, locs, cells, slots⟩ argsL.toArray) :
    (∃ (v : Option Value) (vm₁ : Vm) (B : Pt), s.WarmedH vm₁ ∧ Stand p l e R s m args below meth c B.U B.locs B.cells B.slots ∧ Post ⟨T.setVm vm₁, locs, cells, slots⟩ argsL.toArray v B ∧
      ∀ target, Steps p.tables e below (B.U.setTop { g with pc := g.pc + 3, stack := v.toList ++ rest }) target → Steps p.tables e below (T.setTop g) target) ∨
    (∃ (q : Addr) (vm₁ : Vm) (B : Pt), s.WarmedH vm₁ ∧ Stand p l e R s m args below meth c B.U B.locs B.cells B.slots ∧ PostX ⟨T.setVm vm₁, locs, cells, slots⟩ argsL.toArray q B ∧
      Steps p.tables e below (T.setTop g) ((B.U.setTop { g with stack := rest }).pushFrame (.throwing q))) := by
  obtain ⟨mk, hnamed⟩ := Cond.code_named hcode
  obtain ⟨methM, cM, hmethM, -, -, -, -, -, -, hsigM⟩ := Cond.code_spec hnamed hcode
  have hstatic : methM.isStatic = true := Cond.static_spec hnamed hmethM hstat
  obtain ⟨kP, hkP, -⟩ := className_of_methodNamed hnamed
  have hinitP : kP.init = .initialized := Cond.initialized_spec (findClass_of_methodNamed hnamed) hkP hinit
  obtain ⟨vm₁, X₁, hstep₁⟩ := X.invokestatic hexec hown hlink hnamed hmethM hstatic hkP hinitP hy (g := g) hg (argsL := argsL) (rest := rest) (hlen _ hsigM) hstack hdg
  rcases hK m meth c ⟨T.setVm vm₁, locs, cells, slots⟩ { g with stack := rest } (.invokestatic index) mk argsL.toArray X₁ hg hsize hdg hW (X₁.named hnamed) (hpre vm₁ X₁.warmed) with ⟨v, B, X', hpost, hsteps⟩ | ⟨q, B, X', hpost, hsteps⟩
  · exact Or.inl ⟨v, vm₁, B, X₁.warmed, X', hpost, fun target h => hstep₁ _ fun acts => by rw [doInvoke_state]; exact hsteps.trans h⟩
  · exact Or.inr ⟨q, vm₁, B, X₁.warmed, X', hpost, hstep₁ _ fun acts => by rw [doInvoke_state]; exact hsteps⟩
end Calls
theorem vx_cls {s : State} {T : State} {vm₁ : Vm} {E : String} {k : ClassId} (hW : s.WarmedH vm₁) (h : (T.setVm vm₁).vm.findClass E = some k) : s.vm.findClass E = some k := by
  have h1 : vm₁.findClass E = some k := h
  rw [hW.alike.findClass] at h1
  exact h1
/-- the method's frame g, with q thrown over it -/
def vx_W (p : Program) (l : Launch) (e : Env) (R : Room) (s : State) (m : MethodId) (args : Array Value) (below : List Frame) (meth : Method) (c : Code) (H : Heap) (locs : List Loc) (cells slots : Nat) (Q : State → Prop) (g : JFrame) (q : Addr) : Prop :=
  ∀ T : State, T.heap = H → Stand p l e R s m args below meth c T locs cells slots → ∃ t, Steps p.tables e below ((T.setTop g).pushFrame (.throwing q)) t ∧ Q t
def vx_Run (p : Program) (l : Launch) (e : Env) (R : Room) (s : State) (m : MethodId) (args : Array Value) (below : List Frame) (meth : Method) (c : Code) (H : Heap) (locs : List Loc) (cells slots mc ms : Nat) (g : JFrame) (rest : List Value) (Qa : State → Outcome → State → Prop) (XC : String → State → State → Prop) (free : Addr → Prop) : Prop :=
  ∀ T : State, T.heap = H → Stand p l e R s m args below meth c T locs cells slots →
    (∃ (v : Option Value) (st₀ t T' : State) (L : List Loc), st₀.heap = H ∧ Stand p l e R s m args below meth c T' (locs ++ L) (cells + mc) (slots + ms) ∧ (∀ q ∈ L, free q.base) ∧ T'.heap = t.heap ∧ T'.vm = t.vm ∧ Qa st₀ (.returned v) t ∧
      Goes p e below T g T' { g with pc := g.pc + 3, stack := v.toList ++ rest }) ∨
    (∃ (q : Addr) (st₀ t T' : State) (L : List Loc) (E : String) (ce : Cell), st₀.heap = H ∧ Stand p l e R s m args below meth c T' (locs ++ L) (cells + mc) (slots + ms) ∧ (∀ z ∈ L, free z.base) ∧ T'.heap = t.heap ∧ T'.vm = t.vm ∧ XC E st₀ t ∧ t.heap[q]? = some ce ∧ ce.vm = .none ∧ s.vm.findClass E = some ce.cls ∧
      Steps p.tables e below (T.setTop g) ((T'.setTop { g with stack := rest }).pushFrame (.throwing q)))
def vx_X {S : Type} (px : S → Prop) (B : String → S → State → Prop) (A : Nat → Prop) : String → State → State → Prop := fun E st t => ∃ u : S, px u ∧ B E u t ∧ va_F A st t
section Runs
variable {p : Program} {l : Launch} {e : Env} {R : Room} {s : State} {m : MethodId} {args : Array Value} {below : List Frame} {meth : Method} {c : Code} {H : Heap} {locs : List Loc} {cells slots : Nat}
variable {y : MethodName} {bytes cc : ByteArray} {maxL nL mc ms n index : Nat} {ret : Option FieldType} {ws : List Cond} {rm : Room} {Pc : Array Value → State → Prop} {Qc : Array Value → State → Outcome → State → Prop} {XC : String → State → State → Prop} {free : Addr → Prop} {Ts : List Cond} {own C : String} {b : Addr} {As rest : List Value} {g : JFrame}
theorem vx_callBack (cb : CallB R s args own index y bytes maxL ret ws rm mc ms n) (hM : vx_Met l y ws rm Pc Qc XC mc ms free) (hbl : FrameBlind Pc) : vx_Back l R p e below s args y 3 8 (PreOf R mc ms Pc) (PostOf Qc mc ms free) (vx_Post XC mc ms free) := by
  obtain ⟨hrc, hrs, hfr, hlo, hws, hcw, -, hini, -⟩ := cb
  exact vx_back (bytes := bytes) (maxL := maxL) (ret := ret) hM hbl hrc hrs hfr hlo hws hcw (fun a' U hW => word_at hW (Or.inl (by first | rfl | simp [Cond.onTables, Cond.keeps, Cond.steady])) hini)
theorem vx_runV (S : CallFix p m c cc nL s args Ts own) (hM : vx_Met l y ws rm Pc Qc XC mc ms free) (cw : CallW R s args own C index y bytes maxL ret ws rm mc ms n) (hp : PreV s H C b Pc As)
    (hg : g.method = m) (hn : As.length = n) (hsize : g.locals.size = nL) (hstack : g.stack = As.reverse ++ .ref b :: rest) (hW : 2 * g.monitorRoom + (rest.map fun v => v.category).sum ≤ 8) (hdg : decode cc g.pc = .ok (.invokevirtual index, 3)) (hf : cells + mc ≤ R.cells ∧ slots + ms ≤ R.slots) :
    vx_Run p l e R s m args below meth c H locs cells slots mc ms g rest (Qc (Value.ref b :: As).toArray) XC free := by
  have hK : vx_Back l R p e below s args y 3 8 (PreOf R mc ms Pc) (PostOf Qc mc ms free) (vx_Post XC mc ms free) := vx_callBack cw.1 hM hp.1
  obtain ⟨⟨-, -, -, -, -, -, hcode, -, hy, hlen, hl⟩, hin, hse⟩ := cw
  obtain ⟨hx, hb, hml, ho, -⟩ := S
  obtain ⟨-, ⟨cellB, hcB, hoB, hclB⟩, hPc⟩ := hp
  intro T hT X
  rcases vx_callV X hx (C := C) (bytes := bytes) (maxL := maxL) (ret := ret) ho hl hin hse hcode hy hK (by rw [hT]; exact hcB) hoB hclB hg (hsize.trans hml.symm) (argsL := As) (rest := rest) (fun sig h => hn.trans (hlen sig h)) hstack hW (by rw [hb]; exact hdg)
    (fun vm₁ hW₁ => ⟨hf.1, hf.2, hPc (T.setVm vm₁) hT hW₁⟩) with ⟨v, vm₁, ⟨U', l2, c2, s2⟩, hW₁, X', ⟨g', mk, t, L, e1, e2, hq, h1, hL, h2, h3⟩, st⟩ | ⟨q, vm₁, ⟨U', l2, c2, s2⟩, hW₁, X', ⟨g', mk, t, L, E, ce, e1, e2, hq, hce, hcv, hcl, h1, hL, h2, h3⟩, st⟩
  · dsimp only [Pt.U, Pt.locs, Pt.cells, Pt.slots] at X' e1 e2 h1 h2 h3 st
    subst h1; subst h2; subst h3
    exact Or.inl ⟨v, (T.setVm vm₁).calling g' mk (Value.ref b :: As).toArray, t, U', L, hT, X', hL, e1, e2, hq, st⟩
  · dsimp only [Pt.U, Pt.locs, Pt.cells, Pt.slots] at X' e1 e2 h1 h2 h3 st hcl
    subst h1; subst h2; subst h3
    exact Or.inr ⟨q, (T.setVm vm₁).calling g' mk (Value.ref b :: As).toArray, t, U', L, E, ce, hT, X', hL, e1, e2, hq, hce, hcv, vx_cls hW₁ hcl, st⟩
theorem vx_runS (S : CallFix p m c cc nL s args Ts own) (hM : vx_Met l y ws rm Pc Qc XC mc ms free) (cw : CallB R s args own index y bytes maxL ret ws rm mc ms n ∧ (Cond.static y).before args s = true) (hp : PreS s H Pc As)
    (hg : g.method = m) (hn : As.length = n) (hsize : g.locals.size = nL) (hstack : g.stack = As.reverse ++ rest) (hW : 2 * g.monitorRoom + (rest.map fun v => v.category).sum ≤ 8) (hdg : decode cc g.pc = .ok (.invokestatic index, 3)) (hf : cells + mc ≤ R.cells ∧ slots + ms ≤ R.slots) :
    vx_Run p l e R s m args below meth c H locs cells slots mc ms g rest (Qc As.toArray) XC free := by
  have hK : vx_Back l R p e below s args y 3 8 (PreOf R mc ms Pc) (PostOf Qc mc ms free) (vx_Post XC mc ms free) := vx_callBack cw.1 hM hp.1
  obtain ⟨⟨-, -, -, -, -, -, hcode, hini, hy, hlen, hl⟩, hstt⟩ := cw
  obtain ⟨hx, hb, hml, ho, -⟩ := S
  intro T hT X
  rcases vx_callS X hx (bytes := bytes) (maxL := maxL) (ret := ret) ho hl hstt hini hcode hy hK hg (hsize.trans hml.symm) (argsL := As) (rest := rest) (fun sig h => hn.trans (hlen sig h)) hstack hW (by rw [hb]; exact hdg)
    (fun vm₁ hW₁ => ⟨hf.1, hf.2, hp.2 (T.setVm vm₁) hT hW₁⟩) with ⟨v, vm₁, ⟨U', l2, c2, s2⟩, hW₁, X', ⟨g', mk, t, L, e1, e2, hq, h1, hL, h2, h3⟩, st⟩ | ⟨q, vm₁, ⟨U', l2, c2, s2⟩, hW₁, X', ⟨g', mk, t, L, E, ce, e1, e2, hq, hce, hcv, hcl, h1, hL, h2, h3⟩, st⟩
  · dsimp only [Pt.U, Pt.locs, Pt.cells, Pt.slots] at X' e1 e2 h1 h2 h3 st
    subst h1; subst h2; subst h3
    exact Or.inl ⟨v, (T.setVm vm₁).calling g' mk As.toArray, t, U', L, hT, X', hL, e1, e2, hq, st⟩
  · dsimp only [Pt.U, Pt.locs, Pt.cells, Pt.slots] at X' e1 e2 h1 h2 h3 st hcl
    subst h1; subst h2; subst h3
    exact Or.inr ⟨q, (T.setVm vm₁).calling g' mk As.toArray, t, U', L, E, ce, hT, X', hL, e1, e2, hq, hce, hcv, vx_cls hW₁ hcl, st⟩
end Runs
section Rows
variable {p : Program} {l : Launch} {e : Env} {R : Room} {s : State} {m : MethodId} {args : Array Value} {below : List Frame} {meth : Method} {c : Code} {H : Heap} {locs : List Loc} {cells slots : Nat} {Q : State → Prop}
variable {mc ms : Nat} {free : Addr → Prop} {A0 A1 : Nat → Prop} {H0 : Heap} {a : Array Value} {pc : Nat} {ls : Array Slot} {st0 rest : List Value}
theorem vx_keep {st₀ t T' : State} {L : List Loc} (h0 : st₀.heap = H) (e1 : T'.heap = t.heap) (hS : va_S A0 H0 H locs) (hA : ∀ q, q < H.size → A1 q → A0 q) (hf : ∀ q, free q → A0 q) (hL : ∀ q ∈ L, free q.base) (hF : va_F A1 st₀ t) :
    H.size ≤ T'.heap.size ∧ (∀ q : Nat, q < H.size → ¬ A1 q → T'.heap[q]? = H[q]?) ∧ va_S A0 H0 T'.heap (locs ++ L) := by
  obtain ⟨hz, hk⟩ := hF
  rw [h0] at hz hk
  exact ⟨by rw [e1]; exact hz, fun q h1 h2 => by rw [e1]; exact hk q h1 h2,
    ⟨Nat.le_trans hS.1 (by rw [e1]; exact hz), fun q h1 h2 => by rw [e1, hk q (Nat.lt_of_lt_of_le h1 hS.1) (fun z => h2 (hA q (Nat.lt_of_lt_of_le h1 hS.1) z))]; exact hS.2.1 q h1 h2, fun q hq => by
      rcases List.mem_append.mp hq with h | h
      · exact hS.2.2 q h
      · exact hf _ (hL q h)⟩⟩
theorem vx_calli {S SX : Type} {post : Int32 → S → Prop} {px : SX → Prop} {B : S → State → Prop} {BX : String → SX → State → Prop} {AX : Nat → Prop} (hr : vx_Run p l e R s m args below meth c H locs cells slots mc ms (F0 m pc ls st0) rest (va_Qi post B A1 a) (vx_X px BX AX) free) (hS : va_S A0 H0 H locs) (hA : ∀ q, q < H.size → A1 q → A0 q) (hf : ∀ q, free q → A0 q) (hAX : ∀ q, q < H.size → AX q → A0 q)
    (kx : ∀ (E : String) (ce : Cell) (q9 : Addr) (u : SX) (t : State) (H1 : Heap) (locs1 : List Loc), t.heap = H1 → s.vm.Alike t.vm → px u → BX E u t → H.size ≤ H1.size → (∀ q : Nat, q < H.size → ¬ AX q → H1[q]? = H[q]?) → va_S A0 H0 H1 locs1 → H1[q9]? = some ce → ce.vm = .none → s.vm.findClass E = some ce.cls → vx_W p l e R s m args below meth c H1 locs1 (cells + mc) (slots + ms) Q (F0 m pc ls rest) q9)
    (kk : ∀ (r : Int32) (u : S) (t : State) (H1 : Heap) (locs1 : List Loc), t.heap = H1 → s.vm.Alike t.vm → post r u → B u t → H.size ≤ H1.size → (∀ q : Nat, q < H.size → ¬ A1 q → H1[q]? = H[q]?) → va_S A0 H0 H1 locs1 → W p l e R s m args below meth c H1 locs1 (cells + mc) (slots + ms) Q (F0 m (pc + 3) ls (.int r :: rest))) : W p l e R s m args below meth c H locs cells slots Q (F0 m pc ls st0) := by
  intro T hT X
  rcases hr T hT X with ⟨v, st₀, t, T', L, h0, X', hL, e1, e2, ⟨⟨r, u, hv, hp, hb⟩, hF⟩, st⟩ | ⟨q, st₀, t, T', L, E, ce, h0, X', hL, e1, e2, ⟨u, hp, hb, hF⟩, hce, hcv, hcl, st⟩
  · cases hv
    obtain ⟨k1, k2, k3⟩ := vx_keep h0 e1 hS hA hf hL hF
    obtain ⟨t2, a1, b1⟩ := kk r u t T'.heap (locs ++ L) e1.symm (by rw [← e2]; exact X'.warmed.alike) hp hb k1 k2 k3 T' rfl X'
    exact ⟨t2, st t2 a1, b1⟩
  · obtain ⟨k1, k2, k3⟩ := vx_keep h0 e1 hS hAX hf hL hF
    obtain ⟨t2, a1, b1⟩ := kx E ce q u t T'.heap (locs ++ L) e1.symm (by rw [← e2]; exact X'.warmed.alike) hp hb k1 k2 k3 (by rw [e1]; exact hce) hcv hcl T' rfl X'
    exact ⟨t2, st.trans a1, b1⟩
theorem vx_calll {S SX : Type} {post : Int64 → S → Prop} {px : SX → Prop} {B : S → State → Prop} {BX : String → SX → State → Prop} {AX : Nat → Prop} (hr : vx_Run p l e R s m args below meth c H locs cells slots mc ms (F0 m pc ls st0) rest (va_Ql post B A1 a) (vx_X px BX AX) free) (hS : va_S A0 H0 H locs) (hA : ∀ q, q < H.size → A1 q → A0 q) (hf : ∀ q, free q → A0 q) (hAX : ∀ q, q < H.size → AX q → A0 q)
    (kx : ∀ (E : String) (ce : Cell) (q9 : Addr) (u : SX) (t : State) (H1 : Heap) (locs1 : List Loc), t.heap = H1 → s.vm.Alike t.vm → px u → BX E u t → H.size ≤ H1.size → (∀ q : Nat, q < H.size → ¬ AX q → H1[q]? = H[q]?) → va_S A0 H0 H1 locs1 → H1[q9]? = some ce → ce.vm = .none → s.vm.findClass E = some ce.cls → vx_W p l e R s m args below meth c H1 locs1 (cells + mc) (slots + ms) Q (F0 m pc ls rest) q9)
    (kk : ∀ (r : Int64) (u : S) (t : State) (H1 : Heap) (locs1 : List Loc), t.heap = H1 → s.vm.Alike t.vm → post r u → B u t → H.size ≤ H1.size → (∀ q : Nat, q < H.size → ¬ A1 q → H1[q]? = H[q]?) → va_S A0 H0 H1 locs1 → W p l e R s m args below meth c H1 locs1 (cells + mc) (slots + ms) Q (F0 m (pc + 3) ls (.long r :: rest))) : W p l e R s m args below meth c H locs cells slots Q (F0 m pc ls st0) := by
  intro T hT X
  rcases hr T hT X with ⟨v, st₀, t, T', L, h0, X', hL, e1, e2, ⟨⟨r, u, hv, hp, hb⟩, hF⟩, st⟩ | ⟨q, st₀, t, T', L, E, ce, h0, X', hL, e1, e2, ⟨u, hp, hb, hF⟩, hce, hcv, hcl, st⟩
  · cases hv
    obtain ⟨k1, k2, k3⟩ := vx_keep h0 e1 hS hA hf hL hF
    obtain ⟨t2, a1, b1⟩ := kk r u t T'.heap (locs ++ L) e1.symm (by rw [← e2]; exact X'.warmed.alike) hp hb k1 k2 k3 T' rfl X'
    exact ⟨t2, st t2 a1, b1⟩
  · obtain ⟨k1, k2, k3⟩ := vx_keep h0 e1 hS hAX hf hL hF
    obtain ⟨t2, a1, b1⟩ := kx E ce q u t T'.heap (locs ++ L) e1.symm (by rw [← e2]; exact X'.warmed.alike) hp hb k1 k2 k3 (by rw [e1]; exact hce) hcv hcl T' rfl X'
    exact ⟨t2, st.trans a1, b1⟩
theorem vx_callf {S SX : Type} {post : UInt32 → S → Prop} {px : SX → Prop} {B : S → State → Prop} {BX : String → SX → State → Prop} {AX : Nat → Prop} (hr : vx_Run p l e R s m args below meth c H locs cells slots mc ms (F0 m pc ls st0) rest (va_Qf post B A1 a) (vx_X px BX AX) free) (hS : va_S A0 H0 H locs) (hA : ∀ q, q < H.size → A1 q → A0 q) (hf : ∀ q, free q → A0 q) (hAX : ∀ q, q < H.size → AX q → A0 q)
    (kx : ∀ (E : String) (ce : Cell) (q9 : Addr) (u : SX) (t : State) (H1 : Heap) (locs1 : List Loc), t.heap = H1 → s.vm.Alike t.vm → px u → BX E u t → H.size ≤ H1.size → (∀ q : Nat, q < H.size → ¬ AX q → H1[q]? = H[q]?) → va_S A0 H0 H1 locs1 → H1[q9]? = some ce → ce.vm = .none → s.vm.findClass E = some ce.cls → vx_W p l e R s m args below meth c H1 locs1 (cells + mc) (slots + ms) Q (F0 m pc ls rest) q9)
    (kk : ∀ (r : UInt32) (u : S) (t : State) (H1 : Heap) (locs1 : List Loc), t.heap = H1 → s.vm.Alike t.vm → post r u → B u t → H.size ≤ H1.size → (∀ q : Nat, q < H.size → ¬ A1 q → H1[q]? = H[q]?) → va_S A0 H0 H1 locs1 → W p l e R s m args below meth c H1 locs1 (cells + mc) (slots + ms) Q (F0 m (pc + 3) ls (.float r :: rest))) : W p l e R s m args below meth c H locs cells slots Q (F0 m pc ls st0) := by
  intro T hT X
  rcases hr T hT X with ⟨v, st₀, t, T', L, h0, X', hL, e1, e2, ⟨⟨r, u, hv, hp, hb⟩, hF⟩, st⟩ | ⟨q, st₀, t, T', L, E, ce, h0, X', hL, e1, e2, ⟨u, hp, hb, hF⟩, hce, hcv, hcl, st⟩
  · cases hv
    obtain ⟨k1, k2, k3⟩ := vx_keep h0 e1 hS hA hf hL hF
    obtain ⟨t2, a1, b1⟩ := kk r u t T'.heap (locs ++ L) e1.symm (by rw [← e2]; exact X'.warmed.alike) hp hb k1 k2 k3 T' rfl X'
    exact ⟨t2, st t2 a1, b1⟩
  · obtain ⟨k1, k2, k3⟩ := vx_keep h0 e1 hS hAX hf hL hF
    obtain ⟨t2, a1, b1⟩ := kx E ce q u t T'.heap (locs ++ L) e1.symm (by rw [← e2]; exact X'.warmed.alike) hp hb k1 k2 k3 (by rw [e1]; exact hce) hcv hcl T' rfl X'
    exact ⟨t2, st.trans a1, b1⟩
theorem vx_calld {S SX : Type} {post : UInt64 → S → Prop} {px : SX → Prop} {B : S → State → Prop} {BX : String → SX → State → Prop} {AX : Nat → Prop} (hr : vx_Run p l e R s m args below meth c H locs cells slots mc ms (F0 m pc ls st0) rest (va_Qd post B A1 a) (vx_X px BX AX) free) (hS : va_S A0 H0 H locs) (hA : ∀ q, q < H.size → A1 q → A0 q) (hf : ∀ q, free q → A0 q) (hAX : ∀ q, q < H.size → AX q → A0 q)
    (kx : ∀ (E : String) (ce : Cell) (q9 : Addr) (u : SX) (t : State) (H1 : Heap) (locs1 : List Loc), t.heap = H1 → s.vm.Alike t.vm → px u → BX E u t → H.size ≤ H1.size → (∀ q : Nat, q < H.size → ¬ AX q → H1[q]? = H[q]?) → va_S A0 H0 H1 locs1 → H1[q9]? = some ce → ce.vm = .none → s.vm.findClass E = some ce.cls → vx_W p l e R s m args below meth c H1 locs1 (cells + mc) (slots + ms) Q (F0 m pc ls rest) q9)
    (kk : ∀ (r : UInt64) (u : S) (t : State) (H1 : Heap) (locs1 : List Loc), t.heap = H1 → s.vm.Alike t.vm → post r u → B u t → H.size ≤ H1.size → (∀ q : Nat, q < H.size → ¬ A1 q → H1[q]? = H[q]?) → va_S A0 H0 H1 locs1 → W p l e R s m args below meth c H1 locs1 (cells + mc) (slots + ms) Q (F0 m (pc + 3) ls (.double r :: rest))) : W p l e R s m args below meth c H locs cells slots Q (F0 m pc ls st0) := by
  intro T hT X
  rcases hr T hT X with ⟨v, st₀, t, T', L, h0, X', hL, e1, e2, ⟨⟨r, u, hv, hp, hb⟩, hF⟩, st⟩ | ⟨q, st₀, t, T', L, E, ce, h0, X', hL, e1, e2, ⟨u, hp, hb, hF⟩, hce, hcv, hcl, st⟩
  · cases hv
    obtain ⟨k1, k2, k3⟩ := vx_keep h0 e1 hS hA hf hL hF
    obtain ⟨t2, a1, b1⟩ := kk r u t T'.heap (locs ++ L) e1.symm (by rw [← e2]; exact X'.warmed.alike) hp hb k1 k2 k3 T' rfl X'
    exact ⟨t2, st t2 a1, b1⟩
  · obtain ⟨k1, k2, k3⟩ := vx_keep h0 e1 hS hAX hf hL hF
    obtain ⟨t2, a1, b1⟩ := kx E ce q u t T'.heap (locs ++ L) e1.symm (by rw [← e2]; exact X'.warmed.alike) hp hb k1 k2 k3 (by rw [e1]; exact hce) hcv hcl T' rfl X'
    exact ⟨t2, st.trans a1, b1⟩
theorem vx_callv {S SX : Type} {post : S → Prop} {px : SX → Prop} {B : S → State → Prop} {BX : String → SX → State → Prop} {AX : Nat → Prop} (hr : vx_Run p l e R s m args below meth c H locs cells slots mc ms (F0 m pc ls st0) rest (va_Qv post B A1 a) (vx_X px BX AX) free) (hS : va_S A0 H0 H locs) (hA : ∀ q, q < H.size → A1 q → A0 q) (hf : ∀ q, free q → A0 q) (hAX : ∀ q, q < H.size → AX q → A0 q)
    (kx : ∀ (E : String) (ce : Cell) (q9 : Addr) (u : SX) (t : State) (H1 : Heap) (locs1 : List Loc), t.heap = H1 → s.vm.Alike t.vm → px u → BX E u t → H.size ≤ H1.size → (∀ q : Nat, q < H.size → ¬ AX q → H1[q]? = H[q]?) → va_S A0 H0 H1 locs1 → H1[q9]? = some ce → ce.vm = .none → s.vm.findClass E = some ce.cls → vx_W p l e R s m args below meth c H1 locs1 (cells + mc) (slots + ms) Q (F0 m pc ls rest) q9)
    (kk : ∀ (u : S) (t : State) (H1 : Heap) (locs1 : List Loc), t.heap = H1 → s.vm.Alike t.vm → post u → B u t → H.size ≤ H1.size → (∀ q : Nat, q < H.size → ¬ A1 q → H1[q]? = H[q]?) → va_S A0 H0 H1 locs1 → W p l e R s m args below meth c H1 locs1 (cells + mc) (slots + ms) Q (F0 m (pc + 3) ls (rest))) : W p l e R s m args below meth c H locs cells slots Q (F0 m pc ls st0) := by
  intro T hT X
  rcases hr T hT X with ⟨v, st₀, t, T', L, h0, X', hL, e1, e2, ⟨⟨u, hv, hp, hb⟩, hF⟩, st⟩ | ⟨q, st₀, t, T', L, E, ce, h0, X', hL, e1, e2, ⟨u, hp, hb, hF⟩, hce, hcv, hcl, st⟩
  · cases hv
    obtain ⟨k1, k2, k3⟩ := vx_keep h0 e1 hS hA hf hL hF
    obtain ⟨t2, a1, b1⟩ := kk u t T'.heap (locs ++ L) e1.symm (by rw [← e2]; exact X'.warmed.alike) hp hb k1 k2 k3 T' rfl X'
    exact ⟨t2, st t2 a1, b1⟩
  · obtain ⟨k1, k2, k3⟩ := vx_keep h0 e1 hS hAX hf hL hF
    obtain ⟨t2, a1, b1⟩ := kx E ce q u t T'.heap (locs ++ L) e1.symm (by rw [← e2]; exact X'.warmed.alike) hp hb k1 k2 k3 (by rw [e1]; exact hce) hcv hcl T' rfl X'
    exact ⟨t2, st.trans a1, b1⟩
/-- caught by the row x of this method's table; the rows ahead don't take it -/
theorem vx_catch {own name : String} {E : String} {ce : Cell} {q : Addr} (hown : s.vm.findClass own = some m.cls) (pre : List ExceptionTableEntry) (x : ExceptionTableEntry) (suf : List ExceptionTableEntry) (hsplit : c.exceptionTable.toList = pre ++ x :: suf)
    (hpass : ∀ z ∈ pre, covers z pc = false ∨ (z.catchType ≠ 0 ∧ ∃ nm : String, (Cond.classLink own z.catchType nm).before args s = true ∧ va_Nc E nm s)) (hx : covers x pc = true) (h0 : x.catchType ≠ 0)
    (hlink : (Cond.classLink own x.catchType name).before args s = true) (hcast : (Cond.castable E name).before args s = true) (hcell : H[q]? = some ce) (hv : ce.vm = .none) (hcl : s.vm.findClass E = some ce.cls)
    (kk : W p l e R s m args below meth c H locs cells slots Q (F0 m x.handlerPc ls [.ref q])) : vx_W p l e R s m args below meth c H locs cells slots Q (F0 m pc ls rest) q := by
  intro T hT X
  have hpl : e.platform.magicAccessors = ({} : Platform).magicAccessors := by rw [X.admits.platform]
  obtain ⟨c3, c4, hc3, hc4, hasg⟩ := Cond.castable_spec hcast
  cases Option.some.inj (hc3.symm.trans hcl)
  obtain ⟨c5, hc5, hcl5⟩ := Cond.classLink_spec hown hlink e.platform hpl
  cases Option.some.inj (hc4.symm.trans hc5)
  obtain ⟨vm', X', st⟩ := X.thenCaughtThrough q (g := F0 m pc ls rest) rfl (Steps.refl _) (by rw [hT]; exact hcell) (by rw [hv]; rfl) (by obtain ⟨k9, h9, -⟩ := Vm.findClass_spec hcl; exact ⟨k9, h9⟩) pre x suf hsplit
    (fun z hz => by
      rcases hpass z hz with h | ⟨hz0, nm, hl1, hn1⟩
      · exact Or.inl h
      · obtain ⟨c6, hc6, hcl6⟩ := Cond.classLink_spec hown hl1 e.platform hpl
        obtain ⟨a8, b8, h1, h2, h3⟩ := hn1
        cases Option.some.inj (h1.symm.trans hcl)
        cases Option.some.inj (h2.symm.trans hc6)
        exact Or.inr ⟨hz0, _, hcl6, h3⟩) hx (Or.inr ⟨h0, c4, hcl5, hasg⟩)
  obtain ⟨t, a1, b1⟩ := kk (T.setVm vm') hT X'
  exact ⟨t, st.trans a1, b1⟩
end Rows
section Ends
variable {p : Program} {l : Launch} {e : Env} {R : Room} {s : State} {m : MethodId} {args : Array Value} {below : List Frame} {meth : Method} {c : Code} {H : Heap} {locs : List Loc} {cells slots : Nat} {Q : State → Prop}
variable {mc ms : Nat} {free : Addr → Prop} {A0 A1 : Nat → Prop} {H0 : Heap} {a : Array Value} {ls : Array Slot} {st0 rest : List Value}
variable {Qc : Array Value → State → Outcome → State → Prop} {XC : String → State → State → Prop}
/-- what a body that may throw owes at its end -/
def vx_MQ (below : List Frame) (Qc : Array Value → State → Outcome → State → Prop) (XC : String → State → State → Prop) (a : Array Value) (s : State) (mc ms : Nat) (free : Addr → Prop) : State → Prop := fun t =>
  ∃ o, t.status = .running ∧ Ended t below o ∧ vx_Q Qc XC mc ms free a s o t
theorem vx_ret {g : JFrame} {mc ms : Nat} (k : W p l e R s m args below meth c H locs cells slots (MQ below Qc args s mc ms free) g) : W p l e R s m args below meth c H locs cells slots (vx_MQ below Qc XC args s mc ms free) g := by
  intro T hT X
  obtain ⟨t, a1, o, b1, b2, b3, b4⟩ := k T hT X
  exact ⟨t, a1, o, b1, b2, Or.inl ⟨b3, b4⟩⟩
/-- not caught here: it goes on to the caller -/
theorem vx_widen {g : JFrame} {q : Addr} {k n : Nat} (h1 : cells ≤ k) (h2 : slots ≤ n) (kk : vx_W p l e R s m args below meth c H locs k n Q g q) : vx_W p l e R s m args below meth c H locs cells slots Q g q := fun T hT X => kk T hT (stand_widen X h1 h2)
theorem vx_out {pc : Nat} {E : String} {ce : Cell} {q : Addr} {mc ms : Nat} (hout : ∀ x ∈ c.exceptionTable.toList, covers x pc = false) (hlocks : meth.locks = false) (hcell : H[q]? = some ce) (hv : ce.vm = .none) (hcl : s.vm.findClass E = some ce.cls)
    (hx : ∀ t : State, t.heap = H → s.vm.Alike t.vm → XC E s t) (hf : ∀ z ∈ locs, free z.base) (hc : cells ≤ mc) (hs : slots ≤ ms) :
    vx_W p l e R s m args below meth c H locs cells slots (vx_MQ below Qc XC args s mc ms free) (F0 m pc ls rest) q := by
  intro T hT X
  obtain ⟨st1, hrun, hend, hW, hsm⟩ := X.leaveThrown q (g := F0 m pc ls rest) rfl rfl rfl hout hlocks
  have hcell9 : (T.setFrames (.throwing q :: below)).heap[q]? = some ce := by
    show T.heap[q]? = some ce
    rw [hT]; exact hcell
  exact ⟨_, st1, .threw q, hrun, hend, Or.inr ⟨q, rfl, E, ce, locs, hx _ hT hW.alike, hcell9, hv, hcl, hW, hsm.mono hc hs, hf⟩⟩
theorem vx_frame {U : State} {k n : Nat} (h : s.sameButNew ({ U with vm := s.vm } : State) locs k n) : s.heap.size ≤ U.heap.size ∧ ∀ q : Nat, q < s.heap.size → (∀ z ∈ locs, z.base ≠ q) → U.heap[q]? = s.heap[q]? := by
  obtain ⟨-, h2, -, -, -, h6⟩ := h
  refine ⟨h2, fun q hq hz => ?_⟩
  obtain ⟨c9, e1, e2, e3, e4⟩ := h6 q _ (Array.getElem?_eq_getElem hq)
  have hs : c9.slots = (s.heap[q]).slots := Array.ext_getElem? fun i => e4 i fun hm => hz _ hm rfl
  have h9 : c9 = s.heap[q] := by
    rw [hs] at e2
    exact e2
  have e5 : U.heap[q]? = some c9 := e1
  rw [e5, h9, Array.getElem?_eq_getElem hq]
/-- the words of a throw but the four that speak of the heap -/
def vx_no (w : Cond) : Bool := decide (w ≠ .isRef (.static Bundle.tN "UNASSIGNED_STACK" Bundle.steD)) && decide (w ≠ .isRef (.static Bundle.tN "SUPPRESSED_SENTINEL" Bundle.listD)) && decide (w ≠ .laysStatic Bundle.tN "UNASSIGNED_STACK" Bundle.steD) && decide (w ≠ .laysStatic Bundle.tN "SUPPRESSED_SENTINEL" Bundle.listD)
def vx_at0 (own : String) (ic : Nat) (X : String) (names : List String) : List Cond := (Bundle.ownAtoms0 own ic X names).filter vx_no
def vx_atS (own : String) (ic : Nat) (X : String) (names : List String) : List Cond := (Bundle.ownAtoms own ic X names).filter vx_no
/-- a word that the tables alone decide, or a good one -/
def vx_ot (w : Cond) : Bool := w.onTables || goodWord w
theorem vx_ot_at {args a' : Array Value} {s U : State} {w : Cond} (hW : s.WarmedH U.vm) (hvm : s.vm = U.vm) (hg : vx_ot w = true) (h : w.before args s = true) : w.before a' U = true := by
  simp only [vx_ot, Bool.or_eq_true] at hg
  rcases hg with hg | hg
  · exact va_tabs hg hvm h
  · exact word_at hW (good_of_word hg) h
/-- a list's words: the good ones out of the method's own list, the others by premises of their own -/
theorem vx_hat {args : Array Value} {s : State} {L B : List Cond} (h1 : ∀ w ∈ L.filter goodWord, w.before args s = true) (h2 : ∀ w ∈ L.filter (fun w => !goodWord w), w ∈ B) (h3 : ∀ w ∈ B, w.before args s = true) : ∀ w ∈ L, w.before args s = true := by
  intro w hw
  by_cases g : goodWord w = true
  · exact h1 w (List.mem_filter.mpr ⟨hw, g⟩)
  · refine h3 w (h2 w (List.mem_filter.mpr ⟨hw, ?_⟩))
    show (!goodWord w) = true
    cases hgw : goodWord w
    · rfl
    · exact absurd hgw g
theorem vx_c {args : Array Value} {s : State} {w : Cond} {B : List Cond} (h : w.before args s = true) (t : ∀ w ∈ B, w.before args s = true) : ∀ w' ∈ w :: B, w'.before args s = true := fun w' h' => (List.mem_cons.mp h').elim (fun e => by rw [e]; exact h) (t w')
theorem vx_n {args : Array Value} {s : State} : ∀ w ∈ ([] : List Cond), w.before args s = true := fun _ h => nomatch h
theorem vx_own {args : Array Value} {s : State} {L : List Cond} (h1 : ∀ w ∈ L.filter vx_no, w.before args s = true)
    (hU : (Cond.isRef (.static Bundle.tN "UNASSIGNED_STACK" Bundle.steD)).before args s = true) (hN : (Cond.isRef (.static Bundle.tN "SUPPRESSED_SENTINEL" Bundle.listD)).before args s = true)
    (lU : (Cond.laysStatic Bundle.tN "UNASSIGNED_STACK" Bundle.steD).before args s = true) (lN : (Cond.laysStatic Bundle.tN "SUPPRESSED_SENTINEL" Bundle.listD).before args s = true) : ∀ w ∈ L, w.before args s = true := by
  intro w hw
  by_cases e1 : w = .isRef (.static Bundle.tN "UNASSIGNED_STACK" Bundle.steD)
  · rw [e1]; exact hU
  · by_cases e2 : w = .isRef (.static Bundle.tN "SUPPRESSED_SENTINEL" Bundle.listD)
    · rw [e2]; exact hN
    · by_cases e3 : w = .laysStatic Bundle.tN "UNASSIGNED_STACK" Bundle.steD
      · rw [e3]; exact lU
      · by_cases e4 : w = .laysStatic Bundle.tN "SUPPRESSED_SENTINEL" Bundle.listD
        · rw [e4]; exact lN
        · exact h1 w (List.mem_filter.mpr ⟨hw, by unfold vx_no; rw [decide_eq_true e1, decide_eq_true e2, decide_eq_true e3, decide_eq_true e4]; rfl⟩)
/-- where a static field lies, its class's statics cell in H -/
def vx_L (C n d : String) (A : Nat → Prop) (U : State) (H : Heap) : Prop := ∃ (c : ClassId) (k : Class) (i : Nat) (f : Field) (a : Nat) (cell : Cell), U.vm.findClass C = some c ∧ U.fieldFound? C n d = some (c, k, i, f) ∧ f.isStatic = true ∧ k.statics = some a ∧ H[a]? = some cell ∧ cell.vm.isStatics = true ∧ cell.cls = c ∧ f.slot < cell.slots.size ∧ k.staticTypes[f.slot]? = some f.type ∧ ¬ A a
theorem vx_L.moved {C n d : String} {A : Nat → Prop} {u U : State} {H : Heap} (hvm : u.vm.Alike U.vm) (h : vx_L C n d A u H) : vx_L C n d A U H := by
  obtain ⟨c, k, i, f, a, cell, h1, h2, h3, h4, h5, h6, h7, h8, h9, h10⟩ := h
  obtain ⟨k', hi', he⟩ := State.fieldFound?_setVm hvm h2
  exact ⟨c, k', i, f, a, cell, by rw [hvm.findClass]; exact h1, hi', h3, by rw [he]; exact h4, h5, h6, h7, h8, by rw [he]; exact h9, h10⟩
theorem vx_L.kept {C n d : String} {A : Nat → Prop} {U : State} {H H1 : Heap} (h : vx_L C n d A U H) (hq : ∀ a : Nat, a < H.size → ¬ A a → H1[a]? = H[a]?) : vx_L C n d A U H1 := by
  obtain ⟨c, k, i, f, a, cell, h1, h2, h3, h4, h5, h6, h7, h8, h9, h10⟩ := h
  exact ⟨c, k, i, f, a, cell, h1, h2, h3, h4, by rw [hq a (Array.getElem?_eq_some_iff.mp h5).1 h10]; exact h5, h6, h7, h8, h9, h10⟩
theorem vx_L.narrow {C n d : String} {A B : Nat → Prop} {U : State} {H : Heap} (h : vx_L C n d A U H) (hAB : ∀ q, B q → A q) : vx_L C n d B U H := by
  obtain ⟨c, k, i, f, a, cell, h1, h2, h3, h4, h5, h6, h7, h8, h9, h10⟩ := h
  exact ⟨c, k, i, f, a, cell, h1, h2, h3, h4, h5, h6, h7, h8, h9, fun z => h10 (hAB _ z)⟩
theorem vx_L.word {C n d : String} {A : Nat → Prop} {s : State} {args : Array Value} (h : vx_L C n d A s s.heap) : (Cond.laysStatic C n d).before args s = true := by
  obtain ⟨c, k, i, f, a, cell, h1, h2, h3, h4, h5, h6, h7, h8, h9, -⟩ := h
  show (Cond.laysStatic C n d).holds args s none s [] = true
  exact Cond.laysStatic_of h1 h2 h3 h4 h5 h6 h7 h8 h9
/-- .. and what it holds: null or some reference -/
def vx_Zq (C n d : String) (A : Nat → Prop) (U : State) (H : Heap) : Prop := va_Zq C n d A U H ∧ vx_L C n d A U H
theorem vx_Zq.moved {C n d : String} {A : Nat → Prop} {u U : State} {H : Heap} (hvm : u.vm.Alike U.vm) (h : vx_Zq C n d A u H) : vx_Zq C n d A U H := ⟨va_Zq.moved hvm h.1, vx_L.moved hvm h.2⟩
theorem vx_Zq.kept {C n d : String} {A : Nat → Prop} {U : State} {H H1 : Heap} (h : vx_Zq C n d A U H) (hq : ∀ a : Nat, a < H.size → ¬ A a → H1[a]? = H[a]?) : vx_Zq C n d A U H1 := ⟨va_Zq.kept h.1 hq, vx_L.kept h.2 hq⟩
theorem vx_Zq.narrow {C n d : String} {A B : Nat → Prop} {U : State} {H : Heap} (h : vx_Zq C n d A U H) (hAB : ∀ q, B q → A q) : vx_Zq C n d B U H := ⟨va_Zq.narrow h.1 hAB, vx_L.narrow h.2 hAB⟩
theorem vx_Zqof {args : Array Value} {s : State} {C n d : String} {A : Nat → Prop} (hl : (Cond.laysStatic C n d).before args s = true) (hini : (Cond.initialized C).before args s = true) (h : (Cond.isRef (.static C n d)).before args s = true) (hA : ∀ a : Nat, a < s.heap.size → ¬ A a) : vx_Zq C n d A s s.heap := by
  refine ⟨va_Zqof hl hini h hA, ?_⟩
  obtain ⟨c, k, i, f, a, cell, h1, h2, h3, h4, h5, h6, h7, h8, h9⟩ := Cond.laysStatic_spec hl
  exact ⟨c, k, i, f, a, cell, h1, h2, h3, h4, h5, h6, h7, h8, h9, hA a (Array.getElem?_eq_some_iff.mp h5).1⟩
theorem vx_isRef {C n d : String} {v : Value} {A : Nat → Prop} {s : State} {args : Array Value} (h : va_Z C n d v A s s.heap) (hv : v.isRef = true) : (Cond.isRef (.static C n d)).before args s = true := by
  obtain ⟨cf, kf, fi, f, a, cell, h1, h2, h3, h4, h5, h6, h7, -⟩ := h
  have he : (Term.static C n d).eval args s none [] s = some v := by
    simp [Term.eval, State.fieldNamed?, h1, h2, h4, h5, h6, h7]
  simp only [Cond.before, Cond.holds, Cond.value, he]
  cases v <;> simp_all [Value.isRef]
theorem vx_isRefq {C n d : String} {A : Nat → Prop} {s : State} {args : Array Value} (h : va_Zq C n d A s s.heap) : (Cond.isRef (.static C n d)).before args s = true := by
  rcases h with h | ⟨t, h⟩
  · exact vx_isRef h rfl
  · exact vx_isRef h rfl
/-- the same frame, seen from here: as if the method were called anew in this heap -/
theorem vx_rebase {T : State} (X : Stand p l e R s m args below meth c T locs cells slots) {R' : Room} (hf : R'.frames ≤ R.frames) (hl : R'.locals ≤ R.locals) (hc : cells + R'.cells ≤ R.cells) (hs : slots + R'.slots ≤ R.slots) :
    Stand p l e R' ((T.setVm s.vm).setFrames (.invoking m args :: below)) m args below meth c T [] 0 0 := by
  have htop : (T.setVm s.vm).topJava?.isSome := X.here.top
  have hF : ((T.setVm s.vm).setFrames (.invoking m args :: below)).frames = .invoking m args :: below := State.frames_setFrames _ (State.cur_lt_of_top htop)
  obtain ⟨g₀, hg0⟩ := Option.isSome_iff_exists.mp htop
  obtain ⟨r, hr⟩ := State.topJava?_eq_some.mp hg0
  have hl9 : e.platform.stackLimits (T.setVm s.vm).me = e.platform.stackLimits s.me := X.limits
  have hb9 : (T.setVm s.vm).me.stackBytes = s.me.stackBytes := X.bytes
  refine ⟨X.admits, X.cas, X.clock, hF, ?_, X.hears, X.method, X.code, X.here, X.tail, X.warmed, ?_, ?_, ?_⟩
  · have h := X.room
    have hU : ((T.setVm s.vm).setFrames (.invoking m args :: below)).localsInUse = s.localsInUse := by
      rw [State.localsInUse_invoking hF (meth := meth) (c := c) X.method X.code, State.localsInUse_invoking X.frames X.method X.code]
    simp only [State.hasRoom, Bool.and_eq_true, decide_eq_true_eq] at h ⊢
    obtain ⟨⟨⟨⟨h1, h2, h3, h4, h5, h6⟩, h7⟩, h8⟩, h9⟩ := h
    rw [X.frames, List.length_cons] at h2 h3
    have q1 := X.heapSize
    have q2 := X.used
    simp only [hF, hU, List.length_cons, State.stackLimits_setFrames, State.stackBytes_setFrames, hl9, hb9]
    refine ⟨⟨⟨⟨by omega, by omega, by omega, by omega, by omega, h6⟩, ?_⟩, ?_⟩, X.book⟩
    · show T.heap.size + R'.cells ≤ e.platform.maxCells
      omega
    · show T.slotsUsed + R'.slots ≤ e.platform.maxSlots
      omega
  · rw [State.stackLimits_setFrames]; rfl
  · rw [State.stackBytes_setFrames]; rfl
  · refine ⟨?_, Nat.le_refl _, Nat.le_refl _, ?_, ?_, fun a c9 h9 => ⟨c9, h9, rfl, rfl, fun _ _ => rfl⟩⟩
    · obtain ⟨t, ht, -⟩ := State.frames_cons hr
      show T.setVm s.vm = { ((T.setVm s.vm).setFrames (.invoking m args :: below)).setFrames (T.setVm s.vm).frames with heap := T.heap, slotsUsed := T.slotsUsed }
      rw [State.setFrames_setFrames, State.setFrames_self ht]
      rfl
    · show T.slotsUsed = T.slotsUsed + ((T.heap.toList.drop T.heap.size).map (·.slots.size)).sum
      rw [List.drop_eq_nil_of_le (Nat.le_of_eq Array.length_toList)]
      rfl
    · show ((T.heap.toList.drop T.heap.size).map (·.slots.size)).sum ≤ 0
      rw [List.drop_eq_nil_of_le (Nat.le_of_eq Array.length_toList)]
      exact Nat.le_refl _
/-- 'throw new E()': new; dup; invokespecial; athrow -/
theorem vx_throw0 {cc : ByteArray} {pc : Nat} (hexec : p.tables.exec = Jvm.exec) (hb : c.code = cc) (hl : l.stackTraces = false) {own cls : String} {names : List String} {ik ic mc ms : Nat} {A : Nat → Prop}
    (hown : s.vm.findClass own = some m.cls) (hcls : Bundle.fit cls = true) (hnames : ∀ n ∈ names, Bundle.fit n = true)
    (hk : (Cond.classLink own ik cls).before args s = true) (hini : (Cond.initialized cls).before args s = true) (hat : ∀ w ∈ vx_at0 own ic cls names, w.before args s = true)
    (hgood : ∀ w ∈ Cond.classLink own ik cls :: Cond.initialized cls :: vx_at0 own ic cls names, vx_ot w = true)
    (hU : vx_Zq Bundle.tN "UNASSIGNED_STACK" Bundle.steD A s s.heap) (hN : vx_Zq Bundle.tN "SUPPRESSED_SENTINEL" Bundle.listD A s s.heap) (hS : va_S A s.heap H locs) (hsize : ls.size = c.maxLocals)
    (d0 : decode cc pc = .ok (.new ik, 3)) (d3 : decode cc (pc + 3) = .ok (.dup, 1)) (d4 : decode cc (pc + 4) = .ok (.invokespecial ic, 3)) (d7 : decode cc (pc + 7) = .ok (.athrow, 1))
    (hout : ∀ x ∈ c.exceptionTable.toList, covers x (pc + 7) = false)
    (hRframes : names.length + 3 < R.frames) (hRlocals : (rest.map fun v => v.category).sum + (13 * (names.length + 1) + 42) ≤ R.locals) (hRcells : cells + 1 ≤ R.cells) (hRslots : slots + 6 ≤ R.slots) (hlocks : meth.locks = false)
    (hx : ∀ t : State, s.vm.Alike t.vm → H.size ≤ t.heap.size → (∀ q : Nat, q < H.size → t.heap[q]? = H[q]?) → XC cls s t)
    (hf : ∀ z ∈ locs, free z.base) (hc : cells + 1 ≤ mc) (hs : slots + 6 ≤ ms) :
    W p l e R s m args below meth c H locs cells slots (vx_MQ below Qc XC args s mc ms free) (F0 m pc ls rest) := by
  intro T hT X
  have htr : e.platform.stackTraces = false := (show e.platform.stackTraces = l.stackTraces by rw [X.admits.platform]).trans hl
  have Y := vx_rebase X (R' := { frames := R.frames, locals := R.locals, cells := 1, slots := 6 }) (Nat.le_refl _) (Nat.le_refl _) hRcells hRslots
  obtain ⟨s', hA⟩ : ∃ z, z = (T.setVm s.vm).setFrames (.invoking m args :: below) := ⟨_, rfl⟩
  rw [← hA] at Y
  have hvm : s'.vm = s.vm := by rw [hA]; rfl
  have hhp : s'.heap = H := by rw [hA]; exact hT
  have hW0 : s.WarmedH s'.vm := by rw [hvm]; exact State.WarmedH.refl s
  have hat' : ∀ w ∈ vx_at0 own ic cls names, w.before args s' = true := fun w hw => vx_ot_at hW0 hvm.symm (hgood w (List.mem_cons_of_mem _ (List.mem_cons_of_mem _ hw))) (hat w hw)
  have hk' : (Cond.classLink own ik cls).before args s' = true := vx_ot_at hW0 hvm.symm (hgood _ List.mem_cons_self) hk
  have hini' : (Cond.initialized cls).before args s' = true := vx_ot_at hW0 hvm.symm (hgood _ (List.mem_cons_of_mem _ List.mem_cons_self)) hini
  have hU' : vx_Zq Bundle.tN "UNASSIGNED_STACK" Bundle.steD A s' s'.heap := by rw [hhp]; exact vx_Zq.moved hW0.alike (hU.kept hS.2.1)
  have hN' : vx_Zq Bundle.tN "SUPPRESSED_SENTINEL" Bundle.listD A s' s'.heap := by rw [hhp]; exact vx_Zq.moved hW0.alike (hN.kept hS.2.1)
  have h : ∀ w ∈ Bundle.ownAtoms0 own ic cls names, w.before args s' = true := vx_own hat' (vx_isRefq hU'.1) (vx_isRefq hN'.1) hU'.2.word hN'.2.word
  have hown' : s'.vm.findClass own = some m.cls := by rw [hvm]; exact hown
  have hins : (Cond.instantiable cls 6).before args s' = true := h _ (by simp [Bundle.ownAtoms0])
  obtain ⟨vm₁, cX, kX, hfX, hkX, -, -, X₁, st1⟩ := Y.newCold hexec (own := own) (C := cls) (index := ik) (n := 6) hown' hk' hins hini'
    (g := F0 m pc ls rest) rfl (by rw [hb]; exact d0) (Nat.le_refl _) (Nat.le_refl _)
  generalize hT1 : (T.setVm vm₁).pushCell { cls := cX, slots := kX.instanceTypes.map defaultValue, vm := .none } = T1 at X₁ st1
  have hcat : (Value.ref T.heap.size).category = 1 := rfl
  have hcellA : T1.heap[T.heap.size]? = some (freshCell cX kX) := by rw [← hT1]; exact State.heap_pushCell_size _ _
  have d3' : decode c.code (pc + 3) = .ok (.dup, 1) := by rw [hb]; exact d3
  obtain ⟨U, hsteps, hrun, hend, hW, hsame, ce, hce, hO⟩ := X₁.ctorThrow0 hexec htr (own := own) (cls := cls) (names := names) (ic := ic) hown' hcls hnames h (fun x hx => nomatch hx) hfX hkX hcellA (by rw [hhp, hT]; exact Nat.le_refl _)
    (g := { method := m, pc := pc + 4, locals := ls, stack := .ref T.heap.size :: .ref T.heap.size :: rest, locked := none }) rfl hsize rfl rfl (rest := rest) rfl
    (by rw [hb]; exact d4) (by rw [hb]; exact d7) hout hRframes (by simp only [List.map_cons, List.sum_cons, hcat]; omega) hlocks
  obtain ⟨f1, f2⟩ := vx_frame hsame
  rw [hhp] at f1 f2
  have hWs : s.WarmedH U.vm := State.WarmedH.trans hW0 hW
  have hcl : s.vm.findClass cls = some ce.cls := by
    have h9 := hO.cls
    rw [hvm] at h9
    exact h9
  have hall : s.sameButNew ({ U with vm := s.vm } : State) locs mc ms := by
    subst hA
    obtain ⟨e1, e2⟩ := hsame
    rw [State.setFrames_setFrames] at e1
    have h2 : (T.setVm s.vm).sameButNew ({ U with vm := s.vm } : State) [] (0 + 1) (0 + 6) := ⟨e1, e2⟩
    have h3 := X.same.trans h2
    rw [List.append_nil] at h3
    exact h3.mono hc hs
  refine ⟨U, ?_, .threw T.heap.size, hrun, hend, Or.inr ⟨T.heap.size, rfl, cls, ce, locs, hx U hWs.alike f1 (fun q hq => f2 q hq (fun z hz => nomatch hz)), hce, hO.vm, hcl, hWs, hall, hf⟩⟩
  refine st1 _ ?_
  show Steps p.tables e below (T1.setTop { method := m, pc := pc + 3, locals := ls, stack := .ref T.heap.size :: rest, locked := none }) _
  jvm_step X₁.here [X₁.here.top, hexec, d3', Value.category]
  exact hsteps
/-- 'throw new E("text")': new; dup; ldc; invokespecial; athrow -/
theorem vx_throwS {cc : ByteArray} {pc : Nat} (hexec : p.tables.exec = Jvm.exec) (hb : c.code = cc) (hl : l.stackTraces = false) {own cls text : String} {names : List String} {ik is ic mc ms sa : Nat} {A : Nat → Prop}
    (hown : s.vm.findClass own = some m.cls) (hcls : Bundle.fit cls = true) (hnames : ∀ n ∈ names, Bundle.fit n = true)
    (hk : (Cond.classLink own ik cls).before args s = true) (hini : (Cond.initialized cls).before args s = true) (hstr : vk_R own is text sa s) (hat : ∀ w ∈ vx_atS own ic cls names, w.before args s = true)
    (hgood : ∀ w ∈ Cond.classLink own ik cls :: Cond.initialized cls :: vx_atS own ic cls names, vx_ot w = true)
    (hU : vx_Zq Bundle.tN "UNASSIGNED_STACK" Bundle.steD A s s.heap) (hN : vx_Zq Bundle.tN "SUPPRESSED_SENTINEL" Bundle.listD A s s.heap) (hS : va_S A s.heap H locs) (hsize : ls.size = c.maxLocals)
    (d0 : decode cc pc = .ok (.new ik, 3)) (d3 : decode cc (pc + 3) = .ok (.dup, 1)) (d4 : decode cc (pc + 4) = .ok (.ldc is, 2)) (d6 : decode cc (pc + 6) = .ok (.invokespecial ic, 3)) (d9 : decode cc (pc + 9) = .ok (.athrow, 1))
    (hout : ∀ x ∈ c.exceptionTable.toList, covers x (pc + 9) = false)
    (hRframes : names.length + 3 < R.frames) (hRlocals : (rest.map fun v => v.category).sum + (13 * (names.length + 1) + 43) ≤ R.locals) (hRcells : cells + 1 ≤ R.cells) (hRslots : slots + 6 ≤ R.slots) (hlocks : meth.locks = false)
    (hx : ∀ t : State, s.vm.Alike t.vm → H.size ≤ t.heap.size → (∀ q : Nat, q < H.size → t.heap[q]? = H[q]?) → XC cls s t)
    (hf : ∀ z ∈ locs, free z.base) (hc : cells + 1 ≤ mc) (hs : slots + 6 ≤ ms) :
    W p l e R s m args below meth c H locs cells slots (vx_MQ below Qc XC args s mc ms free) (F0 m pc ls rest) := by
  intro T hT X
  have htr : e.platform.stackTraces = false := (show e.platform.stackTraces = l.stackTraces by rw [X.admits.platform]).trans hl
  have Y := vx_rebase X (R' := { frames := R.frames, locals := R.locals, cells := 1, slots := 6 }) (Nat.le_refl _) (Nat.le_refl _) hRcells hRslots
  obtain ⟨s', hA⟩ : ∃ z, z = (T.setVm s.vm).setFrames (.invoking m args :: below) := ⟨_, rfl⟩
  rw [← hA] at Y
  have hvm : s'.vm = s.vm := by rw [hA]; rfl
  have hhp : s'.heap = H := by rw [hA]; exact hT
  have hW0 : s.WarmedH s'.vm := by rw [hvm]; exact State.WarmedH.refl s
  have hat' : ∀ w ∈ vx_atS own ic cls names, w.before args s' = true := fun w hw => vx_ot_at hW0 hvm.symm (hgood w (List.mem_cons_of_mem _ (List.mem_cons_of_mem _ hw))) (hat w hw)
  have hk' : (Cond.classLink own ik cls).before args s' = true := vx_ot_at hW0 hvm.symm (hgood _ List.mem_cons_self) hk
  have hini' : (Cond.initialized cls).before args s' = true := vx_ot_at hW0 hvm.symm (hgood _ (List.mem_cons_of_mem _ List.mem_cons_self)) hini
  have hU' : vx_Zq Bundle.tN "UNASSIGNED_STACK" Bundle.steD A s' s'.heap := by rw [hhp]; exact vx_Zq.moved hW0.alike (hU.kept hS.2.1)
  have hN' : vx_Zq Bundle.tN "SUPPRESSED_SENTINEL" Bundle.listD A s' s'.heap := by rw [hhp]; exact vx_Zq.moved hW0.alike (hN.kept hS.2.1)
  have h : ∀ w ∈ Bundle.ownAtoms own ic cls names, w.before args s' = true := vx_own hat' (vx_isRefq hU'.1) (vx_isRefq hN'.1) hU'.2.word hN'.2.word
  have hown' : s'.vm.findClass own = some m.cls := by rw [hvm]; exact hown
  have hins : (Cond.instantiable cls 6).before args s' = true := h _ (by simp [Bundle.ownAtoms])
  obtain ⟨vm₁, cX, kX, hfX, hkX, -, -, X₁, st1⟩ := Y.newCold hexec (own := own) (C := cls) (index := ik) (n := 6) hown' hk' hins hini'
    (g := F0 m pc ls rest) rfl (by rw [hb]; exact d0) (Nat.le_refl _) (Nat.le_refl _)
  generalize hT1 : (T.setVm vm₁).pushCell { cls := cX, slots := kX.instanceTypes.map defaultValue, vm := .none } = T1 at X₁ st1
  have hcat : (Value.ref T.heap.size).category = 1 := rfl
  have hcellA : T1.heap[T.heap.size]? = some (freshCell cX kX) := by rw [← hT1]; exact State.heap_pushCell_size _ _
  have d3' : decode c.code (pc + 3) = .ok (.dup, 1) := by rw [hb]; exact d3
  have d4' : decode c.code (pc + 4) = .ok (.ldc is, 2) := by rw [hb]; exact d4
  have hstr' : vk_R own is text sa s' := vk_R.warm hW0 hstr
  obtain ⟨U, hsteps, hrun, hend, hW, hsame, ce, hce, hO⟩ := X₁.ctorThrowS hexec htr (own := own) (cls := cls) (names := names) (ic := ic) hown' hcls hnames h (fun x hx => nomatch hx) hfX hkX hcellA (by rw [hhp, hT]; exact Nat.le_refl _) (msg := .ref sa) rfl
    (g := { method := m, pc := pc + 6, locals := ls, stack := .ref sa :: .ref T.heap.size :: .ref T.heap.size :: rest, locked := none }) rfl hsize rfl rfl (rest := rest) rfl
    (by rw [hb]; exact d6) (by rw [hb]; exact d9) hout hRframes (by simp only [List.map_cons, List.sum_cons, hcat]; omega) hlocks
  obtain ⟨f1, f2⟩ := vx_frame hsame
  rw [hhp] at f1 f2
  have hWs : s.WarmedH U.vm := State.WarmedH.trans hW0 hW
  have hcl : s.vm.findClass cls = some ce.cls := by
    have h9 := hO.cls
    rw [hvm] at h9
    exact h9
  have hall : s.sameButNew ({ U with vm := s.vm } : State) locs mc ms := by
    subst hA
    obtain ⟨e1, e2⟩ := hsame
    rw [State.setFrames_setFrames] at e1
    have h2 : (T.setVm s.vm).sameButNew ({ U with vm := s.vm } : State) [] (0 + 1) (0 + 6) := ⟨e1, e2⟩
    have h3 := X.same.trans h2
    rw [List.append_nil] at h3
    exact h3.mono hc hs
  refine ⟨U, ?_, .threw T.heap.size, hrun, hend, Or.inr ⟨T.heap.size, rfl, cls, ce, locs, hx U hWs.alike f1 (fun q hq => f2 q hq (fun z hz => nomatch hz)), hce, hO.vm, hcl, hWs, hall, hf⟩⟩
  refine st1 _ ?_
  show Steps p.tables e below (T1.setTop { method := m, pc := pc + 3, locals := ls, stack := .ref T.heap.size :: rest, locked := none }) _
  jvm_step X₁.here [X₁.here.top, hexec, d3', Value.category]
  exact X₁.ldcString hexec (own := own) (text := text) (index := is) (a := sa) hown' hstr'.1 hstr'.2
    (g := { method := m, pc := pc + 4, locals := ls, stack := .ref T.heap.size :: .ref T.heap.size :: rest, locked := none }) rfl d4' _ hsteps
/-- 'throw new E("text")', the text by a wide index -/
theorem vx_throwSW {cc : ByteArray} {pc : Nat} (hexec : p.tables.exec = Jvm.exec) (hb : c.code = cc) (hl : l.stackTraces = false) {own cls text : String} {names : List String} {ik is ic mc ms sa : Nat} {A : Nat → Prop}
    (hown : s.vm.findClass own = some m.cls) (hcls : Bundle.fit cls = true) (hnames : ∀ n ∈ names, Bundle.fit n = true)
    (hk : (Cond.classLink own ik cls).before args s = true) (hini : (Cond.initialized cls).before args s = true) (hstr : vk_R own is text sa s) (hat : ∀ w ∈ vx_atS own ic cls names, w.before args s = true)
    (hgood : ∀ w ∈ Cond.classLink own ik cls :: Cond.initialized cls :: vx_atS own ic cls names, vx_ot w = true)
    (hU : vx_Zq Bundle.tN "UNASSIGNED_STACK" Bundle.steD A s s.heap) (hN : vx_Zq Bundle.tN "SUPPRESSED_SENTINEL" Bundle.listD A s s.heap) (hS : va_S A s.heap H locs) (hsize : ls.size = c.maxLocals)
    (d0 : decode cc pc = .ok (.new ik, 3)) (d3 : decode cc (pc + 3) = .ok (.dup, 1)) (d4 : decode cc (pc + 4) = .ok (.ldc_w is, 3)) (d7 : decode cc (pc + 7) = .ok (.invokespecial ic, 3)) (d10 : decode cc (pc + 10) = .ok (.athrow, 1))
    (hout : ∀ x ∈ c.exceptionTable.toList, covers x (pc + 10) = false)
    (hRframes : names.length + 3 < R.frames) (hRlocals : (rest.map fun v => v.category).sum + (13 * (names.length + 1) + 43) ≤ R.locals) (hRcells : cells + 1 ≤ R.cells) (hRslots : slots + 6 ≤ R.slots) (hlocks : meth.locks = false)
    (hx : ∀ t : State, s.vm.Alike t.vm → H.size ≤ t.heap.size → (∀ q : Nat, q < H.size → t.heap[q]? = H[q]?) → XC cls s t)
    (hf : ∀ z ∈ locs, free z.base) (hc : cells + 1 ≤ mc) (hs : slots + 6 ≤ ms) :
    W p l e R s m args below meth c H locs cells slots (vx_MQ below Qc XC args s mc ms free) (F0 m pc ls rest) := by
  intro T hT X
  have htr : e.platform.stackTraces = false := (show e.platform.stackTraces = l.stackTraces by rw [X.admits.platform]).trans hl
  have Y := vx_rebase X (R' := { frames := R.frames, locals := R.locals, cells := 1, slots := 6 }) (Nat.le_refl _) (Nat.le_refl _) hRcells hRslots
  obtain ⟨s', hA⟩ : ∃ z, z = (T.setVm s.vm).setFrames (.invoking m args :: below) := ⟨_, rfl⟩
  rw [← hA] at Y
  have hvm : s'.vm = s.vm := by rw [hA]; rfl
  have hhp : s'.heap = H := by rw [hA]; exact hT
  have hW0 : s.WarmedH s'.vm := by rw [hvm]; exact State.WarmedH.refl s
  have hat' : ∀ w ∈ vx_atS own ic cls names, w.before args s' = true := fun w hw => vx_ot_at hW0 hvm.symm (hgood w (List.mem_cons_of_mem _ (List.mem_cons_of_mem _ hw))) (hat w hw)
  have hk' : (Cond.classLink own ik cls).before args s' = true := vx_ot_at hW0 hvm.symm (hgood _ List.mem_cons_self) hk
  have hini' : (Cond.initialized cls).before args s' = true := vx_ot_at hW0 hvm.symm (hgood _ (List.mem_cons_of_mem _ List.mem_cons_self)) hini
  have hU' : vx_Zq Bundle.tN "UNASSIGNED_STACK" Bundle.steD A s' s'.heap := by rw [hhp]; exact vx_Zq.moved hW0.alike (hU.kept hS.2.1)
  have hN' : vx_Zq Bundle.tN "SUPPRESSED_SENTINEL" Bundle.listD A s' s'.heap := by rw [hhp]; exact vx_Zq.moved hW0.alike (hN.kept hS.2.1)
  have h : ∀ w ∈ Bundle.ownAtoms own ic cls names, w.before args s' = true := vx_own hat' (vx_isRefq hU'.1) (vx_isRefq hN'.1) hU'.2.word hN'.2.word
  have hown' : s'.vm.findClass own = some m.cls := by rw [hvm]; exact hown
  have hins : (Cond.instantiable cls 6).before args s' = true := h _ (by simp [Bundle.ownAtoms])
  obtain ⟨vm₁, cX, kX, hfX, hkX, -, -, X₁, st1⟩ := Y.newCold hexec (own := own) (C := cls) (index := ik) (n := 6) hown' hk' hins hini'
    (g := F0 m pc ls rest) rfl (by rw [hb]; exact d0) (Nat.le_refl _) (Nat.le_refl _)
  generalize hT1 : (T.setVm vm₁).pushCell { cls := cX, slots := kX.instanceTypes.map defaultValue, vm := .none } = T1 at X₁ st1
  have hcat : (Value.ref T.heap.size).category = 1 := rfl
  have hcellA : T1.heap[T.heap.size]? = some (freshCell cX kX) := by rw [← hT1]; exact State.heap_pushCell_size _ _
  have d3' : decode c.code (pc + 3) = .ok (.dup, 1) := by rw [hb]; exact d3
  have d4' : decode c.code (pc + 4) = .ok (.ldc_w is, 3) := by rw [hb]; exact d4
  have hstr' : vk_R own is text sa s' := vk_R.warm hW0 hstr
  obtain ⟨U, hsteps, hrun, hend, hW, hsame, ce, hce, hO⟩ := X₁.ctorThrowS hexec htr (own := own) (cls := cls) (names := names) (ic := ic) hown' hcls hnames h (fun x hx => nomatch hx) hfX hkX hcellA (by rw [hhp, hT]; exact Nat.le_refl _) (msg := .ref sa) rfl
    (g := { method := m, pc := pc + 7, locals := ls, stack := .ref sa :: .ref T.heap.size :: .ref T.heap.size :: rest, locked := none }) rfl hsize rfl rfl (rest := rest) rfl
    (by rw [hb]; exact d7) (by rw [hb]; exact d10) hout hRframes (by simp only [List.map_cons, List.sum_cons, hcat]; omega) hlocks
  obtain ⟨f1, f2⟩ := vx_frame hsame
  rw [hhp] at f1 f2
  have hWs : s.WarmedH U.vm := State.WarmedH.trans hW0 hW
  have hcl : s.vm.findClass cls = some ce.cls := by
    have h9 := hO.cls
    rw [hvm] at h9
    exact h9
  have hall : s.sameButNew ({ U with vm := s.vm } : State) locs mc ms := by
    subst hA
    obtain ⟨e1, e2⟩ := hsame
    rw [State.setFrames_setFrames] at e1
    have h2 : (T.setVm s.vm).sameButNew ({ U with vm := s.vm } : State) [] (0 + 1) (0 + 6) := ⟨e1, e2⟩
    have h3 := X.same.trans h2
    rw [List.append_nil] at h3
    exact h3.mono hc hs
  refine ⟨U, ?_, .threw T.heap.size, hrun, hend, Or.inr ⟨T.heap.size, rfl, cls, ce, locs, hx U hWs.alike f1 (fun q hq => f2 q hq (fun z hz => nomatch hz)), hce, hO.vm, hcl, hWs, hall, hf⟩⟩
  refine st1 _ ?_
  show Steps p.tables e below (T1.setTop { method := m, pc := pc + 3, locals := ls, stack := .ref T.heap.size :: rest, locked := none }) _
  jvm_step X₁.here [X₁.here.top, hexec, d3', Value.category]
  exact X₁.ldcStringW hexec (own := own) (text := text) (index := is) (a := sa) hown' hstr'.1 hstr'.2
    (g := { method := m, pc := pc + 4, locals := ls, stack := .ref T.heap.size :: .ref T.heap.size :: rest, locked := none }) rfl d4' _ hsteps
end Ends
section Bodies
variable {l : Launch}
theorem vx_ofW {y : MethodName} {ws ws' : List Cond} {rm : Room} {Pc : Array Value → State → Prop} {Qc : Array Value → State → Outcome → State → Prop} {XC : String → State → State → Prop} {mc ms : Nat} {free : Addr → Prop} {cc : ByteArray} {maxL : Nat} {ret : Option FieldType}
    (hy : plainName y.cls = true) (hw : ws = Cond.code y cc maxL ret :: ws')
    (body : ∀ p e s m args below meth c s₁, BodyLoose p l y (headSpec ws rm) cc maxL ret e s m args below meth c s₁ → c.maxLocals = maxL → (∀ x ∈ c.exceptionTable.toList, False) → Pc args s →
      W p l e (headSpec ws rm).room s m args below meth c s.heap [] 0 0 (vx_MQ below Qc XC args s mc ms free) (entryFrame m args maxL)) : vx_Met l y ws rm Pc Qc XC mc ms free := by
  refine MetFree.of_bodyS (code := cc) (maxLocals := maxL) (ret := ret) hy ?_ ?_
  · intro args s m h hn
    obtain ⟨meth, c, h1, h2, h3, h4, h5, h6, -, -⟩ := Cond.code_spec hn (atoms_spec (ws := ws) h _ (by rw [hw]; exact List.mem_cons_self))
    exact ⟨meth, c, h1, h2, h3, h4, h5, h6⟩
  · intro p e s m args below meth c s₁ B hml hP _
    have hh0 : s₁.heap = s.heap := by rw [B.state]; rfl
    have ht : ∀ x ∈ c.exceptionTable.toList, False := by
      obtain ⟨meth9, c9, h1, h2, -, -, -, -, h7, -⟩ := Cond.code_spec B.named (atoms_spec (ws := ws) B.pre _ (by rw [hw]; exact List.mem_cons_self))
      cases Option.some.inj (h1.symm.trans B.method)
      cases Option.some.inj (h2.symm.trans (Stand.of_body B).code)
      intro x hx
      rw [Array.isEmpty_iff.mp h7] at hx
      cases hx
    obtain ⟨t, a1, o, b1, b2, b3⟩ := body p e s m args below meth c s₁ B hml ht hP s₁ hh0 (Stand.of_body B)
    exact ⟨t, o, a1, b1, b2, b3⟩
/-- the table of a body with handlers -/
theorem vx_table {p : Program} {x y : MethodName} {S : Spec} {cc bytes : ByteArray} {maxL maxL' : Nat} {ret ret' : Option FieldType} {e : Env} {s s₁ : State} {m : MethodId} {args : Array Value} {below : List Frame} {meth : Method} {c : Code} {hh : List (Nat × Nat × Nat × Nat)}
    (B : BodyLoose p l y S cc maxL ret e s m args below meth c s₁) (h : (Cond.codeWith y bytes maxL' ret' hh).before args s = true) : c.exceptionTable.toList = tableOf hh := by
  obtain ⟨m9, meth9, c9, hn9, h1, h2, -, -, h6, -⟩ := Cond.codeWith_spec h
  cases Option.some.inj (hn9.symm.trans B.named)
  cases Option.some.inj (h1.symm.trans B.method)
  cases Option.some.inj (h2.symm.trans (Stand.of_body B).code)
  rw [← h6, table_eq]
end Bodies
end VXA
/-! ===== END ===== -/
/-! ===== BEGIN a static call of a method with an exception table ===== -/
section VXS
variable {p : Program} {l : Launch} {e : Env} {R : Room} {s : State} {m : MethodId} {args : Array Value} {below : List Frame} {meth : Method} {c : Code} {T : State} {H : Heap} {locs : List Loc} {cells slots : Nat}
abbrev vx_CSW (R : Room) (s : State) (args : Array Value) (own : String) (index : Nat) (y : MethodName) (bytes : ByteArray) (maxL : Nat) (ret : Option FieldType) (hh : List (Nat × Nat × Nat × Nat)) (ws : List Cond) (rm : Room) (mc ms n : Nat) : Prop :=
  (rm.cells = mc ∧ rm.slots = ms ∧ rm.frames + 1 ≤ R.frames ∧ 8 + (maxL + 11) + rm.locals ≤ R.locals ∧ (∀ w ∈ ws, ∀ (a' : Array Value) (U : State), s.WarmedH U.vm → w.before a' U = true) ∧ Cond.codeWith y bytes maxL ret hh ∈ ws) ∧
  (Cond.codeWith y bytes maxL ret hh).before args s = true ∧ (Cond.initialized y.cls).before args s = true ∧ (y.cls ≠ "java/lang/invoke/MethodHandle" ∧ y.cls ≠ "java/lang/invoke/VarHandle") ∧
  (∀ sig, parseMethodDescriptor y.desc = some sig → n = sig.parameters.length) ∧ (Cond.methodLink own index y).before args s = true ∧ (Cond.static y).before args s = true
theorem vx_cwSW {own : String} {index maxL mc ms : Nat} {y : MethodName} {bytes : ByteArray} {ret : Option FieldType} {hh : List (Nat × Nat × Nat × Nat)} {Ts ws ws' : List Cond} {rm : Room} (n : Nat) (ht : ∀ w ∈ Ts, w.before args s = true) (hT : GoodIn Ts (va_wsS own index y ws)) (hw : ws = Cond.codeWith y bytes maxL ret hh :: ws') (hrc : rm.cells = mc) (hrs : rm.slots = ms)
    (hd : y.cls ≠ "java/lang/invoke/MethodHandle" ∧ y.cls ≠ "java/lang/invoke/VarHandle" ∧ (parseMethodDescriptor y.desc).map (fun d => d.parameters.length) = some n) (hR : rm.frames + 1 ≤ R.frames ∧ 8 + (maxL + 11) + rm.locals ≤ R.locals) :
    vx_CSW R s args own index y bytes maxL ret hh ws rm mc ms n := by
  have ok : ∀ w ∈ va_wsS own index y ws, w.before args s = true := fun w h => ht w (hT w h).1
  have hG : GoodIn Ts ws := fun w h => hT w (by unfold va_wsS; exact List.mem_append_right _ h)
  have hc : Cond.codeWith y bytes maxL ret hh ∈ ws := by rw [hw]; exact List.mem_cons_self
  refine ⟨⟨hrc, hrs, hR.1, hR.2, pay_in ht hG, hc⟩, ht _ (hG _ hc).1, ok _ (by simp [va_wsS]), ⟨hd.1, hd.2.1⟩, fun sig h => ?_, ok _ (by simp [va_wsS]), ok _ (by simp [va_wsS])⟩
  have h2 := hd.2.2
  rw [h] at h2
  exact (Option.some.inj h2).symm
theorem vx_callSW (X : Stand p l e R s m args below meth c T locs cells slots) (hexec : p.tables.exec = Jvm.exec) {own : String} {index : Nat} {y : MethodName} {bytes : ByteArray} {maxL : Nat} {ret : Option FieldType} {hh : List (Nat × Nat × Nat × Nat)}
    (hown : s.vm.findClass own = some m.cls) (hlink : (Cond.methodLink own index y).before args s = true) (hstat : (Cond.static y).before args s = true) (hinit : (Cond.initialized y.cls).before args s = true)
    (hcode : (Cond.codeWith y bytes maxL ret hh).before args s = true) (hy : y.cls ≠ "java/lang/invoke/MethodHandle" ∧ y.cls ≠ "java/lang/invoke/VarHandle")
    {W9 : Nat} {Pre : Pt → Array Value → Prop} {Post : Pt → Array Value → Option Value → Pt → Prop} (hK : Back l R p e below s args y 3 W9 Pre Post)
    {g : JFrame} (hg : g.method = m) (hsize : g.locals.size = c.maxLocals) {argsL rest : List Value} (hlen : ∀ sig, parseMethodDescriptor y.desc = some sig → argsL.length = sig.parameters.length)
    (hstack : g.stack = argsL.reverse ++ rest) (hW : 2 * g.monitorRoom + (rest.map fun v => v.category).sum ≤ W9) (hdg : decode c.code g.pc = .ok (.invokestatic index, 3))
    (hpre : ∀ vm₁, s.WarmedH vm₁ → Pre ⟨T.setVm vm₁, locs, cells, slots⟩ argsL.toArray) :
    ∃ (v : Option Value) (vm₁ : Vm) (B : Pt), s.WarmedH vm₁ ∧ Stand p l e R s m args below meth c B.U B.locs B.cells B.slots ∧ Post ⟨T.setVm vm₁, locs, cells, slots⟩ argsL.toArray v B ∧
      ∀ target, Steps p.tables e below (B.U.setTop { g with pc := g.pc + 3, stack := v.toList ++ rest }) target → Steps p.tables e below (T.setTop g) target := by
  obtain ⟨mk, methM, cM, hnamed, hmethM, -, -, -, -, -, -, hsigM⟩ := Cond.codeWith_spec hcode
  have hstatic : methM.isStatic = true := Cond.static_spec hnamed hmethM hstat
  obtain ⟨kP, hkP, -⟩ := className_of_methodNamed hnamed
  have hinitP : kP.init = .initialized := Cond.initialized_spec (findClass_of_methodNamed hnamed) hkP hinit
  obtain ⟨vm₁, X₁, hstep₁⟩ := X.invokestatic hexec hown hlink hnamed hmethM hstatic hkP hinitP hy (g := g) hg (argsL := argsL) (rest := rest) (hlen _ hsigM) hstack hdg
  obtain ⟨v, B, X', hpost, hsteps⟩ := hK m meth c ⟨T.setVm vm₁, locs, cells, slots⟩ { g with stack := rest } (.invokestatic index) mk argsL.toArray X₁ hg hsize hdg hW (X₁.named hnamed) (hpre vm₁ X₁.warmed)
  exact ⟨v, vm₁, B, X₁.warmed, X', hpost, fun target h => hstep₁ _ fun acts => by rw [doInvoke_state]; exact hsteps.trans h⟩
theorem vx_runSW {y : MethodName} {bytes cc : ByteArray} {maxL nL mc ms n index : Nat} {ret : Option FieldType} {hh : List (Nat × Nat × Nat × Nat)} {ws : List Cond} {rm : Room} {Pc : Array Value → State → Prop} {Qc : Array Value → State → Outcome → State → Prop} {free : Addr → Prop} {Ts : List Cond} {own : String} {As rest : List Value} {g : JFrame}
    (S : CallFix p m c cc nL s args Ts own) (hM : Met l y ws rm Pc Qc mc ms free) (cw : vx_CSW R s args own index y bytes maxL ret hh ws rm mc ms n) (hp : PreS s H Pc As)
    (hg : g.method = m) (hn : As.length = n) (hsize : g.locals.size = nL) (hstack : g.stack = As.reverse ++ rest) (hW : 2 * g.monitorRoom + (rest.map fun v => v.category).sum ≤ 8) (hdg : decode cc g.pc = .ok (.invokestatic index, 3)) (hf : cells + mc ≤ R.cells ∧ slots + ms ≤ R.slots) :
    va_Run p l e R s m args below meth c H locs cells slots mc ms g rest (Qc As.toArray) (free) := by
  obtain ⟨⟨hrc, hrs, hfr, hlo, hws, hcw⟩, hcode, hini, hy, hlen, hl, hstt⟩ := cw
  have hK : Back l R p e below s args y 3 8 (PreOf R mc ms Pc) (PostOf Qc mc ms free) := va_backW (hh := hh) (bytes := bytes) (maxL := maxL) (ret := ret) hM hp.1 hrc hrs hfr hlo hws hcw (fun a' U hW => word_at hW (Or.inl (by first | rfl | simp [Cond.onTables, Cond.keeps, Cond.steady])) hini)
  obtain ⟨hx, hb, hml, ho, -⟩ := S
  intro T hT X
  obtain ⟨v, vm₁, ⟨U', l2, c2, s2⟩, hW₁, X', ⟨g', mk, t, L, e1, e2, hq, h1, hL, h2, h3⟩, st⟩ := vx_callSW X hx (hh := hh) (bytes := bytes) (maxL := maxL) (ret := ret) ho hl hstt hini hcode hy hK hg (hsize.trans hml.symm) (argsL := As) (rest := rest) (fun sig h => hn.trans (hlen sig h)) hstack hW (by rw [hb]; exact hdg)
    (fun vm₁ hW₁ => ⟨hf.1, hf.2, hp.2 (T.setVm vm₁) hT hW₁⟩)
  dsimp only [Pt.U, Pt.locs, Pt.cells, Pt.slots] at X' e1 e2 h1 h2 h3 st
  subst h1; subst h2; subst h3
  exact ⟨v, (T.setVm vm₁).calling g' mk As.toArray, t, U', L, hT, X', hL, e1, e2, hq, st⟩
/-- not caught here, past rows that name other classes: it goes on to the caller -/
theorem vx_outP {p : Program} {l : Launch} {e : Env} {R : Room} {s : State} {m : MethodId} {args : Array Value} {below : List Frame} {meth : Method} {c : Code} {H : Heap} {locs : List Loc} {cells slots : Nat} {free : Addr → Prop} {ls : Array Slot} {rest : List Value} {Qc : Array Value → State → Outcome → State → Prop} {XC : String → State → State → Prop}
    {pc : Nat} {own E : String} {ce : Cell} {q : Addr} {mc ms : Nat} (hown : s.vm.findClass own = some m.cls) (hlocks : meth.locks = false)
    (hpass : ∀ z ∈ c.exceptionTable.toList, covers z pc = false ∨ (z.catchType ≠ 0 ∧ ∃ nm : String, (Cond.classLink own z.catchType nm).before args s = true ∧ va_Nc E nm s)) (hcell : H[q]? = some ce) (hv : ce.vm = .none) (hcl : s.vm.findClass E = some ce.cls)
    (hx : ∀ t : State, t.heap = H → s.vm.Alike t.vm → XC E s t) (hf : ∀ z ∈ locs, free z.base) (hc : cells ≤ mc) (hs : slots ≤ ms) :
    vx_W p l e R s m args below meth c H locs cells slots (vx_MQ below Qc XC args s mc ms free) (F0 m pc ls rest) q := by
  intro T hT X
  have hpl : e.platform.magicAccessors = ({} : Platform).magicAccessors := by rw [X.admits.platform]
  obtain ⟨vm', hW', X', st⟩ := X.outThrough hlocks q (g := F0 m pc ls rest) rfl rfl rfl (cell := ce) (by rw [hT]; exact hcell) (by rw [hv]; rfl)
    (by obtain ⟨k9, h9, -⟩ := Vm.findClass_spec hcl; exact ⟨k9, h9⟩) (fun z hz => by
      rcases hpass z hz with h | ⟨hz0, nm, hl1, hn1⟩
      · exact Or.inl h
      · obtain ⟨c6, hc6, hcl6⟩ := Cond.classLink_spec hown hl1 e.platform hpl
        obtain ⟨a8, b8, h1, h2, h3⟩ := hn1
        cases Option.some.inj (h1.symm.trans hcl)
        cases Option.some.inj (h2.symm.trans hc6)
        exact Or.inr ⟨hz0, _, hcl6, h3⟩)
  obtain ⟨g₀, hfr⟩ := X'.frames_eq
  have hcell9 : ((T.setVm vm').setFrames (.throwing q :: below)).heap[q]? = some ce := by
    show T.heap[q]? = some ce
    rw [hT]; exact hcell
  have hend : Ended ((T.setVm vm').setFrames (.throwing q :: below)) below (.threw q) := State.frames_setFrames _ (State.cur_lt_of_frames hfr)
  refine ⟨(T.setVm vm').setFrames (.throwing q :: below), ?_, .threw q, X'.here.running, hend, Or.inr ⟨q, rfl, E, ce, locs, hx _ hT (X'.ends _).1.alike, hcell9, hv, hcl, (X'.ends _).1, (X'.ends _).2.mono hc hs, hf⟩⟩
  rw [X.pushThrowing_eq]
  exact st
/-- a thing of a world lies in the heap -/
theorem vx_lt {D : va_G} {cl : List vw_C} {ws : va_W} {H1 : Heap} (h : va_P D cl ws H1) {k : Nat} {q : Nat × va_E} (hk : ws[k]? = some q) : q.1 < H1.size := (h k q hk).lt
end VXS
/-! ===== END ===== -/
/-! ===== BEGIN methods with a table of their own: called by a name, returning or throwing ===== -/
section VXH
/-! vx_backW, vx_callVX, vx_callSX, vx_callVW, vx_runVW, vx_runVX, vx_runSX, vx_ofWH follow the same proofs as their sisters above (Free/Laws.lean, Shelf42/LK1.lean); vx_outP calls Shelf42/NT130.lean (outThrough). -/
section
variable {l : Launch} {R : Room} {p : Program} {e : Env} {below : List Frame} {s : State} {sargs : Array Value} {y : MethodName} {len W9 : Nat}
theorem vx_backW {ws : List Cond} {rm : Room} {Pc : Array Value → State → Prop} {Qc : Array Value → State → Outcome → State → Prop} {XC : String → State → State → Prop} {mc ms : Nat} {free : Addr → Prop} {bytes : ByteArray} {maxL : Nat} {ret : Option FieldType} {hh : List (Nat × Nat × Nat × Nat)}
    (hM : vx_Met l y ws rm Pc Qc XC mc ms free) (hblind : FrameBlind Pc) (hrc : rm.cells = mc) (hrs : rm.slots = ms)
    (hframes : rm.frames + 1 ≤ R.frames) (hlocals : W9 + (maxL + 11) + rm.locals ≤ R.locals)
    (hws : ∀ w ∈ ws, ∀ a' U, s.WarmedH U.vm → w.before a' U = true) (hcode : Cond.codeWith y bytes maxL ret hh ∈ ws) (hinit : ∀ a' U, s.WarmedH U.vm → (Cond.initialized y.cls).before a' U = true) :
    vx_Back l R p e below s sargs y len W9 (PreOf R mc ms Pc) (PostOf Qc mc ms free) (vx_Post XC mc ms free) := by
  intro m meth c A g ig mk a X hg hsize hdg hW hn hp
  have h1 : (headSpec ws rm).pre.before a A.U = true := atoms_intro fun w hw => hws w hw _ _ X.warmed
  have h2 : (Cond.codeWith y bytes maxL ret hh).before a A.U = true := hws _ hcode _ _ X.warmed
  have h3 : (Cond.initialized y.cls).before a A.U = true := hinit _ _ X.warmed
  have h4 : A.cells + (headSpec ws rm).room.cells ≤ R.cells := by rw [show (headSpec ws rm).room.cells = mc from hrc]; exact hp.1
  have h5 : A.slots + (headSpec ws rm).room.slots ≤ R.slots := by rw [show (headSpec ws rm).room.slots = ms from hrs]; exact hp.2.1
  have hPc : Pc a (A.U.calling g mk a) := hblind _ _ _ _ hp.2.2
  obtain ⟨U, Ls, c0, s0⟩ := A
  dsimp only [Pt.U, Pt.locs, Pt.cells, Pt.slots] at h1 h2 h3 h4 h5 X hn hPc ⊢
  obtain ⟨m9, methY, cY, hn9, hmY, hcY, -, hlY, -⟩ := Cond.codeWith_spec h2
  cases Option.some.inj (hn9.symm.trans hn)
  obtain ⟨kY, hkY, -⟩ := className_of_methodNamed hn
  have hinitY : kY.init = .initialized := Cond.initialized_spec (findClass_of_methodNamed hn) hkY h3
  have h : At U g.method c below := by rw [hg]; exact X.here
  have hlocals9 : W9 + (maxL + 11) + (headSpec ws rm).room.locals ≤ R.locals := hlocals
  have happ : (headSpec ws rm).appliesLoose y e.platform (U.calling g mk a) = true :=
    Spec.appliesLoose_calling (g := g) h hdg hn hkY hinitY
      (X.room_calling (g := g) (R' := (headSpec ws rm).room) hsize hmY hcY hframes (by rw [hlY]; omega) h4 h5) h1
  obtain ⟨mid, hmid⟩ := h.above
  have hfr : (U.setTop g).frames = (.java g :: mid) ++ below := by rw [State.frames_setTop' g h.top, hmid]; rfl
  obtain ⟨o, s₂, hsteps, -, hend, hq⟩ := Steps.callFree hM p X.admits X.cas X.clock (acts := []) hfr happ hPc trivial
  have hq' : vx_Q Qc XC mc ms free a (U.calling g mk a) o s₂ := hq
  rw [State.frames_setTop' g h.top] at hend
  obtain ⟨g₀, hg0⟩ := Option.isSome_iff_exists.mp h.top
  obtain ⟨r, hr⟩ := State.topJava?_eq_some.mp hg0
  have hr' : (({ U with heap := s₂.heap, slotsUsed := s₂.slotsUsed } : State).setVm s₂.vm).frames = .java g₀ :: r := hr
  rcases hq' with ⟨hqc, L, hfe, hL⟩ | ⟨q, rfl, E, ce, L, hx, hce, hcv, hcl, hW₂, hsm, hL⟩
  · obtain ⟨⟨v, rfl⟩, hW₂, e2, q2, q3, q4, q5, q6⟩ := id hfe
    have e3 : s₂ = ({ (U.calling g mk a).setFrames s₂.frames with heap := s₂.heap, slotsUsed := s₂.slotsUsed } : State).setVm s₂.vm := by
      have : s₂ = ({ s₂ with vm := (U.calling g mk a).vm } : State).setVm s₂.vm := rfl
      rw [e2] at this
      exact this
    obtain ⟨c₂, i₂, len₂, hc₂, hd₂, hf₂⟩ := hend
    have hW' : U.WarmedH s₂.vm := hW₂
    have hcc : c₂ = c := by
      have h1 : s₂.code? g.method = U.code? g.method := by
        rw [State.code?_eq, State.code?_eq, hW'.alike.method?]
      exact Option.some.inj (hc₂.symm.trans (h1.trans h.code))
    subst hcc
    have hlen : len₂ = len := by rw [hdg] at hd₂; cases hd₂; rfl
    subst hlen
    have hs₂ : s₂ = (({ U with heap := s₂.heap, slotsUsed := s₂.slotsUsed } : State).setVm s₂.vm).setTop { g with pc := g.pc + len₂, stack := v.toList ++ g.stack } := by
      refine e3.trans ?_
      rw [hf₂, State.calling_eq h.top, State.setFrames_setFrames, State.setTop_of_frames _ hr', hr]
      rfl
    have hsame : U.sameButNew ({ U with heap := s₂.heap, slotsUsed := s₂.slotsUsed } : State) L mc ms := by
      refine ⟨?_, q2, q3, q4, q5, q6⟩
      obtain ⟨t, ht, -⟩ := State.frames_cons hr
      show ({ U with heap := s₂.heap, slotsUsed := s₂.slotsUsed } : State) = { U.setFrames U.frames with heap := s₂.heap, slotsUsed := s₂.slotsUsed }
      rw [State.setFrames_self ht]
    subst hg
    refine Or.inl ⟨v, ⟨(({ U with heap := s₂.heap, slotsUsed := s₂.slotsUsed } : State).setVm s₂.vm), Ls ++ L, c0 + mc, s0 + ms⟩,
      ⟨X.admits, X.cas, X.clock, X.frames, X.room, X.hears, X.method, X.code, (X.here.setHeapUsed s₂.heap s₂.slotsUsed).setVm hW'.alike, X.tail, State.WarmedH.trans X.warmed hW', X.limits, X.bytes, X.same.trans (hsame.setVm s.vm)⟩,
      ⟨g, mk, s₂, L, rfl, rfl, hqc, rfl, hL, rfl, rfl⟩, ?_⟩
    show Steps p.tables e below _ ((({ U with heap := s₂.heap, slotsUsed := s₂.slotsUsed } : State).setVm s₂.vm).setTop { g with pc := g.pc + len₂, stack := v.toList ++ g.stack })
    rw [← hs₂]
    exact hsteps
  · obtain ⟨e2, q2, q3, q4, q5, q6⟩ := id hsm
    have e3 : s₂ = ({ (U.calling g mk a).setFrames s₂.frames with heap := s₂.heap, slotsUsed := s₂.slotsUsed } : State).setVm s₂.vm := by
      have : s₂ = ({ s₂ with vm := (U.calling g mk a).vm } : State).setVm s₂.vm := rfl
      rw [e2] at this
      exact this
    have hf₂ : s₂.frames = .throwing q :: .java g :: U.frames.tail := hend
    have hW' : U.WarmedH s₂.vm := hW₂
    have hs₂ : s₂ = ((({ U with heap := s₂.heap, slotsUsed := s₂.slotsUsed } : State).setVm s₂.vm).setTop g).pushFrame (.throwing q) := by
      refine e3.trans ?_
      rw [hf₂, State.calling_eq h.top, State.setFrames_setFrames, State.pushFrame, State.frames_setTop _ hr', State.setTop_of_frames _ hr', State.setFrames_setFrames, hr]
      rfl
    have hsame : U.sameButNew ({ U with heap := s₂.heap, slotsUsed := s₂.slotsUsed } : State) L mc ms := by
      refine ⟨?_, q2, q3, q4, q5, q6⟩
      obtain ⟨t, ht, -⟩ := State.frames_cons hr
      show ({ U with heap := s₂.heap, slotsUsed := s₂.slotsUsed } : State) = { U.setFrames U.frames with heap := s₂.heap, slotsUsed := s₂.slotsUsed }
      rw [State.setFrames_self ht]
    subst hg
    refine Or.inr ⟨q, ⟨(({ U with heap := s₂.heap, slotsUsed := s₂.slotsUsed } : State).setVm s₂.vm), Ls ++ L, c0 + mc, s0 + ms⟩,
      ⟨X.admits, X.cas, X.clock, X.frames, X.room, X.hears, X.method, X.code, (X.here.setHeapUsed s₂.heap s₂.slotsUsed).setVm hW'.alike, X.tail, State.WarmedH.trans X.warmed hW', X.limits, X.bytes, X.same.trans (hsame.setVm s.vm)⟩,
      ⟨g, mk, s₂, L, E, ce, rfl, rfl, hx, hce, hcv, hcl, rfl, hL, rfl, rfl⟩, ?_⟩
    show Steps p.tables e below _ (((({ U with heap := s₂.heap, slotsUsed := s₂.slotsUsed } : State).setVm s₂.vm).setTop g).pushFrame (.throwing q))
    rw [← hs₂]
    exact hsteps
end
variable {p : Program} {l : Launch} {e : Env} {R : Room} {s : State} {m : MethodId} {args : Array Value} {below : List Frame} {meth : Method} {c : Code} {T : State} {H : Heap} {locs : List Loc} {cells slots : Nat}
theorem vx_callVX (X : Stand p l e R s m args below meth c T locs cells slots) (hexec : p.tables.exec = Jvm.exec) {own C : String} {index : Nat} {y : MethodName} {bytes : ByteArray} {maxL : Nat} {ret : Option FieldType} {hh : List (Nat × Nat × Nat × Nat)}
    (hown : s.vm.findClass own = some m.cls) (hlink : (Cond.methodLink own index y).before args s = true) (hinst : (Cond.instanceMethod y).before args s = true) (hsel : (Cond.selects C y y).before args s = true)
    (hcode : (Cond.codeWith y bytes maxL ret hh).before args s = true) (hy : y.cls ≠ "java/lang/invoke/MethodHandle" ∧ y.cls ≠ "java/lang/invoke/VarHandle")
    {W9 : Nat} {Pre : Pt → Array Value → Prop} {Post : Pt → Array Value → Option Value → Pt → Prop} {PostX : Pt → Array Value → Addr → Pt → Prop} (hK : vx_Back l R p e below s args y 3 W9 Pre Post PostX)
    {b : Addr} {cellB : Cell} (hcell : T.heap[b]? = some cellB) (hobj : cellB.vm.isStatics = false) (hcls : s.vm.findClass C = some cellB.cls)
    {g : JFrame} (hg : g.method = m) (hsize : g.locals.size = c.maxLocals) {argsL rest : List Value} (hlen : ∀ sig, parseMethodDescriptor y.desc = some sig → argsL.length = sig.parameters.length)
    (hstack : g.stack = argsL.reverse ++ .ref b :: rest) (hW : 2 * g.monitorRoom + (rest.map fun v => v.category).sum ≤ W9) (hdg : decode c.code g.pc = .ok (.invokevirtual index, 3))
    (hpre : ∀ vm₁, s.WarmedH vm₁ → Pre ⟨T.setVm vm₁, locs, cells, slots⟩ (Value.ref b :: argsL).toArray) :
    (∃ (v : Option Value) (vm₁ : Vm) (B : Pt), s.WarmedH vm₁ ∧ Stand p l e R s m args below meth c B.U B.locs B.cells B.slots ∧ Post ⟨T.setVm vm₁, locs, cells, slots⟩ (Value.ref b :: argsL).toArray v B ∧
      ∀ target, Steps p.tables e below (B.U.setTop { g with pc := g.pc + 3, stack := v.toList ++ rest }) target → Steps p.tables e below (T.setTop g) target) ∨
    (∃ (q : Addr) (vm₁ : Vm) (B : Pt), s.WarmedH vm₁ ∧ Stand p l e R s m args below meth c B.U B.locs B.cells B.slots ∧ PostX ⟨T.setVm vm₁, locs, cells, slots⟩ (Value.ref b :: argsL).toArray q B ∧
      Steps p.tables e below (T.setTop g) ((B.U.setTop { g with stack := rest }).pushFrame (.throwing q))) := by
  obtain ⟨mk, methM, hnamed, hmethM, hstM, habM⟩ := Cond.instanceMethod_spec hinst
  obtain ⟨m8, methM', cM, hn8, hmethM', -, -, -, -, -, -, hsigM⟩ := Cond.codeWith_spec hcode
  cases Option.some.inj (hn8.symm.trans hnamed)
  cases hmethM.symm.trans hmethM'
  obtain ⟨c2, r2, m2, q1, q2, q3, q4, kP, hkP, hkPi⟩ := Cond.selects_spec hsel
  cases hcls.symm.trans q1
  cases (State.methodFound?_of_named hnamed hy).symm.trans q2
  cases hnamed.symm.trans q3
  have hselP : selectMethod e.platform s.vm cellB.cls mk = .method mk := by rw [Launch.admits_selectMethod X.admits]; exact q4
  obtain ⟨vm₁, X₁, hstep₁⟩ := X.invokevirtual hexec hown hlink hnamed hmethM hstM hkP hkPi hy (a := b) (cell := cellB) hcell
    (fun z h => by rw [h] at hobj; cases hobj) hselP hmethM habM hkP hkPi (g := g) hg (argsL := argsL) (rest := rest) (hlen _ hsigM) hstack hdg
  rcases hK m meth c ⟨T.setVm vm₁, locs, cells, slots⟩ { g with stack := rest } (.invokevirtual index) mk (Value.ref b :: argsL).toArray X₁ hg hsize hdg hW (X₁.named hnamed) (hpre vm₁ X₁.warmed) with ⟨v, B, X', hpost, hsteps⟩ | ⟨q, B, X', hpost, hsteps⟩
  · exact Or.inl ⟨v, vm₁, B, X₁.warmed, X', hpost, fun target h => hstep₁ _ fun acts => by rw [doInvoke_state]; exact hsteps.trans h⟩
  · exact Or.inr ⟨q, vm₁, B, X₁.warmed, X', hpost, hstep₁ _ fun acts => by rw [doInvoke_state]; exact hsteps⟩
theorem vx_callSX (X : Stand p l e R s m args below meth c T locs cells slots) (hexec : p.tables.exec = Jvm.exec) {own : String} {index : Nat} {y : MethodName} {bytes : ByteArray} {maxL : Nat} {ret : Option FieldType} {hh : List (Nat × Nat × Nat × Nat)}
    (hown : s.vm.findClass own = some m.cls) (hlink : (Cond.methodLink own index y).before args s = true) (hstat : (Cond.static y).before args s = true) (hinit : (Cond.initialized y.cls).before args s = true)
    (hcode : (Cond.codeWith y bytes maxL ret hh).before args s = true) (hy : y.cls ≠ "java/lang/invoke/MethodHandle" ∧ y.cls ≠ "java/lang/invoke/VarHandle")
    {W9 : Nat} {Pre : Pt → Array Value → Prop} {Post : Pt → Array Value → Option Value → Pt → Prop} {PostX : Pt → Array Value → Addr → Pt → Prop} (hK : vx_Back l R p e below s args y 3 W9 Pre Post PostX)
    {g : JFrame} (hg : g.method = m) (hsize : g.locals.size = c.maxLocals) {argsL rest : List Value} (hlen : ∀ sig, parseMethodDescriptor y.desc = some sig → argsL.length = sig.parameters.length)
    (hstack : g.stack = argsL.reverse ++ rest) (hW : 2 * g.monitorRoom + (rest.map fun v => v.category).sum ≤ W9) (hdg : decode c.code g.pc = .ok (.invokestatic index, 3))
    (hpre : ∀ vm₁, s.WarmedH vm₁ → Pre ⟨T.setVm vm₁, locs, cells, slots⟩ argsL.toArray) :
    (∃ (v : Option Value) (vm₁ : Vm) (B : Pt), s.WarmedH vm₁ ∧ Stand p l e R s m args below meth c B.U B.locs B.cells B.slots ∧ Post ⟨T.setVm vm₁, locs, cells, slots⟩ argsL.toArray v B ∧
      ∀ target, Steps p.tables e below (B.U.setTop { g with pc := g.pc + 3, stack := v.toList ++ rest }) target → Steps p.tables e below (T.setTop g) target) ∨
    (∃ (q : Addr) (vm₁ : Vm) (B : Pt), s.WarmedH vm₁ ∧ Stand p l e R s m args below meth c B.U B.locs B.cells B.slots ∧ PostX ⟨T.setVm vm₁, locs, cells, slots⟩ argsL.toArray q B ∧
      Steps p.tables e below (T.setTop g) ((B.U.setTop { g with stack := rest }).pushFrame (.throwing q))) := by
  obtain ⟨mk, methM, cM, hnamed, hmethM, -, -, -, -, -, -, hsigM⟩ := Cond.codeWith_spec hcode
  have hstatic : methM.isStatic = true := Cond.static_spec hnamed hmethM hstat
  obtain ⟨kP, hkP, -⟩ := className_of_methodNamed hnamed
  have hinitP : kP.init = .initialized := Cond.initialized_spec (findClass_of_methodNamed hnamed) hkP hinit
  obtain ⟨vm₁, X₁, hstep₁⟩ := X.invokestatic hexec hown hlink hnamed hmethM hstatic hkP hinitP hy (g := g) hg (argsL := argsL) (rest := rest) (hlen _ hsigM) hstack hdg
  rcases hK m meth c ⟨T.setVm vm₁, locs, cells, slots⟩ { g with stack := rest } (.invokestatic index) mk argsL.toArray X₁ hg hsize hdg hW (X₁.named hnamed) (hpre vm₁ X₁.warmed) with ⟨v, B, X', hpost, hsteps⟩ | ⟨q, B, X', hpost, hsteps⟩
  · exact Or.inl ⟨v, vm₁, B, X₁.warmed, X', hpost, fun target h => hstep₁ _ fun acts => by rw [doInvoke_state]; exact hsteps.trans h⟩
  · exact Or.inr ⟨q, vm₁, B, X₁.warmed, X', hpost, hstep₁ _ fun acts => by rw [doInvoke_state]; exact hsteps⟩
theorem vx_callVW (X : Stand p l e R s m args below meth c T locs cells slots) (hexec : p.tables.exec = Jvm.exec) {own C : String} {index : Nat} {y : MethodName} {bytes : ByteArray} {maxL : Nat} {ret : Option FieldType} {hh : List (Nat × Nat × Nat × Nat)}
    (hown : s.vm.findClass own = some m.cls) (hlink : (Cond.methodLink own index y).before args s = true) (hinst : (Cond.instanceMethod y).before args s = true) (hsel : (Cond.selects C y y).before args s = true)
    (hcode : (Cond.codeWith y bytes maxL ret hh).before args s = true) (hy : y.cls ≠ "java/lang/invoke/MethodHandle" ∧ y.cls ≠ "java/lang/invoke/VarHandle")
    {W9 : Nat} {Pre : Pt → Array Value → Prop} {Post : Pt → Array Value → Option Value → Pt → Prop} (hK : Back l R p e below s args y 3 W9 Pre Post)
    {b : Addr} {cellB : Cell} (hcell : T.heap[b]? = some cellB) (hobj : cellB.vm.isStatics = false) (hcls : s.vm.findClass C = some cellB.cls)
    {g : JFrame} (hg : g.method = m) (hsize : g.locals.size = c.maxLocals) {argsL rest : List Value} (hlen : ∀ sig, parseMethodDescriptor y.desc = some sig → argsL.length = sig.parameters.length)
    (hstack : g.stack = argsL.reverse ++ .ref b :: rest) (hW : 2 * g.monitorRoom + (rest.map fun v => v.category).sum ≤ W9) (hdg : decode c.code g.pc = .ok (.invokevirtual index, 3))
    (hpre : ∀ vm₁, s.WarmedH vm₁ → Pre ⟨T.setVm vm₁, locs, cells, slots⟩ (Value.ref b :: argsL).toArray) :
    ∃ (v : Option Value) (vm₁ : Vm) (B : Pt), s.WarmedH vm₁ ∧ Stand p l e R s m args below meth c B.U B.locs B.cells B.slots ∧ Post ⟨T.setVm vm₁, locs, cells, slots⟩ (Value.ref b :: argsL).toArray v B ∧
      ∀ target, Steps p.tables e below (B.U.setTop { g with pc := g.pc + 3, stack := v.toList ++ rest }) target → Steps p.tables e below (T.setTop g) target := by
  obtain ⟨mk, methM, hnamed, hmethM, hstM, habM⟩ := Cond.instanceMethod_spec hinst
  obtain ⟨m8, methM', cM, hn8, hmethM', -, -, -, -, -, -, hsigM⟩ := Cond.codeWith_spec hcode
  cases Option.some.inj (hn8.symm.trans hnamed)
  cases hmethM.symm.trans hmethM'
  obtain ⟨c2, r2, m2, q1, q2, q3, q4, kP, hkP, hkPi⟩ := Cond.selects_spec hsel
  cases hcls.symm.trans q1
  cases (State.methodFound?_of_named hnamed hy).symm.trans q2
  cases hnamed.symm.trans q3
  have hselP : selectMethod e.platform s.vm cellB.cls mk = .method mk := by rw [Launch.admits_selectMethod X.admits]; exact q4
  obtain ⟨vm₁, X₁, hstep₁⟩ := X.invokevirtual hexec hown hlink hnamed hmethM hstM hkP hkPi hy (a := b) (cell := cellB) hcell
    (fun z h => by rw [h] at hobj; cases hobj) hselP hmethM habM hkP hkPi (g := g) hg (argsL := argsL) (rest := rest) (hlen _ hsigM) hstack hdg
  obtain ⟨v, B, X', hpost, hsteps⟩ := hK m meth c ⟨T.setVm vm₁, locs, cells, slots⟩ { g with stack := rest } (.invokevirtual index) mk (Value.ref b :: argsL).toArray X₁ hg hsize hdg hW (X₁.named hnamed) (hpre vm₁ X₁.warmed)
  exact ⟨v, vm₁, B, X₁.warmed, X', hpost, fun target h => hstep₁ _ fun acts => by rw [doInvoke_state]; exact hsteps.trans h⟩
abbrev vx_CVW (R : Room) (s : State) (args : Array Value) (own C : String) (index : Nat) (y : MethodName) (bytes : ByteArray) (maxL : Nat) (ret : Option FieldType) (hh : List (Nat × Nat × Nat × Nat)) (ws : List Cond) (rm : Room) (mc ms n : Nat) : Prop :=
  (rm.cells = mc ∧ rm.slots = ms ∧ rm.frames + 1 ≤ R.frames ∧ 8 + (maxL + 11) + rm.locals ≤ R.locals ∧ (∀ w ∈ ws, ∀ (a' : Array Value) (U : State), s.WarmedH U.vm → w.before a' U = true) ∧ Cond.codeWith y bytes maxL ret hh ∈ ws) ∧
  (Cond.codeWith y bytes maxL ret hh).before args s = true ∧ (Cond.initialized y.cls).before args s = true ∧ (y.cls ≠ "java/lang/invoke/MethodHandle" ∧ y.cls ≠ "java/lang/invoke/VarHandle") ∧
  (∀ sig, parseMethodDescriptor y.desc = some sig → n = sig.parameters.length) ∧ (Cond.methodLink own index y).before args s = true ∧ (Cond.instanceMethod y).before args s = true ∧ (Cond.selects C y y).before args s = true
theorem vx_cwVW {own C : String} {index maxL mc ms : Nat} {y : MethodName} {bytes : ByteArray} {ret : Option FieldType} {hh : List (Nat × Nat × Nat × Nat)} {Ts ws ws' : List Cond} {rm : Room} (n : Nat) (ht : ∀ w ∈ Ts, w.before args s = true) (hT : GoodIn Ts (wsV own index C y ws)) (hw : ws = Cond.codeWith y bytes maxL ret hh :: ws') (hrc : rm.cells = mc) (hrs : rm.slots = ms)
    (hd : y.cls = C ∧ y.cls ≠ "java/lang/invoke/MethodHandle" ∧ y.cls ≠ "java/lang/invoke/VarHandle" ∧ (parseMethodDescriptor y.desc).map (fun d => d.parameters.length) = some n) (hR : rm.frames + 1 ≤ R.frames ∧ 8 + (maxL + 11) + rm.locals ≤ R.locals) :
    vx_CVW R s args own C index y bytes maxL ret hh ws rm mc ms n := by
  obtain ⟨hC, hd⟩ := hd
  subst hC
  have ok : ∀ w ∈ wsV own index y.cls y ws, w.before args s = true := fun w h => ht w (hT w h).1
  have hG : GoodIn Ts ws := fun w h => hT w (by unfold wsV; exact List.mem_append_right _ h)
  have hc : Cond.codeWith y bytes maxL ret hh ∈ ws := by rw [hw]; exact List.mem_cons_self
  refine ⟨⟨hrc, hrs, hR.1, hR.2, pay_in ht hG, hc⟩, ht _ (hG _ hc).1, ok _ (by simp [wsV]), ⟨hd.1, hd.2.1⟩, fun sig h => ?_, ok _ (by simp [wsV]), ok _ (by simp [wsV]), ok _ (by simp [wsV])⟩
  have h2 := hd.2.2
  rw [h] at h2
  exact (Option.some.inj h2).symm
theorem vx_runVW {y : MethodName} {bytes cc : ByteArray} {maxL nL mc ms n index : Nat} {ret : Option FieldType} {hh : List (Nat × Nat × Nat × Nat)} {ws : List Cond} {rm : Room} {Pc : Array Value → State → Prop} {Qc : Array Value → State → Outcome → State → Prop} {free : Addr → Prop} {Ts : List Cond} {own C : String} {b : Addr} {As rest : List Value} {g : JFrame}
    (S : CallFix p m c cc nL s args Ts own) (hM : Met l y ws rm Pc Qc mc ms free) (cw : vx_CVW R s args own C index y bytes maxL ret hh ws rm mc ms n) (hp : PreV s H C b Pc As)
    (hg : g.method = m) (hn : As.length = n) (hsize : g.locals.size = nL) (hstack : g.stack = As.reverse ++ .ref b :: rest) (hW : 2 * g.monitorRoom + (rest.map fun v => v.category).sum ≤ 8) (hdg : decode cc g.pc = .ok (.invokevirtual index, 3)) (hf : cells + mc ≤ R.cells ∧ slots + ms ≤ R.slots) :
    va_Run p l e R s m args below meth c H locs cells slots mc ms g rest (Qc (Value.ref b :: As).toArray) free := by
  obtain ⟨⟨hrc, hrs, hfr, hlo, hws, hcw⟩, hcode, hini, hy, hlen, hl, hin, hse⟩ := cw
  have hK : Back l R p e below s args y 3 8 (PreOf R mc ms Pc) (PostOf Qc mc ms free) := va_backW (hh := hh) (bytes := bytes) (maxL := maxL) (ret := ret) hM hp.1 hrc hrs hfr hlo hws hcw (fun a' U hW => word_at hW (Or.inl (by first | rfl | simp [Cond.onTables, Cond.keeps, Cond.steady])) hini)
  obtain ⟨hx, hb, hml, ho, -⟩ := S
  obtain ⟨-, ⟨cellB, hcB, hoB, hclB⟩, hPc⟩ := hp
  intro T hT X
  obtain ⟨v, vm₁, ⟨U', l2, c2, s2⟩, hW₁, X', ⟨g', mk, t, L, e1, e2, hq, h1, hL, h2, h3⟩, st⟩ := vx_callVW X hx (C := C) (hh := hh) (bytes := bytes) (maxL := maxL) (ret := ret) ho hl hin hse hcode hy hK (by rw [hT]; exact hcB) hoB hclB hg (hsize.trans hml.symm) (argsL := As) (rest := rest) (fun sig h => hn.trans (hlen sig h)) hstack hW (by rw [hb]; exact hdg)
    (fun vm₁ hW₁ => ⟨hf.1, hf.2, hPc (T.setVm vm₁) hT hW₁⟩)
  dsimp only [Pt.U, Pt.locs, Pt.cells, Pt.slots] at X' e1 e2 h1 h2 h3 st
  subst h1; subst h2; subst h3
  exact ⟨v, (T.setVm vm₁).calling g' mk (Value.ref b :: As).toArray, t, U', L, hT, X', hL, e1, e2, hq, st⟩
section
variable {y : MethodName} {bytes cc : ByteArray} {maxL nL mc ms n index : Nat} {ret : Option FieldType} {ws : List Cond} {rm : Room} {Pc : Array Value → State → Prop} {Qc : Array Value → State → Outcome → State → Prop} {XC : String → State → State → Prop} {free : Addr → Prop} {Ts : List Cond} {own C : String} {b : Addr} {As rest : List Value} {g : JFrame}
theorem vx_runVX {hh : List (Nat × Nat × Nat × Nat)} (S : CallFix p m c cc nL s args Ts own) (hM : vx_Met l y ws rm Pc Qc XC mc ms free) (cw : vx_CVW R s args own C index y bytes maxL ret hh ws rm mc ms n) (hp : PreV s H C b Pc As)
    (hg : g.method = m) (hn : As.length = n) (hsize : g.locals.size = nL) (hstack : g.stack = As.reverse ++ .ref b :: rest) (hW : 2 * g.monitorRoom + (rest.map fun v => v.category).sum ≤ 8) (hdg : decode cc g.pc = .ok (.invokevirtual index, 3)) (hf : cells + mc ≤ R.cells ∧ slots + ms ≤ R.slots) :
    vx_Run p l e R s m args below meth c H locs cells slots mc ms g rest (Qc (Value.ref b :: As).toArray) XC free := by
  obtain ⟨⟨hrc, hrs, hfr, hlo, hws, hcw⟩, hcode, hini, hy, hlen, hl, hin, hse⟩ := cw
  have hK : vx_Back l R p e below s args y 3 8 (PreOf R mc ms Pc) (PostOf Qc mc ms free) (vx_Post XC mc ms free) := vx_backW (hh := hh) (bytes := bytes) (maxL := maxL) (ret := ret) hM hp.1 hrc hrs hfr hlo hws hcw (fun a' U hW => word_at hW (Or.inl (by first | rfl | simp [Cond.onTables, Cond.keeps, Cond.steady])) hini)
  obtain ⟨hx, hb, hml, ho, -⟩ := S
  obtain ⟨-, ⟨cellB, hcB, hoB, hclB⟩, hPc⟩ := hp
  intro T hT X
  rcases vx_callVX X hx (C := C) (hh := hh) (bytes := bytes) (maxL := maxL) (ret := ret) ho hl hin hse hcode hy hK (by rw [hT]; exact hcB) hoB hclB hg (hsize.trans hml.symm) (argsL := As) (rest := rest) (fun sig h => hn.trans (hlen sig h)) hstack hW (by rw [hb]; exact hdg)
    (fun vm₁ hW₁ => ⟨hf.1, hf.2, hPc (T.setVm vm₁) hT hW₁⟩) with ⟨v, vm₁, ⟨U', l2, c2, s2⟩, hW₁, X', ⟨g', mk, t, L, e1, e2, hq, h1, hL, h2, h3⟩, st⟩ | ⟨q, vm₁, ⟨U', l2, c2, s2⟩, hW₁, X', ⟨g', mk, t, L, E, ce, e1, e2, hq, hce, hcv, hcl, h1, hL, h2, h3⟩, st⟩
  · dsimp only [Pt.U, Pt.locs, Pt.cells, Pt.slots] at X' e1 e2 h1 h2 h3 st
    subst h1; subst h2; subst h3
    exact Or.inl ⟨v, (T.setVm vm₁).calling g' mk (Value.ref b :: As).toArray, t, U', L, hT, X', hL, e1, e2, hq, st⟩
  · dsimp only [Pt.U, Pt.locs, Pt.cells, Pt.slots] at X' e1 e2 h1 h2 h3 st hcl
    subst h1; subst h2; subst h3
    exact Or.inr ⟨q, (T.setVm vm₁).calling g' mk (Value.ref b :: As).toArray, t, U', L, E, ce, hT, X', hL, e1, e2, hq, hce, hcv, vx_cls hW₁ hcl, st⟩
theorem vx_runSX {hh : List (Nat × Nat × Nat × Nat)} (S : CallFix p m c cc nL s args Ts own) (hM : vx_Met l y ws rm Pc Qc XC mc ms free) (cw : vx_CSW R s args own index y bytes maxL ret hh ws rm mc ms n) (hp : PreS s H Pc As)
    (hg : g.method = m) (hn : As.length = n) (hsize : g.locals.size = nL) (hstack : g.stack = As.reverse ++ rest) (hW : 2 * g.monitorRoom + (rest.map fun v => v.category).sum ≤ 8) (hdg : decode cc g.pc = .ok (.invokestatic index, 3)) (hf : cells + mc ≤ R.cells ∧ slots + ms ≤ R.slots) :
    vx_Run p l e R s m args below meth c H locs cells slots mc ms g rest (Qc As.toArray) XC free := by
  obtain ⟨⟨hrc, hrs, hfr, hlo, hws, hcw⟩, hcode, hini, hy, hlen, hl, hstt⟩ := cw
  have hK : vx_Back l R p e below s args y 3 8 (PreOf R mc ms Pc) (PostOf Qc mc ms free) (vx_Post XC mc ms free) := vx_backW (hh := hh) (bytes := bytes) (maxL := maxL) (ret := ret) hM hp.1 hrc hrs hfr hlo hws hcw (fun a' U hW => word_at hW (Or.inl (by first | rfl | simp [Cond.onTables, Cond.keeps, Cond.steady])) hini)
  obtain ⟨hx, hb, hml, ho, -⟩ := S
  intro T hT X
  rcases vx_callSX X hx (hh := hh) (bytes := bytes) (maxL := maxL) (ret := ret) ho hl hstt hini hcode hy hK hg (hsize.trans hml.symm) (argsL := As) (rest := rest) (fun sig h => hn.trans (hlen sig h)) hstack hW (by rw [hb]; exact hdg)
    (fun vm₁ hW₁ => ⟨hf.1, hf.2, hp.2 (T.setVm vm₁) hT hW₁⟩) with ⟨v, vm₁, ⟨U', l2, c2, s2⟩, hW₁, X', ⟨g', mk, t, L, e1, e2, hq, h1, hL, h2, h3⟩, st⟩ | ⟨q, vm₁, ⟨U', l2, c2, s2⟩, hW₁, X', ⟨g', mk, t, L, E, ce, e1, e2, hq, hce, hcv, hcl, h1, hL, h2, h3⟩, st⟩
  · dsimp only [Pt.U, Pt.locs, Pt.cells, Pt.slots] at X' e1 e2 h1 h2 h3 st
    subst h1; subst h2; subst h3
    exact Or.inl ⟨v, (T.setVm vm₁).calling g' mk As.toArray, t, U', L, hT, X', hL, e1, e2, hq, st⟩
  · dsimp only [Pt.U, Pt.locs, Pt.cells, Pt.slots] at X' e1 e2 h1 h2 h3 st hcl
    subst h1; subst h2; subst h3
    exact Or.inr ⟨q, (T.setVm vm₁).calling g' mk As.toArray, t, U', L, E, ce, hT, X', hL, e1, e2, hq, hce, hcv, vx_cls hW₁ hcl, st⟩
end
end VXH
theorem vx_ofWH {l : Launch} {y : MethodName} {ws ws' : List Cond} {rm : Room} {Pc : Array Value → State → Prop} {Qc : Array Value → State → Outcome → State → Prop} {XC : String → State → State → Prop} {mc ms : Nat} {free : Addr → Prop} {cc : ByteArray} {maxL : Nat} {ret : Option FieldType} {hh : List (Nat × Nat × Nat × Nat)}
    (hy : plainName y.cls = true) (hw : ws = Cond.codeWith y cc maxL ret hh :: ws')
    (body : ∀ p e s m args below meth c s₁, BodyLoose p l y (headSpec ws rm) cc maxL ret e s m args below meth c s₁ → c.maxLocals = maxL → Pc args s →
      W p l e (headSpec ws rm).room s m args below meth c s.heap [] 0 0 (vx_MQ below Qc XC args s mc ms free) (entryFrame m args maxL)) : vx_Met l y ws rm Pc Qc XC mc ms free := by
  refine MetFree.of_bodyS (code := cc) (maxLocals := maxL) (ret := ret) hy ?_ ?_
  · intro args s m h hn
    obtain ⟨m9, meth, c, hn9, h1, h2, h3, h4, -, h5, h6, -⟩ := Cond.codeWith_spec (atoms_spec (ws := ws) h _ (by rw [hw]; exact List.mem_cons_self))
    cases hn.symm.trans hn9
    exact ⟨meth, c, h1, h2, h3, h4, h5, h6⟩
  · intro p e s m args below meth c s₁ B hml hP _
    have hh0 : s₁.heap = s.heap := by rw [B.state]; rfl
    obtain ⟨t, a1, o, b1, b2, b3⟩ := body p e s m args below meth c s₁ B hml hP s₁ hh0 (Stand.of_body B)
    exact ⟨t, o, a1, b1, b2, b3⟩
/-! ===== END ===== -/
end
section
def RX0 : String := "ShadowPool$Book"
def TX0 : u_T := fun k => match k with
  | 0 => ("ShadowPool$Book", "hour", "I", false)
  | 1 => ("ShadowPool$Book", "fund", "I", false)
  | 2 => ("ShadowPool$Book", "rate", "I", false)
  | 3 => ("ShadowPool$Book", "retention", "I", false)
  | 4 => ("ShadowPool$Book", "limit", "I", false)
  | 5 => ("ShadowPool$Book", "reinsurersLoss", "I", false)
  | 6 => ("ShadowPool$Book", "count", "I", false)
  | _ => ("ShadowPool$Book", "row", "[LShadowPool$Walker;", true)
def tyX0 : Nat → FieldType := fun k => match k with
  | 0 => .int
  | 1 => .int
  | 2 => .int
  | 3 => .int
  | 4 => .int
  | 5 => .int
  | 6 => .int
  | _ => .array (.object "ShadowPool$Walker")
theorem nmX0 : ∀ a, a < 8 → ∀ b, b < 8 → a ≠ b → (TX0 a).2.1 ≠ (TX0 b).2.1 := by decide +kernel
theorem tyX0_ok : ∀ k, k < 8 → parseFieldDescriptor (TX0 k).2.2.1 = some (tyX0 k) := by decide +kernel
abbrev cX0_init : ByteArray := prog_2_method_1_code
def yX0_init : MethodName := ⟨RX0, "<init>", "()V"⟩
abbrev cX0_find : ByteArray := prog_2_method_2_code
def yX0_find : MethodName := ⟨RX0, "find", "(I)LShadowPool$Walker;"⟩
abbrev cX0_enter : ByteArray := prog_2_method_3_code
def yX0_enter : MethodName := ⟨RX0, "enter", "(III)I"⟩
abbrev cX0_copyFrom : ByteArray := prog_2_method_4_code
def yX0_copyFrom : MethodName := ⟨RX0, "copyFrom", "(LShadowPool$Book;)V"⟩
abbrev cX0_countMembers : ByteArray := prog_2_method_5_code
def yX0_countMembers : MethodName := ⟨RX0, "countMembers", "()I"⟩
abbrev cX0_reinsuredPart : ByteArray := prog_2_method_6_code
def yX0_reinsuredPart : MethodName := ⟨RX0, "reinsuredPart", "(I)I"⟩
abbrev cX0_letGoBy : ByteArray := prog_2_method_7_code
def yX0_letGoBy : MethodName := ⟨RX0, "letGoBy", "(I)I"⟩
abbrev cX0_letOneHourGoBy : ByteArray := prog_2_method_8_code
def yX0_letOneHourGoBy : MethodName := ⟨RX0, "letOneHourGoBy", "()I"⟩
abbrev cX0_payDues : ByteArray := prog_2_method_9_code
def yX0_payDues : MethodName := ⟨RX0, "payDues", "()V"⟩
abbrev cX0_walk : ByteArray := prog_2_method_10_code
def yX0_walk : MethodName := ⟨RX0, "walk", "(LShadowPool$Walker;IZ)Z"⟩
def RX1 : String := "ShadowPool$Walker"
def TX1 : u_T := fun k => match k with
  | 0 => ("ShadowPool$Walker", "height", "I", false)
  | 1 => ("ShadowPool$Walker", "skill", "I", false)
  | 2 => ("ShadowPool$Walker", "net", "I", false)
  | 3 => ("ShadowPool$Walker", "wobble", "I", false)
  | 4 => ("ShadowPool$Walker", "falls", "I", false)
  | _ => ("ShadowPool$Walker", "member", "Z", false)
def tyX1 : Nat → FieldType := fun k => match k with
  | 0 => .int
  | 1 => .int
  | 2 => .int
  | 3 => .int
  | 4 => .int
  | _ => .boolean
theorem nmX1 : ∀ a, a < 6 → ∀ b, b < 6 → a ≠ b → (TX1 a).2.1 ≠ (TX1 b).2.1 := by decide +kernel
theorem tyX1_ok : ∀ k, k < 6 → parseFieldDescriptor (TX1 k).2.2.1 = some (tyX1 k) := by decide +kernel
abbrev cX1_init : ByteArray := prog_3_method_1_code
def yX1_init : MethodName := ⟨RX1, "<init>", "()V"⟩
abbrev cX1_begin : ByteArray := prog_3_method_2_code
def yX1_begin : MethodName := ⟨RX1, "begin", "(III)V"⟩
abbrev cX1_copyWalker : ByteArray := prog_3_method_3_code
def yX1_copyWalker : MethodName := ⟨RX1, "copyWalker", "(LShadowPool$Walker;)V"⟩
abbrev cX1_shadowUnder : ByteArray := prog_3_method_4_code
def yX1_shadowUnder : MethodName := ⟨RX1, "shadowUnder", "(I)I"⟩
abbrev cX1_costUnder : ByteArray := prog_3_method_5_code
def yX1_costUnder : MethodName := ⟨RX1, "costUnder", "(I)I"⟩
abbrev cX1_ownPart : ByteArray := prog_3_method_6_code
def yX1_ownPart : MethodName := ⟨RX1, "ownPart", "(IZ)I"⟩
abbrev cX1_wobbleBehind : ByteArray := prog_3_method_7_code
def yX1_wobbleBehind : MethodName := ⟨RX1, "wobbleBehind", "(IZ)I"⟩
abbrev cX1_fallsBehind : ByteArray := prog_3_method_8_code
def yX1_fallsBehind : MethodName := ⟨RX1, "fallsBehind", "(I)I"⟩
abbrev cX1_fall : ByteArray := prog_3_method_9_code
def yX1_fall : MethodName := ⟨RX1, "fall", "()V"⟩
def RX2 : String := "ShadowPool"
def TX2 : u_T := fun k => match k with
  | 0 => ("ShadowPool", "now", "LShadowPool$Book;", true)
  | _ => ("ShadowPool", "trial", "LShadowPool$Book;", true)
def tyX2 : Nat → FieldType := fun k => match k with
  | 0 => .object "ShadowPool$Book"
  | _ => .object "ShadowPool$Book"
theorem nmX2 : ∀ a, a < 2 → ∀ b, b < 2 → a ≠ b → (TX2 a).2.1 ≠ (TX2 b).2.1 := by decide +kernel
theorem tyX2_ok : ∀ k, k < 2 → parseFieldDescriptor (TX2 k).2.2.1 = some (tyX2 k) := by decide +kernel
abbrev cX2_init : ByteArray := prog_1_method_1_code
def yX2_init : MethodName := ⟨RX2, "<init>", "()V"⟩
abbrev cX2_addWalker : ByteArray := prog_1_method_2_code
def yX2_addWalker : MethodName := ⟨RX2, "addWalker", "(III)I"⟩
abbrev cX2_turnMember : ByteArray := prog_1_method_3_code
def yX2_turnMember : MethodName := ⟨RX2, "turnMember", "(I)Z"⟩
abbrev cX2_setNet : ByteArray := prog_1_method_4_code
def yX2_setNet : MethodName := ⟨RX2, "setNet", "(II)I"⟩
abbrev cX2_rest : ByteArray := prog_1_method_5_code
def yX2_rest : MethodName := ⟨RX2, "rest", "(I)I"⟩
abbrev cX2_setRate : ByteArray := prog_1_method_6_code
def yX2_setRate : MethodName := ⟨RX2, "setRate", "(I)I"⟩
abbrev cX2_reinsure : ByteArray := prog_1_method_7_code
def yX2_reinsure : MethodName := ⟨RX2, "reinsure", "(II)I"⟩
abbrev cX2_pass : ByteArray := prog_1_method_8_code
def yX2_pass : MethodName := ⟨RX2, "pass", "(I)I"⟩
abbrev cX2_hour : ByteArray := prog_1_method_9_code
def yX2_hour : MethodName := ⟨RX2, "hour", "()I"⟩
abbrev cX2_sun : ByteArray := prog_1_method_10_code
def yX2_sun : MethodName := ⟨RX2, "sun", "()I"⟩
abbrev cX2_isNoon : ByteArray := prog_1_method_11_code
def yX2_isNoon : MethodName := ⟨RX2, "isNoon", "()Z"⟩
abbrev cX2_hoursUntilNoon : ByteArray := prog_1_method_12_code
def yX2_hoursUntilNoon : MethodName := ⟨RX2, "hoursUntilNoon", "()I"⟩
abbrev cX2_walkers : ByteArray := prog_1_method_13_code
def yX2_walkers : MethodName := ⟨RX2, "walkers", "()I"⟩
abbrev cX2_members : ByteArray := prog_1_method_14_code
def yX2_members : MethodName := ⟨RX2, "members", "()I"⟩
abbrev cX2_isMember : ByteArray := prog_1_method_15_code
def yX2_isMember : MethodName := ⟨RX2, "isMember", "(I)Z"⟩
abbrev cX2_netOf : ByteArray := prog_1_method_16_code
def yX2_netOf : MethodName := ⟨RX2, "netOf", "(I)I"⟩
abbrev cX2_wobbleOf : ByteArray := prog_1_method_17_code
def yX2_wobbleOf : MethodName := ⟨RX2, "wobbleOf", "(I)I"⟩
abbrev cX2_fallsOf : ByteArray := prog_1_method_18_code
def yX2_fallsOf : MethodName := ⟨RX2, "fallsOf", "(I)I"⟩
abbrev cX2_shadowOf : ByteArray := prog_1_method_19_code
def yX2_shadowOf : MethodName := ⟨RX2, "shadowOf", "(I)I"⟩
abbrev cX2_longestShadow : ByteArray := prog_1_method_20_code
def yX2_longestShadow : MethodName := ⟨RX2, "longestShadow", "()I"⟩
abbrev cX2_costOf : ByteArray := prog_1_method_21_code
def yX2_costOf : MethodName := ⟨RX2, "costOf", "(I)I"⟩
abbrev cX2_ownPartOf : ByteArray := prog_1_method_22_code
def yX2_ownPartOf : MethodName := ⟨RX2, "ownPartOf", "(I)I"⟩
abbrev cX2_poolPartOf : ByteArray := prog_1_method_23_code
def yX2_poolPartOf : MethodName := ⟨RX2, "poolPartOf", "(I)I"⟩
abbrev cX2_reinsuredPartOf : ByteArray := prog_1_method_24_code
def yX2_reinsuredPartOf : MethodName := ⟨RX2, "reinsuredPartOf", "(I)I"⟩
abbrev cX2_fund : ByteArray := prog_1_method_25_code
def yX2_fund : MethodName := ⟨RX2, "fund", "()I"⟩
abbrev cX2_rate : ByteArray := prog_1_method_26_code
def yX2_rate : MethodName := ⟨RX2, "rate", "()I"⟩
abbrev cX2_retention : ByteArray := prog_1_method_27_code
def yX2_retention : MethodName := ⟨RX2, "retention", "()I"⟩
abbrev cX2_limit : ByteArray := prog_1_method_28_code
def yX2_limit : MethodName := ⟨RX2, "limit", "()I"⟩
abbrev cX2_reinsurersLoss : ByteArray := prog_1_method_29_code
def yX2_reinsurersLoss : MethodName := ⟨RX2, "reinsurersLoss", "()I"⟩
abbrev cX2_hoursUntilFall : ByteArray := prog_1_method_30_code
def yX2_hoursUntilFall : MethodName := ⟨RX2, "hoursUntilFall", "(I)I"⟩
abbrev cX2_nextToFall : ByteArray := prog_1_method_31_code
def yX2_nextToFall : MethodName := ⟨RX2, "nextToFall", "()I"⟩
abbrev cX2_fundIn : ByteArray := prog_1_method_32_code
def yX2_fundIn : MethodName := ⟨RX2, "fundIn", "(I)I"⟩
abbrev cX2_hoursUntilRuin : ByteArray := prog_1_method_33_code
def yX2_hoursUntilRuin : MethodName := ⟨RX2, "hoursUntilRuin", "()I"⟩
abbrev cX2_bestLimit : ByteArray := prog_1_method_34_code
def yX2_bestLimit : MethodName := ⟨RX2, "bestLimit", "()I"⟩
abbrev cX2_fairRate : ByteArray := prog_1_method_35_code
def yX2_fairRate : MethodName := ⟨RX2, "fairRate", "()I"⟩
abbrev cX2_meanShadow : ByteArray := prog_1_method_36_code
def yX2_meanShadow : MethodName := ⟨RX2, "meanShadow", "()D"⟩
abbrev cX2_digest : ByteArray := prog_1_method_37_code
def yX2_digest : MethodName := ⟨RX2, "digest", "()J"⟩
abbrev cX2_chainWalker : ByteArray := prog_1_method_38_code
def yX2_chainWalker : MethodName := ⟨RX2, "chainWalker", "(JLShadowPool$Walker;)J"⟩
abbrev cX2_chain : ByteArray := prog_1_method_39_code
def yX2_chain : MethodName := ⟨RX2, "chain", "(JI)J"⟩
abbrev cX2_claimNow : ByteArray := prog_1_method_40_code
def yX2_claimNow : MethodName := ⟨RX2, "claimNow", "(LShadowPool$Walker;)I"⟩
abbrev cX2_fundBehind : ByteArray := prog_1_method_41_code
def yX2_fundBehind : MethodName := ⟨RX2, "fundBehind", "(III)I"⟩
abbrev cX2_within : ByteArray := prog_1_method_42_code
def yX2_within : MethodName := ⟨RX2, "within", "(III)Z"⟩
abbrev cX2_hourOfDay : ByteArray := prog_1_method_43_code
def yX2_hourOfDay : MethodName := ⟨RX2, "hourOfDay", "(I)I"⟩
abbrev cX2_sunAt : ByteArray := prog_1_method_44_code
def yX2_sunAt : MethodName := ⟨RX2, "sunAt", "(I)I"⟩
abbrev cX2_noonAt : ByteArray := prog_1_method_45_code
def yX2_noonAt : MethodName := ⟨RX2, "noonAt", "(I)Z"⟩
def RX3 : String := "ShadowPoolLaw$Sim"
def TX3 : u_T := fun k => match k with
  | 0 => ("ShadowPoolLaw$Sim", "hour", "I", false)
  | 1 => ("ShadowPoolLaw$Sim", "fund", "I", false)
  | 2 => ("ShadowPoolLaw$Sim", "rate", "I", false)
  | 3 => ("ShadowPoolLaw$Sim", "retention", "I", false)
  | 4 => ("ShadowPoolLaw$Sim", "limit", "I", false)
  | 5 => ("ShadowPoolLaw$Sim", "loss", "I", false)
  | _ => ("ShadowPoolLaw$Sim", "all", "[[I", false)
def tyX3 : Nat → FieldType := fun k => match k with
  | 0 => .int
  | 1 => .int
  | 2 => .int
  | 3 => .int
  | 4 => .int
  | 5 => .int
  | _ => .array (.array .int)
theorem nmX3 : ∀ a, a < 7 → ∀ b, b < 7 → a ≠ b → (TX3 a).2.1 ≠ (TX3 b).2.1 := by decide +kernel
theorem tyX3_ok : ∀ k, k < 7 → parseFieldDescriptor (TX3 k).2.2.1 = some (tyX3 k) := by decide +kernel
abbrev cX3_init : ByteArray := prog_5_method_1_code
def yX3_init : MethodName := ⟨RX3, "<init>", "()V"⟩
abbrev cX3_add : ByteArray := prog_5_method_2_code
def yX3_add : MethodName := ⟨RX3, "add", "(III)V"⟩
abbrev cX3_copy : ByteArray := prog_5_method_3_code
def yX3_copy : MethodName := ⟨RX3, "copy", "()LShadowPoolLaw$Sim;"⟩
abbrev cX3_ofDay : ByteArray := prog_5_method_4_code
def yX3_ofDay : MethodName := ⟨RX3, "ofDay", "()I"⟩
abbrev cX3_sun : ByteArray := prog_5_method_5_code
def yX3_sun : MethodName := ⟨RX3, "sun", "()I"⟩
abbrev cX3_isNoon : ByteArray := prog_5_method_6_code
def yX3_isNoon : MethodName := ⟨RX3, "isNoon", "()Z"⟩
abbrev cX3_shadow : ByteArray := prog_5_method_7_code
def yX3_shadow : MethodName := ⟨RX3, "shadow", "([I)I"⟩
abbrev cX3_parts : ByteArray := prog_5_method_8_code
def yX3_parts : MethodName := ⟨RX3, "parts", "([I)[I"⟩
abbrev cX3_pass : ByteArray := prog_5_method_9_code
def yX3_pass : MethodName := ⟨RX3, "pass", "()I"⟩
abbrev cX3_pass_ : ByteArray := prog_5_method_10_code
def yX3_pass_ : MethodName := ⟨RX3, "pass", "(I)I"⟩
abbrev cX3_isSame : ByteArray := prog_5_method_11_code
def yX3_isSame : MethodName := ⟨RX3, "isSame", "(LShadowPool;)Z"⟩
def RX4 : String := "ShadowPoolModel"
def TX4 : u_T := fun k => match k with
  | _ => ("", "", "", false)
def tyX4 : Nat → FieldType := fun k => match k with
  | _ => .int
theorem nmX4 : ∀ a, a < 0 → ∀ b, b < 0 → a ≠ b → (TX4 a).2.1 ≠ (TX4 b).2.1 := by decide +kernel
theorem tyX4_ok : ∀ k, k < 0 → parseFieldDescriptor (TX4 k).2.2.1 = some (tyX4 k) := by decide +kernel
def RJx8e188 : String := "java/lang/Cloneable"
def RJ9 : String := "java/lang/Math"
abbrev cJ9_floorMod_7cf53 : ByteArray := prog_12_method_50_code
def yJ9_floorMod_7cf53 : MethodName := ⟨RJ9, "floorMod", "(II)I"⟩
abbrev cJ9_abs_0f7a4 : ByteArray := prog_12_method_59_code
def yJ9_abs_0f7a4 : MethodName := ⟨RJ9, "abs", "(I)I"⟩
abbrev cJ9_max_7cf53 : ByteArray := prog_12_method_65_code
def yJ9_max_7cf53 : MethodName := ⟨RJ9, "max", "(II)I"⟩
abbrev cJ9_min_7cf53 : ByteArray := prog_12_method_69_code
def yJ9_min_7cf53 : MethodName := ⟨RJ9, "min", "(II)I"⟩
def RJ0 : String := "java/lang/String"
def RL : String := "ShadowPoolLaw"
abbrev cL_below : ByteArray := method_2_code
def yL_below : MethodName := ⟨RL, "below", "(II)I"⟩
abbrev cL_cell : ByteArray := method_3_code
def yL_cell : MethodName := ⟨RL, "cell", "([II)I"⟩
abbrev cL_act : ByteArray := method_4_code
def yL_act : MethodName := ⟨RL, "act", "(LShadowPool;LShadowPoolLaw$Sim;I)Z"⟩
abbrev cL_build : ByteArray := method_5_code
def yL_build : MethodName := ⟨RL, "build", "(LShadowPool;[I)LShadowPoolLaw$Sim;"⟩
abbrev cL_law : ByteArray := code
def yL_law : MethodName := ⟨RL, "law", "([I)Z"⟩
abbrev vwCl : List vw_C := [(RX0, TX0, 8), (RX1, TX1, 6), (RX2, TX2, 2), (RX3, TX3, 7)]
end
section
theorem dX0_init_0 : decode cX0_init 0 = .ok (.aload_n 0, 1) := by decide +kernel
theorem dX0_init_1 : decode cX0_init 1 = .ok (.invokespecial 3, 3) := by decide +kernel
theorem dX0_init_4 : decode cX0_init 4 = .ok (.aload_n 0, 1) := by decide +kernel
theorem dX0_init_5 : decode cX0_init 5 = .ok (.iconst 0, 1) := by decide +kernel
theorem dX0_init_6 : decode cX0_init 6 = .ok (.putfield 9, 3) := by decide +kernel
theorem dX0_init_9 : decode cX0_init 9 = .ok (.aload_n 0, 1) := by decide +kernel
theorem dX0_init_10 : decode cX0_init 10 = .ok (.bipush 100, 2) := by decide +kernel
theorem dX0_init_12 : decode cX0_init 12 = .ok (.putfield 15, 3) := by decide +kernel
theorem dX0_init_15 : decode cX0_init 15 = .ok (.aload_n 0, 1) := by decide +kernel
theorem dX0_init_16 : decode cX0_init 16 = .ok (.iconst 2, 1) := by decide +kernel
theorem dX0_init_17 : decode cX0_init 17 = .ok (.putfield 18, 3) := by decide +kernel
theorem dX0_init_20 : decode cX0_init 20 = .ok (.aload_n 0, 1) := by decide +kernel
theorem dX0_init_21 : decode cX0_init 21 = .ok (.bipush 30, 2) := by decide +kernel
theorem dX0_init_23 : decode cX0_init 23 = .ok (.putfield 21, 3) := by decide +kernel
theorem dX0_init_26 : decode cX0_init 26 = .ok (.aload_n 0, 1) := by decide +kernel
theorem dX0_init_27 : decode cX0_init 27 = .ok (.iconst 0, 1) := by decide +kernel
theorem dX0_init_28 : decode cX0_init 28 = .ok (.putfield 24, 3) := by decide +kernel
theorem dX0_init_31 : decode cX0_init 31 = .ok (.aload_n 0, 1) := by decide +kernel
theorem dX0_init_32 : decode cX0_init 32 = .ok (.iconst 0, 1) := by decide +kernel
theorem dX0_init_33 : decode cX0_init 33 = .ok (.putfield 27, 3) := by decide +kernel
theorem dX0_init_36 : decode cX0_init 36 = .ok (.aload_n 0, 1) := by decide +kernel
theorem dX0_init_37 : decode cX0_init 37 = .ok (.iconst 0, 1) := by decide +kernel
theorem dX0_init_38 : decode cX0_init 38 = .ok (.putfield 30, 3) := by decide +kernel
theorem dX0_init_41 : decode cX0_init 41 = .ok (.aload_n 0, 1) := by decide +kernel
theorem dX0_init_42 : decode cX0_init 42 = .ok (.bipush 8, 2) := by decide +kernel
theorem dX0_init_44 : decode cX0_init 44 = .ok (.anewarray 33, 3) := by decide +kernel
theorem dX0_init_47 : decode cX0_init 47 = .ok (.putfield 35, 3) := by decide +kernel
theorem dX0_init_50 : decode cX0_init 50 = .ok (.iconst 0, 1) := by decide +kernel
theorem dX0_init_51 : decode cX0_init 51 = .ok (.istore_n 1, 1) := by decide +kernel
theorem dX0_init_52 : decode cX0_init 52 = .ok (.iload_n 1, 1) := by decide +kernel
theorem dX0_init_53 : decode cX0_init 53 = .ok (.bipush 8, 2) := by decide +kernel
theorem dX0_init_55 : decode cX0_init 55 = .ok (.if_icmp .ge 22, 3) := by decide +kernel
theorem dX0_init_58 : decode cX0_init 58 = .ok (.aload_n 0, 1) := by decide +kernel
theorem dX0_init_59 : decode cX0_init 59 = .ok (.getfield 35, 3) := by decide +kernel
theorem dX0_init_62 : decode cX0_init 62 = .ok (.iload_n 1, 1) := by decide +kernel
theorem dX0_init_63 : decode cX0_init 63 = .ok (.new 33, 3) := by decide +kernel
theorem dX0_init_66 : decode cX0_init 66 = .ok (.dup, 1) := by decide +kernel
theorem dX0_init_67 : decode cX0_init 67 = .ok (.invokespecial 39, 3) := by decide +kernel
theorem dX0_init_70 : decode cX0_init 70 = .ok (.aastore, 1) := by decide +kernel
theorem dX0_init_71 : decode cX0_init 71 = .ok (.iinc 1 1, 3) := by decide +kernel
theorem dX0_init_74 : decode cX0_init 74 = .ok (.goto (-22), 3) := by decide +kernel
theorem dX0_init_77 : decode cX0_init 77 = .ok (.return_, 1) := by decide +kernel
theorem dX0_find_0 : decode cX0_find 0 = .ok (.iload_n 1, 1) := by decide +kernel
theorem dX0_find_1 : decode cX0_find 1 = .ok (.ifCond .lt 29, 3) := by decide +kernel
theorem dX0_find_4 : decode cX0_find 4 = .ok (.iload_n 1, 1) := by decide +kernel
theorem dX0_find_5 : decode cX0_find 5 = .ok (.aload_n 0, 1) := by decide +kernel
theorem dX0_find_6 : decode cX0_find 6 = .ok (.getfield 30, 3) := by decide +kernel
theorem dX0_find_9 : decode cX0_find 9 = .ok (.if_icmp .ge 21, 3) := by decide +kernel
theorem dX0_find_12 : decode cX0_find 12 = .ok (.iload_n 1, 1) := by decide +kernel
theorem dX0_find_13 : decode cX0_find 13 = .ok (.aload_n 0, 1) := by decide +kernel
theorem dX0_find_14 : decode cX0_find 14 = .ok (.getfield 35, 3) := by decide +kernel
theorem dX0_find_17 : decode cX0_find 17 = .ok (.arraylength, 1) := by decide +kernel
theorem dX0_find_18 : decode cX0_find 18 = .ok (.if_icmp .ge 12, 3) := by decide +kernel
theorem dX0_find_21 : decode cX0_find 21 = .ok (.aload_n 0, 1) := by decide +kernel
theorem dX0_find_22 : decode cX0_find 22 = .ok (.getfield 35, 3) := by decide +kernel
theorem dX0_find_25 : decode cX0_find 25 = .ok (.iload_n 1, 1) := by decide +kernel
theorem dX0_find_26 : decode cX0_find 26 = .ok (.aaload, 1) := by decide +kernel
theorem dX0_find_27 : decode cX0_find 27 = .ok (.goto 4, 3) := by decide +kernel
theorem dX0_find_30 : decode cX0_find 30 = .ok (.aconst_null, 1) := by decide +kernel
theorem dX0_find_31 : decode cX0_find 31 = .ok (.areturn, 1) := by decide +kernel
theorem dX0_enter_0 : decode cX0_enter 0 = .ok (.aload_n 0, 1) := by decide +kernel
theorem dX0_enter_1 : decode cX0_enter 1 = .ok (.getfield 30, 3) := by decide +kernel
theorem dX0_enter_4 : decode cX0_enter 4 = .ok (.istore 4, 2) := by decide +kernel
theorem dX0_enter_6 : decode cX0_enter 6 = .ok (.iload 4, 2) := by decide +kernel
theorem dX0_enter_8 : decode cX0_enter 8 = .ok (.ifCond .lt 23, 3) := by decide +kernel
theorem dX0_enter_11 : decode cX0_enter 11 = .ok (.iload 4, 2) := by decide +kernel
theorem dX0_enter_13 : decode cX0_enter 13 = .ok (.aload_n 0, 1) := by decide +kernel
theorem dX0_enter_14 : decode cX0_enter 14 = .ok (.getfield 35, 3) := by decide +kernel
theorem dX0_enter_17 : decode cX0_enter 17 = .ok (.arraylength, 1) := by decide +kernel
theorem dX0_enter_18 : decode cX0_enter 18 = .ok (.if_icmp .ge 13, 3) := by decide +kernel
theorem dX0_enter_21 : decode cX0_enter 21 = .ok (.aload_n 0, 1) := by decide +kernel
theorem dX0_enter_22 : decode cX0_enter 22 = .ok (.getfield 35, 3) := by decide +kernel
theorem dX0_enter_25 : decode cX0_enter 25 = .ok (.iload 4, 2) := by decide +kernel
theorem dX0_enter_27 : decode cX0_enter 27 = .ok (.aaload, 1) := by decide +kernel
theorem dX0_enter_28 : decode cX0_enter 28 = .ok (.ifnonnull 5, 3) := by decide +kernel
theorem dX0_enter_31 : decode cX0_enter 31 = .ok (.iconst (-1), 1) := by decide +kernel
theorem dX0_enter_32 : decode cX0_enter 32 = .ok (.ireturn, 1) := by decide +kernel
theorem dX0_enter_33 : decode cX0_enter 33 = .ok (.aload_n 0, 1) := by decide +kernel
theorem dX0_enter_34 : decode cX0_enter 34 = .ok (.getfield 35, 3) := by decide +kernel
theorem dX0_enter_37 : decode cX0_enter 37 = .ok (.iload 4, 2) := by decide +kernel
theorem dX0_enter_39 : decode cX0_enter 39 = .ok (.aaload, 1) := by decide +kernel
theorem dX0_enter_40 : decode cX0_enter 40 = .ok (.iload_n 1, 1) := by decide +kernel
theorem dX0_enter_41 : decode cX0_enter 41 = .ok (.iload_n 2, 1) := by decide +kernel
theorem dX0_enter_42 : decode cX0_enter 42 = .ok (.iload_n 3, 1) := by decide +kernel
theorem dX0_enter_43 : decode cX0_enter 43 = .ok (.invokevirtual 40, 3) := by decide +kernel
theorem dX0_enter_46 : decode cX0_enter 46 = .ok (.aload_n 0, 1) := by decide +kernel
theorem dX0_enter_47 : decode cX0_enter 47 = .ok (.dup, 1) := by decide +kernel
theorem dX0_enter_48 : decode cX0_enter 48 = .ok (.getfield 30, 3) := by decide +kernel
theorem dX0_enter_51 : decode cX0_enter 51 = .ok (.iconst 1, 1) := by decide +kernel
theorem dX0_enter_52 : decode cX0_enter 52 = .ok (.iadd, 1) := by decide +kernel
theorem dX0_enter_53 : decode cX0_enter 53 = .ok (.putfield 30, 3) := by decide +kernel
theorem dX0_enter_56 : decode cX0_enter 56 = .ok (.iload 4, 2) := by decide +kernel
theorem dX0_enter_58 : decode cX0_enter 58 = .ok (.ireturn, 1) := by decide +kernel
theorem dX0_copyFrom_0 : decode cX0_copyFrom 0 = .ok (.aload_n 0, 1) := by decide +kernel
theorem dX0_copyFrom_1 : decode cX0_copyFrom 1 = .ok (.aload_n 1, 1) := by decide +kernel
theorem dX0_copyFrom_2 : decode cX0_copyFrom 2 = .ok (.getfield 9, 3) := by decide +kernel
theorem dX0_copyFrom_5 : decode cX0_copyFrom 5 = .ok (.putfield 9, 3) := by decide +kernel
theorem dX0_copyFrom_8 : decode cX0_copyFrom 8 = .ok (.aload_n 0, 1) := by decide +kernel
theorem dX0_copyFrom_9 : decode cX0_copyFrom 9 = .ok (.aload_n 1, 1) := by decide +kernel
theorem dX0_copyFrom_10 : decode cX0_copyFrom 10 = .ok (.getfield 15, 3) := by decide +kernel
theorem dX0_copyFrom_13 : decode cX0_copyFrom 13 = .ok (.putfield 15, 3) := by decide +kernel
theorem dX0_copyFrom_16 : decode cX0_copyFrom 16 = .ok (.aload_n 0, 1) := by decide +kernel
theorem dX0_copyFrom_17 : decode cX0_copyFrom 17 = .ok (.aload_n 1, 1) := by decide +kernel
theorem dX0_copyFrom_18 : decode cX0_copyFrom 18 = .ok (.getfield 18, 3) := by decide +kernel
theorem dX0_copyFrom_21 : decode cX0_copyFrom 21 = .ok (.putfield 18, 3) := by decide +kernel
theorem dX0_copyFrom_24 : decode cX0_copyFrom 24 = .ok (.aload_n 0, 1) := by decide +kernel
theorem dX0_copyFrom_25 : decode cX0_copyFrom 25 = .ok (.aload_n 1, 1) := by decide +kernel
theorem dX0_copyFrom_26 : decode cX0_copyFrom 26 = .ok (.getfield 21, 3) := by decide +kernel
theorem dX0_copyFrom_29 : decode cX0_copyFrom 29 = .ok (.putfield 21, 3) := by decide +kernel
theorem dX0_copyFrom_32 : decode cX0_copyFrom 32 = .ok (.aload_n 0, 1) := by decide +kernel
theorem dX0_copyFrom_33 : decode cX0_copyFrom 33 = .ok (.aload_n 1, 1) := by decide +kernel
theorem dX0_copyFrom_34 : decode cX0_copyFrom 34 = .ok (.getfield 24, 3) := by decide +kernel
theorem dX0_copyFrom_37 : decode cX0_copyFrom 37 = .ok (.putfield 24, 3) := by decide +kernel
theorem dX0_copyFrom_40 : decode cX0_copyFrom 40 = .ok (.aload_n 0, 1) := by decide +kernel
theorem dX0_copyFrom_41 : decode cX0_copyFrom 41 = .ok (.aload_n 1, 1) := by decide +kernel
theorem dX0_copyFrom_42 : decode cX0_copyFrom 42 = .ok (.getfield 27, 3) := by decide +kernel
theorem dX0_copyFrom_45 : decode cX0_copyFrom 45 = .ok (.putfield 27, 3) := by decide +kernel
theorem dX0_copyFrom_48 : decode cX0_copyFrom 48 = .ok (.aload_n 0, 1) := by decide +kernel
theorem dX0_copyFrom_49 : decode cX0_copyFrom 49 = .ok (.aload_n 1, 1) := by decide +kernel
theorem dX0_copyFrom_50 : decode cX0_copyFrom 50 = .ok (.getfield 30, 3) := by decide +kernel
theorem dX0_copyFrom_53 : decode cX0_copyFrom 53 = .ok (.putfield 30, 3) := by decide +kernel
theorem dX0_copyFrom_56 : decode cX0_copyFrom 56 = .ok (.iconst 0, 1) := by decide +kernel
theorem dX0_copyFrom_57 : decode cX0_copyFrom 57 = .ok (.istore_n 2, 1) := by decide +kernel
theorem dX0_copyFrom_58 : decode cX0_copyFrom 58 = .ok (.iload_n 2, 1) := by decide +kernel
theorem dX0_copyFrom_59 : decode cX0_copyFrom 59 = .ok (.aload_n 0, 1) := by decide +kernel
theorem dX0_copyFrom_60 : decode cX0_copyFrom 60 = .ok (.getfield 30, 3) := by decide +kernel
theorem dX0_copyFrom_63 : decode cX0_copyFrom 63 = .ok (.if_icmp .ge 37, 3) := by decide +kernel
theorem dX0_copyFrom_66 : decode cX0_copyFrom 66 = .ok (.aload_n 0, 1) := by decide +kernel
theorem dX0_copyFrom_67 : decode cX0_copyFrom 67 = .ok (.iload_n 2, 1) := by decide +kernel
theorem dX0_copyFrom_68 : decode cX0_copyFrom 68 = .ok (.invokevirtual 44, 3) := by decide +kernel
theorem dX0_copyFrom_71 : decode cX0_copyFrom 71 = .ok (.astore_n 3, 1) := by decide +kernel
theorem dX0_copyFrom_72 : decode cX0_copyFrom 72 = .ok (.aload_n 1, 1) := by decide +kernel
theorem dX0_copyFrom_73 : decode cX0_copyFrom 73 = .ok (.iload_n 2, 1) := by decide +kernel
theorem dX0_copyFrom_74 : decode cX0_copyFrom 74 = .ok (.invokevirtual 44, 3) := by decide +kernel
theorem dX0_copyFrom_77 : decode cX0_copyFrom 77 = .ok (.astore 4, 2) := by decide +kernel
theorem dX0_copyFrom_79 : decode cX0_copyFrom 79 = .ok (.aload_n 3, 1) := by decide +kernel
theorem dX0_copyFrom_80 : decode cX0_copyFrom 80 = .ok (.ifnull 14, 3) := by decide +kernel
theorem dX0_copyFrom_83 : decode cX0_copyFrom 83 = .ok (.aload 4, 2) := by decide +kernel
theorem dX0_copyFrom_85 : decode cX0_copyFrom 85 = .ok (.ifnull 9, 3) := by decide +kernel
theorem dX0_copyFrom_88 : decode cX0_copyFrom 88 = .ok (.aload_n 3, 1) := by decide +kernel
theorem dX0_copyFrom_89 : decode cX0_copyFrom 89 = .ok (.aload 4, 2) := by decide +kernel
theorem dX0_copyFrom_91 : decode cX0_copyFrom 91 = .ok (.invokevirtual 48, 3) := by decide +kernel
theorem dX0_copyFrom_94 : decode cX0_copyFrom 94 = .ok (.iinc 2 1, 3) := by decide +kernel
theorem dX0_copyFrom_97 : decode cX0_copyFrom 97 = .ok (.goto (-39), 3) := by decide +kernel
theorem dX0_copyFrom_100 : decode cX0_copyFrom 100 = .ok (.return_, 1) := by decide +kernel
theorem dX0_countMembers_0 : decode cX0_countMembers 0 = .ok (.iconst 0, 1) := by decide +kernel
theorem dX0_countMembers_1 : decode cX0_countMembers 1 = .ok (.istore_n 1, 1) := by decide +kernel
theorem dX0_countMembers_2 : decode cX0_countMembers 2 = .ok (.iconst 0, 1) := by decide +kernel
theorem dX0_countMembers_3 : decode cX0_countMembers 3 = .ok (.istore_n 2, 1) := by decide +kernel
theorem dX0_countMembers_4 : decode cX0_countMembers 4 = .ok (.iload_n 2, 1) := by decide +kernel
theorem dX0_countMembers_5 : decode cX0_countMembers 5 = .ok (.aload_n 0, 1) := by decide +kernel
theorem dX0_countMembers_6 : decode cX0_countMembers 6 = .ok (.getfield 30, 3) := by decide +kernel
theorem dX0_countMembers_9 : decode cX0_countMembers 9 = .ok (.if_icmp .ge 34, 3) := by decide +kernel
theorem dX0_countMembers_12 : decode cX0_countMembers 12 = .ok (.aload_n 0, 1) := by decide +kernel
theorem dX0_countMembers_13 : decode cX0_countMembers 13 = .ok (.iload_n 2, 1) := by decide +kernel
theorem dX0_countMembers_14 : decode cX0_countMembers 14 = .ok (.invokevirtual 44, 3) := by decide +kernel
theorem dX0_countMembers_17 : decode cX0_countMembers 17 = .ok (.astore_n 3, 1) := by decide +kernel
theorem dX0_countMembers_18 : decode cX0_countMembers 18 = .ok (.iload_n 1, 1) := by decide +kernel
theorem dX0_countMembers_19 : decode cX0_countMembers 19 = .ok (.aload_n 3, 1) := by decide +kernel
theorem dX0_countMembers_20 : decode cX0_countMembers 20 = .ok (.ifnull 14, 3) := by decide +kernel
theorem dX0_countMembers_23 : decode cX0_countMembers 23 = .ok (.aload_n 3, 1) := by decide +kernel
theorem dX0_countMembers_24 : decode cX0_countMembers 24 = .ok (.getfield 52, 3) := by decide +kernel
theorem dX0_countMembers_27 : decode cX0_countMembers 27 = .ok (.ifCond .eq 7, 3) := by decide +kernel
theorem dX0_countMembers_30 : decode cX0_countMembers 30 = .ok (.iconst 1, 1) := by decide +kernel
theorem dX0_countMembers_31 : decode cX0_countMembers 31 = .ok (.goto 4, 3) := by decide +kernel
theorem dX0_countMembers_34 : decode cX0_countMembers 34 = .ok (.iconst 0, 1) := by decide +kernel
theorem dX0_countMembers_35 : decode cX0_countMembers 35 = .ok (.iadd, 1) := by decide +kernel
theorem dX0_countMembers_36 : decode cX0_countMembers 36 = .ok (.istore_n 1, 1) := by decide +kernel
theorem dX0_countMembers_37 : decode cX0_countMembers 37 = .ok (.iinc 2 1, 3) := by decide +kernel
theorem dX0_countMembers_40 : decode cX0_countMembers 40 = .ok (.goto (-36), 3) := by decide +kernel
theorem dX0_countMembers_43 : decode cX0_countMembers 43 = .ok (.iload_n 1, 1) := by decide +kernel
theorem dX0_countMembers_44 : decode cX0_countMembers 44 = .ok (.ireturn, 1) := by decide +kernel
theorem dX0_reinsuredPart_0 : decode cX0_reinsuredPart 0 = .ok (.iconst 0, 1) := by decide +kernel
theorem dX0_reinsuredPart_1 : decode cX0_reinsuredPart 1 = .ok (.iload_n 1, 1) := by decide +kernel
theorem dX0_reinsuredPart_2 : decode cX0_reinsuredPart 2 = .ok (.aload_n 0, 1) := by decide +kernel
theorem dX0_reinsuredPart_3 : decode cX0_reinsuredPart 3 = .ok (.getfield 21, 3) := by decide +kernel
theorem dX0_reinsuredPart_6 : decode cX0_reinsuredPart 6 = .ok (.isub, 1) := by decide +kernel
theorem dX0_reinsuredPart_7 : decode cX0_reinsuredPart 7 = .ok (.invokestatic 56, 3) := by decide +kernel
theorem dX0_reinsuredPart_10 : decode cX0_reinsuredPart 10 = .ok (.aload_n 0, 1) := by decide +kernel
theorem dX0_reinsuredPart_11 : decode cX0_reinsuredPart 11 = .ok (.getfield 24, 3) := by decide +kernel
theorem dX0_reinsuredPart_14 : decode cX0_reinsuredPart 14 = .ok (.invokestatic 62, 3) := by decide +kernel
theorem dX0_reinsuredPart_17 : decode cX0_reinsuredPart 17 = .ok (.ireturn, 1) := by decide +kernel
theorem dX0_letGoBy_0 : decode cX0_letGoBy 0 = .ok (.iconst 0, 1) := by decide +kernel
theorem dX0_letGoBy_1 : decode cX0_letGoBy 1 = .ok (.istore_n 2, 1) := by decide +kernel
theorem dX0_letGoBy_2 : decode cX0_letGoBy 2 = .ok (.iconst 0, 1) := by decide +kernel
theorem dX0_letGoBy_3 : decode cX0_letGoBy 3 = .ok (.istore_n 3, 1) := by decide +kernel
theorem dX0_letGoBy_4 : decode cX0_letGoBy 4 = .ok (.iload_n 3, 1) := by decide +kernel
theorem dX0_letGoBy_5 : decode cX0_letGoBy 5 = .ok (.iload_n 1, 1) := by decide +kernel
theorem dX0_letGoBy_6 : decode cX0_letGoBy 6 = .ok (.if_icmp .ge 16, 3) := by decide +kernel
theorem dX0_letGoBy_9 : decode cX0_letGoBy 9 = .ok (.iload_n 2, 1) := by decide +kernel
theorem dX0_letGoBy_10 : decode cX0_letGoBy 10 = .ok (.aload_n 0, 1) := by decide +kernel
theorem dX0_letGoBy_11 : decode cX0_letGoBy 11 = .ok (.invokevirtual 65, 3) := by decide +kernel
theorem dX0_letGoBy_14 : decode cX0_letGoBy 14 = .ok (.iadd, 1) := by decide +kernel
theorem dX0_letGoBy_15 : decode cX0_letGoBy 15 = .ok (.istore_n 2, 1) := by decide +kernel
theorem dX0_letGoBy_16 : decode cX0_letGoBy 16 = .ok (.iinc 3 1, 3) := by decide +kernel
theorem dX0_letGoBy_19 : decode cX0_letGoBy 19 = .ok (.goto (-15), 3) := by decide +kernel
theorem dX0_letGoBy_22 : decode cX0_letGoBy 22 = .ok (.iload_n 2, 1) := by decide +kernel
theorem dX0_letGoBy_23 : decode cX0_letGoBy 23 = .ok (.ireturn, 1) := by decide +kernel
theorem dX0_letOneHourGoBy_0 : decode cX0_letOneHourGoBy 0 = .ok (.aload_n 0, 1) := by decide +kernel
theorem dX0_letOneHourGoBy_1 : decode cX0_letOneHourGoBy 1 = .ok (.getfield 9, 3) := by decide +kernel
theorem dX0_letOneHourGoBy_4 : decode cX0_letOneHourGoBy 4 = .ok (.invokestatic 69, 3) := by decide +kernel
theorem dX0_letOneHourGoBy_7 : decode cX0_letOneHourGoBy 7 = .ok (.istore_n 1, 1) := by decide +kernel
theorem dX0_letOneHourGoBy_8 : decode cX0_letOneHourGoBy 8 = .ok (.iload_n 1, 1) := by decide +kernel
theorem dX0_letOneHourGoBy_9 : decode cX0_letOneHourGoBy 9 = .ok (.ifCond .ne 7, 3) := by decide +kernel
theorem dX0_letOneHourGoBy_12 : decode cX0_letOneHourGoBy 12 = .ok (.aload_n 0, 1) := by decide +kernel
theorem dX0_letOneHourGoBy_13 : decode cX0_letOneHourGoBy 13 = .ok (.invokevirtual 73, 3) := by decide +kernel
theorem dX0_letOneHourGoBy_16 : decode cX0_letOneHourGoBy 16 = .ok (.iconst 0, 1) := by decide +kernel
theorem dX0_letOneHourGoBy_17 : decode cX0_letOneHourGoBy 17 = .ok (.istore_n 2, 1) := by decide +kernel
theorem dX0_letOneHourGoBy_18 : decode cX0_letOneHourGoBy 18 = .ok (.iconst 0, 1) := by decide +kernel
theorem dX0_letOneHourGoBy_19 : decode cX0_letOneHourGoBy 19 = .ok (.istore_n 3, 1) := by decide +kernel
theorem dX0_letOneHourGoBy_20 : decode cX0_letOneHourGoBy 20 = .ok (.iload_n 3, 1) := by decide +kernel
theorem dX0_letOneHourGoBy_21 : decode cX0_letOneHourGoBy 21 = .ok (.aload_n 0, 1) := by decide +kernel
theorem dX0_letOneHourGoBy_22 : decode cX0_letOneHourGoBy 22 = .ok (.getfield 30, 3) := by decide +kernel
theorem dX0_letOneHourGoBy_25 : decode cX0_letOneHourGoBy 25 = .ok (.if_icmp .ge 46, 3) := by decide +kernel
theorem dX0_letOneHourGoBy_28 : decode cX0_letOneHourGoBy 28 = .ok (.aload_n 0, 1) := by decide +kernel
theorem dX0_letOneHourGoBy_29 : decode cX0_letOneHourGoBy 29 = .ok (.iload_n 3, 1) := by decide +kernel
theorem dX0_letOneHourGoBy_30 : decode cX0_letOneHourGoBy 30 = .ok (.invokevirtual 44, 3) := by decide +kernel
theorem dX0_letOneHourGoBy_33 : decode cX0_letOneHourGoBy 33 = .ok (.astore 4, 2) := by decide +kernel
theorem dX0_letOneHourGoBy_35 : decode cX0_letOneHourGoBy 35 = .ok (.iload_n 2, 1) := by decide +kernel
theorem dX0_letOneHourGoBy_36 : decode cX0_letOneHourGoBy 36 = .ok (.aload 4, 2) := by decide +kernel
theorem dX0_letOneHourGoBy_38 : decode cX0_letOneHourGoBy 38 = .ok (.ifnull 24, 3) := by decide +kernel
theorem dX0_letOneHourGoBy_41 : decode cX0_letOneHourGoBy 41 = .ok (.aload_n 0, 1) := by decide +kernel
theorem dX0_letOneHourGoBy_42 : decode cX0_letOneHourGoBy 42 = .ok (.aload 4, 2) := by decide +kernel
theorem dX0_letOneHourGoBy_44 : decode cX0_letOneHourGoBy 44 = .ok (.iload_n 1, 1) := by decide +kernel
theorem dX0_letOneHourGoBy_45 : decode cX0_letOneHourGoBy 45 = .ok (.invokestatic 76, 3) := by decide +kernel
theorem dX0_letOneHourGoBy_48 : decode cX0_letOneHourGoBy 48 = .ok (.iload_n 1, 1) := by decide +kernel
theorem dX0_letOneHourGoBy_49 : decode cX0_letOneHourGoBy 49 = .ok (.invokestatic 79, 3) := by decide +kernel
theorem dX0_letOneHourGoBy_52 : decode cX0_letOneHourGoBy 52 = .ok (.invokevirtual 83, 3) := by decide +kernel
theorem dX0_letOneHourGoBy_55 : decode cX0_letOneHourGoBy 55 = .ok (.ifCond .eq 7, 3) := by decide +kernel
theorem dX0_letOneHourGoBy_58 : decode cX0_letOneHourGoBy 58 = .ok (.iconst 1, 1) := by decide +kernel
theorem dX0_letOneHourGoBy_59 : decode cX0_letOneHourGoBy 59 = .ok (.goto 4, 3) := by decide +kernel
theorem dX0_letOneHourGoBy_62 : decode cX0_letOneHourGoBy 62 = .ok (.iconst 0, 1) := by decide +kernel
theorem dX0_letOneHourGoBy_63 : decode cX0_letOneHourGoBy 63 = .ok (.iadd, 1) := by decide +kernel
theorem dX0_letOneHourGoBy_64 : decode cX0_letOneHourGoBy 64 = .ok (.istore_n 2, 1) := by decide +kernel
theorem dX0_letOneHourGoBy_65 : decode cX0_letOneHourGoBy 65 = .ok (.iinc 3 1, 3) := by decide +kernel
theorem dX0_letOneHourGoBy_68 : decode cX0_letOneHourGoBy 68 = .ok (.goto (-48), 3) := by decide +kernel
theorem dX0_letOneHourGoBy_71 : decode cX0_letOneHourGoBy 71 = .ok (.aload_n 0, 1) := by decide +kernel
theorem dX0_letOneHourGoBy_72 : decode cX0_letOneHourGoBy 72 = .ok (.dup, 1) := by decide +kernel
theorem dX0_letOneHourGoBy_73 : decode cX0_letOneHourGoBy 73 = .ok (.getfield 9, 3) := by decide +kernel
theorem dX0_letOneHourGoBy_76 : decode cX0_letOneHourGoBy 76 = .ok (.iconst 1, 1) := by decide +kernel
theorem dX0_letOneHourGoBy_77 : decode cX0_letOneHourGoBy 77 = .ok (.iadd, 1) := by decide +kernel
theorem dX0_letOneHourGoBy_78 : decode cX0_letOneHourGoBy 78 = .ok (.putfield 9, 3) := by decide +kernel
theorem dX0_letOneHourGoBy_81 : decode cX0_letOneHourGoBy 81 = .ok (.iload_n 2, 1) := by decide +kernel
theorem dX0_letOneHourGoBy_82 : decode cX0_letOneHourGoBy 82 = .ok (.ireturn, 1) := by decide +kernel
theorem dX0_payDues_0 : decode cX0_payDues 0 = .ok (.aload_n 0, 1) := by decide +kernel
theorem dX0_payDues_1 : decode cX0_payDues 1 = .ok (.dup, 1) := by decide +kernel
theorem dX0_payDues_2 : decode cX0_payDues 2 = .ok (.getfield 15, 3) := by decide +kernel
theorem dX0_payDues_5 : decode cX0_payDues 5 = .ok (.aload_n 0, 1) := by decide +kernel
theorem dX0_payDues_6 : decode cX0_payDues 6 = .ok (.getfield 18, 3) := by decide +kernel
theorem dX0_payDues_9 : decode cX0_payDues 9 = .ok (.aload_n 0, 1) := by decide +kernel
theorem dX0_payDues_10 : decode cX0_payDues 10 = .ok (.invokevirtual 87, 3) := by decide +kernel
theorem dX0_payDues_13 : decode cX0_payDues 13 = .ok (.imul, 1) := by decide +kernel
theorem dX0_payDues_14 : decode cX0_payDues 14 = .ok (.iadd, 1) := by decide +kernel
theorem dX0_payDues_15 : decode cX0_payDues 15 = .ok (.putfield 15, 3) := by decide +kernel
theorem dX0_payDues_18 : decode cX0_payDues 18 = .ok (.aload_n 0, 1) := by decide +kernel
theorem dX0_payDues_19 : decode cX0_payDues 19 = .ok (.getfield 24, 3) := by decide +kernel
theorem dX0_payDues_22 : decode cX0_payDues 22 = .ok (.ifCond .eq 33, 3) := by decide +kernel
theorem dX0_payDues_25 : decode cX0_payDues 25 = .ok (.aload_n 0, 1) := by decide +kernel
theorem dX0_payDues_26 : decode cX0_payDues 26 = .ok (.getfield 24, 3) := by decide +kernel
theorem dX0_payDues_29 : decode cX0_payDues 29 = .ok (.bipush 20, 2) := by decide +kernel
theorem dX0_payDues_31 : decode cX0_payDues 31 = .ok (.idiv, 1) := by decide +kernel
theorem dX0_payDues_32 : decode cX0_payDues 32 = .ok (.iconst 1, 1) := by decide +kernel
theorem dX0_payDues_33 : decode cX0_payDues 33 = .ok (.iadd, 1) := by decide +kernel
theorem dX0_payDues_34 : decode cX0_payDues 34 = .ok (.istore_n 1, 1) := by decide +kernel
theorem dX0_payDues_35 : decode cX0_payDues 35 = .ok (.aload_n 0, 1) := by decide +kernel
theorem dX0_payDues_36 : decode cX0_payDues 36 = .ok (.dup, 1) := by decide +kernel
theorem dX0_payDues_37 : decode cX0_payDues 37 = .ok (.getfield 15, 3) := by decide +kernel
theorem dX0_payDues_40 : decode cX0_payDues 40 = .ok (.iload_n 1, 1) := by decide +kernel
theorem dX0_payDues_41 : decode cX0_payDues 41 = .ok (.isub, 1) := by decide +kernel
theorem dX0_payDues_42 : decode cX0_payDues 42 = .ok (.putfield 15, 3) := by decide +kernel
theorem dX0_payDues_45 : decode cX0_payDues 45 = .ok (.aload_n 0, 1) := by decide +kernel
theorem dX0_payDues_46 : decode cX0_payDues 46 = .ok (.dup, 1) := by decide +kernel
theorem dX0_payDues_47 : decode cX0_payDues 47 = .ok (.getfield 27, 3) := by decide +kernel
theorem dX0_payDues_50 : decode cX0_payDues 50 = .ok (.iload_n 1, 1) := by decide +kernel
theorem dX0_payDues_51 : decode cX0_payDues 51 = .ok (.isub, 1) := by decide +kernel
theorem dX0_payDues_52 : decode cX0_payDues 52 = .ok (.putfield 27, 3) := by decide +kernel
theorem dX0_payDues_55 : decode cX0_payDues 55 = .ok (.return_, 1) := by decide +kernel
theorem dX0_walk_0 : decode cX0_walk 0 = .ok (.aload_n 1, 1) := by decide +kernel
theorem dX0_walk_1 : decode cX0_walk 1 = .ok (.aload_n 1, 1) := by decide +kernel
theorem dX0_walk_2 : decode cX0_walk 2 = .ok (.aload_n 1, 1) := by decide +kernel
theorem dX0_walk_3 : decode cX0_walk 3 = .ok (.getfield 90, 3) := by decide +kernel
theorem dX0_walk_6 : decode cX0_walk 6 = .ok (.iload_n 3, 1) := by decide +kernel
theorem dX0_walk_7 : decode cX0_walk 7 = .ok (.invokevirtual 93, 3) := by decide +kernel
theorem dX0_walk_10 : decode cX0_walk 10 = .ok (.putfield 90, 3) := by decide +kernel
theorem dX0_walk_13 : decode cX0_walk 13 = .ok (.aload_n 1, 1) := by decide +kernel
theorem dX0_walk_14 : decode cX0_walk 14 = .ok (.getfield 90, 3) := by decide +kernel
theorem dX0_walk_17 : decode cX0_walk 17 = .ok (.bipush 10, 2) := by decide +kernel
theorem dX0_walk_19 : decode cX0_walk 19 = .ok (.if_icmp .ge 5, 3) := by decide +kernel
theorem dX0_walk_22 : decode cX0_walk 22 = .ok (.iconst 0, 1) := by decide +kernel
theorem dX0_walk_23 : decode cX0_walk 23 = .ok (.ireturn, 1) := by decide +kernel
theorem dX0_walk_24 : decode cX0_walk 24 = .ok (.aload_n 1, 1) := by decide +kernel
theorem dX0_walk_25 : decode cX0_walk 25 = .ok (.iload_n 2, 1) := by decide +kernel
theorem dX0_walk_26 : decode cX0_walk 26 = .ok (.invokevirtual 97, 3) := by decide +kernel
theorem dX0_walk_29 : decode cX0_walk 29 = .ok (.istore 4, 2) := by decide +kernel
theorem dX0_walk_31 : decode cX0_walk 31 = .ok (.iload 4, 2) := by decide +kernel
theorem dX0_walk_33 : decode cX0_walk 33 = .ok (.aload_n 1, 1) := by decide +kernel
theorem dX0_walk_34 : decode cX0_walk 34 = .ok (.iload 4, 2) := by decide +kernel
theorem dX0_walk_36 : decode cX0_walk 36 = .ok (.iload_n 3, 1) := by decide +kernel
theorem dX0_walk_37 : decode cX0_walk 37 = .ok (.invokevirtual 100, 3) := by decide +kernel
theorem dX0_walk_40 : decode cX0_walk 40 = .ok (.isub, 1) := by decide +kernel
theorem dX0_walk_41 : decode cX0_walk 41 = .ok (.istore 5, 2) := by decide +kernel
theorem dX0_walk_43 : decode cX0_walk 43 = .ok (.aload_n 0, 1) := by decide +kernel
theorem dX0_walk_44 : decode cX0_walk 44 = .ok (.iload 5, 2) := by decide +kernel
theorem dX0_walk_46 : decode cX0_walk 46 = .ok (.invokevirtual 103, 3) := by decide +kernel
theorem dX0_walk_49 : decode cX0_walk 49 = .ok (.istore 6, 2) := by decide +kernel
theorem dX0_walk_51 : decode cX0_walk 51 = .ok (.aload_n 0, 1) := by decide +kernel
theorem dX0_walk_52 : decode cX0_walk 52 = .ok (.dup, 1) := by decide +kernel
theorem dX0_walk_53 : decode cX0_walk 53 = .ok (.getfield 15, 3) := by decide +kernel
theorem dX0_walk_56 : decode cX0_walk 56 = .ok (.iload 5, 2) := by decide +kernel
theorem dX0_walk_58 : decode cX0_walk 58 = .ok (.iload 6, 2) := by decide +kernel
theorem dX0_walk_60 : decode cX0_walk 60 = .ok (.isub, 1) := by decide +kernel
theorem dX0_walk_61 : decode cX0_walk 61 = .ok (.isub, 1) := by decide +kernel
theorem dX0_walk_62 : decode cX0_walk 62 = .ok (.putfield 15, 3) := by decide +kernel
theorem dX0_walk_65 : decode cX0_walk 65 = .ok (.aload_n 0, 1) := by decide +kernel
theorem dX0_walk_66 : decode cX0_walk 66 = .ok (.dup, 1) := by decide +kernel
theorem dX0_walk_67 : decode cX0_walk 67 = .ok (.getfield 27, 3) := by decide +kernel
theorem dX0_walk_70 : decode cX0_walk 70 = .ok (.iload 6, 2) := by decide +kernel
theorem dX0_walk_72 : decode cX0_walk 72 = .ok (.iadd, 1) := by decide +kernel
theorem dX0_walk_73 : decode cX0_walk 73 = .ok (.putfield 27, 3) := by decide +kernel
theorem dX0_walk_76 : decode cX0_walk 76 = .ok (.aload_n 1, 1) := by decide +kernel
theorem dX0_walk_77 : decode cX0_walk 77 = .ok (.invokevirtual 106, 3) := by decide +kernel
theorem dX0_walk_80 : decode cX0_walk 80 = .ok (.iconst 1, 1) := by decide +kernel
theorem dX0_walk_81 : decode cX0_walk 81 = .ok (.ireturn, 1) := by decide +kernel
theorem dX1_init_0 : decode cX1_init 0 = .ok (.aload_n 0, 1) := by decide +kernel
theorem dX1_init_1 : decode cX1_init 1 = .ok (.invokespecial 3, 3) := by decide +kernel
theorem dX1_init_4 : decode cX1_init 4 = .ok (.return_, 1) := by decide +kernel
theorem dX1_begin_0 : decode cX1_begin 0 = .ok (.aload_n 0, 1) := by decide +kernel
theorem dX1_begin_1 : decode cX1_begin 1 = .ok (.iload_n 1, 1) := by decide +kernel
theorem dX1_begin_2 : decode cX1_begin 2 = .ok (.putfield 9, 3) := by decide +kernel
theorem dX1_begin_5 : decode cX1_begin 5 = .ok (.aload_n 0, 1) := by decide +kernel
theorem dX1_begin_6 : decode cX1_begin 6 = .ok (.iload_n 2, 1) := by decide +kernel
theorem dX1_begin_7 : decode cX1_begin 7 = .ok (.putfield 15, 3) := by decide +kernel
theorem dX1_begin_10 : decode cX1_begin 10 = .ok (.aload_n 0, 1) := by decide +kernel
theorem dX1_begin_11 : decode cX1_begin 11 = .ok (.iload_n 3, 1) := by decide +kernel
theorem dX1_begin_12 : decode cX1_begin 12 = .ok (.putfield 18, 3) := by decide +kernel
theorem dX1_begin_15 : decode cX1_begin 15 = .ok (.aload_n 0, 1) := by decide +kernel
theorem dX1_begin_16 : decode cX1_begin 16 = .ok (.iconst 0, 1) := by decide +kernel
theorem dX1_begin_17 : decode cX1_begin 17 = .ok (.putfield 21, 3) := by decide +kernel
theorem dX1_begin_20 : decode cX1_begin 20 = .ok (.aload_n 0, 1) := by decide +kernel
theorem dX1_begin_21 : decode cX1_begin 21 = .ok (.iconst 0, 1) := by decide +kernel
theorem dX1_begin_22 : decode cX1_begin 22 = .ok (.putfield 24, 3) := by decide +kernel
theorem dX1_begin_25 : decode cX1_begin 25 = .ok (.aload_n 0, 1) := by decide +kernel
theorem dX1_begin_26 : decode cX1_begin 26 = .ok (.iconst 1, 1) := by decide +kernel
theorem dX1_begin_27 : decode cX1_begin 27 = .ok (.putfield 27, 3) := by decide +kernel
theorem dX1_begin_30 : decode cX1_begin 30 = .ok (.return_, 1) := by decide +kernel
theorem dX1_copyWalker_0 : decode cX1_copyWalker 0 = .ok (.aload_n 0, 1) := by decide +kernel
theorem dX1_copyWalker_1 : decode cX1_copyWalker 1 = .ok (.aload_n 1, 1) := by decide +kernel
theorem dX1_copyWalker_2 : decode cX1_copyWalker 2 = .ok (.getfield 9, 3) := by decide +kernel
theorem dX1_copyWalker_5 : decode cX1_copyWalker 5 = .ok (.putfield 9, 3) := by decide +kernel
theorem dX1_copyWalker_8 : decode cX1_copyWalker 8 = .ok (.aload_n 0, 1) := by decide +kernel
theorem dX1_copyWalker_9 : decode cX1_copyWalker 9 = .ok (.aload_n 1, 1) := by decide +kernel
theorem dX1_copyWalker_10 : decode cX1_copyWalker 10 = .ok (.getfield 15, 3) := by decide +kernel
theorem dX1_copyWalker_13 : decode cX1_copyWalker 13 = .ok (.putfield 15, 3) := by decide +kernel
theorem dX1_copyWalker_16 : decode cX1_copyWalker 16 = .ok (.aload_n 0, 1) := by decide +kernel
theorem dX1_copyWalker_17 : decode cX1_copyWalker 17 = .ok (.aload_n 1, 1) := by decide +kernel
theorem dX1_copyWalker_18 : decode cX1_copyWalker 18 = .ok (.getfield 18, 3) := by decide +kernel
theorem dX1_copyWalker_21 : decode cX1_copyWalker 21 = .ok (.putfield 18, 3) := by decide +kernel
theorem dX1_copyWalker_24 : decode cX1_copyWalker 24 = .ok (.aload_n 0, 1) := by decide +kernel
theorem dX1_copyWalker_25 : decode cX1_copyWalker 25 = .ok (.aload_n 1, 1) := by decide +kernel
theorem dX1_copyWalker_26 : decode cX1_copyWalker 26 = .ok (.getfield 21, 3) := by decide +kernel
theorem dX1_copyWalker_29 : decode cX1_copyWalker 29 = .ok (.putfield 21, 3) := by decide +kernel
theorem dX1_copyWalker_32 : decode cX1_copyWalker 32 = .ok (.aload_n 0, 1) := by decide +kernel
theorem dX1_copyWalker_33 : decode cX1_copyWalker 33 = .ok (.aload_n 1, 1) := by decide +kernel
theorem dX1_copyWalker_34 : decode cX1_copyWalker 34 = .ok (.getfield 24, 3) := by decide +kernel
theorem dX1_copyWalker_37 : decode cX1_copyWalker 37 = .ok (.putfield 24, 3) := by decide +kernel
theorem dX1_copyWalker_40 : decode cX1_copyWalker 40 = .ok (.aload_n 0, 1) := by decide +kernel
theorem dX1_copyWalker_41 : decode cX1_copyWalker 41 = .ok (.aload_n 1, 1) := by decide +kernel
theorem dX1_copyWalker_42 : decode cX1_copyWalker 42 = .ok (.getfield 27, 3) := by decide +kernel
theorem dX1_copyWalker_45 : decode cX1_copyWalker 45 = .ok (.putfield 27, 3) := by decide +kernel
theorem dX1_copyWalker_48 : decode cX1_copyWalker 48 = .ok (.return_, 1) := by decide +kernel
theorem dX1_shadowUnder_0 : decode cX1_shadowUnder 0 = .ok (.iload_n 1, 1) := by decide +kernel
theorem dX1_shadowUnder_1 : decode cX1_shadowUnder 1 = .ok (.iconst 1, 1) := by decide +kernel
theorem dX1_shadowUnder_2 : decode cX1_shadowUnder 2 = .ok (.if_icmp .ge 7, 3) := by decide +kernel
theorem dX1_shadowUnder_5 : decode cX1_shadowUnder 5 = .ok (.iconst 0, 1) := by decide +kernel
theorem dX1_shadowUnder_6 : decode cX1_shadowUnder 6 = .ok (.goto 12, 3) := by decide +kernel
theorem dX1_shadowUnder_9 : decode cX1_shadowUnder 9 = .ok (.bipush 6, 2) := by decide +kernel
theorem dX1_shadowUnder_11 : decode cX1_shadowUnder 11 = .ok (.aload_n 0, 1) := by decide +kernel
theorem dX1_shadowUnder_12 : decode cX1_shadowUnder 12 = .ok (.getfield 9, 3) := by decide +kernel
theorem dX1_shadowUnder_15 : decode cX1_shadowUnder 15 = .ok (.imul, 1) := by decide +kernel
theorem dX1_shadowUnder_16 : decode cX1_shadowUnder 16 = .ok (.iload_n 1, 1) := by decide +kernel
theorem dX1_shadowUnder_17 : decode cX1_shadowUnder 17 = .ok (.idiv, 1) := by decide +kernel
theorem dX1_shadowUnder_18 : decode cX1_shadowUnder 18 = .ok (.ireturn, 1) := by decide +kernel
theorem dX1_costUnder_0 : decode cX1_costUnder 0 = .ok (.iconst 0, 1) := by decide +kernel
theorem dX1_costUnder_1 : decode cX1_costUnder 1 = .ok (.aload_n 0, 1) := by decide +kernel
theorem dX1_costUnder_2 : decode cX1_costUnder 2 = .ok (.iload_n 1, 1) := by decide +kernel
theorem dX1_costUnder_3 : decode cX1_costUnder 3 = .ok (.invokevirtual 31, 3) := by decide +kernel
theorem dX1_costUnder_6 : decode cX1_costUnder 6 = .ok (.iconst 2, 1) := by decide +kernel
theorem dX1_costUnder_7 : decode cX1_costUnder 7 = .ok (.aload_n 0, 1) := by decide +kernel
theorem dX1_costUnder_8 : decode cX1_costUnder 8 = .ok (.getfield 18, 3) := by decide +kernel
theorem dX1_costUnder_11 : decode cX1_costUnder 11 = .ok (.imul, 1) := by decide +kernel
theorem dX1_costUnder_12 : decode cX1_costUnder 12 = .ok (.isub, 1) := by decide +kernel
theorem dX1_costUnder_13 : decode cX1_costUnder 13 = .ok (.invokestatic 35, 3) := by decide +kernel
theorem dX1_costUnder_16 : decode cX1_costUnder 16 = .ok (.ireturn, 1) := by decide +kernel
theorem dX1_ownPart_0 : decode cX1_ownPart 0 = .ok (.aload_n 0, 1) := by decide +kernel
theorem dX1_ownPart_1 : decode cX1_ownPart 1 = .ok (.getfield 27, 3) := by decide +kernel
theorem dX1_ownPart_4 : decode cX1_ownPart 4 = .ok (.ifCond .ne 5, 3) := by decide +kernel
theorem dX1_ownPart_7 : decode cX1_ownPart 7 = .ok (.iload_n 1, 1) := by decide +kernel
theorem dX1_ownPart_8 : decode cX1_ownPart 8 = .ok (.ireturn, 1) := by decide +kernel
theorem dX1_ownPart_9 : decode cX1_ownPart 9 = .ok (.iload_n 1, 1) := by decide +kernel
theorem dX1_ownPart_10 : decode cX1_ownPart 10 = .ok (.iload_n 2, 1) := by decide +kernel
theorem dX1_ownPart_11 : decode cX1_ownPart 11 = .ok (.ifCond .eq 8, 3) := by decide +kernel
theorem dX1_ownPart_14 : decode cX1_ownPart 14 = .ok (.bipush 6, 2) := by decide +kernel
theorem dX1_ownPart_16 : decode cX1_ownPart 16 = .ok (.goto 4, 3) := by decide +kernel
theorem dX1_ownPart_19 : decode cX1_ownPart 19 = .ok (.iconst 3, 1) := by decide +kernel
theorem dX1_ownPart_20 : decode cX1_ownPart 20 = .ok (.invokestatic 41, 3) := by decide +kernel
theorem dX1_ownPart_23 : decode cX1_ownPart 23 = .ok (.ireturn, 1) := by decide +kernel
theorem dX1_wobbleBehind_0 : decode cX1_wobbleBehind 0 = .ok (.aload_n 0, 1) := by decide +kernel
theorem dX1_wobbleBehind_1 : decode cX1_wobbleBehind 1 = .ok (.getfield 9, 3) := by decide +kernel
theorem dX1_wobbleBehind_4 : decode cX1_wobbleBehind 4 = .ok (.iconst 5, 1) := by decide +kernel
theorem dX1_wobbleBehind_5 : decode cX1_wobbleBehind 5 = .ok (.idiv, 1) := by decide +kernel
theorem dX1_wobbleBehind_6 : decode cX1_wobbleBehind 6 = .ok (.iload_n 2, 1) := by decide +kernel
theorem dX1_wobbleBehind_7 : decode cX1_wobbleBehind 7 = .ok (.ifCond .eq 7, 3) := by decide +kernel
theorem dX1_wobbleBehind_10 : decode cX1_wobbleBehind 10 = .ok (.iconst 2, 1) := by decide +kernel
theorem dX1_wobbleBehind_11 : decode cX1_wobbleBehind 11 = .ok (.goto 4, 3) := by decide +kernel
theorem dX1_wobbleBehind_14 : decode cX1_wobbleBehind 14 = .ok (.iconst 1, 1) := by decide +kernel
theorem dX1_wobbleBehind_15 : decode cX1_wobbleBehind 15 = .ok (.iadd, 1) := by decide +kernel
theorem dX1_wobbleBehind_16 : decode cX1_wobbleBehind 16 = .ok (.istore_n 3, 1) := by decide +kernel
theorem dX1_wobbleBehind_17 : decode cX1_wobbleBehind 17 = .ok (.iconst 0, 1) := by decide +kernel
theorem dX1_wobbleBehind_18 : decode cX1_wobbleBehind 18 = .ok (.iload_n 1, 1) := by decide +kernel
theorem dX1_wobbleBehind_19 : decode cX1_wobbleBehind 19 = .ok (.iload_n 3, 1) := by decide +kernel
theorem dX1_wobbleBehind_20 : decode cX1_wobbleBehind 20 = .ok (.iadd, 1) := by decide +kernel
theorem dX1_wobbleBehind_21 : decode cX1_wobbleBehind 21 = .ok (.aload_n 0, 1) := by decide +kernel
theorem dX1_wobbleBehind_22 : decode cX1_wobbleBehind 22 = .ok (.getfield 15, 3) := by decide +kernel
theorem dX1_wobbleBehind_25 : decode cX1_wobbleBehind 25 = .ok (.isub, 1) := by decide +kernel
theorem dX1_wobbleBehind_26 : decode cX1_wobbleBehind 26 = .ok (.invokestatic 35, 3) := by decide +kernel
theorem dX1_wobbleBehind_29 : decode cX1_wobbleBehind 29 = .ok (.ireturn, 1) := by decide +kernel
theorem dX1_fallsBehind_0 : decode cX1_fallsBehind 0 = .ok (.aload_n 0, 1) := by decide +kernel
theorem dX1_fallsBehind_1 : decode cX1_fallsBehind 1 = .ok (.getfield 21, 3) := by decide +kernel
theorem dX1_fallsBehind_4 : decode cX1_fallsBehind 4 = .ok (.istore_n 2, 1) := by decide +kernel
theorem dX1_fallsBehind_5 : decode cX1_fallsBehind 5 = .ok (.iconst 1, 1) := by decide +kernel
theorem dX1_fallsBehind_6 : decode cX1_fallsBehind 6 = .ok (.istore_n 3, 1) := by decide +kernel
theorem dX1_fallsBehind_7 : decode cX1_fallsBehind 7 = .ok (.iload_n 3, 1) := by decide +kernel
theorem dX1_fallsBehind_8 : decode cX1_fallsBehind 8 = .ok (.bipush 100, 2) := by decide +kernel
theorem dX1_fallsBehind_10 : decode cX1_fallsBehind 10 = .ok (.if_icmp .gt 34, 3) := by decide +kernel
theorem dX1_fallsBehind_13 : decode cX1_fallsBehind 13 = .ok (.aload_n 0, 1) := by decide +kernel
theorem dX1_fallsBehind_14 : decode cX1_fallsBehind 14 = .ok (.iload_n 2, 1) := by decide +kernel
theorem dX1_fallsBehind_15 : decode cX1_fallsBehind 15 = .ok (.iload_n 1, 1) := by decide +kernel
theorem dX1_fallsBehind_16 : decode cX1_fallsBehind 16 = .ok (.iload_n 3, 1) := by decide +kernel
theorem dX1_fallsBehind_17 : decode cX1_fallsBehind 17 = .ok (.iadd, 1) := by decide +kernel
theorem dX1_fallsBehind_18 : decode cX1_fallsBehind 18 = .ok (.iconst 1, 1) := by decide +kernel
theorem dX1_fallsBehind_19 : decode cX1_fallsBehind 19 = .ok (.isub, 1) := by decide +kernel
theorem dX1_fallsBehind_20 : decode cX1_fallsBehind 20 = .ok (.invokestatic 44, 3) := by decide +kernel
theorem dX1_fallsBehind_23 : decode cX1_fallsBehind 23 = .ok (.invokestatic 47, 3) := by decide +kernel
theorem dX1_fallsBehind_26 : decode cX1_fallsBehind 26 = .ok (.invokevirtual 51, 3) := by decide +kernel
theorem dX1_fallsBehind_29 : decode cX1_fallsBehind 29 = .ok (.istore_n 2, 1) := by decide +kernel
theorem dX1_fallsBehind_30 : decode cX1_fallsBehind 30 = .ok (.iload_n 2, 1) := by decide +kernel
theorem dX1_fallsBehind_31 : decode cX1_fallsBehind 31 = .ok (.bipush 10, 2) := by decide +kernel
theorem dX1_fallsBehind_33 : decode cX1_fallsBehind 33 = .ok (.if_icmp .lt 5, 3) := by decide +kernel
theorem dX1_fallsBehind_36 : decode cX1_fallsBehind 36 = .ok (.iload_n 3, 1) := by decide +kernel
theorem dX1_fallsBehind_37 : decode cX1_fallsBehind 37 = .ok (.ireturn, 1) := by decide +kernel
theorem dX1_fallsBehind_38 : decode cX1_fallsBehind 38 = .ok (.iinc 3 1, 3) := by decide +kernel
theorem dX1_fallsBehind_41 : decode cX1_fallsBehind 41 = .ok (.goto (-34), 3) := by decide +kernel
theorem dX1_fallsBehind_44 : decode cX1_fallsBehind 44 = .ok (.iconst (-1), 1) := by decide +kernel
theorem dX1_fallsBehind_45 : decode cX1_fallsBehind 45 = .ok (.ireturn, 1) := by decide +kernel
theorem dX1_fall_0 : decode cX1_fall 0 = .ok (.aload_n 0, 1) := by decide +kernel
theorem dX1_fall_1 : decode cX1_fall 1 = .ok (.dup, 1) := by decide +kernel
theorem dX1_fall_2 : decode cX1_fall 2 = .ok (.getfield 24, 3) := by decide +kernel
theorem dX1_fall_5 : decode cX1_fall 5 = .ok (.iconst 1, 1) := by decide +kernel
theorem dX1_fall_6 : decode cX1_fall 6 = .ok (.iadd, 1) := by decide +kernel
theorem dX1_fall_7 : decode cX1_fall 7 = .ok (.putfield 24, 3) := by decide +kernel
theorem dX1_fall_10 : decode cX1_fall 10 = .ok (.aload_n 0, 1) := by decide +kernel
theorem dX1_fall_11 : decode cX1_fall 11 = .ok (.iconst 0, 1) := by decide +kernel
theorem dX1_fall_12 : decode cX1_fall 12 = .ok (.aload_n 0, 1) := by decide +kernel
theorem dX1_fall_13 : decode cX1_fall 13 = .ok (.getfield 18, 3) := by decide +kernel
theorem dX1_fall_16 : decode cX1_fall 16 = .ok (.iconst 1, 1) := by decide +kernel
theorem dX1_fall_17 : decode cX1_fall 17 = .ok (.isub, 1) := by decide +kernel
theorem dX1_fall_18 : decode cX1_fall 18 = .ok (.invokestatic 35, 3) := by decide +kernel
theorem dX1_fall_21 : decode cX1_fall 21 = .ok (.putfield 18, 3) := by decide +kernel
theorem dX1_fall_24 : decode cX1_fall 24 = .ok (.aload_n 0, 1) := by decide +kernel
theorem dX1_fall_25 : decode cX1_fall 25 = .ok (.iconst 0, 1) := by decide +kernel
theorem dX1_fall_26 : decode cX1_fall 26 = .ok (.putfield 21, 3) := by decide +kernel
theorem dX1_fall_29 : decode cX1_fall 29 = .ok (.return_, 1) := by decide +kernel
theorem dX2_init_0 : decode cX2_init 0 = .ok (.aload_n 0, 1) := by decide +kernel
theorem dX2_init_1 : decode cX2_init 1 = .ok (.invokespecial 1, 3) := by decide +kernel
theorem dX2_init_4 : decode cX2_init 4 = .ok (.aload_n 0, 1) := by decide +kernel
theorem dX2_init_5 : decode cX2_init 5 = .ok (.new 7, 3) := by decide +kernel
theorem dX2_init_8 : decode cX2_init 8 = .ok (.dup, 1) := by decide +kernel
theorem dX2_init_9 : decode cX2_init 9 = .ok (.invokespecial 9, 3) := by decide +kernel
theorem dX2_init_12 : decode cX2_init 12 = .ok (.putfield 10, 3) := by decide +kernel
theorem dX2_init_15 : decode cX2_init 15 = .ok (.aload_n 0, 1) := by decide +kernel
theorem dX2_init_16 : decode cX2_init 16 = .ok (.new 7, 3) := by decide +kernel
theorem dX2_init_19 : decode cX2_init 19 = .ok (.dup, 1) := by decide +kernel
theorem dX2_init_20 : decode cX2_init 20 = .ok (.invokespecial 9, 3) := by decide +kernel
theorem dX2_init_23 : decode cX2_init 23 = .ok (.putfield 16, 3) := by decide +kernel
theorem dX2_init_26 : decode cX2_init 26 = .ok (.return_, 1) := by decide +kernel
theorem dX2_addWalker_0 : decode cX2_addWalker 0 = .ok (.iload_n 1, 1) := by decide +kernel
theorem dX2_addWalker_1 : decode cX2_addWalker 1 = .ok (.iconst 1, 1) := by decide +kernel
theorem dX2_addWalker_2 : decode cX2_addWalker 2 = .ok (.bipush 30, 2) := by decide +kernel
theorem dX2_addWalker_4 : decode cX2_addWalker 4 = .ok (.invokestatic 19, 3) := by decide +kernel
theorem dX2_addWalker_7 : decode cX2_addWalker 7 = .ok (.ifCond .ne 13, 3) := by decide +kernel
theorem dX2_addWalker_10 : decode cX2_addWalker 10 = .ok (.new 23, 3) := by decide +kernel
theorem dX2_addWalker_13 : decode cX2_addWalker 13 = .ok (.dup, 1) := by decide +kernel
theorem dX2_addWalker_14 : decode cX2_addWalker 14 = .ok (.ldc 25, 2) := by decide +kernel
theorem dX2_addWalker_16 : decode cX2_addWalker 16 = .ok (.invokespecial 27, 3) := by decide +kernel
theorem dX2_addWalker_19 : decode cX2_addWalker 19 = .ok (.athrow, 1) := by decide +kernel
theorem dX2_addWalker_20 : decode cX2_addWalker 20 = .ok (.iload_n 2, 1) := by decide +kernel
theorem dX2_addWalker_21 : decode cX2_addWalker 21 = .ok (.iconst 0, 1) := by decide +kernel
theorem dX2_addWalker_22 : decode cX2_addWalker 22 = .ok (.iconst 5, 1) := by decide +kernel
theorem dX2_addWalker_23 : decode cX2_addWalker 23 = .ok (.invokestatic 19, 3) := by decide +kernel
theorem dX2_addWalker_26 : decode cX2_addWalker 26 = .ok (.ifCond .ne 13, 3) := by decide +kernel
theorem dX2_addWalker_29 : decode cX2_addWalker 29 = .ok (.new 23, 3) := by decide +kernel
theorem dX2_addWalker_32 : decode cX2_addWalker 32 = .ok (.dup, 1) := by decide +kernel
theorem dX2_addWalker_33 : decode cX2_addWalker 33 = .ok (.ldc 30, 2) := by decide +kernel
theorem dX2_addWalker_35 : decode cX2_addWalker 35 = .ok (.invokespecial 27, 3) := by decide +kernel
theorem dX2_addWalker_38 : decode cX2_addWalker 38 = .ok (.athrow, 1) := by decide +kernel
theorem dX2_addWalker_39 : decode cX2_addWalker 39 = .ok (.iload_n 3, 1) := by decide +kernel
theorem dX2_addWalker_40 : decode cX2_addWalker 40 = .ok (.iconst 0, 1) := by decide +kernel
theorem dX2_addWalker_41 : decode cX2_addWalker 41 = .ok (.bipush 9, 2) := by decide +kernel
theorem dX2_addWalker_43 : decode cX2_addWalker 43 = .ok (.invokestatic 19, 3) := by decide +kernel
theorem dX2_addWalker_46 : decode cX2_addWalker 46 = .ok (.ifCond .ne 13, 3) := by decide +kernel
theorem dX2_addWalker_49 : decode cX2_addWalker 49 = .ok (.new 23, 3) := by decide +kernel
theorem dX2_addWalker_52 : decode cX2_addWalker 52 = .ok (.dup, 1) := by decide +kernel
theorem dX2_addWalker_53 : decode cX2_addWalker 53 = .ok (.ldc 32, 2) := by decide +kernel
theorem dX2_addWalker_55 : decode cX2_addWalker 55 = .ok (.invokespecial 27, 3) := by decide +kernel
theorem dX2_addWalker_58 : decode cX2_addWalker 58 = .ok (.athrow, 1) := by decide +kernel
theorem dX2_addWalker_59 : decode cX2_addWalker 59 = .ok (.aload_n 0, 1) := by decide +kernel
theorem dX2_addWalker_60 : decode cX2_addWalker 60 = .ok (.getfield 10, 3) := by decide +kernel
theorem dX2_addWalker_63 : decode cX2_addWalker 63 = .ok (.iload_n 1, 1) := by decide +kernel
theorem dX2_addWalker_64 : decode cX2_addWalker 64 = .ok (.iload_n 2, 1) := by decide +kernel
theorem dX2_addWalker_65 : decode cX2_addWalker 65 = .ok (.iload_n 3, 1) := by decide +kernel
theorem dX2_addWalker_66 : decode cX2_addWalker 66 = .ok (.invokevirtual 34, 3) := by decide +kernel
theorem dX2_addWalker_69 : decode cX2_addWalker 69 = .ok (.istore 4, 2) := by decide +kernel
theorem dX2_addWalker_71 : decode cX2_addWalker 71 = .ok (.iload 4, 2) := by decide +kernel
theorem dX2_addWalker_73 : decode cX2_addWalker 73 = .ok (.ifCond .ge 13, 3) := by decide +kernel
theorem dX2_addWalker_76 : decode cX2_addWalker 76 = .ok (.new 38, 3) := by decide +kernel
theorem dX2_addWalker_79 : decode cX2_addWalker 79 = .ok (.dup, 1) := by decide +kernel
theorem dX2_addWalker_80 : decode cX2_addWalker 80 = .ok (.ldc 40, 2) := by decide +kernel
theorem dX2_addWalker_82 : decode cX2_addWalker 82 = .ok (.invokespecial 42, 3) := by decide +kernel
theorem dX2_addWalker_85 : decode cX2_addWalker 85 = .ok (.athrow, 1) := by decide +kernel
theorem dX2_addWalker_86 : decode cX2_addWalker 86 = .ok (.iload 4, 2) := by decide +kernel
theorem dX2_addWalker_88 : decode cX2_addWalker 88 = .ok (.ireturn, 1) := by decide +kernel
theorem dX2_turnMember_0 : decode cX2_turnMember 0 = .ok (.aload_n 0, 1) := by decide +kernel
theorem dX2_turnMember_1 : decode cX2_turnMember 1 = .ok (.getfield 10, 3) := by decide +kernel
theorem dX2_turnMember_4 : decode cX2_turnMember 4 = .ok (.iload_n 1, 1) := by decide +kernel
theorem dX2_turnMember_5 : decode cX2_turnMember 5 = .ok (.invokevirtual 43, 3) := by decide +kernel
theorem dX2_turnMember_8 : decode cX2_turnMember 8 = .ok (.astore_n 2, 1) := by decide +kernel
theorem dX2_turnMember_9 : decode cX2_turnMember 9 = .ok (.aload_n 2, 1) := by decide +kernel
theorem dX2_turnMember_10 : decode cX2_turnMember 10 = .ok (.ifnonnull 13, 3) := by decide +kernel
theorem dX2_turnMember_13 : decode cX2_turnMember 13 = .ok (.new 47, 3) := by decide +kernel
theorem dX2_turnMember_16 : decode cX2_turnMember 16 = .ok (.dup, 1) := by decide +kernel
theorem dX2_turnMember_17 : decode cX2_turnMember 17 = .ok (.ldc 49, 2) := by decide +kernel
theorem dX2_turnMember_19 : decode cX2_turnMember 19 = .ok (.invokespecial 51, 3) := by decide +kernel
theorem dX2_turnMember_22 : decode cX2_turnMember 22 = .ok (.athrow, 1) := by decide +kernel
theorem dX2_turnMember_23 : decode cX2_turnMember 23 = .ok (.aload_n 2, 1) := by decide +kernel
theorem dX2_turnMember_24 : decode cX2_turnMember 24 = .ok (.aload_n 2, 1) := by decide +kernel
theorem dX2_turnMember_25 : decode cX2_turnMember 25 = .ok (.getfield 52, 3) := by decide +kernel
theorem dX2_turnMember_28 : decode cX2_turnMember 28 = .ok (.ifCond .ne 7, 3) := by decide +kernel
theorem dX2_turnMember_31 : decode cX2_turnMember 31 = .ok (.iconst 1, 1) := by decide +kernel
theorem dX2_turnMember_32 : decode cX2_turnMember 32 = .ok (.goto 4, 3) := by decide +kernel
theorem dX2_turnMember_35 : decode cX2_turnMember 35 = .ok (.iconst 0, 1) := by decide +kernel
theorem dX2_turnMember_36 : decode cX2_turnMember 36 = .ok (.putfield 52, 3) := by decide +kernel
theorem dX2_turnMember_39 : decode cX2_turnMember 39 = .ok (.aload_n 2, 1) := by decide +kernel
theorem dX2_turnMember_40 : decode cX2_turnMember 40 = .ok (.getfield 52, 3) := by decide +kernel
theorem dX2_turnMember_43 : decode cX2_turnMember 43 = .ok (.ireturn, 1) := by decide +kernel
theorem dX2_setNet_0 : decode cX2_setNet 0 = .ok (.aload_n 0, 1) := by decide +kernel
theorem dX2_setNet_1 : decode cX2_setNet 1 = .ok (.getfield 10, 3) := by decide +kernel
theorem dX2_setNet_4 : decode cX2_setNet 4 = .ok (.iload_n 1, 1) := by decide +kernel
theorem dX2_setNet_5 : decode cX2_setNet 5 = .ok (.invokevirtual 43, 3) := by decide +kernel
theorem dX2_setNet_8 : decode cX2_setNet 8 = .ok (.astore_n 3, 1) := by decide +kernel
theorem dX2_setNet_9 : decode cX2_setNet 9 = .ok (.aload_n 3, 1) := by decide +kernel
theorem dX2_setNet_10 : decode cX2_setNet 10 = .ok (.ifnonnull 13, 3) := by decide +kernel
theorem dX2_setNet_13 : decode cX2_setNet 13 = .ok (.new 47, 3) := by decide +kernel
theorem dX2_setNet_16 : decode cX2_setNet 16 = .ok (.dup, 1) := by decide +kernel
theorem dX2_setNet_17 : decode cX2_setNet 17 = .ok (.ldc 49, 2) := by decide +kernel
theorem dX2_setNet_19 : decode cX2_setNet 19 = .ok (.invokespecial 51, 3) := by decide +kernel
theorem dX2_setNet_22 : decode cX2_setNet 22 = .ok (.athrow, 1) := by decide +kernel
theorem dX2_setNet_23 : decode cX2_setNet 23 = .ok (.iload_n 2, 1) := by decide +kernel
theorem dX2_setNet_24 : decode cX2_setNet 24 = .ok (.iconst 0, 1) := by decide +kernel
theorem dX2_setNet_25 : decode cX2_setNet 25 = .ok (.bipush 9, 2) := by decide +kernel
theorem dX2_setNet_27 : decode cX2_setNet 27 = .ok (.invokestatic 19, 3) := by decide +kernel
theorem dX2_setNet_30 : decode cX2_setNet 30 = .ok (.ifCond .ne 13, 3) := by decide +kernel
theorem dX2_setNet_33 : decode cX2_setNet 33 = .ok (.new 23, 3) := by decide +kernel
theorem dX2_setNet_36 : decode cX2_setNet 36 = .ok (.dup, 1) := by decide +kernel
theorem dX2_setNet_37 : decode cX2_setNet 37 = .ok (.ldc 32, 2) := by decide +kernel
theorem dX2_setNet_39 : decode cX2_setNet 39 = .ok (.invokespecial 27, 3) := by decide +kernel
theorem dX2_setNet_42 : decode cX2_setNet 42 = .ok (.athrow, 1) := by decide +kernel
theorem dX2_setNet_43 : decode cX2_setNet 43 = .ok (.aload_n 3, 1) := by decide +kernel
theorem dX2_setNet_44 : decode cX2_setNet 44 = .ok (.getfield 58, 3) := by decide +kernel
theorem dX2_setNet_47 : decode cX2_setNet 47 = .ok (.istore 4, 2) := by decide +kernel
theorem dX2_setNet_49 : decode cX2_setNet 49 = .ok (.aload_n 3, 1) := by decide +kernel
theorem dX2_setNet_50 : decode cX2_setNet 50 = .ok (.iload_n 2, 1) := by decide +kernel
theorem dX2_setNet_51 : decode cX2_setNet 51 = .ok (.putfield 58, 3) := by decide +kernel
theorem dX2_setNet_54 : decode cX2_setNet 54 = .ok (.iload 4, 2) := by decide +kernel
theorem dX2_setNet_56 : decode cX2_setNet 56 = .ok (.ireturn, 1) := by decide +kernel
theorem dX2_rest_0 : decode cX2_rest 0 = .ok (.aload_n 0, 1) := by decide +kernel
theorem dX2_rest_1 : decode cX2_rest 1 = .ok (.getfield 10, 3) := by decide +kernel
theorem dX2_rest_4 : decode cX2_rest 4 = .ok (.iload_n 1, 1) := by decide +kernel
theorem dX2_rest_5 : decode cX2_rest 5 = .ok (.invokevirtual 43, 3) := by decide +kernel
theorem dX2_rest_8 : decode cX2_rest 8 = .ok (.astore_n 2, 1) := by decide +kernel
theorem dX2_rest_9 : decode cX2_rest 9 = .ok (.aload_n 2, 1) := by decide +kernel
theorem dX2_rest_10 : decode cX2_rest 10 = .ok (.ifnonnull 13, 3) := by decide +kernel
theorem dX2_rest_13 : decode cX2_rest 13 = .ok (.new 47, 3) := by decide +kernel
theorem dX2_rest_16 : decode cX2_rest 16 = .ok (.dup, 1) := by decide +kernel
theorem dX2_rest_17 : decode cX2_rest 17 = .ok (.ldc 49, 2) := by decide +kernel
theorem dX2_rest_19 : decode cX2_rest 19 = .ok (.invokespecial 51, 3) := by decide +kernel
theorem dX2_rest_22 : decode cX2_rest 22 = .ok (.athrow, 1) := by decide +kernel
theorem dX2_rest_23 : decode cX2_rest 23 = .ok (.aload_n 2, 1) := by decide +kernel
theorem dX2_rest_24 : decode cX2_rest 24 = .ok (.getfield 62, 3) := by decide +kernel
theorem dX2_rest_27 : decode cX2_rest 27 = .ok (.istore_n 3, 1) := by decide +kernel
theorem dX2_rest_28 : decode cX2_rest 28 = .ok (.aload_n 2, 1) := by decide +kernel
theorem dX2_rest_29 : decode cX2_rest 29 = .ok (.iconst 0, 1) := by decide +kernel
theorem dX2_rest_30 : decode cX2_rest 30 = .ok (.putfield 62, 3) := by decide +kernel
theorem dX2_rest_33 : decode cX2_rest 33 = .ok (.iload_n 3, 1) := by decide +kernel
theorem dX2_rest_34 : decode cX2_rest 34 = .ok (.ireturn, 1) := by decide +kernel
theorem dX2_setRate_0 : decode cX2_setRate 0 = .ok (.iload_n 1, 1) := by decide +kernel
theorem dX2_setRate_1 : decode cX2_setRate 1 = .ok (.iconst 0, 1) := by decide +kernel
theorem dX2_setRate_2 : decode cX2_setRate 2 = .ok (.bipush 9, 2) := by decide +kernel
theorem dX2_setRate_4 : decode cX2_setRate 4 = .ok (.invokestatic 19, 3) := by decide +kernel
theorem dX2_setRate_7 : decode cX2_setRate 7 = .ok (.ifCond .ne 13, 3) := by decide +kernel
theorem dX2_setRate_10 : decode cX2_setRate 10 = .ok (.new 23, 3) := by decide +kernel
theorem dX2_setRate_13 : decode cX2_setRate 13 = .ok (.dup, 1) := by decide +kernel
theorem dX2_setRate_14 : decode cX2_setRate 14 = .ok (.ldc 65, 2) := by decide +kernel
theorem dX2_setRate_16 : decode cX2_setRate 16 = .ok (.invokespecial 27, 3) := by decide +kernel
theorem dX2_setRate_19 : decode cX2_setRate 19 = .ok (.athrow, 1) := by decide +kernel
theorem dX2_setRate_20 : decode cX2_setRate 20 = .ok (.aload_n 0, 1) := by decide +kernel
theorem dX2_setRate_21 : decode cX2_setRate 21 = .ok (.getfield 10, 3) := by decide +kernel
theorem dX2_setRate_24 : decode cX2_setRate 24 = .ok (.getfield 67, 3) := by decide +kernel
theorem dX2_setRate_27 : decode cX2_setRate 27 = .ok (.istore_n 2, 1) := by decide +kernel
theorem dX2_setRate_28 : decode cX2_setRate 28 = .ok (.aload_n 0, 1) := by decide +kernel
theorem dX2_setRate_29 : decode cX2_setRate 29 = .ok (.getfield 10, 3) := by decide +kernel
theorem dX2_setRate_32 : decode cX2_setRate 32 = .ok (.iload_n 1, 1) := by decide +kernel
theorem dX2_setRate_33 : decode cX2_setRate 33 = .ok (.putfield 67, 3) := by decide +kernel
theorem dX2_setRate_36 : decode cX2_setRate 36 = .ok (.iload_n 2, 1) := by decide +kernel
theorem dX2_setRate_37 : decode cX2_setRate 37 = .ok (.ireturn, 1) := by decide +kernel
theorem dX2_reinsure_0 : decode cX2_reinsure 0 = .ok (.iload_n 1, 1) := by decide +kernel
theorem dX2_reinsure_1 : decode cX2_reinsure 1 = .ok (.iconst 0, 1) := by decide +kernel
theorem dX2_reinsure_2 : decode cX2_reinsure 2 = .ok (.sipush 200, 3) := by decide +kernel
theorem dX2_reinsure_5 : decode cX2_reinsure 5 = .ok (.invokestatic 19, 3) := by decide +kernel
theorem dX2_reinsure_8 : decode cX2_reinsure 8 = .ok (.ifCond .ne 13, 3) := by decide +kernel
theorem dX2_reinsure_11 : decode cX2_reinsure 11 = .ok (.new 23, 3) := by decide +kernel
theorem dX2_reinsure_14 : decode cX2_reinsure 14 = .ok (.dup, 1) := by decide +kernel
theorem dX2_reinsure_15 : decode cX2_reinsure 15 = .ok (.ldc 70, 2) := by decide +kernel
theorem dX2_reinsure_17 : decode cX2_reinsure 17 = .ok (.invokespecial 27, 3) := by decide +kernel
theorem dX2_reinsure_20 : decode cX2_reinsure 20 = .ok (.athrow, 1) := by decide +kernel
theorem dX2_reinsure_21 : decode cX2_reinsure 21 = .ok (.iload_n 2, 1) := by decide +kernel
theorem dX2_reinsure_22 : decode cX2_reinsure 22 = .ok (.iconst 0, 1) := by decide +kernel
theorem dX2_reinsure_23 : decode cX2_reinsure 23 = .ok (.sipush 400, 3) := by decide +kernel
theorem dX2_reinsure_26 : decode cX2_reinsure 26 = .ok (.invokestatic 19, 3) := by decide +kernel
theorem dX2_reinsure_29 : decode cX2_reinsure 29 = .ok (.ifCond .ne 13, 3) := by decide +kernel
theorem dX2_reinsure_32 : decode cX2_reinsure 32 = .ok (.new 23, 3) := by decide +kernel
theorem dX2_reinsure_35 : decode cX2_reinsure 35 = .ok (.dup, 1) := by decide +kernel
theorem dX2_reinsure_36 : decode cX2_reinsure 36 = .ok (.ldc 72, 2) := by decide +kernel
theorem dX2_reinsure_38 : decode cX2_reinsure 38 = .ok (.invokespecial 27, 3) := by decide +kernel
theorem dX2_reinsure_41 : decode cX2_reinsure 41 = .ok (.athrow, 1) := by decide +kernel
theorem dX2_reinsure_42 : decode cX2_reinsure 42 = .ok (.aload_n 0, 1) := by decide +kernel
theorem dX2_reinsure_43 : decode cX2_reinsure 43 = .ok (.getfield 10, 3) := by decide +kernel
theorem dX2_reinsure_46 : decode cX2_reinsure 46 = .ok (.getfield 74, 3) := by decide +kernel
theorem dX2_reinsure_49 : decode cX2_reinsure 49 = .ok (.istore_n 3, 1) := by decide +kernel
theorem dX2_reinsure_50 : decode cX2_reinsure 50 = .ok (.aload_n 0, 1) := by decide +kernel
theorem dX2_reinsure_51 : decode cX2_reinsure 51 = .ok (.getfield 10, 3) := by decide +kernel
theorem dX2_reinsure_54 : decode cX2_reinsure 54 = .ok (.iload_n 1, 1) := by decide +kernel
theorem dX2_reinsure_55 : decode cX2_reinsure 55 = .ok (.putfield 77, 3) := by decide +kernel
theorem dX2_reinsure_58 : decode cX2_reinsure 58 = .ok (.aload_n 0, 1) := by decide +kernel
theorem dX2_reinsure_59 : decode cX2_reinsure 59 = .ok (.getfield 10, 3) := by decide +kernel
theorem dX2_reinsure_62 : decode cX2_reinsure 62 = .ok (.iload_n 2, 1) := by decide +kernel
theorem dX2_reinsure_63 : decode cX2_reinsure 63 = .ok (.putfield 74, 3) := by decide +kernel
theorem dX2_reinsure_66 : decode cX2_reinsure 66 = .ok (.iload_n 3, 1) := by decide +kernel
theorem dX2_reinsure_67 : decode cX2_reinsure 67 = .ok (.ireturn, 1) := by decide +kernel
theorem dX2_pass_0 : decode cX2_pass 0 = .ok (.iload_n 1, 1) := by decide +kernel
theorem dX2_pass_1 : decode cX2_pass 1 = .ok (.iconst 1, 1) := by decide +kernel
theorem dX2_pass_2 : decode cX2_pass 2 = .ok (.bipush 60, 2) := by decide +kernel
theorem dX2_pass_4 : decode cX2_pass 4 = .ok (.invokestatic 19, 3) := by decide +kernel
theorem dX2_pass_7 : decode cX2_pass 7 = .ok (.ifCond .ne 13, 3) := by decide +kernel
theorem dX2_pass_10 : decode cX2_pass 10 = .ok (.new 23, 3) := by decide +kernel
theorem dX2_pass_13 : decode cX2_pass 13 = .ok (.dup, 1) := by decide +kernel
theorem dX2_pass_14 : decode cX2_pass 14 = .ok (.ldc 80, 2) := by decide +kernel
theorem dX2_pass_16 : decode cX2_pass 16 = .ok (.invokespecial 27, 3) := by decide +kernel
theorem dX2_pass_19 : decode cX2_pass 19 = .ok (.athrow, 1) := by decide +kernel
theorem dX2_pass_20 : decode cX2_pass 20 = .ok (.aload_n 0, 1) := by decide +kernel
theorem dX2_pass_21 : decode cX2_pass 21 = .ok (.getfield 10, 3) := by decide +kernel
theorem dX2_pass_24 : decode cX2_pass 24 = .ok (.iload_n 1, 1) := by decide +kernel
theorem dX2_pass_25 : decode cX2_pass 25 = .ok (.invokevirtual 82, 3) := by decide +kernel
theorem dX2_pass_28 : decode cX2_pass 28 = .ok (.ireturn, 1) := by decide +kernel
theorem dX2_hour_0 : decode cX2_hour 0 = .ok (.aload_n 0, 1) := by decide +kernel
theorem dX2_hour_1 : decode cX2_hour 1 = .ok (.getfield 10, 3) := by decide +kernel
theorem dX2_hour_4 : decode cX2_hour 4 = .ok (.getfield 86, 3) := by decide +kernel
theorem dX2_hour_7 : decode cX2_hour 7 = .ok (.ireturn, 1) := by decide +kernel
theorem dX2_sun_0 : decode cX2_sun 0 = .ok (.aload_n 0, 1) := by decide +kernel
theorem dX2_sun_1 : decode cX2_sun 1 = .ok (.getfield 10, 3) := by decide +kernel
theorem dX2_sun_4 : decode cX2_sun 4 = .ok (.getfield 86, 3) := by decide +kernel
theorem dX2_sun_7 : decode cX2_sun 7 = .ok (.invokestatic 89, 3) := by decide +kernel
theorem dX2_sun_10 : decode cX2_sun 10 = .ok (.invokestatic 92, 3) := by decide +kernel
theorem dX2_sun_13 : decode cX2_sun 13 = .ok (.ireturn, 1) := by decide +kernel
theorem dX2_isNoon_0 : decode cX2_isNoon 0 = .ok (.aload_n 0, 1) := by decide +kernel
theorem dX2_isNoon_1 : decode cX2_isNoon 1 = .ok (.getfield 10, 3) := by decide +kernel
theorem dX2_isNoon_4 : decode cX2_isNoon 4 = .ok (.getfield 86, 3) := by decide +kernel
theorem dX2_isNoon_7 : decode cX2_isNoon 7 = .ok (.invokestatic 89, 3) := by decide +kernel
theorem dX2_isNoon_10 : decode cX2_isNoon 10 = .ok (.invokestatic 95, 3) := by decide +kernel
theorem dX2_isNoon_13 : decode cX2_isNoon 13 = .ok (.ireturn, 1) := by decide +kernel
theorem dX2_hoursUntilNoon_0 : decode cX2_hoursUntilNoon 0 = .ok (.aload_n 0, 1) := by decide +kernel
theorem dX2_hoursUntilNoon_1 : decode cX2_hoursUntilNoon 1 = .ok (.getfield 10, 3) := by decide +kernel
theorem dX2_hoursUntilNoon_4 : decode cX2_hoursUntilNoon 4 = .ok (.getfield 86, 3) := by decide +kernel
theorem dX2_hoursUntilNoon_7 : decode cX2_hoursUntilNoon 7 = .ok (.invokestatic 89, 3) := by decide +kernel
theorem dX2_hoursUntilNoon_10 : decode cX2_hoursUntilNoon 10 = .ok (.istore_n 1, 1) := by decide +kernel
theorem dX2_hoursUntilNoon_11 : decode cX2_hoursUntilNoon 11 = .ok (.iload_n 1, 1) := by decide +kernel
theorem dX2_hoursUntilNoon_12 : decode cX2_hoursUntilNoon 12 = .ok (.invokestatic 95, 3) := by decide +kernel
theorem dX2_hoursUntilNoon_15 : decode cX2_hoursUntilNoon 15 = .ok (.ifCond .eq 7, 3) := by decide +kernel
theorem dX2_hoursUntilNoon_18 : decode cX2_hoursUntilNoon 18 = .ok (.iconst 0, 1) := by decide +kernel
theorem dX2_hoursUntilNoon_19 : decode cX2_hoursUntilNoon 19 = .ok (.goto 11, 3) := by decide +kernel
theorem dX2_hoursUntilNoon_22 : decode cX2_hoursUntilNoon 22 = .ok (.iconst 5, 1) := by decide +kernel
theorem dX2_hoursUntilNoon_23 : decode cX2_hoursUntilNoon 23 = .ok (.iload_n 1, 1) := by decide +kernel
theorem dX2_hoursUntilNoon_24 : decode cX2_hoursUntilNoon 24 = .ok (.isub, 1) := by decide +kernel
theorem dX2_hoursUntilNoon_25 : decode cX2_hoursUntilNoon 25 = .ok (.bipush 12, 2) := by decide +kernel
theorem dX2_hoursUntilNoon_27 : decode cX2_hoursUntilNoon 27 = .ok (.invokestatic 99, 3) := by decide +kernel
theorem dX2_hoursUntilNoon_30 : decode cX2_hoursUntilNoon 30 = .ok (.ireturn, 1) := by decide +kernel
theorem dX2_walkers_0 : decode cX2_walkers 0 = .ok (.aload_n 0, 1) := by decide +kernel
theorem dX2_walkers_1 : decode cX2_walkers 1 = .ok (.getfield 10, 3) := by decide +kernel
theorem dX2_walkers_4 : decode cX2_walkers 4 = .ok (.getfield 105, 3) := by decide +kernel
theorem dX2_walkers_7 : decode cX2_walkers 7 = .ok (.ireturn, 1) := by decide +kernel
theorem dX2_members_0 : decode cX2_members 0 = .ok (.aload_n 0, 1) := by decide +kernel
theorem dX2_members_1 : decode cX2_members 1 = .ok (.getfield 10, 3) := by decide +kernel
theorem dX2_members_4 : decode cX2_members 4 = .ok (.invokevirtual 108, 3) := by decide +kernel
theorem dX2_members_7 : decode cX2_members 7 = .ok (.ireturn, 1) := by decide +kernel
theorem dX2_isMember_0 : decode cX2_isMember 0 = .ok (.aload_n 0, 1) := by decide +kernel
theorem dX2_isMember_1 : decode cX2_isMember 1 = .ok (.getfield 10, 3) := by decide +kernel
theorem dX2_isMember_4 : decode cX2_isMember 4 = .ok (.iload_n 1, 1) := by decide +kernel
theorem dX2_isMember_5 : decode cX2_isMember 5 = .ok (.invokevirtual 43, 3) := by decide +kernel
theorem dX2_isMember_8 : decode cX2_isMember 8 = .ok (.astore_n 2, 1) := by decide +kernel
theorem dX2_isMember_9 : decode cX2_isMember 9 = .ok (.aload_n 2, 1) := by decide +kernel
theorem dX2_isMember_10 : decode cX2_isMember 10 = .ok (.ifnonnull 13, 3) := by decide +kernel
theorem dX2_isMember_13 : decode cX2_isMember 13 = .ok (.new 47, 3) := by decide +kernel
theorem dX2_isMember_16 : decode cX2_isMember 16 = .ok (.dup, 1) := by decide +kernel
theorem dX2_isMember_17 : decode cX2_isMember 17 = .ok (.ldc 49, 2) := by decide +kernel
theorem dX2_isMember_19 : decode cX2_isMember 19 = .ok (.invokespecial 51, 3) := by decide +kernel
theorem dX2_isMember_22 : decode cX2_isMember 22 = .ok (.athrow, 1) := by decide +kernel
theorem dX2_isMember_23 : decode cX2_isMember 23 = .ok (.aload_n 2, 1) := by decide +kernel
theorem dX2_isMember_24 : decode cX2_isMember 24 = .ok (.getfield 52, 3) := by decide +kernel
theorem dX2_isMember_27 : decode cX2_isMember 27 = .ok (.ireturn, 1) := by decide +kernel
theorem dX2_netOf_0 : decode cX2_netOf 0 = .ok (.aload_n 0, 1) := by decide +kernel
theorem dX2_netOf_1 : decode cX2_netOf 1 = .ok (.getfield 10, 3) := by decide +kernel
theorem dX2_netOf_4 : decode cX2_netOf 4 = .ok (.iload_n 1, 1) := by decide +kernel
theorem dX2_netOf_5 : decode cX2_netOf 5 = .ok (.invokevirtual 43, 3) := by decide +kernel
theorem dX2_netOf_8 : decode cX2_netOf 8 = .ok (.astore_n 2, 1) := by decide +kernel
theorem dX2_netOf_9 : decode cX2_netOf 9 = .ok (.aload_n 2, 1) := by decide +kernel
theorem dX2_netOf_10 : decode cX2_netOf 10 = .ok (.ifnonnull 13, 3) := by decide +kernel
theorem dX2_netOf_13 : decode cX2_netOf 13 = .ok (.new 47, 3) := by decide +kernel
theorem dX2_netOf_16 : decode cX2_netOf 16 = .ok (.dup, 1) := by decide +kernel
theorem dX2_netOf_17 : decode cX2_netOf 17 = .ok (.ldc 49, 2) := by decide +kernel
theorem dX2_netOf_19 : decode cX2_netOf 19 = .ok (.invokespecial 51, 3) := by decide +kernel
theorem dX2_netOf_22 : decode cX2_netOf 22 = .ok (.athrow, 1) := by decide +kernel
theorem dX2_netOf_23 : decode cX2_netOf 23 = .ok (.aload_n 2, 1) := by decide +kernel
theorem dX2_netOf_24 : decode cX2_netOf 24 = .ok (.getfield 58, 3) := by decide +kernel
theorem dX2_netOf_27 : decode cX2_netOf 27 = .ok (.ireturn, 1) := by decide +kernel
theorem dX2_wobbleOf_0 : decode cX2_wobbleOf 0 = .ok (.aload_n 0, 1) := by decide +kernel
theorem dX2_wobbleOf_1 : decode cX2_wobbleOf 1 = .ok (.getfield 10, 3) := by decide +kernel
theorem dX2_wobbleOf_4 : decode cX2_wobbleOf 4 = .ok (.iload_n 1, 1) := by decide +kernel
theorem dX2_wobbleOf_5 : decode cX2_wobbleOf 5 = .ok (.invokevirtual 43, 3) := by decide +kernel
theorem dX2_wobbleOf_8 : decode cX2_wobbleOf 8 = .ok (.astore_n 2, 1) := by decide +kernel
theorem dX2_wobbleOf_9 : decode cX2_wobbleOf 9 = .ok (.aload_n 2, 1) := by decide +kernel
theorem dX2_wobbleOf_10 : decode cX2_wobbleOf 10 = .ok (.ifnonnull 13, 3) := by decide +kernel
theorem dX2_wobbleOf_13 : decode cX2_wobbleOf 13 = .ok (.new 47, 3) := by decide +kernel
theorem dX2_wobbleOf_16 : decode cX2_wobbleOf 16 = .ok (.dup, 1) := by decide +kernel
theorem dX2_wobbleOf_17 : decode cX2_wobbleOf 17 = .ok (.ldc 49, 2) := by decide +kernel
theorem dX2_wobbleOf_19 : decode cX2_wobbleOf 19 = .ok (.invokespecial 51, 3) := by decide +kernel
theorem dX2_wobbleOf_22 : decode cX2_wobbleOf 22 = .ok (.athrow, 1) := by decide +kernel
theorem dX2_wobbleOf_23 : decode cX2_wobbleOf 23 = .ok (.aload_n 2, 1) := by decide +kernel
theorem dX2_wobbleOf_24 : decode cX2_wobbleOf 24 = .ok (.getfield 62, 3) := by decide +kernel
theorem dX2_wobbleOf_27 : decode cX2_wobbleOf 27 = .ok (.ireturn, 1) := by decide +kernel
theorem dX2_fallsOf_0 : decode cX2_fallsOf 0 = .ok (.aload_n 0, 1) := by decide +kernel
theorem dX2_fallsOf_1 : decode cX2_fallsOf 1 = .ok (.getfield 10, 3) := by decide +kernel
theorem dX2_fallsOf_4 : decode cX2_fallsOf 4 = .ok (.iload_n 1, 1) := by decide +kernel
theorem dX2_fallsOf_5 : decode cX2_fallsOf 5 = .ok (.invokevirtual 43, 3) := by decide +kernel
theorem dX2_fallsOf_8 : decode cX2_fallsOf 8 = .ok (.astore_n 2, 1) := by decide +kernel
theorem dX2_fallsOf_9 : decode cX2_fallsOf 9 = .ok (.aload_n 2, 1) := by decide +kernel
theorem dX2_fallsOf_10 : decode cX2_fallsOf 10 = .ok (.ifnonnull 13, 3) := by decide +kernel
theorem dX2_fallsOf_13 : decode cX2_fallsOf 13 = .ok (.new 47, 3) := by decide +kernel
theorem dX2_fallsOf_16 : decode cX2_fallsOf 16 = .ok (.dup, 1) := by decide +kernel
theorem dX2_fallsOf_17 : decode cX2_fallsOf 17 = .ok (.ldc 49, 2) := by decide +kernel
theorem dX2_fallsOf_19 : decode cX2_fallsOf 19 = .ok (.invokespecial 51, 3) := by decide +kernel
theorem dX2_fallsOf_22 : decode cX2_fallsOf 22 = .ok (.athrow, 1) := by decide +kernel
theorem dX2_fallsOf_23 : decode cX2_fallsOf 23 = .ok (.aload_n 2, 1) := by decide +kernel
theorem dX2_fallsOf_24 : decode cX2_fallsOf 24 = .ok (.getfield 112, 3) := by decide +kernel
theorem dX2_fallsOf_27 : decode cX2_fallsOf 27 = .ok (.ireturn, 1) := by decide +kernel
theorem dX2_shadowOf_0 : decode cX2_shadowOf 0 = .ok (.aload_n 0, 1) := by decide +kernel
theorem dX2_shadowOf_1 : decode cX2_shadowOf 1 = .ok (.getfield 10, 3) := by decide +kernel
theorem dX2_shadowOf_4 : decode cX2_shadowOf 4 = .ok (.iload_n 1, 1) := by decide +kernel
theorem dX2_shadowOf_5 : decode cX2_shadowOf 5 = .ok (.invokevirtual 43, 3) := by decide +kernel
theorem dX2_shadowOf_8 : decode cX2_shadowOf 8 = .ok (.astore_n 2, 1) := by decide +kernel
theorem dX2_shadowOf_9 : decode cX2_shadowOf 9 = .ok (.aload_n 2, 1) := by decide +kernel
theorem dX2_shadowOf_10 : decode cX2_shadowOf 10 = .ok (.ifnonnull 13, 3) := by decide +kernel
theorem dX2_shadowOf_13 : decode cX2_shadowOf 13 = .ok (.new 47, 3) := by decide +kernel
theorem dX2_shadowOf_16 : decode cX2_shadowOf 16 = .ok (.dup, 1) := by decide +kernel
theorem dX2_shadowOf_17 : decode cX2_shadowOf 17 = .ok (.ldc 49, 2) := by decide +kernel
theorem dX2_shadowOf_19 : decode cX2_shadowOf 19 = .ok (.invokespecial 51, 3) := by decide +kernel
theorem dX2_shadowOf_22 : decode cX2_shadowOf 22 = .ok (.athrow, 1) := by decide +kernel
theorem dX2_shadowOf_23 : decode cX2_shadowOf 23 = .ok (.aload_n 2, 1) := by decide +kernel
theorem dX2_shadowOf_24 : decode cX2_shadowOf 24 = .ok (.aload_n 0, 1) := by decide +kernel
theorem dX2_shadowOf_25 : decode cX2_shadowOf 25 = .ok (.invokevirtual 115, 3) := by decide +kernel
theorem dX2_shadowOf_28 : decode cX2_shadowOf 28 = .ok (.invokevirtual 118, 3) := by decide +kernel
theorem dX2_shadowOf_31 : decode cX2_shadowOf 31 = .ok (.ireturn, 1) := by decide +kernel
theorem dX2_longestShadow_0 : decode cX2_longestShadow 0 = .ok (.iconst (-1), 1) := by decide +kernel
theorem dX2_longestShadow_1 : decode cX2_longestShadow 1 = .ok (.istore_n 1, 1) := by decide +kernel
theorem dX2_longestShadow_2 : decode cX2_longestShadow 2 = .ok (.iconst (-1), 1) := by decide +kernel
theorem dX2_longestShadow_3 : decode cX2_longestShadow 3 = .ok (.istore_n 2, 1) := by decide +kernel
theorem dX2_longestShadow_4 : decode cX2_longestShadow 4 = .ok (.iconst 0, 1) := by decide +kernel
theorem dX2_longestShadow_5 : decode cX2_longestShadow 5 = .ok (.istore_n 3, 1) := by decide +kernel
theorem dX2_longestShadow_6 : decode cX2_longestShadow 6 = .ok (.iload_n 3, 1) := by decide +kernel
theorem dX2_longestShadow_7 : decode cX2_longestShadow 7 = .ok (.aload_n 0, 1) := by decide +kernel
theorem dX2_longestShadow_8 : decode cX2_longestShadow 8 = .ok (.getfield 10, 3) := by decide +kernel
theorem dX2_longestShadow_11 : decode cX2_longestShadow 11 = .ok (.getfield 105, 3) := by decide +kernel
theorem dX2_longestShadow_14 : decode cX2_longestShadow 14 = .ok (.if_icmp .ge 50, 3) := by decide +kernel
theorem dX2_longestShadow_17 : decode cX2_longestShadow 17 = .ok (.aload_n 0, 1) := by decide +kernel
theorem dX2_longestShadow_18 : decode cX2_longestShadow 18 = .ok (.getfield 10, 3) := by decide +kernel
theorem dX2_longestShadow_21 : decode cX2_longestShadow 21 = .ok (.iload_n 3, 1) := by decide +kernel
theorem dX2_longestShadow_22 : decode cX2_longestShadow 22 = .ok (.invokevirtual 43, 3) := by decide +kernel
theorem dX2_longestShadow_25 : decode cX2_longestShadow 25 = .ok (.astore 4, 2) := by decide +kernel
theorem dX2_longestShadow_27 : decode cX2_longestShadow 27 = .ok (.aload 4, 2) := by decide +kernel
theorem dX2_longestShadow_29 : decode cX2_longestShadow 29 = .ok (.ifnonnull 7, 3) := by decide +kernel
theorem dX2_longestShadow_32 : decode cX2_longestShadow 32 = .ok (.iconst (-1), 1) := by decide +kernel
theorem dX2_longestShadow_33 : decode cX2_longestShadow 33 = .ok (.goto 12, 3) := by decide +kernel
theorem dX2_longestShadow_36 : decode cX2_longestShadow 36 = .ok (.aload 4, 2) := by decide +kernel
theorem dX2_longestShadow_38 : decode cX2_longestShadow 38 = .ok (.aload_n 0, 1) := by decide +kernel
theorem dX2_longestShadow_39 : decode cX2_longestShadow 39 = .ok (.invokevirtual 115, 3) := by decide +kernel
theorem dX2_longestShadow_42 : decode cX2_longestShadow 42 = .ok (.invokevirtual 118, 3) := by decide +kernel
theorem dX2_longestShadow_45 : decode cX2_longestShadow 45 = .ok (.istore 5, 2) := by decide +kernel
theorem dX2_longestShadow_47 : decode cX2_longestShadow 47 = .ok (.iload 5, 2) := by decide +kernel
theorem dX2_longestShadow_49 : decode cX2_longestShadow 49 = .ok (.iload_n 2, 1) := by decide +kernel
theorem dX2_longestShadow_50 : decode cX2_longestShadow 50 = .ok (.if_icmp .le 8, 3) := by decide +kernel
theorem dX2_longestShadow_53 : decode cX2_longestShadow 53 = .ok (.iload_n 3, 1) := by decide +kernel
theorem dX2_longestShadow_54 : decode cX2_longestShadow 54 = .ok (.istore_n 1, 1) := by decide +kernel
theorem dX2_longestShadow_55 : decode cX2_longestShadow 55 = .ok (.iload 5, 2) := by decide +kernel
theorem dX2_longestShadow_57 : decode cX2_longestShadow 57 = .ok (.istore_n 2, 1) := by decide +kernel
theorem dX2_longestShadow_58 : decode cX2_longestShadow 58 = .ok (.iinc 3 1, 3) := by decide +kernel
theorem dX2_longestShadow_61 : decode cX2_longestShadow 61 = .ok (.goto (-55), 3) := by decide +kernel
theorem dX2_longestShadow_64 : decode cX2_longestShadow 64 = .ok (.iload_n 1, 1) := by decide +kernel
theorem dX2_longestShadow_65 : decode cX2_longestShadow 65 = .ok (.ireturn, 1) := by decide +kernel
theorem dX2_costOf_0 : decode cX2_costOf 0 = .ok (.aload_n 0, 1) := by decide +kernel
theorem dX2_costOf_1 : decode cX2_costOf 1 = .ok (.getfield 10, 3) := by decide +kernel
theorem dX2_costOf_4 : decode cX2_costOf 4 = .ok (.iload_n 1, 1) := by decide +kernel
theorem dX2_costOf_5 : decode cX2_costOf 5 = .ok (.invokevirtual 43, 3) := by decide +kernel
theorem dX2_costOf_8 : decode cX2_costOf 8 = .ok (.astore_n 2, 1) := by decide +kernel
theorem dX2_costOf_9 : decode cX2_costOf 9 = .ok (.aload_n 2, 1) := by decide +kernel
theorem dX2_costOf_10 : decode cX2_costOf 10 = .ok (.ifnonnull 13, 3) := by decide +kernel
theorem dX2_costOf_13 : decode cX2_costOf 13 = .ok (.new 47, 3) := by decide +kernel
theorem dX2_costOf_16 : decode cX2_costOf 16 = .ok (.dup, 1) := by decide +kernel
theorem dX2_costOf_17 : decode cX2_costOf 17 = .ok (.ldc 49, 2) := by decide +kernel
theorem dX2_costOf_19 : decode cX2_costOf 19 = .ok (.invokespecial 51, 3) := by decide +kernel
theorem dX2_costOf_22 : decode cX2_costOf 22 = .ok (.athrow, 1) := by decide +kernel
theorem dX2_costOf_23 : decode cX2_costOf 23 = .ok (.aload_n 2, 1) := by decide +kernel
theorem dX2_costOf_24 : decode cX2_costOf 24 = .ok (.aload_n 0, 1) := by decide +kernel
theorem dX2_costOf_25 : decode cX2_costOf 25 = .ok (.invokevirtual 115, 3) := by decide +kernel
theorem dX2_costOf_28 : decode cX2_costOf 28 = .ok (.invokevirtual 121, 3) := by decide +kernel
theorem dX2_costOf_31 : decode cX2_costOf 31 = .ok (.ireturn, 1) := by decide +kernel
theorem dX2_ownPartOf_0 : decode cX2_ownPartOf 0 = .ok (.aload_n 0, 1) := by decide +kernel
theorem dX2_ownPartOf_1 : decode cX2_ownPartOf 1 = .ok (.getfield 10, 3) := by decide +kernel
theorem dX2_ownPartOf_4 : decode cX2_ownPartOf 4 = .ok (.iload_n 1, 1) := by decide +kernel
theorem dX2_ownPartOf_5 : decode cX2_ownPartOf 5 = .ok (.invokevirtual 43, 3) := by decide +kernel
theorem dX2_ownPartOf_8 : decode cX2_ownPartOf 8 = .ok (.astore_n 2, 1) := by decide +kernel
theorem dX2_ownPartOf_9 : decode cX2_ownPartOf 9 = .ok (.aload_n 2, 1) := by decide +kernel
theorem dX2_ownPartOf_10 : decode cX2_ownPartOf 10 = .ok (.ifnonnull 13, 3) := by decide +kernel
theorem dX2_ownPartOf_13 : decode cX2_ownPartOf 13 = .ok (.new 47, 3) := by decide +kernel
theorem dX2_ownPartOf_16 : decode cX2_ownPartOf 16 = .ok (.dup, 1) := by decide +kernel
theorem dX2_ownPartOf_17 : decode cX2_ownPartOf 17 = .ok (.ldc 49, 2) := by decide +kernel
theorem dX2_ownPartOf_19 : decode cX2_ownPartOf 19 = .ok (.invokespecial 51, 3) := by decide +kernel
theorem dX2_ownPartOf_22 : decode cX2_ownPartOf 22 = .ok (.athrow, 1) := by decide +kernel
theorem dX2_ownPartOf_23 : decode cX2_ownPartOf 23 = .ok (.aload_n 2, 1) := by decide +kernel
theorem dX2_ownPartOf_24 : decode cX2_ownPartOf 24 = .ok (.aload_n 2, 1) := by decide +kernel
theorem dX2_ownPartOf_25 : decode cX2_ownPartOf 25 = .ok (.aload_n 0, 1) := by decide +kernel
theorem dX2_ownPartOf_26 : decode cX2_ownPartOf 26 = .ok (.invokevirtual 115, 3) := by decide +kernel
theorem dX2_ownPartOf_29 : decode cX2_ownPartOf 29 = .ok (.invokevirtual 121, 3) := by decide +kernel
theorem dX2_ownPartOf_32 : decode cX2_ownPartOf 32 = .ok (.aload_n 0, 1) := by decide +kernel
theorem dX2_ownPartOf_33 : decode cX2_ownPartOf 33 = .ok (.invokevirtual 124, 3) := by decide +kernel
theorem dX2_ownPartOf_36 : decode cX2_ownPartOf 36 = .ok (.invokevirtual 128, 3) := by decide +kernel
theorem dX2_ownPartOf_39 : decode cX2_ownPartOf 39 = .ok (.ireturn, 1) := by decide +kernel
theorem dX2_poolPartOf_0 : decode cX2_poolPartOf 0 = .ok (.aload_n 0, 1) := by decide +kernel
theorem dX2_poolPartOf_1 : decode cX2_poolPartOf 1 = .ok (.getfield 10, 3) := by decide +kernel
theorem dX2_poolPartOf_4 : decode cX2_poolPartOf 4 = .ok (.iload_n 1, 1) := by decide +kernel
theorem dX2_poolPartOf_5 : decode cX2_poolPartOf 5 = .ok (.invokevirtual 43, 3) := by decide +kernel
theorem dX2_poolPartOf_8 : decode cX2_poolPartOf 8 = .ok (.astore_n 2, 1) := by decide +kernel
theorem dX2_poolPartOf_9 : decode cX2_poolPartOf 9 = .ok (.aload_n 2, 1) := by decide +kernel
theorem dX2_poolPartOf_10 : decode cX2_poolPartOf 10 = .ok (.ifnonnull 13, 3) := by decide +kernel
theorem dX2_poolPartOf_13 : decode cX2_poolPartOf 13 = .ok (.new 47, 3) := by decide +kernel
theorem dX2_poolPartOf_16 : decode cX2_poolPartOf 16 = .ok (.dup, 1) := by decide +kernel
theorem dX2_poolPartOf_17 : decode cX2_poolPartOf 17 = .ok (.ldc 49, 2) := by decide +kernel
theorem dX2_poolPartOf_19 : decode cX2_poolPartOf 19 = .ok (.invokespecial 51, 3) := by decide +kernel
theorem dX2_poolPartOf_22 : decode cX2_poolPartOf 22 = .ok (.athrow, 1) := by decide +kernel
theorem dX2_poolPartOf_23 : decode cX2_poolPartOf 23 = .ok (.aload_n 0, 1) := by decide +kernel
theorem dX2_poolPartOf_24 : decode cX2_poolPartOf 24 = .ok (.aload_n 2, 1) := by decide +kernel
theorem dX2_poolPartOf_25 : decode cX2_poolPartOf 25 = .ok (.invokevirtual 132, 3) := by decide +kernel
theorem dX2_poolPartOf_28 : decode cX2_poolPartOf 28 = .ok (.istore_n 3, 1) := by decide +kernel
theorem dX2_poolPartOf_29 : decode cX2_poolPartOf 29 = .ok (.iload_n 3, 1) := by decide +kernel
theorem dX2_poolPartOf_30 : decode cX2_poolPartOf 30 = .ok (.aload_n 0, 1) := by decide +kernel
theorem dX2_poolPartOf_31 : decode cX2_poolPartOf 31 = .ok (.getfield 10, 3) := by decide +kernel
theorem dX2_poolPartOf_34 : decode cX2_poolPartOf 34 = .ok (.iload_n 3, 1) := by decide +kernel
theorem dX2_poolPartOf_35 : decode cX2_poolPartOf 35 = .ok (.invokevirtual 136, 3) := by decide +kernel
theorem dX2_poolPartOf_38 : decode cX2_poolPartOf 38 = .ok (.isub, 1) := by decide +kernel
theorem dX2_poolPartOf_39 : decode cX2_poolPartOf 39 = .ok (.ireturn, 1) := by decide +kernel
theorem dX2_reinsuredPartOf_0 : decode cX2_reinsuredPartOf 0 = .ok (.aload_n 0, 1) := by decide +kernel
theorem dX2_reinsuredPartOf_1 : decode cX2_reinsuredPartOf 1 = .ok (.getfield 10, 3) := by decide +kernel
theorem dX2_reinsuredPartOf_4 : decode cX2_reinsuredPartOf 4 = .ok (.iload_n 1, 1) := by decide +kernel
theorem dX2_reinsuredPartOf_5 : decode cX2_reinsuredPartOf 5 = .ok (.invokevirtual 43, 3) := by decide +kernel
theorem dX2_reinsuredPartOf_8 : decode cX2_reinsuredPartOf 8 = .ok (.astore_n 2, 1) := by decide +kernel
theorem dX2_reinsuredPartOf_9 : decode cX2_reinsuredPartOf 9 = .ok (.aload_n 2, 1) := by decide +kernel
theorem dX2_reinsuredPartOf_10 : decode cX2_reinsuredPartOf 10 = .ok (.ifnonnull 13, 3) := by decide +kernel
theorem dX2_reinsuredPartOf_13 : decode cX2_reinsuredPartOf 13 = .ok (.new 47, 3) := by decide +kernel
theorem dX2_reinsuredPartOf_16 : decode cX2_reinsuredPartOf 16 = .ok (.dup, 1) := by decide +kernel
theorem dX2_reinsuredPartOf_17 : decode cX2_reinsuredPartOf 17 = .ok (.ldc 49, 2) := by decide +kernel
theorem dX2_reinsuredPartOf_19 : decode cX2_reinsuredPartOf 19 = .ok (.invokespecial 51, 3) := by decide +kernel
theorem dX2_reinsuredPartOf_22 : decode cX2_reinsuredPartOf 22 = .ok (.athrow, 1) := by decide +kernel
theorem dX2_reinsuredPartOf_23 : decode cX2_reinsuredPartOf 23 = .ok (.aload_n 0, 1) := by decide +kernel
theorem dX2_reinsuredPartOf_24 : decode cX2_reinsuredPartOf 24 = .ok (.getfield 10, 3) := by decide +kernel
theorem dX2_reinsuredPartOf_27 : decode cX2_reinsuredPartOf 27 = .ok (.aload_n 0, 1) := by decide +kernel
theorem dX2_reinsuredPartOf_28 : decode cX2_reinsuredPartOf 28 = .ok (.aload_n 2, 1) := by decide +kernel
theorem dX2_reinsuredPartOf_29 : decode cX2_reinsuredPartOf 29 = .ok (.invokevirtual 132, 3) := by decide +kernel
theorem dX2_reinsuredPartOf_32 : decode cX2_reinsuredPartOf 32 = .ok (.invokevirtual 136, 3) := by decide +kernel
theorem dX2_reinsuredPartOf_35 : decode cX2_reinsuredPartOf 35 = .ok (.ireturn, 1) := by decide +kernel
theorem dX2_fund_0 : decode cX2_fund 0 = .ok (.aload_n 0, 1) := by decide +kernel
theorem dX2_fund_1 : decode cX2_fund 1 = .ok (.getfield 10, 3) := by decide +kernel
theorem dX2_fund_4 : decode cX2_fund 4 = .ok (.getfield 139, 3) := by decide +kernel
theorem dX2_fund_7 : decode cX2_fund 7 = .ok (.ireturn, 1) := by decide +kernel
theorem dX2_rate_0 : decode cX2_rate 0 = .ok (.aload_n 0, 1) := by decide +kernel
theorem dX2_rate_1 : decode cX2_rate 1 = .ok (.getfield 10, 3) := by decide +kernel
theorem dX2_rate_4 : decode cX2_rate 4 = .ok (.getfield 67, 3) := by decide +kernel
theorem dX2_rate_7 : decode cX2_rate 7 = .ok (.ireturn, 1) := by decide +kernel
theorem dX2_retention_0 : decode cX2_retention 0 = .ok (.aload_n 0, 1) := by decide +kernel
theorem dX2_retention_1 : decode cX2_retention 1 = .ok (.getfield 10, 3) := by decide +kernel
theorem dX2_retention_4 : decode cX2_retention 4 = .ok (.getfield 77, 3) := by decide +kernel
theorem dX2_retention_7 : decode cX2_retention 7 = .ok (.ireturn, 1) := by decide +kernel
theorem dX2_limit_0 : decode cX2_limit 0 = .ok (.aload_n 0, 1) := by decide +kernel
theorem dX2_limit_1 : decode cX2_limit 1 = .ok (.getfield 10, 3) := by decide +kernel
theorem dX2_limit_4 : decode cX2_limit 4 = .ok (.getfield 74, 3) := by decide +kernel
theorem dX2_limit_7 : decode cX2_limit 7 = .ok (.ireturn, 1) := by decide +kernel
theorem dX2_reinsurersLoss_0 : decode cX2_reinsurersLoss 0 = .ok (.aload_n 0, 1) := by decide +kernel
theorem dX2_reinsurersLoss_1 : decode cX2_reinsurersLoss 1 = .ok (.getfield 10, 3) := by decide +kernel
theorem dX2_reinsurersLoss_4 : decode cX2_reinsurersLoss 4 = .ok (.getfield 142, 3) := by decide +kernel
theorem dX2_reinsurersLoss_7 : decode cX2_reinsurersLoss 7 = .ok (.ireturn, 1) := by decide +kernel
theorem dX2_hoursUntilFall_0 : decode cX2_hoursUntilFall 0 = .ok (.aload_n 0, 1) := by decide +kernel
theorem dX2_hoursUntilFall_1 : decode cX2_hoursUntilFall 1 = .ok (.getfield 10, 3) := by decide +kernel
theorem dX2_hoursUntilFall_4 : decode cX2_hoursUntilFall 4 = .ok (.iload_n 1, 1) := by decide +kernel
theorem dX2_hoursUntilFall_5 : decode cX2_hoursUntilFall 5 = .ok (.invokevirtual 43, 3) := by decide +kernel
theorem dX2_hoursUntilFall_8 : decode cX2_hoursUntilFall 8 = .ok (.astore_n 2, 1) := by decide +kernel
theorem dX2_hoursUntilFall_9 : decode cX2_hoursUntilFall 9 = .ok (.aload_n 2, 1) := by decide +kernel
theorem dX2_hoursUntilFall_10 : decode cX2_hoursUntilFall 10 = .ok (.ifnonnull 13, 3) := by decide +kernel
theorem dX2_hoursUntilFall_13 : decode cX2_hoursUntilFall 13 = .ok (.new 47, 3) := by decide +kernel
theorem dX2_hoursUntilFall_16 : decode cX2_hoursUntilFall 16 = .ok (.dup, 1) := by decide +kernel
theorem dX2_hoursUntilFall_17 : decode cX2_hoursUntilFall 17 = .ok (.ldc 49, 2) := by decide +kernel
theorem dX2_hoursUntilFall_19 : decode cX2_hoursUntilFall 19 = .ok (.invokespecial 51, 3) := by decide +kernel
theorem dX2_hoursUntilFall_22 : decode cX2_hoursUntilFall 22 = .ok (.athrow, 1) := by decide +kernel
theorem dX2_hoursUntilFall_23 : decode cX2_hoursUntilFall 23 = .ok (.aload_n 2, 1) := by decide +kernel
theorem dX2_hoursUntilFall_24 : decode cX2_hoursUntilFall 24 = .ok (.aload_n 0, 1) := by decide +kernel
theorem dX2_hoursUntilFall_25 : decode cX2_hoursUntilFall 25 = .ok (.getfield 10, 3) := by decide +kernel
theorem dX2_hoursUntilFall_28 : decode cX2_hoursUntilFall 28 = .ok (.getfield 86, 3) := by decide +kernel
theorem dX2_hoursUntilFall_31 : decode cX2_hoursUntilFall 31 = .ok (.invokevirtual 145, 3) := by decide +kernel
theorem dX2_hoursUntilFall_34 : decode cX2_hoursUntilFall 34 = .ok (.ireturn, 1) := by decide +kernel
theorem dX2_nextToFall_0 : decode cX2_nextToFall 0 = .ok (.iconst (-1), 1) := by decide +kernel
theorem dX2_nextToFall_1 : decode cX2_nextToFall 1 = .ok (.istore_n 1, 1) := by decide +kernel
theorem dX2_nextToFall_2 : decode cX2_nextToFall 2 = .ok (.bipush 101, 2) := by decide +kernel
theorem dX2_nextToFall_4 : decode cX2_nextToFall 4 = .ok (.istore_n 2, 1) := by decide +kernel
theorem dX2_nextToFall_5 : decode cX2_nextToFall 5 = .ok (.iconst 0, 1) := by decide +kernel
theorem dX2_nextToFall_6 : decode cX2_nextToFall 6 = .ok (.istore_n 3, 1) := by decide +kernel
theorem dX2_nextToFall_7 : decode cX2_nextToFall 7 = .ok (.iload_n 3, 1) := by decide +kernel
theorem dX2_nextToFall_8 : decode cX2_nextToFall 8 = .ok (.aload_n 0, 1) := by decide +kernel
theorem dX2_nextToFall_9 : decode cX2_nextToFall 9 = .ok (.getfield 10, 3) := by decide +kernel
theorem dX2_nextToFall_12 : decode cX2_nextToFall 12 = .ok (.getfield 105, 3) := by decide +kernel
theorem dX2_nextToFall_15 : decode cX2_nextToFall 15 = .ok (.if_icmp .ge 58, 3) := by decide +kernel
theorem dX2_nextToFall_18 : decode cX2_nextToFall 18 = .ok (.aload_n 0, 1) := by decide +kernel
theorem dX2_nextToFall_19 : decode cX2_nextToFall 19 = .ok (.getfield 10, 3) := by decide +kernel
theorem dX2_nextToFall_22 : decode cX2_nextToFall 22 = .ok (.iload_n 3, 1) := by decide +kernel
theorem dX2_nextToFall_23 : decode cX2_nextToFall 23 = .ok (.invokevirtual 43, 3) := by decide +kernel
theorem dX2_nextToFall_26 : decode cX2_nextToFall 26 = .ok (.astore 4, 2) := by decide +kernel
theorem dX2_nextToFall_28 : decode cX2_nextToFall 28 = .ok (.aload 4, 2) := by decide +kernel
theorem dX2_nextToFall_30 : decode cX2_nextToFall 30 = .ok (.ifnonnull 7, 3) := by decide +kernel
theorem dX2_nextToFall_33 : decode cX2_nextToFall 33 = .ok (.iconst (-1), 1) := by decide +kernel
theorem dX2_nextToFall_34 : decode cX2_nextToFall 34 = .ok (.goto 15, 3) := by decide +kernel
theorem dX2_nextToFall_37 : decode cX2_nextToFall 37 = .ok (.aload 4, 2) := by decide +kernel
theorem dX2_nextToFall_39 : decode cX2_nextToFall 39 = .ok (.aload_n 0, 1) := by decide +kernel
theorem dX2_nextToFall_40 : decode cX2_nextToFall 40 = .ok (.getfield 10, 3) := by decide +kernel
theorem dX2_nextToFall_43 : decode cX2_nextToFall 43 = .ok (.getfield 86, 3) := by decide +kernel
theorem dX2_nextToFall_46 : decode cX2_nextToFall 46 = .ok (.invokevirtual 145, 3) := by decide +kernel
theorem dX2_nextToFall_49 : decode cX2_nextToFall 49 = .ok (.istore 5, 2) := by decide +kernel
theorem dX2_nextToFall_51 : decode cX2_nextToFall 51 = .ok (.iload 5, 2) := by decide +kernel
theorem dX2_nextToFall_53 : decode cX2_nextToFall 53 = .ok (.ifCond .le 14, 3) := by decide +kernel
theorem dX2_nextToFall_56 : decode cX2_nextToFall 56 = .ok (.iload 5, 2) := by decide +kernel
theorem dX2_nextToFall_58 : decode cX2_nextToFall 58 = .ok (.iload_n 2, 1) := by decide +kernel
theorem dX2_nextToFall_59 : decode cX2_nextToFall 59 = .ok (.if_icmp .ge 8, 3) := by decide +kernel
theorem dX2_nextToFall_62 : decode cX2_nextToFall 62 = .ok (.iload_n 3, 1) := by decide +kernel
theorem dX2_nextToFall_63 : decode cX2_nextToFall 63 = .ok (.istore_n 1, 1) := by decide +kernel
theorem dX2_nextToFall_64 : decode cX2_nextToFall 64 = .ok (.iload 5, 2) := by decide +kernel
theorem dX2_nextToFall_66 : decode cX2_nextToFall 66 = .ok (.istore_n 2, 1) := by decide +kernel
theorem dX2_nextToFall_67 : decode cX2_nextToFall 67 = .ok (.iinc 3 1, 3) := by decide +kernel
theorem dX2_nextToFall_70 : decode cX2_nextToFall 70 = .ok (.goto (-63), 3) := by decide +kernel
theorem dX2_nextToFall_73 : decode cX2_nextToFall 73 = .ok (.iload_n 1, 1) := by decide +kernel
theorem dX2_nextToFall_74 : decode cX2_nextToFall 74 = .ok (.ireturn, 1) := by decide +kernel
theorem dX2_fundIn_0 : decode cX2_fundIn 0 = .ok (.iload_n 1, 1) := by decide +kernel
theorem dX2_fundIn_1 : decode cX2_fundIn 1 = .ok (.iconst 1, 1) := by decide +kernel
theorem dX2_fundIn_2 : decode cX2_fundIn 2 = .ok (.bipush 60, 2) := by decide +kernel
theorem dX2_fundIn_4 : decode cX2_fundIn 4 = .ok (.invokestatic 19, 3) := by decide +kernel
theorem dX2_fundIn_7 : decode cX2_fundIn 7 = .ok (.ifCond .ne 13, 3) := by decide +kernel
theorem dX2_fundIn_10 : decode cX2_fundIn 10 = .ok (.new 23, 3) := by decide +kernel
theorem dX2_fundIn_13 : decode cX2_fundIn 13 = .ok (.dup, 1) := by decide +kernel
theorem dX2_fundIn_14 : decode cX2_fundIn 14 = .ok (.ldc 80, 2) := by decide +kernel
theorem dX2_fundIn_16 : decode cX2_fundIn 16 = .ok (.invokespecial 27, 3) := by decide +kernel
theorem dX2_fundIn_19 : decode cX2_fundIn 19 = .ok (.athrow, 1) := by decide +kernel
theorem dX2_fundIn_20 : decode cX2_fundIn 20 = .ok (.aload_n 0, 1) := by decide +kernel
theorem dX2_fundIn_21 : decode cX2_fundIn 21 = .ok (.iload_n 1, 1) := by decide +kernel
theorem dX2_fundIn_22 : decode cX2_fundIn 22 = .ok (.aload_n 0, 1) := by decide +kernel
theorem dX2_fundIn_23 : decode cX2_fundIn 23 = .ok (.getfield 10, 3) := by decide +kernel
theorem dX2_fundIn_26 : decode cX2_fundIn 26 = .ok (.getfield 67, 3) := by decide +kernel
theorem dX2_fundIn_29 : decode cX2_fundIn 29 = .ok (.aload_n 0, 1) := by decide +kernel
theorem dX2_fundIn_30 : decode cX2_fundIn 30 = .ok (.getfield 10, 3) := by decide +kernel
theorem dX2_fundIn_33 : decode cX2_fundIn 33 = .ok (.getfield 74, 3) := by decide +kernel
theorem dX2_fundIn_36 : decode cX2_fundIn 36 = .ok (.invokevirtual 148, 3) := by decide +kernel
theorem dX2_fundIn_39 : decode cX2_fundIn 39 = .ok (.ireturn, 1) := by decide +kernel
theorem dX2_hoursUntilRuin_0 : decode cX2_hoursUntilRuin 0 = .ok (.aload_n 0, 1) := by decide +kernel
theorem dX2_hoursUntilRuin_1 : decode cX2_hoursUntilRuin 1 = .ok (.getfield 16, 3) := by decide +kernel
theorem dX2_hoursUntilRuin_4 : decode cX2_hoursUntilRuin 4 = .ok (.aload_n 0, 1) := by decide +kernel
theorem dX2_hoursUntilRuin_5 : decode cX2_hoursUntilRuin 5 = .ok (.getfield 10, 3) := by decide +kernel
theorem dX2_hoursUntilRuin_8 : decode cX2_hoursUntilRuin 8 = .ok (.invokevirtual 151, 3) := by decide +kernel
theorem dX2_hoursUntilRuin_11 : decode cX2_hoursUntilRuin 11 = .ok (.iconst 0, 1) := by decide +kernel
theorem dX2_hoursUntilRuin_12 : decode cX2_hoursUntilRuin 12 = .ok (.istore_n 1, 1) := by decide +kernel
theorem dX2_hoursUntilRuin_13 : decode cX2_hoursUntilRuin 13 = .ok (.iload_n 1, 1) := by decide +kernel
theorem dX2_hoursUntilRuin_14 : decode cX2_hoursUntilRuin 14 = .ok (.bipush 100, 2) := by decide +kernel
theorem dX2_hoursUntilRuin_16 : decode cX2_hoursUntilRuin 16 = .ok (.if_icmp .ge 30, 3) := by decide +kernel
theorem dX2_hoursUntilRuin_19 : decode cX2_hoursUntilRuin 19 = .ok (.aload_n 0, 1) := by decide +kernel
theorem dX2_hoursUntilRuin_20 : decode cX2_hoursUntilRuin 20 = .ok (.getfield 16, 3) := by decide +kernel
theorem dX2_hoursUntilRuin_23 : decode cX2_hoursUntilRuin 23 = .ok (.getfield 139, 3) := by decide +kernel
theorem dX2_hoursUntilRuin_26 : decode cX2_hoursUntilRuin 26 = .ok (.ifCond .ge 5, 3) := by decide +kernel
theorem dX2_hoursUntilRuin_29 : decode cX2_hoursUntilRuin 29 = .ok (.iload_n 1, 1) := by decide +kernel
theorem dX2_hoursUntilRuin_30 : decode cX2_hoursUntilRuin 30 = .ok (.ireturn, 1) := by decide +kernel
theorem dX2_hoursUntilRuin_31 : decode cX2_hoursUntilRuin 31 = .ok (.aload_n 0, 1) := by decide +kernel
theorem dX2_hoursUntilRuin_32 : decode cX2_hoursUntilRuin 32 = .ok (.getfield 16, 3) := by decide +kernel
theorem dX2_hoursUntilRuin_35 : decode cX2_hoursUntilRuin 35 = .ok (.iconst 1, 1) := by decide +kernel
theorem dX2_hoursUntilRuin_36 : decode cX2_hoursUntilRuin 36 = .ok (.invokevirtual 82, 3) := by decide +kernel
theorem dX2_hoursUntilRuin_39 : decode cX2_hoursUntilRuin 39 = .ok (.pop, 1) := by decide +kernel
theorem dX2_hoursUntilRuin_40 : decode cX2_hoursUntilRuin 40 = .ok (.iinc 1 1, 3) := by decide +kernel
theorem dX2_hoursUntilRuin_43 : decode cX2_hoursUntilRuin 43 = .ok (.goto (-30), 3) := by decide +kernel
theorem dX2_hoursUntilRuin_46 : decode cX2_hoursUntilRuin 46 = .ok (.aload_n 0, 1) := by decide +kernel
theorem dX2_hoursUntilRuin_47 : decode cX2_hoursUntilRuin 47 = .ok (.getfield 16, 3) := by decide +kernel
theorem dX2_hoursUntilRuin_50 : decode cX2_hoursUntilRuin 50 = .ok (.getfield 139, 3) := by decide +kernel
theorem dX2_hoursUntilRuin_53 : decode cX2_hoursUntilRuin 53 = .ok (.ifCond .ge 8, 3) := by decide +kernel
theorem dX2_hoursUntilRuin_56 : decode cX2_hoursUntilRuin 56 = .ok (.bipush 100, 2) := by decide +kernel
theorem dX2_hoursUntilRuin_58 : decode cX2_hoursUntilRuin 58 = .ok (.goto 4, 3) := by decide +kernel
theorem dX2_hoursUntilRuin_61 : decode cX2_hoursUntilRuin 61 = .ok (.iconst (-1), 1) := by decide +kernel
theorem dX2_hoursUntilRuin_62 : decode cX2_hoursUntilRuin 62 = .ok (.ireturn, 1) := by decide +kernel
theorem dX2_bestLimit_0 : decode cX2_bestLimit 0 = .ok (.iconst 0, 1) := by decide +kernel
theorem dX2_bestLimit_1 : decode cX2_bestLimit 1 = .ok (.istore_n 1, 1) := by decide +kernel
theorem dX2_bestLimit_2 : decode cX2_bestLimit 2 = .ok (.aload_n 0, 1) := by decide +kernel
theorem dX2_bestLimit_3 : decode cX2_bestLimit 3 = .ok (.bipush 48, 2) := by decide +kernel
theorem dX2_bestLimit_5 : decode cX2_bestLimit 5 = .ok (.aload_n 0, 1) := by decide +kernel
theorem dX2_bestLimit_6 : decode cX2_bestLimit 6 = .ok (.getfield 10, 3) := by decide +kernel
theorem dX2_bestLimit_9 : decode cX2_bestLimit 9 = .ok (.getfield 67, 3) := by decide +kernel
theorem dX2_bestLimit_12 : decode cX2_bestLimit 12 = .ok (.iconst 0, 1) := by decide +kernel
theorem dX2_bestLimit_13 : decode cX2_bestLimit 13 = .ok (.invokevirtual 148, 3) := by decide +kernel
theorem dX2_bestLimit_16 : decode cX2_bestLimit 16 = .ok (.istore_n 2, 1) := by decide +kernel
theorem dX2_bestLimit_17 : decode cX2_bestLimit 17 = .ok (.bipush 20, 2) := by decide +kernel
theorem dX2_bestLimit_19 : decode cX2_bestLimit 19 = .ok (.istore_n 3, 1) := by decide +kernel
theorem dX2_bestLimit_20 : decode cX2_bestLimit 20 = .ok (.iload_n 3, 1) := by decide +kernel
theorem dX2_bestLimit_21 : decode cX2_bestLimit 21 = .ok (.bipush 100, 2) := by decide +kernel
theorem dX2_bestLimit_23 : decode cX2_bestLimit 23 = .ok (.if_icmp .gt 36, 3) := by decide +kernel
theorem dX2_bestLimit_26 : decode cX2_bestLimit 26 = .ok (.aload_n 0, 1) := by decide +kernel
theorem dX2_bestLimit_27 : decode cX2_bestLimit 27 = .ok (.bipush 48, 2) := by decide +kernel
theorem dX2_bestLimit_29 : decode cX2_bestLimit 29 = .ok (.aload_n 0, 1) := by decide +kernel
theorem dX2_bestLimit_30 : decode cX2_bestLimit 30 = .ok (.getfield 10, 3) := by decide +kernel
theorem dX2_bestLimit_33 : decode cX2_bestLimit 33 = .ok (.getfield 67, 3) := by decide +kernel
theorem dX2_bestLimit_36 : decode cX2_bestLimit 36 = .ok (.iload_n 3, 1) := by decide +kernel
theorem dX2_bestLimit_37 : decode cX2_bestLimit 37 = .ok (.invokevirtual 148, 3) := by decide +kernel
theorem dX2_bestLimit_40 : decode cX2_bestLimit 40 = .ok (.istore 4, 2) := by decide +kernel
theorem dX2_bestLimit_42 : decode cX2_bestLimit 42 = .ok (.iload 4, 2) := by decide +kernel
theorem dX2_bestLimit_44 : decode cX2_bestLimit 44 = .ok (.iload_n 2, 1) := by decide +kernel
theorem dX2_bestLimit_45 : decode cX2_bestLimit 45 = .ok (.if_icmp .le 8, 3) := by decide +kernel
theorem dX2_bestLimit_48 : decode cX2_bestLimit 48 = .ok (.iload_n 3, 1) := by decide +kernel
theorem dX2_bestLimit_49 : decode cX2_bestLimit 49 = .ok (.istore_n 1, 1) := by decide +kernel
theorem dX2_bestLimit_50 : decode cX2_bestLimit 50 = .ok (.iload 4, 2) := by decide +kernel
theorem dX2_bestLimit_52 : decode cX2_bestLimit 52 = .ok (.istore_n 2, 1) := by decide +kernel
theorem dX2_bestLimit_53 : decode cX2_bestLimit 53 = .ok (.iinc 3 20, 3) := by decide +kernel
theorem dX2_bestLimit_56 : decode cX2_bestLimit 56 = .ok (.goto (-36), 3) := by decide +kernel
theorem dX2_bestLimit_59 : decode cX2_bestLimit 59 = .ok (.iload_n 1, 1) := by decide +kernel
theorem dX2_bestLimit_60 : decode cX2_bestLimit 60 = .ok (.ireturn, 1) := by decide +kernel
theorem dX2_fairRate_0 : decode cX2_fairRate 0 = .ok (.iconst 0, 1) := by decide +kernel
theorem dX2_fairRate_1 : decode cX2_fairRate 1 = .ok (.istore_n 1, 1) := by decide +kernel
theorem dX2_fairRate_2 : decode cX2_fairRate 2 = .ok (.iload_n 1, 1) := by decide +kernel
theorem dX2_fairRate_3 : decode cX2_fairRate 3 = .ok (.bipush 9, 2) := by decide +kernel
theorem dX2_fairRate_5 : decode cX2_fairRate 5 = .ok (.if_icmp .gt 35, 3) := by decide +kernel
theorem dX2_fairRate_8 : decode cX2_fairRate 8 = .ok (.aload_n 0, 1) := by decide +kernel
theorem dX2_fairRate_9 : decode cX2_fairRate 9 = .ok (.bipush 48, 2) := by decide +kernel
theorem dX2_fairRate_11 : decode cX2_fairRate 11 = .ok (.iload_n 1, 1) := by decide +kernel
theorem dX2_fairRate_12 : decode cX2_fairRate 12 = .ok (.aload_n 0, 1) := by decide +kernel
theorem dX2_fairRate_13 : decode cX2_fairRate 13 = .ok (.getfield 10, 3) := by decide +kernel
theorem dX2_fairRate_16 : decode cX2_fairRate 16 = .ok (.getfield 74, 3) := by decide +kernel
theorem dX2_fairRate_19 : decode cX2_fairRate 19 = .ok (.invokevirtual 148, 3) := by decide +kernel
theorem dX2_fairRate_22 : decode cX2_fairRate 22 = .ok (.aload_n 0, 1) := by decide +kernel
theorem dX2_fairRate_23 : decode cX2_fairRate 23 = .ok (.getfield 10, 3) := by decide +kernel
theorem dX2_fairRate_26 : decode cX2_fairRate 26 = .ok (.getfield 139, 3) := by decide +kernel
theorem dX2_fairRate_29 : decode cX2_fairRate 29 = .ok (.if_icmp .lt 5, 3) := by decide +kernel
theorem dX2_fairRate_32 : decode cX2_fairRate 32 = .ok (.iload_n 1, 1) := by decide +kernel
theorem dX2_fairRate_33 : decode cX2_fairRate 33 = .ok (.ireturn, 1) := by decide +kernel
theorem dX2_fairRate_34 : decode cX2_fairRate 34 = .ok (.iinc 1 1, 3) := by decide +kernel
theorem dX2_fairRate_37 : decode cX2_fairRate 37 = .ok (.goto (-35), 3) := by decide +kernel
theorem dX2_fairRate_40 : decode cX2_fairRate 40 = .ok (.iconst (-1), 1) := by decide +kernel
theorem dX2_fairRate_41 : decode cX2_fairRate 41 = .ok (.ireturn, 1) := by decide +kernel
theorem dX2_meanShadow_0 : decode cX2_meanShadow 0 = .ok (.iconst 0, 1) := by decide +kernel
theorem dX2_meanShadow_1 : decode cX2_meanShadow 1 = .ok (.istore_n 1, 1) := by decide +kernel
theorem dX2_meanShadow_2 : decode cX2_meanShadow 2 = .ok (.iconst 0, 1) := by decide +kernel
theorem dX2_meanShadow_3 : decode cX2_meanShadow 3 = .ok (.istore_n 2, 1) := by decide +kernel
theorem dX2_meanShadow_4 : decode cX2_meanShadow 4 = .ok (.iload_n 2, 1) := by decide +kernel
theorem dX2_meanShadow_5 : decode cX2_meanShadow 5 = .ok (.aload_n 0, 1) := by decide +kernel
theorem dX2_meanShadow_6 : decode cX2_meanShadow 6 = .ok (.getfield 10, 3) := by decide +kernel
theorem dX2_meanShadow_9 : decode cX2_meanShadow 9 = .ok (.getfield 105, 3) := by decide +kernel
theorem dX2_meanShadow_12 : decode cX2_meanShadow 12 = .ok (.if_icmp .ge 37, 3) := by decide +kernel
theorem dX2_meanShadow_15 : decode cX2_meanShadow 15 = .ok (.aload_n 0, 1) := by decide +kernel
theorem dX2_meanShadow_16 : decode cX2_meanShadow 16 = .ok (.getfield 10, 3) := by decide +kernel
theorem dX2_meanShadow_19 : decode cX2_meanShadow 19 = .ok (.iload_n 2, 1) := by decide +kernel
theorem dX2_meanShadow_20 : decode cX2_meanShadow 20 = .ok (.invokevirtual 43, 3) := by decide +kernel
theorem dX2_meanShadow_23 : decode cX2_meanShadow 23 = .ok (.astore_n 3, 1) := by decide +kernel
theorem dX2_meanShadow_24 : decode cX2_meanShadow 24 = .ok (.iload_n 1, 1) := by decide +kernel
theorem dX2_meanShadow_25 : decode cX2_meanShadow 25 = .ok (.aload_n 3, 1) := by decide +kernel
theorem dX2_meanShadow_26 : decode cX2_meanShadow 26 = .ok (.ifnonnull 7, 3) := by decide +kernel
theorem dX2_meanShadow_29 : decode cX2_meanShadow 29 = .ok (.iconst 0, 1) := by decide +kernel
theorem dX2_meanShadow_30 : decode cX2_meanShadow 30 = .ok (.goto 11, 3) := by decide +kernel
theorem dX2_meanShadow_33 : decode cX2_meanShadow 33 = .ok (.aload_n 3, 1) := by decide +kernel
theorem dX2_meanShadow_34 : decode cX2_meanShadow 34 = .ok (.aload_n 0, 1) := by decide +kernel
theorem dX2_meanShadow_35 : decode cX2_meanShadow 35 = .ok (.invokevirtual 115, 3) := by decide +kernel
theorem dX2_meanShadow_38 : decode cX2_meanShadow 38 = .ok (.invokevirtual 118, 3) := by decide +kernel
theorem dX2_meanShadow_41 : decode cX2_meanShadow 41 = .ok (.iadd, 1) := by decide +kernel
theorem dX2_meanShadow_42 : decode cX2_meanShadow 42 = .ok (.istore_n 1, 1) := by decide +kernel
theorem dX2_meanShadow_43 : decode cX2_meanShadow 43 = .ok (.iinc 2 1, 3) := by decide +kernel
theorem dX2_meanShadow_46 : decode cX2_meanShadow 46 = .ok (.goto (-42), 3) := by decide +kernel
theorem dX2_meanShadow_49 : decode cX2_meanShadow 49 = .ok (.aload_n 0, 1) := by decide +kernel
theorem dX2_meanShadow_50 : decode cX2_meanShadow 50 = .ok (.getfield 10, 3) := by decide +kernel
theorem dX2_meanShadow_53 : decode cX2_meanShadow 53 = .ok (.getfield 105, 3) := by decide +kernel
theorem dX2_meanShadow_56 : decode cX2_meanShadow 56 = .ok (.ifCond .ne 7, 3) := by decide +kernel
theorem dX2_meanShadow_59 : decode cX2_meanShadow 59 = .ok (.dconst 0, 1) := by decide +kernel
theorem dX2_meanShadow_60 : decode cX2_meanShadow 60 = .ok (.goto 14, 3) := by decide +kernel
theorem dX2_meanShadow_63 : decode cX2_meanShadow 63 = .ok (.iload_n 1, 1) := by decide +kernel
theorem dX2_meanShadow_64 : decode cX2_meanShadow 64 = .ok (.i2d, 1) := by decide +kernel
theorem dX2_meanShadow_65 : decode cX2_meanShadow 65 = .ok (.aload_n 0, 1) := by decide +kernel
theorem dX2_meanShadow_66 : decode cX2_meanShadow 66 = .ok (.getfield 10, 3) := by decide +kernel
theorem dX2_meanShadow_69 : decode cX2_meanShadow 69 = .ok (.getfield 105, 3) := by decide +kernel
theorem dX2_meanShadow_72 : decode cX2_meanShadow 72 = .ok (.i2d, 1) := by decide +kernel
theorem dX2_meanShadow_73 : decode cX2_meanShadow 73 = .ok (.ddiv, 1) := by decide +kernel
theorem dX2_meanShadow_74 : decode cX2_meanShadow 74 = .ok (.dreturn, 1) := by decide +kernel
theorem dX2_digest_0 : decode cX2_digest 0 = .ok (.ldc2_w 155, 3) := by decide +kernel
theorem dX2_digest_3 : decode cX2_digest 3 = .ok (.lstore_n 1, 1) := by decide +kernel
theorem dX2_digest_4 : decode cX2_digest 4 = .ok (.lload_n 1, 1) := by decide +kernel
theorem dX2_digest_5 : decode cX2_digest 5 = .ok (.aload_n 0, 1) := by decide +kernel
theorem dX2_digest_6 : decode cX2_digest 6 = .ok (.invokevirtual 157, 3) := by decide +kernel
theorem dX2_digest_9 : decode cX2_digest 9 = .ok (.invokestatic 159, 3) := by decide +kernel
theorem dX2_digest_12 : decode cX2_digest 12 = .ok (.lstore_n 1, 1) := by decide +kernel
theorem dX2_digest_13 : decode cX2_digest 13 = .ok (.lload_n 1, 1) := by decide +kernel
theorem dX2_digest_14 : decode cX2_digest 14 = .ok (.aload_n 0, 1) := by decide +kernel
theorem dX2_digest_15 : decode cX2_digest 15 = .ok (.invokevirtual 115, 3) := by decide +kernel
theorem dX2_digest_18 : decode cX2_digest 18 = .ok (.invokestatic 159, 3) := by decide +kernel
theorem dX2_digest_21 : decode cX2_digest 21 = .ok (.lstore_n 1, 1) := by decide +kernel
theorem dX2_digest_22 : decode cX2_digest 22 = .ok (.lload_n 1, 1) := by decide +kernel
theorem dX2_digest_23 : decode cX2_digest 23 = .ok (.aload_n 0, 1) := by decide +kernel
theorem dX2_digest_24 : decode cX2_digest 24 = .ok (.invokevirtual 163, 3) := by decide +kernel
theorem dX2_digest_27 : decode cX2_digest 27 = .ok (.invokestatic 159, 3) := by decide +kernel
theorem dX2_digest_30 : decode cX2_digest 30 = .ok (.lstore_n 1, 1) := by decide +kernel
theorem dX2_digest_31 : decode cX2_digest 31 = .ok (.lload_n 1, 1) := by decide +kernel
theorem dX2_digest_32 : decode cX2_digest 32 = .ok (.aload_n 0, 1) := by decide +kernel
theorem dX2_digest_33 : decode cX2_digest 33 = .ok (.invokevirtual 166, 3) := by decide +kernel
theorem dX2_digest_36 : decode cX2_digest 36 = .ok (.invokestatic 159, 3) := by decide +kernel
theorem dX2_digest_39 : decode cX2_digest 39 = .ok (.lstore_n 1, 1) := by decide +kernel
theorem dX2_digest_40 : decode cX2_digest 40 = .ok (.lload_n 1, 1) := by decide +kernel
theorem dX2_digest_41 : decode cX2_digest 41 = .ok (.aload_n 0, 1) := by decide +kernel
theorem dX2_digest_42 : decode cX2_digest 42 = .ok (.invokevirtual 169, 3) := by decide +kernel
theorem dX2_digest_45 : decode cX2_digest 45 = .ok (.invokestatic 159, 3) := by decide +kernel
theorem dX2_digest_48 : decode cX2_digest 48 = .ok (.lstore_n 1, 1) := by decide +kernel
theorem dX2_digest_49 : decode cX2_digest 49 = .ok (.lload_n 1, 1) := by decide +kernel
theorem dX2_digest_50 : decode cX2_digest 50 = .ok (.aload_n 0, 1) := by decide +kernel
theorem dX2_digest_51 : decode cX2_digest 51 = .ok (.invokevirtual 171, 3) := by decide +kernel
theorem dX2_digest_54 : decode cX2_digest 54 = .ok (.invokestatic 159, 3) := by decide +kernel
theorem dX2_digest_57 : decode cX2_digest 57 = .ok (.lstore_n 1, 1) := by decide +kernel
theorem dX2_digest_58 : decode cX2_digest 58 = .ok (.lload_n 1, 1) := by decide +kernel
theorem dX2_digest_59 : decode cX2_digest 59 = .ok (.aload_n 0, 1) := by decide +kernel
theorem dX2_digest_60 : decode cX2_digest 60 = .ok (.invokevirtual 173, 3) := by decide +kernel
theorem dX2_digest_63 : decode cX2_digest 63 = .ok (.invokestatic 159, 3) := by decide +kernel
theorem dX2_digest_66 : decode cX2_digest 66 = .ok (.lstore_n 1, 1) := by decide +kernel
theorem dX2_digest_67 : decode cX2_digest 67 = .ok (.lload_n 1, 1) := by decide +kernel
theorem dX2_digest_68 : decode cX2_digest 68 = .ok (.aload_n 0, 1) := by decide +kernel
theorem dX2_digest_69 : decode cX2_digest 69 = .ok (.invokevirtual 175, 3) := by decide +kernel
theorem dX2_digest_72 : decode cX2_digest 72 = .ok (.invokestatic 159, 3) := by decide +kernel
theorem dX2_digest_75 : decode cX2_digest 75 = .ok (.lstore_n 1, 1) := by decide +kernel
theorem dX2_digest_76 : decode cX2_digest 76 = .ok (.lload_n 1, 1) := by decide +kernel
theorem dX2_digest_77 : decode cX2_digest 77 = .ok (.aload_n 0, 1) := by decide +kernel
theorem dX2_digest_78 : decode cX2_digest 78 = .ok (.invokevirtual 177, 3) := by decide +kernel
theorem dX2_digest_81 : decode cX2_digest 81 = .ok (.invokestatic 159, 3) := by decide +kernel
theorem dX2_digest_84 : decode cX2_digest 84 = .ok (.lstore_n 1, 1) := by decide +kernel
theorem dX2_digest_85 : decode cX2_digest 85 = .ok (.lload_n 1, 1) := by decide +kernel
theorem dX2_digest_86 : decode cX2_digest 86 = .ok (.aload_n 0, 1) := by decide +kernel
theorem dX2_digest_87 : decode cX2_digest 87 = .ok (.invokevirtual 179, 3) := by decide +kernel
theorem dX2_digest_90 : decode cX2_digest 90 = .ok (.invokestatic 159, 3) := by decide +kernel
theorem dX2_digest_93 : decode cX2_digest 93 = .ok (.lstore_n 1, 1) := by decide +kernel
theorem dX2_digest_94 : decode cX2_digest 94 = .ok (.lload_n 1, 1) := by decide +kernel
theorem dX2_digest_95 : decode cX2_digest 95 = .ok (.aload_n 0, 1) := by decide +kernel
theorem dX2_digest_96 : decode cX2_digest 96 = .ok (.invokevirtual 182, 3) := by decide +kernel
theorem dX2_digest_99 : decode cX2_digest 99 = .ok (.invokestatic 159, 3) := by decide +kernel
theorem dX2_digest_102 : decode cX2_digest 102 = .ok (.lstore_n 1, 1) := by decide +kernel
theorem dX2_digest_103 : decode cX2_digest 103 = .ok (.lload_n 1, 1) := by decide +kernel
theorem dX2_digest_104 : decode cX2_digest 104 = .ok (.aload_n 0, 1) := by decide +kernel
theorem dX2_digest_105 : decode cX2_digest 105 = .ok (.invokevirtual 185, 3) := by decide +kernel
theorem dX2_digest_108 : decode cX2_digest 108 = .ok (.invokestatic 159, 3) := by decide +kernel
theorem dX2_digest_111 : decode cX2_digest 111 = .ok (.lstore_n 1, 1) := by decide +kernel
theorem dX2_digest_112 : decode cX2_digest 112 = .ok (.iconst 0, 1) := by decide +kernel
theorem dX2_digest_113 : decode cX2_digest 113 = .ok (.istore_n 3, 1) := by decide +kernel
theorem dX2_digest_114 : decode cX2_digest 114 = .ok (.iload_n 3, 1) := by decide +kernel
theorem dX2_digest_115 : decode cX2_digest 115 = .ok (.aload_n 0, 1) := by decide +kernel
theorem dX2_digest_116 : decode cX2_digest 116 = .ok (.getfield 10, 3) := by decide +kernel
theorem dX2_digest_119 : decode cX2_digest 119 = .ok (.getfield 105, 3) := by decide +kernel
theorem dX2_digest_122 : decode cX2_digest 122 = .ok (.if_icmp .ge 36, 3) := by decide +kernel
theorem dX2_digest_125 : decode cX2_digest 125 = .ok (.aload_n 0, 1) := by decide +kernel
theorem dX2_digest_126 : decode cX2_digest 126 = .ok (.getfield 10, 3) := by decide +kernel
theorem dX2_digest_129 : decode cX2_digest 129 = .ok (.iload_n 3, 1) := by decide +kernel
theorem dX2_digest_130 : decode cX2_digest 130 = .ok (.invokevirtual 43, 3) := by decide +kernel
theorem dX2_digest_133 : decode cX2_digest 133 = .ok (.astore 4, 2) := by decide +kernel
theorem dX2_digest_135 : decode cX2_digest 135 = .ok (.aload 4, 2) := by decide +kernel
theorem dX2_digest_137 : decode cX2_digest 137 = .ok (.ifnonnull 7, 3) := by decide +kernel
theorem dX2_digest_140 : decode cX2_digest 140 = .ok (.lload_n 1, 1) := by decide +kernel
theorem dX2_digest_141 : decode cX2_digest 141 = .ok (.goto 10, 3) := by decide +kernel
theorem dX2_digest_144 : decode cX2_digest 144 = .ok (.aload_n 0, 1) := by decide +kernel
theorem dX2_digest_145 : decode cX2_digest 145 = .ok (.lload_n 1, 1) := by decide +kernel
theorem dX2_digest_146 : decode cX2_digest 146 = .ok (.aload 4, 2) := by decide +kernel
theorem dX2_digest_148 : decode cX2_digest 148 = .ok (.invokevirtual 188, 3) := by decide +kernel
theorem dX2_digest_151 : decode cX2_digest 151 = .ok (.lstore_n 1, 1) := by decide +kernel
theorem dX2_digest_152 : decode cX2_digest 152 = .ok (.iinc 3 1, 3) := by decide +kernel
theorem dX2_digest_155 : decode cX2_digest 155 = .ok (.goto (-41), 3) := by decide +kernel
theorem dX2_digest_158 : decode cX2_digest 158 = .ok (.lload_n 1, 1) := by decide +kernel
theorem dX2_digest_159 : decode cX2_digest 159 = .ok (.lreturn, 1) := by decide +kernel
theorem dX2_chainWalker_0 : decode cX2_chainWalker 0 = .ok (.lload_n 1, 1) := by decide +kernel
theorem dX2_chainWalker_1 : decode cX2_chainWalker 1 = .ok (.aload_n 3, 1) := by decide +kernel
theorem dX2_chainWalker_2 : decode cX2_chainWalker 2 = .ok (.getfield 52, 3) := by decide +kernel
theorem dX2_chainWalker_5 : decode cX2_chainWalker 5 = .ok (.ifCond .eq 7, 3) := by decide +kernel
theorem dX2_chainWalker_8 : decode cX2_chainWalker 8 = .ok (.iconst 1, 1) := by decide +kernel
theorem dX2_chainWalker_9 : decode cX2_chainWalker 9 = .ok (.goto 4, 3) := by decide +kernel
theorem dX2_chainWalker_12 : decode cX2_chainWalker 12 = .ok (.iconst 0, 1) := by decide +kernel
theorem dX2_chainWalker_13 : decode cX2_chainWalker 13 = .ok (.invokestatic 159, 3) := by decide +kernel
theorem dX2_chainWalker_16 : decode cX2_chainWalker 16 = .ok (.lstore 4, 2) := by decide +kernel
theorem dX2_chainWalker_18 : decode cX2_chainWalker 18 = .ok (.lload 4, 2) := by decide +kernel
theorem dX2_chainWalker_20 : decode cX2_chainWalker 20 = .ok (.aload_n 3, 1) := by decide +kernel
theorem dX2_chainWalker_21 : decode cX2_chainWalker 21 = .ok (.getfield 58, 3) := by decide +kernel
theorem dX2_chainWalker_24 : decode cX2_chainWalker 24 = .ok (.invokestatic 159, 3) := by decide +kernel
theorem dX2_chainWalker_27 : decode cX2_chainWalker 27 = .ok (.lstore 4, 2) := by decide +kernel
theorem dX2_chainWalker_29 : decode cX2_chainWalker 29 = .ok (.lload 4, 2) := by decide +kernel
theorem dX2_chainWalker_31 : decode cX2_chainWalker 31 = .ok (.aload_n 3, 1) := by decide +kernel
theorem dX2_chainWalker_32 : decode cX2_chainWalker 32 = .ok (.getfield 62, 3) := by decide +kernel
theorem dX2_chainWalker_35 : decode cX2_chainWalker 35 = .ok (.invokestatic 159, 3) := by decide +kernel
theorem dX2_chainWalker_38 : decode cX2_chainWalker 38 = .ok (.lstore 4, 2) := by decide +kernel
theorem dX2_chainWalker_40 : decode cX2_chainWalker 40 = .ok (.lload 4, 2) := by decide +kernel
theorem dX2_chainWalker_42 : decode cX2_chainWalker 42 = .ok (.aload_n 3, 1) := by decide +kernel
theorem dX2_chainWalker_43 : decode cX2_chainWalker 43 = .ok (.getfield 112, 3) := by decide +kernel
theorem dX2_chainWalker_46 : decode cX2_chainWalker 46 = .ok (.invokestatic 159, 3) := by decide +kernel
theorem dX2_chainWalker_49 : decode cX2_chainWalker 49 = .ok (.lstore 4, 2) := by decide +kernel
theorem dX2_chainWalker_51 : decode cX2_chainWalker 51 = .ok (.lload 4, 2) := by decide +kernel
theorem dX2_chainWalker_53 : decode cX2_chainWalker 53 = .ok (.aload_n 3, 1) := by decide +kernel
theorem dX2_chainWalker_54 : decode cX2_chainWalker 54 = .ok (.aload_n 0, 1) := by decide +kernel
theorem dX2_chainWalker_55 : decode cX2_chainWalker 55 = .ok (.invokevirtual 115, 3) := by decide +kernel
theorem dX2_chainWalker_58 : decode cX2_chainWalker 58 = .ok (.invokevirtual 118, 3) := by decide +kernel
theorem dX2_chainWalker_61 : decode cX2_chainWalker 61 = .ok (.invokestatic 159, 3) := by decide +kernel
theorem dX2_chainWalker_64 : decode cX2_chainWalker 64 = .ok (.lstore 4, 2) := by decide +kernel
theorem dX2_chainWalker_66 : decode cX2_chainWalker 66 = .ok (.lload 4, 2) := by decide +kernel
theorem dX2_chainWalker_68 : decode cX2_chainWalker 68 = .ok (.aload_n 3, 1) := by decide +kernel
theorem dX2_chainWalker_69 : decode cX2_chainWalker 69 = .ok (.aload_n 0, 1) := by decide +kernel
theorem dX2_chainWalker_70 : decode cX2_chainWalker 70 = .ok (.invokevirtual 115, 3) := by decide +kernel
theorem dX2_chainWalker_73 : decode cX2_chainWalker 73 = .ok (.invokevirtual 121, 3) := by decide +kernel
theorem dX2_chainWalker_76 : decode cX2_chainWalker 76 = .ok (.invokestatic 159, 3) := by decide +kernel
theorem dX2_chainWalker_79 : decode cX2_chainWalker 79 = .ok (.lstore 4, 2) := by decide +kernel
theorem dX2_chainWalker_81 : decode cX2_chainWalker 81 = .ok (.aload_n 0, 1) := by decide +kernel
theorem dX2_chainWalker_82 : decode cX2_chainWalker 82 = .ok (.aload_n 3, 1) := by decide +kernel
theorem dX2_chainWalker_83 : decode cX2_chainWalker 83 = .ok (.invokevirtual 132, 3) := by decide +kernel
theorem dX2_chainWalker_86 : decode cX2_chainWalker 86 = .ok (.istore 6, 2) := by decide +kernel
theorem dX2_chainWalker_88 : decode cX2_chainWalker 88 = .ok (.aload_n 0, 1) := by decide +kernel
theorem dX2_chainWalker_89 : decode cX2_chainWalker 89 = .ok (.getfield 10, 3) := by decide +kernel
theorem dX2_chainWalker_92 : decode cX2_chainWalker 92 = .ok (.iload 6, 2) := by decide +kernel
theorem dX2_chainWalker_94 : decode cX2_chainWalker 94 = .ok (.invokevirtual 136, 3) := by decide +kernel
theorem dX2_chainWalker_97 : decode cX2_chainWalker 97 = .ok (.istore 7, 2) := by decide +kernel
theorem dX2_chainWalker_99 : decode cX2_chainWalker 99 = .ok (.lload 4, 2) := by decide +kernel
theorem dX2_chainWalker_101 : decode cX2_chainWalker 101 = .ok (.iload 6, 2) := by decide +kernel
theorem dX2_chainWalker_103 : decode cX2_chainWalker 103 = .ok (.iload 7, 2) := by decide +kernel
theorem dX2_chainWalker_105 : decode cX2_chainWalker 105 = .ok (.isub, 1) := by decide +kernel
theorem dX2_chainWalker_106 : decode cX2_chainWalker 106 = .ok (.invokestatic 159, 3) := by decide +kernel
theorem dX2_chainWalker_109 : decode cX2_chainWalker 109 = .ok (.lstore 4, 2) := by decide +kernel
theorem dX2_chainWalker_111 : decode cX2_chainWalker 111 = .ok (.lload 4, 2) := by decide +kernel
theorem dX2_chainWalker_113 : decode cX2_chainWalker 113 = .ok (.iload 7, 2) := by decide +kernel
theorem dX2_chainWalker_115 : decode cX2_chainWalker 115 = .ok (.invokestatic 159, 3) := by decide +kernel
theorem dX2_chainWalker_118 : decode cX2_chainWalker 118 = .ok (.lreturn, 1) := by decide +kernel
theorem dX2_chain_0 : decode cX2_chain 0 = .ok (.lload_n 0, 1) := by decide +kernel
theorem dX2_chain_1 : decode cX2_chain 1 = .ok (.ldc2_w 192, 3) := by decide +kernel
theorem dX2_chain_4 : decode cX2_chain 4 = .ok (.lmul, 1) := by decide +kernel
theorem dX2_chain_5 : decode cX2_chain 5 = .ok (.iload_n 2, 1) := by decide +kernel
theorem dX2_chain_6 : decode cX2_chain 6 = .ok (.i2l, 1) := by decide +kernel
theorem dX2_chain_7 : decode cX2_chain 7 = .ok (.ladd, 1) := by decide +kernel
theorem dX2_chain_8 : decode cX2_chain 8 = .ok (.lreturn, 1) := by decide +kernel
theorem dX2_claimNow_0 : decode cX2_claimNow 0 = .ok (.aload_n 1, 1) := by decide +kernel
theorem dX2_claimNow_1 : decode cX2_claimNow 1 = .ok (.aload_n 0, 1) := by decide +kernel
theorem dX2_claimNow_2 : decode cX2_claimNow 2 = .ok (.invokevirtual 115, 3) := by decide +kernel
theorem dX2_claimNow_5 : decode cX2_claimNow 5 = .ok (.invokevirtual 121, 3) := by decide +kernel
theorem dX2_claimNow_8 : decode cX2_claimNow 8 = .ok (.istore_n 2, 1) := by decide +kernel
theorem dX2_claimNow_9 : decode cX2_claimNow 9 = .ok (.iload_n 2, 1) := by decide +kernel
theorem dX2_claimNow_10 : decode cX2_claimNow 10 = .ok (.aload_n 1, 1) := by decide +kernel
theorem dX2_claimNow_11 : decode cX2_claimNow 11 = .ok (.iload_n 2, 1) := by decide +kernel
theorem dX2_claimNow_12 : decode cX2_claimNow 12 = .ok (.aload_n 0, 1) := by decide +kernel
theorem dX2_claimNow_13 : decode cX2_claimNow 13 = .ok (.invokevirtual 124, 3) := by decide +kernel
theorem dX2_claimNow_16 : decode cX2_claimNow 16 = .ok (.invokevirtual 128, 3) := by decide +kernel
theorem dX2_claimNow_19 : decode cX2_claimNow 19 = .ok (.isub, 1) := by decide +kernel
theorem dX2_claimNow_20 : decode cX2_claimNow 20 = .ok (.ireturn, 1) := by decide +kernel
theorem dX2_fundBehind_0 : decode cX2_fundBehind 0 = .ok (.aload_n 0, 1) := by decide +kernel
theorem dX2_fundBehind_1 : decode cX2_fundBehind 1 = .ok (.getfield 16, 3) := by decide +kernel
theorem dX2_fundBehind_4 : decode cX2_fundBehind 4 = .ok (.aload_n 0, 1) := by decide +kernel
theorem dX2_fundBehind_5 : decode cX2_fundBehind 5 = .ok (.getfield 10, 3) := by decide +kernel
theorem dX2_fundBehind_8 : decode cX2_fundBehind 8 = .ok (.invokevirtual 151, 3) := by decide +kernel
theorem dX2_fundBehind_11 : decode cX2_fundBehind 11 = .ok (.aload_n 0, 1) := by decide +kernel
theorem dX2_fundBehind_12 : decode cX2_fundBehind 12 = .ok (.getfield 16, 3) := by decide +kernel
theorem dX2_fundBehind_15 : decode cX2_fundBehind 15 = .ok (.iload_n 2, 1) := by decide +kernel
theorem dX2_fundBehind_16 : decode cX2_fundBehind 16 = .ok (.putfield 67, 3) := by decide +kernel
theorem dX2_fundBehind_19 : decode cX2_fundBehind 19 = .ok (.aload_n 0, 1) := by decide +kernel
theorem dX2_fundBehind_20 : decode cX2_fundBehind 20 = .ok (.getfield 16, 3) := by decide +kernel
theorem dX2_fundBehind_23 : decode cX2_fundBehind 23 = .ok (.iload_n 3, 1) := by decide +kernel
theorem dX2_fundBehind_24 : decode cX2_fundBehind 24 = .ok (.putfield 74, 3) := by decide +kernel
theorem dX2_fundBehind_27 : decode cX2_fundBehind 27 = .ok (.aload_n 0, 1) := by decide +kernel
theorem dX2_fundBehind_28 : decode cX2_fundBehind 28 = .ok (.getfield 16, 3) := by decide +kernel
theorem dX2_fundBehind_31 : decode cX2_fundBehind 31 = .ok (.iload_n 1, 1) := by decide +kernel
theorem dX2_fundBehind_32 : decode cX2_fundBehind 32 = .ok (.invokevirtual 82, 3) := by decide +kernel
theorem dX2_fundBehind_35 : decode cX2_fundBehind 35 = .ok (.pop, 1) := by decide +kernel
theorem dX2_fundBehind_36 : decode cX2_fundBehind 36 = .ok (.aload_n 0, 1) := by decide +kernel
theorem dX2_fundBehind_37 : decode cX2_fundBehind 37 = .ok (.getfield 16, 3) := by decide +kernel
theorem dX2_fundBehind_40 : decode cX2_fundBehind 40 = .ok (.getfield 139, 3) := by decide +kernel
theorem dX2_fundBehind_43 : decode cX2_fundBehind 43 = .ok (.ireturn, 1) := by decide +kernel
theorem dX2_within_0 : decode cX2_within 0 = .ok (.iload_n 0, 1) := by decide +kernel
theorem dX2_within_1 : decode cX2_within 1 = .ok (.iload_n 1, 1) := by decide +kernel
theorem dX2_within_2 : decode cX2_within 2 = .ok (.if_icmp .lt 12, 3) := by decide +kernel
theorem dX2_within_5 : decode cX2_within 5 = .ok (.iload_n 0, 1) := by decide +kernel
theorem dX2_within_6 : decode cX2_within 6 = .ok (.iload_n 2, 1) := by decide +kernel
theorem dX2_within_7 : decode cX2_within 7 = .ok (.if_icmp .gt 7, 3) := by decide +kernel
theorem dX2_within_10 : decode cX2_within 10 = .ok (.iconst 1, 1) := by decide +kernel
theorem dX2_within_11 : decode cX2_within 11 = .ok (.goto 4, 3) := by decide +kernel
theorem dX2_within_14 : decode cX2_within 14 = .ok (.iconst 0, 1) := by decide +kernel
theorem dX2_within_15 : decode cX2_within 15 = .ok (.ireturn, 1) := by decide +kernel
theorem dX2_hourOfDay_0 : decode cX2_hourOfDay 0 = .ok (.iload_n 0, 1) := by decide +kernel
theorem dX2_hourOfDay_1 : decode cX2_hourOfDay 1 = .ok (.bipush 12, 2) := by decide +kernel
theorem dX2_hourOfDay_3 : decode cX2_hourOfDay 3 = .ok (.invokestatic 99, 3) := by decide +kernel
theorem dX2_hourOfDay_6 : decode cX2_hourOfDay 6 = .ok (.ireturn, 1) := by decide +kernel
theorem dX2_sunAt_0 : decode cX2_sunAt 0 = .ok (.iload_n 0, 1) := by decide +kernel
theorem dX2_sunAt_1 : decode cX2_sunAt 1 = .ok (.iconst 5, 1) := by decide +kernel
theorem dX2_sunAt_2 : decode cX2_sunAt 2 = .ok (.if_icmp .gt 9, 3) := by decide +kernel
theorem dX2_sunAt_5 : decode cX2_sunAt 5 = .ok (.iload_n 0, 1) := by decide +kernel
theorem dX2_sunAt_6 : decode cX2_sunAt 6 = .ok (.iconst 1, 1) := by decide +kernel
theorem dX2_sunAt_7 : decode cX2_sunAt 7 = .ok (.iadd, 1) := by decide +kernel
theorem dX2_sunAt_8 : decode cX2_sunAt 8 = .ok (.goto 7, 3) := by decide +kernel
theorem dX2_sunAt_11 : decode cX2_sunAt 11 = .ok (.bipush 12, 2) := by decide +kernel
theorem dX2_sunAt_13 : decode cX2_sunAt 13 = .ok (.iload_n 0, 1) := by decide +kernel
theorem dX2_sunAt_14 : decode cX2_sunAt 14 = .ok (.isub, 1) := by decide +kernel
theorem dX2_sunAt_15 : decode cX2_sunAt 15 = .ok (.ireturn, 1) := by decide +kernel
theorem dX2_noonAt_0 : decode cX2_noonAt 0 = .ok (.iload_n 0, 1) := by decide +kernel
theorem dX2_noonAt_1 : decode cX2_noonAt 1 = .ok (.iconst 5, 1) := by decide +kernel
theorem dX2_noonAt_2 : decode cX2_noonAt 2 = .ok (.if_icmp .lt 13, 3) := by decide +kernel
theorem dX2_noonAt_5 : decode cX2_noonAt 5 = .ok (.iload_n 0, 1) := by decide +kernel
theorem dX2_noonAt_6 : decode cX2_noonAt 6 = .ok (.bipush 6, 2) := by decide +kernel
theorem dX2_noonAt_8 : decode cX2_noonAt 8 = .ok (.if_icmp .gt 7, 3) := by decide +kernel
theorem dX2_noonAt_11 : decode cX2_noonAt 11 = .ok (.iconst 1, 1) := by decide +kernel
theorem dX2_noonAt_12 : decode cX2_noonAt 12 = .ok (.goto 4, 3) := by decide +kernel
theorem dX2_noonAt_15 : decode cX2_noonAt 15 = .ok (.iconst 0, 1) := by decide +kernel
theorem dX2_noonAt_16 : decode cX2_noonAt 16 = .ok (.ireturn, 1) := by decide +kernel
theorem dJ9_floorMod_7cf53_0 : decode cJ9_floorMod_7cf53 0 = .ok (.iload_n 0, 1) := by decide +kernel
theorem dJ9_floorMod_7cf53_1 : decode cJ9_floorMod_7cf53 1 = .ok (.iload_n 1, 1) := by decide +kernel
theorem dJ9_floorMod_7cf53_2 : decode cJ9_floorMod_7cf53 2 = .ok (.irem, 1) := by decide +kernel
theorem dJ9_floorMod_7cf53_3 : decode cJ9_floorMod_7cf53 3 = .ok (.istore_n 2, 1) := by decide +kernel
theorem dJ9_floorMod_7cf53_4 : decode cJ9_floorMod_7cf53 4 = .ok (.iload_n 0, 1) := by decide +kernel
theorem dJ9_floorMod_7cf53_5 : decode cJ9_floorMod_7cf53 5 = .ok (.iload_n 1, 1) := by decide +kernel
theorem dJ9_floorMod_7cf53_6 : decode cJ9_floorMod_7cf53 6 = .ok (.ixor, 1) := by decide +kernel
theorem dJ9_floorMod_7cf53_7 : decode cJ9_floorMod_7cf53 7 = .ok (.ifCond .ge 11, 3) := by decide +kernel
theorem dJ9_floorMod_7cf53_10 : decode cJ9_floorMod_7cf53 10 = .ok (.iload_n 2, 1) := by decide +kernel
theorem dJ9_floorMod_7cf53_11 : decode cJ9_floorMod_7cf53 11 = .ok (.ifCond .eq 7, 3) := by decide +kernel
theorem dJ9_floorMod_7cf53_14 : decode cJ9_floorMod_7cf53 14 = .ok (.iload_n 2, 1) := by decide +kernel
theorem dJ9_floorMod_7cf53_15 : decode cJ9_floorMod_7cf53 15 = .ok (.iload_n 1, 1) := by decide +kernel
theorem dJ9_floorMod_7cf53_16 : decode cJ9_floorMod_7cf53 16 = .ok (.iadd, 1) := by decide +kernel
theorem dJ9_floorMod_7cf53_17 : decode cJ9_floorMod_7cf53 17 = .ok (.ireturn, 1) := by decide +kernel
theorem dJ9_floorMod_7cf53_18 : decode cJ9_floorMod_7cf53 18 = .ok (.iload_n 2, 1) := by decide +kernel
theorem dJ9_floorMod_7cf53_19 : decode cJ9_floorMod_7cf53 19 = .ok (.ireturn, 1) := by decide +kernel
theorem dJ9_abs_0f7a4_0 : decode cJ9_abs_0f7a4 0 = .ok (.iload_n 0, 1) := by decide +kernel
theorem dJ9_abs_0f7a4_1 : decode cJ9_abs_0f7a4 1 = .ok (.ifCond .ge 8, 3) := by decide +kernel
theorem dJ9_abs_0f7a4_4 : decode cJ9_abs_0f7a4 4 = .ok (.iload_n 0, 1) := by decide +kernel
theorem dJ9_abs_0f7a4_5 : decode cJ9_abs_0f7a4 5 = .ok (.ineg, 1) := by decide +kernel
theorem dJ9_abs_0f7a4_6 : decode cJ9_abs_0f7a4 6 = .ok (.goto 4, 3) := by decide +kernel
theorem dJ9_abs_0f7a4_9 : decode cJ9_abs_0f7a4 9 = .ok (.iload_n 0, 1) := by decide +kernel
theorem dJ9_abs_0f7a4_10 : decode cJ9_abs_0f7a4 10 = .ok (.ireturn, 1) := by decide +kernel
theorem dJ9_max_7cf53_0 : decode cJ9_max_7cf53 0 = .ok (.iload_n 0, 1) := by decide +kernel
theorem dJ9_max_7cf53_1 : decode cJ9_max_7cf53 1 = .ok (.iload_n 1, 1) := by decide +kernel
theorem dJ9_max_7cf53_2 : decode cJ9_max_7cf53 2 = .ok (.if_icmp .lt 7, 3) := by decide +kernel
theorem dJ9_max_7cf53_5 : decode cJ9_max_7cf53 5 = .ok (.iload_n 0, 1) := by decide +kernel
theorem dJ9_max_7cf53_6 : decode cJ9_max_7cf53 6 = .ok (.goto 4, 3) := by decide +kernel
theorem dJ9_max_7cf53_9 : decode cJ9_max_7cf53 9 = .ok (.iload_n 1, 1) := by decide +kernel
theorem dJ9_max_7cf53_10 : decode cJ9_max_7cf53 10 = .ok (.ireturn, 1) := by decide +kernel
theorem dJ9_min_7cf53_0 : decode cJ9_min_7cf53 0 = .ok (.iload_n 0, 1) := by decide +kernel
theorem dJ9_min_7cf53_1 : decode cJ9_min_7cf53 1 = .ok (.iload_n 1, 1) := by decide +kernel
theorem dJ9_min_7cf53_2 : decode cJ9_min_7cf53 2 = .ok (.if_icmp .gt 7, 3) := by decide +kernel
theorem dJ9_min_7cf53_5 : decode cJ9_min_7cf53 5 = .ok (.iload_n 0, 1) := by decide +kernel
theorem dJ9_min_7cf53_6 : decode cJ9_min_7cf53 6 = .ok (.goto 4, 3) := by decide +kernel
theorem dJ9_min_7cf53_9 : decode cJ9_min_7cf53 9 = .ok (.iload_n 1, 1) := by decide +kernel
theorem dJ9_min_7cf53_10 : decode cJ9_min_7cf53 10 = .ok (.ireturn, 1) := by decide +kernel
end
section
theorem dX3_init_0 : decode cX3_init 0 = .ok (.aload_n 0, 1) := by decide +kernel
theorem dX3_init_1 : decode cX3_init 1 = .ok (.invokespecial 1, 3) := by decide +kernel
theorem dX3_init_4 : decode cX3_init 4 = .ok (.aload_n 0, 1) := by decide +kernel
theorem dX3_init_5 : decode cX3_init 5 = .ok (.bipush 100, 2) := by decide +kernel
theorem dX3_init_7 : decode cX3_init 7 = .ok (.putfield 7, 3) := by decide +kernel
theorem dX3_init_10 : decode cX3_init 10 = .ok (.aload_n 0, 1) := by decide +kernel
theorem dX3_init_11 : decode cX3_init 11 = .ok (.iconst 2, 1) := by decide +kernel
theorem dX3_init_12 : decode cX3_init 12 = .ok (.putfield 13, 3) := by decide +kernel
theorem dX3_init_15 : decode cX3_init 15 = .ok (.aload_n 0, 1) := by decide +kernel
theorem dX3_init_16 : decode cX3_init 16 = .ok (.bipush 30, 2) := by decide +kernel
theorem dX3_init_18 : decode cX3_init 18 = .ok (.putfield 16, 3) := by decide +kernel
theorem dX3_init_21 : decode cX3_init 21 = .ok (.aload_n 0, 1) := by decide +kernel
theorem dX3_init_22 : decode cX3_init 22 = .ok (.iconst 0, 1) := by decide +kernel
theorem dX3_init_23 : decode cX3_init 23 = .ok (.anewarray 19, 3) := by decide +kernel
theorem dX3_init_26 : decode cX3_init 26 = .ok (.putfield 21, 3) := by decide +kernel
theorem dX3_init_29 : decode cX3_init 29 = .ok (.return_, 1) := by decide +kernel
theorem dX3_add_0 : decode cX3_add 0 = .ok (.aload_n 0, 1) := by decide +kernel
theorem dX3_add_1 : decode cX3_add 1 = .ok (.getfield 21, 3) := by decide +kernel
theorem dX3_add_4 : decode cX3_add 4 = .ok (.arraylength, 1) := by decide +kernel
theorem dX3_add_5 : decode cX3_add 5 = .ok (.iconst 1, 1) := by decide +kernel
theorem dX3_add_6 : decode cX3_add 6 = .ok (.iadd, 1) := by decide +kernel
theorem dX3_add_7 : decode cX3_add 7 = .ok (.anewarray 19, 3) := by decide +kernel
theorem dX3_add_10 : decode cX3_add 10 = .ok (.astore 4, 2) := by decide +kernel
theorem dX3_add_12 : decode cX3_add 12 = .ok (.iconst 0, 1) := by decide +kernel
theorem dX3_add_13 : decode cX3_add 13 = .ok (.istore 5, 2) := by decide +kernel
theorem dX3_add_15 : decode cX3_add 15 = .ok (.iload 5, 2) := by decide +kernel
theorem dX3_add_17 : decode cX3_add 17 = .ok (.aload_n 0, 1) := by decide +kernel
theorem dX3_add_18 : decode cX3_add 18 = .ok (.getfield 21, 3) := by decide +kernel
theorem dX3_add_21 : decode cX3_add 21 = .ok (.arraylength, 1) := by decide +kernel
theorem dX3_add_22 : decode cX3_add 22 = .ok (.if_icmp .ge 21, 3) := by decide +kernel
theorem dX3_add_25 : decode cX3_add 25 = .ok (.aload 4, 2) := by decide +kernel
theorem dX3_add_27 : decode cX3_add 27 = .ok (.iload 5, 2) := by decide +kernel
theorem dX3_add_29 : decode cX3_add 29 = .ok (.aload_n 0, 1) := by decide +kernel
theorem dX3_add_30 : decode cX3_add 30 = .ok (.getfield 21, 3) := by decide +kernel
theorem dX3_add_33 : decode cX3_add 33 = .ok (.iload 5, 2) := by decide +kernel
theorem dX3_add_35 : decode cX3_add 35 = .ok (.aaload, 1) := by decide +kernel
theorem dX3_add_36 : decode cX3_add 36 = .ok (.aastore, 1) := by decide +kernel
theorem dX3_add_37 : decode cX3_add 37 = .ok (.iinc 5 1, 3) := by decide +kernel
theorem dX3_add_40 : decode cX3_add 40 = .ok (.goto (-25), 3) := by decide +kernel
theorem dX3_add_43 : decode cX3_add 43 = .ok (.aload 4, 2) := by decide +kernel
theorem dX3_add_45 : decode cX3_add 45 = .ok (.aload_n 0, 1) := by decide +kernel
theorem dX3_add_46 : decode cX3_add 46 = .ok (.getfield 21, 3) := by decide +kernel
theorem dX3_add_49 : decode cX3_add 49 = .ok (.arraylength, 1) := by decide +kernel
theorem dX3_add_50 : decode cX3_add 50 = .ok (.bipush 6, 2) := by decide +kernel
theorem dX3_add_52 : decode cX3_add 52 = .ok (.newarray .int, 2) := by decide +kernel
theorem dX3_add_54 : decode cX3_add 54 = .ok (.dup, 1) := by decide +kernel
theorem dX3_add_55 : decode cX3_add 55 = .ok (.iconst 0, 1) := by decide +kernel
theorem dX3_add_56 : decode cX3_add 56 = .ok (.iload_n 1, 1) := by decide +kernel
theorem dX3_add_57 : decode cX3_add 57 = .ok (.iastore, 1) := by decide +kernel
theorem dX3_add_58 : decode cX3_add 58 = .ok (.dup, 1) := by decide +kernel
theorem dX3_add_59 : decode cX3_add 59 = .ok (.iconst 1, 1) := by decide +kernel
theorem dX3_add_60 : decode cX3_add 60 = .ok (.iload_n 2, 1) := by decide +kernel
theorem dX3_add_61 : decode cX3_add 61 = .ok (.iastore, 1) := by decide +kernel
theorem dX3_add_62 : decode cX3_add 62 = .ok (.dup, 1) := by decide +kernel
theorem dX3_add_63 : decode cX3_add 63 = .ok (.iconst 2, 1) := by decide +kernel
theorem dX3_add_64 : decode cX3_add 64 = .ok (.iload_n 3, 1) := by decide +kernel
theorem dX3_add_65 : decode cX3_add 65 = .ok (.iastore, 1) := by decide +kernel
theorem dX3_add_66 : decode cX3_add 66 = .ok (.dup, 1) := by decide +kernel
theorem dX3_add_67 : decode cX3_add 67 = .ok (.iconst 3, 1) := by decide +kernel
theorem dX3_add_68 : decode cX3_add 68 = .ok (.iconst 0, 1) := by decide +kernel
theorem dX3_add_69 : decode cX3_add 69 = .ok (.iastore, 1) := by decide +kernel
theorem dX3_add_70 : decode cX3_add 70 = .ok (.dup, 1) := by decide +kernel
theorem dX3_add_71 : decode cX3_add 71 = .ok (.iconst 4, 1) := by decide +kernel
theorem dX3_add_72 : decode cX3_add 72 = .ok (.iconst 1, 1) := by decide +kernel
theorem dX3_add_73 : decode cX3_add 73 = .ok (.iastore, 1) := by decide +kernel
theorem dX3_add_74 : decode cX3_add 74 = .ok (.dup, 1) := by decide +kernel
theorem dX3_add_75 : decode cX3_add 75 = .ok (.iconst 5, 1) := by decide +kernel
theorem dX3_add_76 : decode cX3_add 76 = .ok (.iconst 0, 1) := by decide +kernel
theorem dX3_add_77 : decode cX3_add 77 = .ok (.iastore, 1) := by decide +kernel
theorem dX3_add_78 : decode cX3_add 78 = .ok (.aastore, 1) := by decide +kernel
theorem dX3_add_79 : decode cX3_add 79 = .ok (.aload_n 0, 1) := by decide +kernel
theorem dX3_add_80 : decode cX3_add 80 = .ok (.aload 4, 2) := by decide +kernel
theorem dX3_add_82 : decode cX3_add 82 = .ok (.putfield 21, 3) := by decide +kernel
theorem dX3_add_85 : decode cX3_add 85 = .ok (.return_, 1) := by decide +kernel
theorem dX3_copy_0 : decode cX3_copy 0 = .ok (.new 8, 3) := by decide +kernel
theorem dX3_copy_3 : decode cX3_copy 3 = .ok (.dup, 1) := by decide +kernel
theorem dX3_copy_4 : decode cX3_copy 4 = .ok (.invokespecial 25, 3) := by decide +kernel
theorem dX3_copy_7 : decode cX3_copy 7 = .ok (.astore_n 1, 1) := by decide +kernel
theorem dX3_copy_8 : decode cX3_copy 8 = .ok (.aload_n 1, 1) := by decide +kernel
theorem dX3_copy_9 : decode cX3_copy 9 = .ok (.aload_n 0, 1) := by decide +kernel
theorem dX3_copy_10 : decode cX3_copy 10 = .ok (.getfield 26, 3) := by decide +kernel
theorem dX3_copy_13 : decode cX3_copy 13 = .ok (.putfield 26, 3) := by decide +kernel
theorem dX3_copy_16 : decode cX3_copy 16 = .ok (.aload_n 1, 1) := by decide +kernel
theorem dX3_copy_17 : decode cX3_copy 17 = .ok (.aload_n 0, 1) := by decide +kernel
theorem dX3_copy_18 : decode cX3_copy 18 = .ok (.getfield 7, 3) := by decide +kernel
theorem dX3_copy_21 : decode cX3_copy 21 = .ok (.putfield 7, 3) := by decide +kernel
theorem dX3_copy_24 : decode cX3_copy 24 = .ok (.aload_n 1, 1) := by decide +kernel
theorem dX3_copy_25 : decode cX3_copy 25 = .ok (.aload_n 0, 1) := by decide +kernel
theorem dX3_copy_26 : decode cX3_copy 26 = .ok (.getfield 13, 3) := by decide +kernel
theorem dX3_copy_29 : decode cX3_copy 29 = .ok (.putfield 13, 3) := by decide +kernel
theorem dX3_copy_32 : decode cX3_copy 32 = .ok (.aload_n 1, 1) := by decide +kernel
theorem dX3_copy_33 : decode cX3_copy 33 = .ok (.aload_n 0, 1) := by decide +kernel
theorem dX3_copy_34 : decode cX3_copy 34 = .ok (.getfield 16, 3) := by decide +kernel
theorem dX3_copy_37 : decode cX3_copy 37 = .ok (.putfield 16, 3) := by decide +kernel
theorem dX3_copy_40 : decode cX3_copy 40 = .ok (.aload_n 1, 1) := by decide +kernel
theorem dX3_copy_41 : decode cX3_copy 41 = .ok (.aload_n 0, 1) := by decide +kernel
theorem dX3_copy_42 : decode cX3_copy 42 = .ok (.getfield 29, 3) := by decide +kernel
theorem dX3_copy_45 : decode cX3_copy 45 = .ok (.putfield 29, 3) := by decide +kernel
theorem dX3_copy_48 : decode cX3_copy 48 = .ok (.aload_n 1, 1) := by decide +kernel
theorem dX3_copy_49 : decode cX3_copy 49 = .ok (.aload_n 0, 1) := by decide +kernel
theorem dX3_copy_50 : decode cX3_copy 50 = .ok (.getfield 32, 3) := by decide +kernel
theorem dX3_copy_53 : decode cX3_copy 53 = .ok (.putfield 32, 3) := by decide +kernel
theorem dX3_copy_56 : decode cX3_copy 56 = .ok (.aload_n 1, 1) := by decide +kernel
theorem dX3_copy_57 : decode cX3_copy 57 = .ok (.aload_n 0, 1) := by decide +kernel
theorem dX3_copy_58 : decode cX3_copy 58 = .ok (.getfield 21, 3) := by decide +kernel
theorem dX3_copy_61 : decode cX3_copy 61 = .ok (.arraylength, 1) := by decide +kernel
theorem dX3_copy_62 : decode cX3_copy 62 = .ok (.anewarray 19, 3) := by decide +kernel
theorem dX3_copy_65 : decode cX3_copy 65 = .ok (.putfield 21, 3) := by decide +kernel
theorem dX3_copy_68 : decode cX3_copy 68 = .ok (.iconst 0, 1) := by decide +kernel
theorem dX3_copy_69 : decode cX3_copy 69 = .ok (.istore_n 2, 1) := by decide +kernel
theorem dX3_copy_70 : decode cX3_copy 70 = .ok (.iload_n 2, 1) := by decide +kernel
theorem dX3_copy_71 : decode cX3_copy 71 = .ok (.aload_n 0, 1) := by decide +kernel
theorem dX3_copy_72 : decode cX3_copy 72 = .ok (.getfield 21, 3) := by decide +kernel
theorem dX3_copy_75 : decode cX3_copy 75 = .ok (.arraylength, 1) := by decide +kernel
theorem dX3_copy_76 : decode cX3_copy 76 = .ok (.if_icmp .ge 27, 3) := by decide +kernel
theorem dX3_copy_79 : decode cX3_copy 79 = .ok (.aload_n 1, 1) := by decide +kernel
theorem dX3_copy_80 : decode cX3_copy 80 = .ok (.getfield 21, 3) := by decide +kernel
theorem dX3_copy_83 : decode cX3_copy 83 = .ok (.iload_n 2, 1) := by decide +kernel
theorem dX3_copy_84 : decode cX3_copy 84 = .ok (.aload_n 0, 1) := by decide +kernel
theorem dX3_copy_85 : decode cX3_copy 85 = .ok (.getfield 21, 3) := by decide +kernel
theorem dX3_copy_88 : decode cX3_copy 88 = .ok (.iload_n 2, 1) := by decide +kernel
theorem dX3_copy_89 : decode cX3_copy 89 = .ok (.aaload, 1) := by decide +kernel
theorem dX3_copy_90 : decode cX3_copy 90 = .ok (.invokevirtual 35, 3) := by decide +kernel
theorem dX3_copy_93 : decode cX3_copy 93 = .ok (.checkcast 19, 3) := by decide +kernel
theorem dX3_copy_96 : decode cX3_copy 96 = .ok (.aastore, 1) := by decide +kernel
theorem dX3_copy_97 : decode cX3_copy 97 = .ok (.iinc 2 1, 3) := by decide +kernel
theorem dX3_copy_100 : decode cX3_copy 100 = .ok (.goto (-30), 3) := by decide +kernel
theorem dX3_copy_103 : decode cX3_copy 103 = .ok (.aload_n 1, 1) := by decide +kernel
theorem dX3_copy_104 : decode cX3_copy 104 = .ok (.areturn, 1) := by decide +kernel
theorem dX3_ofDay_0 : decode cX3_ofDay 0 = .ok (.aload_n 0, 1) := by decide +kernel
theorem dX3_ofDay_1 : decode cX3_ofDay 1 = .ok (.getfield 26, 3) := by decide +kernel
theorem dX3_ofDay_4 : decode cX3_ofDay 4 = .ok (.bipush 12, 2) := by decide +kernel
theorem dX3_ofDay_6 : decode cX3_ofDay 6 = .ok (.irem, 1) := by decide +kernel
theorem dX3_ofDay_7 : decode cX3_ofDay 7 = .ok (.ireturn, 1) := by decide +kernel
theorem dX3_sun_0 : decode cX3_sun 0 = .ok (.aload_n 0, 1) := by decide +kernel
theorem dX3_sun_1 : decode cX3_sun 1 = .ok (.invokevirtual 39, 3) := by decide +kernel
theorem dX3_sun_4 : decode cX3_sun 4 = .ok (.bipush 6, 2) := by decide +kernel
theorem dX3_sun_6 : decode cX3_sun 6 = .ok (.if_icmp .ge 12, 3) := by decide +kernel
theorem dX3_sun_9 : decode cX3_sun 9 = .ok (.aload_n 0, 1) := by decide +kernel
theorem dX3_sun_10 : decode cX3_sun 10 = .ok (.invokevirtual 39, 3) := by decide +kernel
theorem dX3_sun_13 : decode cX3_sun 13 = .ok (.iconst 1, 1) := by decide +kernel
theorem dX3_sun_14 : decode cX3_sun 14 = .ok (.iadd, 1) := by decide +kernel
theorem dX3_sun_15 : decode cX3_sun 15 = .ok (.goto 10, 3) := by decide +kernel
theorem dX3_sun_18 : decode cX3_sun 18 = .ok (.bipush 12, 2) := by decide +kernel
theorem dX3_sun_20 : decode cX3_sun 20 = .ok (.aload_n 0, 1) := by decide +kernel
theorem dX3_sun_21 : decode cX3_sun 21 = .ok (.invokevirtual 39, 3) := by decide +kernel
theorem dX3_sun_24 : decode cX3_sun 24 = .ok (.isub, 1) := by decide +kernel
theorem dX3_sun_25 : decode cX3_sun 25 = .ok (.ireturn, 1) := by decide +kernel
theorem dX3_isNoon_0 : decode cX3_isNoon 0 = .ok (.aload_n 0, 1) := by decide +kernel
theorem dX3_isNoon_1 : decode cX3_isNoon 1 = .ok (.invokevirtual 43, 3) := by decide +kernel
theorem dX3_isNoon_4 : decode cX3_isNoon 4 = .ok (.bipush 6, 2) := by decide +kernel
theorem dX3_isNoon_6 : decode cX3_isNoon 6 = .ok (.if_icmp .ne 7, 3) := by decide +kernel
theorem dX3_isNoon_9 : decode cX3_isNoon 9 = .ok (.iconst 1, 1) := by decide +kernel
theorem dX3_isNoon_10 : decode cX3_isNoon 10 = .ok (.goto 4, 3) := by decide +kernel
theorem dX3_isNoon_13 : decode cX3_isNoon 13 = .ok (.iconst 0, 1) := by decide +kernel
theorem dX3_isNoon_14 : decode cX3_isNoon 14 = .ok (.ireturn, 1) := by decide +kernel
theorem dX3_shadow_0 : decode cX3_shadow 0 = .ok (.aload_n 1, 1) := by decide +kernel
theorem dX3_shadow_1 : decode cX3_shadow 1 = .ok (.iconst 0, 1) := by decide +kernel
theorem dX3_shadow_2 : decode cX3_shadow 2 = .ok (.iaload, 1) := by decide +kernel
theorem dX3_shadow_3 : decode cX3_shadow 3 = .ok (.bipush 6, 2) := by decide +kernel
theorem dX3_shadow_5 : decode cX3_shadow 5 = .ok (.imul, 1) := by decide +kernel
theorem dX3_shadow_6 : decode cX3_shadow 6 = .ok (.aload_n 0, 1) := by decide +kernel
theorem dX3_shadow_7 : decode cX3_shadow 7 = .ok (.invokevirtual 43, 3) := by decide +kernel
theorem dX3_shadow_10 : decode cX3_shadow 10 = .ok (.idiv, 1) := by decide +kernel
theorem dX3_shadow_11 : decode cX3_shadow 11 = .ok (.ireturn, 1) := by decide +kernel
theorem dX3_parts_0 : decode cX3_parts 0 = .ok (.aload_n 0, 1) := by decide +kernel
theorem dX3_parts_1 : decode cX3_parts 1 = .ok (.aload_n 1, 1) := by decide +kernel
theorem dX3_parts_2 : decode cX3_parts 2 = .ok (.invokevirtual 46, 3) := by decide +kernel
theorem dX3_parts_5 : decode cX3_parts 5 = .ok (.aload_n 1, 1) := by decide +kernel
theorem dX3_parts_6 : decode cX3_parts 6 = .ok (.iconst 2, 1) := by decide +kernel
theorem dX3_parts_7 : decode cX3_parts 7 = .ok (.iaload, 1) := by decide +kernel
theorem dX3_parts_8 : decode cX3_parts 8 = .ok (.isub, 1) := by decide +kernel
theorem dX3_parts_9 : decode cX3_parts 9 = .ok (.aload_n 1, 1) := by decide +kernel
theorem dX3_parts_10 : decode cX3_parts 10 = .ok (.iconst 2, 1) := by decide +kernel
theorem dX3_parts_11 : decode cX3_parts 11 = .ok (.iaload, 1) := by decide +kernel
theorem dX3_parts_12 : decode cX3_parts 12 = .ok (.isub, 1) := by decide +kernel
theorem dX3_parts_13 : decode cX3_parts 13 = .ok (.istore_n 2, 1) := by decide +kernel
theorem dX3_parts_14 : decode cX3_parts 14 = .ok (.iload_n 2, 1) := by decide +kernel
theorem dX3_parts_15 : decode cX3_parts 15 = .ok (.ifCond .gt 7, 3) := by decide +kernel
theorem dX3_parts_18 : decode cX3_parts 18 = .ok (.iconst 4, 1) := by decide +kernel
theorem dX3_parts_19 : decode cX3_parts 19 = .ok (.newarray .int, 2) := by decide +kernel
theorem dX3_parts_21 : decode cX3_parts 21 = .ok (.areturn, 1) := by decide +kernel
theorem dX3_parts_22 : decode cX3_parts 22 = .ok (.aload_n 1, 1) := by decide +kernel
theorem dX3_parts_23 : decode cX3_parts 23 = .ok (.iconst 4, 1) := by decide +kernel
theorem dX3_parts_24 : decode cX3_parts 24 = .ok (.iaload, 1) := by decide +kernel
theorem dX3_parts_25 : decode cX3_parts 25 = .ok (.ifCond .ne 23, 3) := by decide +kernel
theorem dX3_parts_28 : decode cX3_parts 28 = .ok (.iconst 4, 1) := by decide +kernel
theorem dX3_parts_29 : decode cX3_parts 29 = .ok (.newarray .int, 2) := by decide +kernel
theorem dX3_parts_31 : decode cX3_parts 31 = .ok (.dup, 1) := by decide +kernel
theorem dX3_parts_32 : decode cX3_parts 32 = .ok (.iconst 0, 1) := by decide +kernel
theorem dX3_parts_33 : decode cX3_parts 33 = .ok (.iload_n 2, 1) := by decide +kernel
theorem dX3_parts_34 : decode cX3_parts 34 = .ok (.iastore, 1) := by decide +kernel
theorem dX3_parts_35 : decode cX3_parts 35 = .ok (.dup, 1) := by decide +kernel
theorem dX3_parts_36 : decode cX3_parts 36 = .ok (.iconst 1, 1) := by decide +kernel
theorem dX3_parts_37 : decode cX3_parts 37 = .ok (.iload_n 2, 1) := by decide +kernel
theorem dX3_parts_38 : decode cX3_parts 38 = .ok (.iastore, 1) := by decide +kernel
theorem dX3_parts_39 : decode cX3_parts 39 = .ok (.dup, 1) := by decide +kernel
theorem dX3_parts_40 : decode cX3_parts 40 = .ok (.iconst 2, 1) := by decide +kernel
theorem dX3_parts_41 : decode cX3_parts 41 = .ok (.iconst 0, 1) := by decide +kernel
theorem dX3_parts_42 : decode cX3_parts 42 = .ok (.iastore, 1) := by decide +kernel
theorem dX3_parts_43 : decode cX3_parts 43 = .ok (.dup, 1) := by decide +kernel
theorem dX3_parts_44 : decode cX3_parts 44 = .ok (.iconst 3, 1) := by decide +kernel
theorem dX3_parts_45 : decode cX3_parts 45 = .ok (.iconst 0, 1) := by decide +kernel
theorem dX3_parts_46 : decode cX3_parts 46 = .ok (.iastore, 1) := by decide +kernel
theorem dX3_parts_47 : decode cX3_parts 47 = .ok (.areturn, 1) := by decide +kernel
theorem dX3_parts_48 : decode cX3_parts 48 = .ok (.aload_n 0, 1) := by decide +kernel
theorem dX3_parts_49 : decode cX3_parts 49 = .ok (.invokevirtual 50, 3) := by decide +kernel
theorem dX3_parts_52 : decode cX3_parts 52 = .ok (.ifCond .eq 8, 3) := by decide +kernel
theorem dX3_parts_55 : decode cX3_parts 55 = .ok (.bipush 6, 2) := by decide +kernel
theorem dX3_parts_57 : decode cX3_parts 57 = .ok (.goto 4, 3) := by decide +kernel
theorem dX3_parts_60 : decode cX3_parts 60 = .ok (.iconst 3, 1) := by decide +kernel
theorem dX3_parts_61 : decode cX3_parts 61 = .ok (.istore_n 3, 1) := by decide +kernel
theorem dX3_parts_62 : decode cX3_parts 62 = .ok (.iload_n 3, 1) := by decide +kernel
theorem dX3_parts_63 : decode cX3_parts 63 = .ok (.iload_n 2, 1) := by decide +kernel
theorem dX3_parts_64 : decode cX3_parts 64 = .ok (.if_icmp .lt 23, 3) := by decide +kernel
theorem dX3_parts_67 : decode cX3_parts 67 = .ok (.iconst 4, 1) := by decide +kernel
theorem dX3_parts_68 : decode cX3_parts 68 = .ok (.newarray .int, 2) := by decide +kernel
theorem dX3_parts_70 : decode cX3_parts 70 = .ok (.dup, 1) := by decide +kernel
theorem dX3_parts_71 : decode cX3_parts 71 = .ok (.iconst 0, 1) := by decide +kernel
theorem dX3_parts_72 : decode cX3_parts 72 = .ok (.iload_n 2, 1) := by decide +kernel
theorem dX3_parts_73 : decode cX3_parts 73 = .ok (.iastore, 1) := by decide +kernel
theorem dX3_parts_74 : decode cX3_parts 74 = .ok (.dup, 1) := by decide +kernel
theorem dX3_parts_75 : decode cX3_parts 75 = .ok (.iconst 1, 1) := by decide +kernel
theorem dX3_parts_76 : decode cX3_parts 76 = .ok (.iload_n 2, 1) := by decide +kernel
theorem dX3_parts_77 : decode cX3_parts 77 = .ok (.iastore, 1) := by decide +kernel
theorem dX3_parts_78 : decode cX3_parts 78 = .ok (.dup, 1) := by decide +kernel
theorem dX3_parts_79 : decode cX3_parts 79 = .ok (.iconst 2, 1) := by decide +kernel
theorem dX3_parts_80 : decode cX3_parts 80 = .ok (.iconst 0, 1) := by decide +kernel
theorem dX3_parts_81 : decode cX3_parts 81 = .ok (.iastore, 1) := by decide +kernel
theorem dX3_parts_82 : decode cX3_parts 82 = .ok (.dup, 1) := by decide +kernel
theorem dX3_parts_83 : decode cX3_parts 83 = .ok (.iconst 3, 1) := by decide +kernel
theorem dX3_parts_84 : decode cX3_parts 84 = .ok (.iconst 0, 1) := by decide +kernel
theorem dX3_parts_85 : decode cX3_parts 85 = .ok (.iastore, 1) := by decide +kernel
theorem dX3_parts_86 : decode cX3_parts 86 = .ok (.areturn, 1) := by decide +kernel
theorem dX3_parts_87 : decode cX3_parts 87 = .ok (.iload_n 2, 1) := by decide +kernel
theorem dX3_parts_88 : decode cX3_parts 88 = .ok (.iload_n 3, 1) := by decide +kernel
theorem dX3_parts_89 : decode cX3_parts 89 = .ok (.isub, 1) := by decide +kernel
theorem dX3_parts_90 : decode cX3_parts 90 = .ok (.istore 4, 2) := by decide +kernel
theorem dX3_parts_92 : decode cX3_parts 92 = .ok (.iload 4, 2) := by decide +kernel
theorem dX3_parts_94 : decode cX3_parts 94 = .ok (.aload_n 0, 1) := by decide +kernel
theorem dX3_parts_95 : decode cX3_parts 95 = .ok (.getfield 16, 3) := by decide +kernel
theorem dX3_parts_98 : decode cX3_parts 98 = .ok (.if_icmp .le 13, 3) := by decide +kernel
theorem dX3_parts_101 : decode cX3_parts 101 = .ok (.iload 4, 2) := by decide +kernel
theorem dX3_parts_103 : decode cX3_parts 103 = .ok (.aload_n 0, 1) := by decide +kernel
theorem dX3_parts_104 : decode cX3_parts 104 = .ok (.getfield 16, 3) := by decide +kernel
theorem dX3_parts_107 : decode cX3_parts 107 = .ok (.isub, 1) := by decide +kernel
theorem dX3_parts_108 : decode cX3_parts 108 = .ok (.goto 4, 3) := by decide +kernel
theorem dX3_parts_111 : decode cX3_parts 111 = .ok (.iconst 0, 1) := by decide +kernel
theorem dX3_parts_112 : decode cX3_parts 112 = .ok (.istore 5, 2) := by decide +kernel
theorem dX3_parts_114 : decode cX3_parts 114 = .ok (.iload 5, 2) := by decide +kernel
theorem dX3_parts_116 : decode cX3_parts 116 = .ok (.aload_n 0, 1) := by decide +kernel
theorem dX3_parts_117 : decode cX3_parts 117 = .ok (.getfield 29, 3) := by decide +kernel
theorem dX3_parts_120 : decode cX3_parts 120 = .ok (.if_icmp .ge 8, 3) := by decide +kernel
theorem dX3_parts_123 : decode cX3_parts 123 = .ok (.iload 5, 2) := by decide +kernel
theorem dX3_parts_125 : decode cX3_parts 125 = .ok (.goto 7, 3) := by decide +kernel
theorem dX3_parts_128 : decode cX3_parts 128 = .ok (.aload_n 0, 1) := by decide +kernel
theorem dX3_parts_129 : decode cX3_parts 129 = .ok (.getfield 29, 3) := by decide +kernel
theorem dX3_parts_132 : decode cX3_parts 132 = .ok (.istore 6, 2) := by decide +kernel
theorem dX3_parts_134 : decode cX3_parts 134 = .ok (.iconst 4, 1) := by decide +kernel
theorem dX3_parts_135 : decode cX3_parts 135 = .ok (.newarray .int, 2) := by decide +kernel
theorem dX3_parts_137 : decode cX3_parts 137 = .ok (.dup, 1) := by decide +kernel
theorem dX3_parts_138 : decode cX3_parts 138 = .ok (.iconst 0, 1) := by decide +kernel
theorem dX3_parts_139 : decode cX3_parts 139 = .ok (.iload_n 2, 1) := by decide +kernel
theorem dX3_parts_140 : decode cX3_parts 140 = .ok (.iastore, 1) := by decide +kernel
theorem dX3_parts_141 : decode cX3_parts 141 = .ok (.dup, 1) := by decide +kernel
theorem dX3_parts_142 : decode cX3_parts 142 = .ok (.iconst 1, 1) := by decide +kernel
theorem dX3_parts_143 : decode cX3_parts 143 = .ok (.iload_n 3, 1) := by decide +kernel
theorem dX3_parts_144 : decode cX3_parts 144 = .ok (.iastore, 1) := by decide +kernel
theorem dX3_parts_145 : decode cX3_parts 145 = .ok (.dup, 1) := by decide +kernel
theorem dX3_parts_146 : decode cX3_parts 146 = .ok (.iconst 2, 1) := by decide +kernel
theorem dX3_parts_147 : decode cX3_parts 147 = .ok (.iload 4, 2) := by decide +kernel
theorem dX3_parts_149 : decode cX3_parts 149 = .ok (.iload 6, 2) := by decide +kernel
theorem dX3_parts_151 : decode cX3_parts 151 = .ok (.isub, 1) := by decide +kernel
theorem dX3_parts_152 : decode cX3_parts 152 = .ok (.iastore, 1) := by decide +kernel
theorem dX3_parts_153 : decode cX3_parts 153 = .ok (.dup, 1) := by decide +kernel
theorem dX3_parts_154 : decode cX3_parts 154 = .ok (.iconst 3, 1) := by decide +kernel
theorem dX3_parts_155 : decode cX3_parts 155 = .ok (.iload 6, 2) := by decide +kernel
theorem dX3_parts_157 : decode cX3_parts 157 = .ok (.iastore, 1) := by decide +kernel
theorem dX3_parts_158 : decode cX3_parts 158 = .ok (.areturn, 1) := by decide +kernel
theorem dX3_pass_0 : decode cX3_pass 0 = .ok (.aload_n 0, 1) := by decide +kernel
theorem dX3_pass_1 : decode cX3_pass 1 = .ok (.invokevirtual 39, 3) := by decide +kernel
theorem dX3_pass_4 : decode cX3_pass 4 = .ok (.ifCond .ne 97, 3) := by decide +kernel
theorem dX3_pass_7 : decode cX3_pass 7 = .ok (.aload_n 0, 1) := by decide +kernel
theorem dX3_pass_8 : decode cX3_pass 8 = .ok (.getfield 21, 3) := by decide +kernel
theorem dX3_pass_11 : decode cX3_pass 11 = .ok (.astore_n 1, 1) := by decide +kernel
theorem dX3_pass_12 : decode cX3_pass 12 = .ok (.aload_n 1, 1) := by decide +kernel
theorem dX3_pass_13 : decode cX3_pass 13 = .ok (.arraylength, 1) := by decide +kernel
theorem dX3_pass_14 : decode cX3_pass 14 = .ok (.istore_n 2, 1) := by decide +kernel
theorem dX3_pass_15 : decode cX3_pass 15 = .ok (.iconst 0, 1) := by decide +kernel
theorem dX3_pass_16 : decode cX3_pass 16 = .ok (.istore_n 3, 1) := by decide +kernel
theorem dX3_pass_17 : decode cX3_pass 17 = .ok (.iload_n 3, 1) := by decide +kernel
theorem dX3_pass_18 : decode cX3_pass 18 = .ok (.iload_n 2, 1) := by decide +kernel
theorem dX3_pass_19 : decode cX3_pass 19 = .ok (.if_icmp .ge 39, 3) := by decide +kernel
theorem dX3_pass_22 : decode cX3_pass 22 = .ok (.aload_n 1, 1) := by decide +kernel
theorem dX3_pass_23 : decode cX3_pass 23 = .ok (.iload_n 3, 1) := by decide +kernel
theorem dX3_pass_24 : decode cX3_pass 24 = .ok (.aaload, 1) := by decide +kernel
theorem dX3_pass_25 : decode cX3_pass 25 = .ok (.astore 4, 2) := by decide +kernel
theorem dX3_pass_27 : decode cX3_pass 27 = .ok (.aload_n 0, 1) := by decide +kernel
theorem dX3_pass_28 : decode cX3_pass 28 = .ok (.dup, 1) := by decide +kernel
theorem dX3_pass_29 : decode cX3_pass 29 = .ok (.getfield 7, 3) := by decide +kernel
theorem dX3_pass_32 : decode cX3_pass 32 = .ok (.aload 4, 2) := by decide +kernel
theorem dX3_pass_34 : decode cX3_pass 34 = .ok (.iconst 4, 1) := by decide +kernel
theorem dX3_pass_35 : decode cX3_pass 35 = .ok (.iaload, 1) := by decide +kernel
theorem dX3_pass_36 : decode cX3_pass 36 = .ok (.iconst 1, 1) := by decide +kernel
theorem dX3_pass_37 : decode cX3_pass 37 = .ok (.if_icmp .ne 10, 3) := by decide +kernel
theorem dX3_pass_40 : decode cX3_pass 40 = .ok (.aload_n 0, 1) := by decide +kernel
theorem dX3_pass_41 : decode cX3_pass 41 = .ok (.getfield 13, 3) := by decide +kernel
theorem dX3_pass_44 : decode cX3_pass 44 = .ok (.goto 4, 3) := by decide +kernel
theorem dX3_pass_47 : decode cX3_pass 47 = .ok (.iconst 0, 1) := by decide +kernel
theorem dX3_pass_48 : decode cX3_pass 48 = .ok (.iadd, 1) := by decide +kernel
theorem dX3_pass_49 : decode cX3_pass 49 = .ok (.putfield 7, 3) := by decide +kernel
theorem dX3_pass_52 : decode cX3_pass 52 = .ok (.iinc 3 1, 3) := by decide +kernel
theorem dX3_pass_55 : decode cX3_pass 55 = .ok (.goto (-38), 3) := by decide +kernel
theorem dX3_pass_58 : decode cX3_pass 58 = .ok (.aload_n 0, 1) := by decide +kernel
theorem dX3_pass_59 : decode cX3_pass 59 = .ok (.getfield 29, 3) := by decide +kernel
theorem dX3_pass_62 : decode cX3_pass 62 = .ok (.ifCond .le 39, 3) := by decide +kernel
theorem dX3_pass_65 : decode cX3_pass 65 = .ok (.aload_n 0, 1) := by decide +kernel
theorem dX3_pass_66 : decode cX3_pass 66 = .ok (.dup, 1) := by decide +kernel
theorem dX3_pass_67 : decode cX3_pass 67 = .ok (.getfield 7, 3) := by decide +kernel
theorem dX3_pass_70 : decode cX3_pass 70 = .ok (.iconst 1, 1) := by decide +kernel
theorem dX3_pass_71 : decode cX3_pass 71 = .ok (.aload_n 0, 1) := by decide +kernel
theorem dX3_pass_72 : decode cX3_pass 72 = .ok (.getfield 29, 3) := by decide +kernel
theorem dX3_pass_75 : decode cX3_pass 75 = .ok (.bipush 20, 2) := by decide +kernel
theorem dX3_pass_77 : decode cX3_pass 77 = .ok (.idiv, 1) := by decide +kernel
theorem dX3_pass_78 : decode cX3_pass 78 = .ok (.iadd, 1) := by decide +kernel
theorem dX3_pass_79 : decode cX3_pass 79 = .ok (.isub, 1) := by decide +kernel
theorem dX3_pass_80 : decode cX3_pass 80 = .ok (.putfield 7, 3) := by decide +kernel
theorem dX3_pass_83 : decode cX3_pass 83 = .ok (.aload_n 0, 1) := by decide +kernel
theorem dX3_pass_84 : decode cX3_pass 84 = .ok (.dup, 1) := by decide +kernel
theorem dX3_pass_85 : decode cX3_pass 85 = .ok (.getfield 32, 3) := by decide +kernel
theorem dX3_pass_88 : decode cX3_pass 88 = .ok (.iconst 1, 1) := by decide +kernel
theorem dX3_pass_89 : decode cX3_pass 89 = .ok (.aload_n 0, 1) := by decide +kernel
theorem dX3_pass_90 : decode cX3_pass 90 = .ok (.getfield 29, 3) := by decide +kernel
theorem dX3_pass_93 : decode cX3_pass 93 = .ok (.bipush 20, 2) := by decide +kernel
theorem dX3_pass_95 : decode cX3_pass 95 = .ok (.idiv, 1) := by decide +kernel
theorem dX3_pass_96 : decode cX3_pass 96 = .ok (.iadd, 1) := by decide +kernel
theorem dX3_pass_97 : decode cX3_pass 97 = .ok (.isub, 1) := by decide +kernel
theorem dX3_pass_98 : decode cX3_pass 98 = .ok (.putfield 32, 3) := by decide +kernel
theorem dX3_pass_101 : decode cX3_pass 101 = .ok (.iconst 0, 1) := by decide +kernel
theorem dX3_pass_102 : decode cX3_pass 102 = .ok (.istore_n 1, 1) := by decide +kernel
theorem dX3_pass_103 : decode cX3_pass 103 = .ok (.aload_n 0, 1) := by decide +kernel
theorem dX3_pass_104 : decode cX3_pass 104 = .ok (.getfield 21, 3) := by decide +kernel
theorem dX3_pass_107 : decode cX3_pass 107 = .ok (.astore_n 2, 1) := by decide +kernel
theorem dX3_pass_108 : decode cX3_pass 108 = .ok (.aload_n 2, 1) := by decide +kernel
theorem dX3_pass_109 : decode cX3_pass 109 = .ok (.arraylength, 1) := by decide +kernel
theorem dX3_pass_110 : decode cX3_pass 110 = .ok (.istore_n 3, 1) := by decide +kernel
theorem dX3_pass_111 : decode cX3_pass 111 = .ok (.iconst 0, 1) := by decide +kernel
theorem dX3_pass_112 : decode cX3_pass 112 = .ok (.istore 4, 2) := by decide +kernel
theorem dX3_pass_114 : decode cX3_pass 114 = .ok (.iload 4, 2) := by decide +kernel
theorem dX3_pass_116 : decode cX3_pass 116 = .ok (.iload_n 3, 1) := by decide +kernel
theorem dX3_pass_117 : decode cX3_pass 117 = .ok (.if_icmp .ge 139, 3) := by decide +kernel
theorem dX3_pass_120 : decode cX3_pass 120 = .ok (.aload_n 2, 1) := by decide +kernel
theorem dX3_pass_121 : decode cX3_pass 121 = .ok (.iload 4, 2) := by decide +kernel
theorem dX3_pass_123 : decode cX3_pass 123 = .ok (.aaload, 1) := by decide +kernel
theorem dX3_pass_124 : decode cX3_pass 124 = .ok (.astore 5, 2) := by decide +kernel
theorem dX3_pass_126 : decode cX3_pass 126 = .ok (.aload 5, 2) := by decide +kernel
theorem dX3_pass_128 : decode cX3_pass 128 = .ok (.iconst 3, 1) := by decide +kernel
theorem dX3_pass_129 : decode cX3_pass 129 = .ok (.dup2, 1) := by decide +kernel
theorem dX3_pass_130 : decode cX3_pass 130 = .ok (.iaload, 1) := by decide +kernel
theorem dX3_pass_131 : decode cX3_pass 131 = .ok (.aload 5, 2) := by decide +kernel
theorem dX3_pass_133 : decode cX3_pass 133 = .ok (.iconst 0, 1) := by decide +kernel
theorem dX3_pass_134 : decode cX3_pass 134 = .ok (.iaload, 1) := by decide +kernel
theorem dX3_pass_135 : decode cX3_pass 135 = .ok (.iconst 5, 1) := by decide +kernel
theorem dX3_pass_136 : decode cX3_pass 136 = .ok (.idiv, 1) := by decide +kernel
theorem dX3_pass_137 : decode cX3_pass 137 = .ok (.aload_n 0, 1) := by decide +kernel
theorem dX3_pass_138 : decode cX3_pass 138 = .ok (.invokevirtual 50, 3) := by decide +kernel
theorem dX3_pass_141 : decode cX3_pass 141 = .ok (.ifCond .eq 7, 3) := by decide +kernel
theorem dX3_pass_144 : decode cX3_pass 144 = .ok (.iconst 2, 1) := by decide +kernel
theorem dX3_pass_145 : decode cX3_pass 145 = .ok (.goto 4, 3) := by decide +kernel
theorem dX3_pass_148 : decode cX3_pass 148 = .ok (.iconst 1, 1) := by decide +kernel
theorem dX3_pass_149 : decode cX3_pass 149 = .ok (.iadd, 1) := by decide +kernel
theorem dX3_pass_150 : decode cX3_pass 150 = .ok (.aload 5, 2) := by decide +kernel
theorem dX3_pass_152 : decode cX3_pass 152 = .ok (.iconst 1, 1) := by decide +kernel
theorem dX3_pass_153 : decode cX3_pass 153 = .ok (.iaload, 1) := by decide +kernel
theorem dX3_pass_154 : decode cX3_pass 154 = .ok (.isub, 1) := by decide +kernel
theorem dX3_pass_155 : decode cX3_pass 155 = .ok (.iadd, 1) := by decide +kernel
theorem dX3_pass_156 : decode cX3_pass 156 = .ok (.iastore, 1) := by decide +kernel
theorem dX3_pass_157 : decode cX3_pass 157 = .ok (.aload 5, 2) := by decide +kernel
theorem dX3_pass_159 : decode cX3_pass 159 = .ok (.iconst 3, 1) := by decide +kernel
theorem dX3_pass_160 : decode cX3_pass 160 = .ok (.iaload, 1) := by decide +kernel
theorem dX3_pass_161 : decode cX3_pass 161 = .ok (.ifCond .ge 8, 3) := by decide +kernel
theorem dX3_pass_164 : decode cX3_pass 164 = .ok (.aload 5, 2) := by decide +kernel
theorem dX3_pass_166 : decode cX3_pass 166 = .ok (.iconst 3, 1) := by decide +kernel
theorem dX3_pass_167 : decode cX3_pass 167 = .ok (.iconst 0, 1) := by decide +kernel
theorem dX3_pass_168 : decode cX3_pass 168 = .ok (.iastore, 1) := by decide +kernel
theorem dX3_pass_169 : decode cX3_pass 169 = .ok (.aload 5, 2) := by decide +kernel
theorem dX3_pass_171 : decode cX3_pass 171 = .ok (.iconst 3, 1) := by decide +kernel
theorem dX3_pass_172 : decode cX3_pass 172 = .ok (.iaload, 1) := by decide +kernel
theorem dX3_pass_173 : decode cX3_pass 173 = .ok (.bipush 10, 2) := by decide +kernel
theorem dX3_pass_175 : decode cX3_pass 175 = .ok (.if_icmp .ge 6, 3) := by decide +kernel
theorem dX3_pass_178 : decode cX3_pass 178 = .ok (.goto 72, 3) := by decide +kernel
theorem dX3_pass_181 : decode cX3_pass 181 = .ok (.aload_n 0, 1) := by decide +kernel
theorem dX3_pass_182 : decode cX3_pass 182 = .ok (.aload 5, 2) := by decide +kernel
theorem dX3_pass_184 : decode cX3_pass 184 = .ok (.invokevirtual 54, 3) := by decide +kernel
theorem dX3_pass_187 : decode cX3_pass 187 = .ok (.astore 6, 2) := by decide +kernel
theorem dX3_pass_189 : decode cX3_pass 189 = .ok (.aload_n 0, 1) := by decide +kernel
theorem dX3_pass_190 : decode cX3_pass 190 = .ok (.dup, 1) := by decide +kernel
theorem dX3_pass_191 : decode cX3_pass 191 = .ok (.getfield 7, 3) := by decide +kernel
theorem dX3_pass_194 : decode cX3_pass 194 = .ok (.aload 6, 2) := by decide +kernel
theorem dX3_pass_196 : decode cX3_pass 196 = .ok (.iconst 2, 1) := by decide +kernel
theorem dX3_pass_197 : decode cX3_pass 197 = .ok (.iaload, 1) := by decide +kernel
theorem dX3_pass_198 : decode cX3_pass 198 = .ok (.isub, 1) := by decide +kernel
theorem dX3_pass_199 : decode cX3_pass 199 = .ok (.putfield 7, 3) := by decide +kernel
theorem dX3_pass_202 : decode cX3_pass 202 = .ok (.aload_n 0, 1) := by decide +kernel
theorem dX3_pass_203 : decode cX3_pass 203 = .ok (.dup, 1) := by decide +kernel
theorem dX3_pass_204 : decode cX3_pass 204 = .ok (.getfield 32, 3) := by decide +kernel
theorem dX3_pass_207 : decode cX3_pass 207 = .ok (.aload 6, 2) := by decide +kernel
theorem dX3_pass_209 : decode cX3_pass 209 = .ok (.iconst 3, 1) := by decide +kernel
theorem dX3_pass_210 : decode cX3_pass 210 = .ok (.iaload, 1) := by decide +kernel
theorem dX3_pass_211 : decode cX3_pass 211 = .ok (.iadd, 1) := by decide +kernel
theorem dX3_pass_212 : decode cX3_pass 212 = .ok (.putfield 32, 3) := by decide +kernel
theorem dX3_pass_215 : decode cX3_pass 215 = .ok (.aload 5, 2) := by decide +kernel
theorem dX3_pass_217 : decode cX3_pass 217 = .ok (.iconst 2, 1) := by decide +kernel
theorem dX3_pass_218 : decode cX3_pass 218 = .ok (.dup2, 1) := by decide +kernel
theorem dX3_pass_219 : decode cX3_pass 219 = .ok (.iaload, 1) := by decide +kernel
theorem dX3_pass_220 : decode cX3_pass 220 = .ok (.aload 5, 2) := by decide +kernel
theorem dX3_pass_222 : decode cX3_pass 222 = .ok (.iconst 2, 1) := by decide +kernel
theorem dX3_pass_223 : decode cX3_pass 223 = .ok (.iaload, 1) := by decide +kernel
theorem dX3_pass_224 : decode cX3_pass 224 = .ok (.ifCond .le 7, 3) := by decide +kernel
theorem dX3_pass_227 : decode cX3_pass 227 = .ok (.iconst 1, 1) := by decide +kernel
theorem dX3_pass_228 : decode cX3_pass 228 = .ok (.goto 4, 3) := by decide +kernel
theorem dX3_pass_231 : decode cX3_pass 231 = .ok (.iconst 0, 1) := by decide +kernel
theorem dX3_pass_232 : decode cX3_pass 232 = .ok (.isub, 1) := by decide +kernel
theorem dX3_pass_233 : decode cX3_pass 233 = .ok (.iastore, 1) := by decide +kernel
theorem dX3_pass_234 : decode cX3_pass 234 = .ok (.aload 5, 2) := by decide +kernel
theorem dX3_pass_236 : decode cX3_pass 236 = .ok (.iconst 3, 1) := by decide +kernel
theorem dX3_pass_237 : decode cX3_pass 237 = .ok (.iconst 0, 1) := by decide +kernel
theorem dX3_pass_238 : decode cX3_pass 238 = .ok (.iastore, 1) := by decide +kernel
theorem dX3_pass_239 : decode cX3_pass 239 = .ok (.aload 5, 2) := by decide +kernel
theorem dX3_pass_241 : decode cX3_pass 241 = .ok (.iconst 5, 1) := by decide +kernel
theorem dX3_pass_242 : decode cX3_pass 242 = .ok (.dup2, 1) := by decide +kernel
theorem dX3_pass_243 : decode cX3_pass 243 = .ok (.iaload, 1) := by decide +kernel
theorem dX3_pass_244 : decode cX3_pass 244 = .ok (.iconst 1, 1) := by decide +kernel
theorem dX3_pass_245 : decode cX3_pass 245 = .ok (.iadd, 1) := by decide +kernel
theorem dX3_pass_246 : decode cX3_pass 246 = .ok (.iastore, 1) := by decide +kernel
theorem dX3_pass_247 : decode cX3_pass 247 = .ok (.iinc 1 1, 3) := by decide +kernel
theorem dX3_pass_250 : decode cX3_pass 250 = .ok (.iinc 4 1, 3) := by decide +kernel
theorem dX3_pass_253 : decode cX3_pass 253 = .ok (.goto (-139), 3) := by decide +kernel
theorem dX3_pass_256 : decode cX3_pass 256 = .ok (.aload_n 0, 1) := by decide +kernel
theorem dX3_pass_257 : decode cX3_pass 257 = .ok (.dup, 1) := by decide +kernel
theorem dX3_pass_258 : decode cX3_pass 258 = .ok (.getfield 26, 3) := by decide +kernel
theorem dX3_pass_261 : decode cX3_pass 261 = .ok (.iconst 1, 1) := by decide +kernel
theorem dX3_pass_262 : decode cX3_pass 262 = .ok (.iadd, 1) := by decide +kernel
theorem dX3_pass_263 : decode cX3_pass 263 = .ok (.putfield 26, 3) := by decide +kernel
theorem dX3_pass_266 : decode cX3_pass 266 = .ok (.iload_n 1, 1) := by decide +kernel
theorem dX3_pass_267 : decode cX3_pass 267 = .ok (.ireturn, 1) := by decide +kernel
theorem dX3_pass__0 : decode cX3_pass_ 0 = .ok (.iconst 0, 1) := by decide +kernel
theorem dX3_pass__1 : decode cX3_pass_ 1 = .ok (.istore_n 2, 1) := by decide +kernel
theorem dX3_pass__2 : decode cX3_pass_ 2 = .ok (.iconst 0, 1) := by decide +kernel
theorem dX3_pass__3 : decode cX3_pass_ 3 = .ok (.istore_n 3, 1) := by decide +kernel
theorem dX3_pass__4 : decode cX3_pass_ 4 = .ok (.iload_n 3, 1) := by decide +kernel
theorem dX3_pass__5 : decode cX3_pass_ 5 = .ok (.iload_n 1, 1) := by decide +kernel
theorem dX3_pass__6 : decode cX3_pass_ 6 = .ok (.if_icmp .ge 16, 3) := by decide +kernel
theorem dX3_pass__9 : decode cX3_pass_ 9 = .ok (.iload_n 2, 1) := by decide +kernel
theorem dX3_pass__10 : decode cX3_pass_ 10 = .ok (.aload_n 0, 1) := by decide +kernel
theorem dX3_pass__11 : decode cX3_pass_ 11 = .ok (.invokevirtual 58, 3) := by decide +kernel
theorem dX3_pass__14 : decode cX3_pass_ 14 = .ok (.iadd, 1) := by decide +kernel
theorem dX3_pass__15 : decode cX3_pass_ 15 = .ok (.istore_n 2, 1) := by decide +kernel
theorem dX3_pass__16 : decode cX3_pass_ 16 = .ok (.iinc 3 1, 3) := by decide +kernel
theorem dX3_pass__19 : decode cX3_pass_ 19 = .ok (.goto (-15), 3) := by decide +kernel
theorem dX3_pass__22 : decode cX3_pass_ 22 = .ok (.iload_n 2, 1) := by decide +kernel
theorem dX3_pass__23 : decode cX3_pass_ 23 = .ok (.ireturn, 1) := by decide +kernel
theorem dX3_isSame_0 : decode cX3_isSame 0 = .ok (.iconst 0, 1) := by decide +kernel
theorem dX3_isSame_1 : decode cX3_isSame 1 = .ok (.istore_n 2, 1) := by decide +kernel
theorem dX3_isSame_2 : decode cX3_isSame 2 = .ok (.iconst (-1), 1) := by decide +kernel
theorem dX3_isSame_3 : decode cX3_isSame 3 = .ok (.istore_n 3, 1) := by decide +kernel
theorem dX3_isSame_4 : decode cX3_isSame 4 = .ok (.iconst 0, 1) := by decide +kernel
theorem dX3_isSame_5 : decode cX3_isSame 5 = .ok (.istore 4, 2) := by decide +kernel
theorem dX3_isSame_7 : decode cX3_isSame 7 = .ok (.aload_n 0, 1) := by decide +kernel
theorem dX3_isSame_8 : decode cX3_isSame 8 = .ok (.getfield 21, 3) := by decide +kernel
theorem dX3_isSame_11 : decode cX3_isSame 11 = .ok (.arraylength, 1) := by decide +kernel
theorem dX3_isSame_12 : decode cX3_isSame 12 = .ok (.iconst 1, 1) := by decide +kernel
theorem dX3_isSame_13 : decode cX3_isSame 13 = .ok (.isub, 1) := by decide +kernel
theorem dX3_isSame_14 : decode cX3_isSame 14 = .ok (.istore 5, 2) := by decide +kernel
theorem dX3_isSame_16 : decode cX3_isSame 16 = .ok (.iload 5, 2) := by decide +kernel
theorem dX3_isSame_18 : decode cX3_isSame 18 = .ok (.ifCond .lt 200, 3) := by decide +kernel
theorem dX3_isSame_21 : decode cX3_isSame 21 = .ok (.aload_n 0, 1) := by decide +kernel
theorem dX3_isSame_22 : decode cX3_isSame 22 = .ok (.getfield 21, 3) := by decide +kernel
theorem dX3_isSame_25 : decode cX3_isSame 25 = .ok (.iload 5, 2) := by decide +kernel
theorem dX3_isSame_27 : decode cX3_isSame 27 = .ok (.aaload, 1) := by decide +kernel
theorem dX3_isSame_28 : decode cX3_isSame 28 = .ok (.astore 6, 2) := by decide +kernel
theorem dX3_isSame_30 : decode cX3_isSame 30 = .ok (.aload_n 0, 1) := by decide +kernel
theorem dX3_isSame_31 : decode cX3_isSame 31 = .ok (.aload 6, 2) := by decide +kernel
theorem dX3_isSame_33 : decode cX3_isSame 33 = .ok (.invokevirtual 54, 3) := by decide +kernel
theorem dX3_isSame_36 : decode cX3_isSame 36 = .ok (.astore 7, 2) := by decide +kernel
theorem dX3_isSame_38 : decode cX3_isSame 38 = .ok (.iload_n 2, 1) := by decide +kernel
theorem dX3_isSame_39 : decode cX3_isSame 39 = .ok (.aload 6, 2) := by decide +kernel
theorem dX3_isSame_41 : decode cX3_isSame 41 = .ok (.iconst 4, 1) := by decide +kernel
theorem dX3_isSame_42 : decode cX3_isSame 42 = .ok (.iaload, 1) := by decide +kernel
theorem dX3_isSame_43 : decode cX3_isSame 43 = .ok (.iadd, 1) := by decide +kernel
theorem dX3_isSame_44 : decode cX3_isSame 44 = .ok (.istore_n 2, 1) := by decide +kernel
theorem dX3_isSame_45 : decode cX3_isSame 45 = .ok (.iload 4, 2) := by decide +kernel
theorem dX3_isSame_47 : decode cX3_isSame 47 = .ok (.aload_n 0, 1) := by decide +kernel
theorem dX3_isSame_48 : decode cX3_isSame 48 = .ok (.aload 6, 2) := by decide +kernel
theorem dX3_isSame_50 : decode cX3_isSame 50 = .ok (.invokevirtual 46, 3) := by decide +kernel
theorem dX3_isSame_53 : decode cX3_isSame 53 = .ok (.iadd, 1) := by decide +kernel
theorem dX3_isSame_54 : decode cX3_isSame 54 = .ok (.istore 4, 2) := by decide +kernel
theorem dX3_isSame_56 : decode cX3_isSame 56 = .ok (.iload_n 3, 1) := by decide +kernel
theorem dX3_isSame_57 : decode cX3_isSame 57 = .ok (.ifCond .lt 22, 3) := by decide +kernel
theorem dX3_isSame_60 : decode cX3_isSame 60 = .ok (.aload_n 0, 1) := by decide +kernel
theorem dX3_isSame_61 : decode cX3_isSame 61 = .ok (.aload 6, 2) := by decide +kernel
theorem dX3_isSame_63 : decode cX3_isSame 63 = .ok (.invokevirtual 46, 3) := by decide +kernel
theorem dX3_isSame_66 : decode cX3_isSame 66 = .ok (.aload_n 0, 1) := by decide +kernel
theorem dX3_isSame_67 : decode cX3_isSame 67 = .ok (.aload_n 0, 1) := by decide +kernel
theorem dX3_isSame_68 : decode cX3_isSame 68 = .ok (.getfield 21, 3) := by decide +kernel
theorem dX3_isSame_71 : decode cX3_isSame 71 = .ok (.iload_n 3, 1) := by decide +kernel
theorem dX3_isSame_72 : decode cX3_isSame 72 = .ok (.aaload, 1) := by decide +kernel
theorem dX3_isSame_73 : decode cX3_isSame 73 = .ok (.invokevirtual 46, 3) := by decide +kernel
theorem dX3_isSame_76 : decode cX3_isSame 76 = .ok (.if_icmp .lt 6, 3) := by decide +kernel
theorem dX3_isSame_79 : decode cX3_isSame 79 = .ok (.iload 5, 2) := by decide +kernel
theorem dX3_isSame_81 : decode cX3_isSame 81 = .ok (.istore_n 3, 1) := by decide +kernel
theorem dX3_isSame_82 : decode cX3_isSame 82 = .ok (.aload_n 1, 1) := by decide +kernel
theorem dX3_isSame_83 : decode cX3_isSame 83 = .ok (.iload 5, 2) := by decide +kernel
theorem dX3_isSame_85 : decode cX3_isSame 85 = .ok (.invokevirtual 61, 3) := by decide +kernel
theorem dX3_isSame_88 : decode cX3_isSame 88 = .ok (.aload 6, 2) := by decide +kernel
theorem dX3_isSame_90 : decode cX3_isSame 90 = .ok (.iconst 4, 1) := by decide +kernel
theorem dX3_isSame_91 : decode cX3_isSame 91 = .ok (.iaload, 1) := by decide +kernel
theorem dX3_isSame_92 : decode cX3_isSame 92 = .ok (.iconst 1, 1) := by decide +kernel
theorem dX3_isSame_93 : decode cX3_isSame 93 = .ok (.if_icmp .ne 7, 3) := by decide +kernel
theorem dX3_isSame_96 : decode cX3_isSame 96 = .ok (.iconst 1, 1) := by decide +kernel
theorem dX3_isSame_97 : decode cX3_isSame 97 = .ok (.goto 4, 3) := by decide +kernel
theorem dX3_isSame_100 : decode cX3_isSame 100 = .ok (.iconst 0, 1) := by decide +kernel
theorem dX3_isSame_101 : decode cX3_isSame 101 = .ok (.if_icmp .ne 109, 3) := by decide +kernel
theorem dX3_isSame_104 : decode cX3_isSame 104 = .ok (.aload_n 1, 1) := by decide +kernel
theorem dX3_isSame_105 : decode cX3_isSame 105 = .ok (.iload 5, 2) := by decide +kernel
theorem dX3_isSame_107 : decode cX3_isSame 107 = .ok (.invokevirtual 67, 3) := by decide +kernel
theorem dX3_isSame_110 : decode cX3_isSame 110 = .ok (.aload 6, 2) := by decide +kernel
theorem dX3_isSame_112 : decode cX3_isSame 112 = .ok (.iconst 2, 1) := by decide +kernel
theorem dX3_isSame_113 : decode cX3_isSame 113 = .ok (.iaload, 1) := by decide +kernel
theorem dX3_isSame_114 : decode cX3_isSame 114 = .ok (.if_icmp .ne 96, 3) := by decide +kernel
theorem dX3_isSame_117 : decode cX3_isSame 117 = .ok (.aload_n 1, 1) := by decide +kernel
theorem dX3_isSame_118 : decode cX3_isSame 118 = .ok (.iload 5, 2) := by decide +kernel
theorem dX3_isSame_120 : decode cX3_isSame 120 = .ok (.invokevirtual 71, 3) := by decide +kernel
theorem dX3_isSame_123 : decode cX3_isSame 123 = .ok (.aload 6, 2) := by decide +kernel
theorem dX3_isSame_125 : decode cX3_isSame 125 = .ok (.iconst 3, 1) := by decide +kernel
theorem dX3_isSame_126 : decode cX3_isSame 126 = .ok (.iaload, 1) := by decide +kernel
theorem dX3_isSame_127 : decode cX3_isSame 127 = .ok (.if_icmp .ne 83, 3) := by decide +kernel
theorem dX3_isSame_130 : decode cX3_isSame 130 = .ok (.aload_n 1, 1) := by decide +kernel
theorem dX3_isSame_131 : decode cX3_isSame 131 = .ok (.iload 5, 2) := by decide +kernel
theorem dX3_isSame_133 : decode cX3_isSame 133 = .ok (.invokevirtual 74, 3) := by decide +kernel
theorem dX3_isSame_136 : decode cX3_isSame 136 = .ok (.aload 6, 2) := by decide +kernel
theorem dX3_isSame_138 : decode cX3_isSame 138 = .ok (.iconst 5, 1) := by decide +kernel
theorem dX3_isSame_139 : decode cX3_isSame 139 = .ok (.iaload, 1) := by decide +kernel
theorem dX3_isSame_140 : decode cX3_isSame 140 = .ok (.if_icmp .ne 70, 3) := by decide +kernel
theorem dX3_isSame_143 : decode cX3_isSame 143 = .ok (.aload_n 1, 1) := by decide +kernel
theorem dX3_isSame_144 : decode cX3_isSame 144 = .ok (.iload 5, 2) := by decide +kernel
theorem dX3_isSame_146 : decode cX3_isSame 146 = .ok (.invokevirtual 77, 3) := by decide +kernel
theorem dX3_isSame_149 : decode cX3_isSame 149 = .ok (.aload_n 0, 1) := by decide +kernel
theorem dX3_isSame_150 : decode cX3_isSame 150 = .ok (.aload 6, 2) := by decide +kernel
theorem dX3_isSame_152 : decode cX3_isSame 152 = .ok (.invokevirtual 46, 3) := by decide +kernel
theorem dX3_isSame_155 : decode cX3_isSame 155 = .ok (.if_icmp .ne 55, 3) := by decide +kernel
theorem dX3_isSame_158 : decode cX3_isSame 158 = .ok (.aload_n 1, 1) := by decide +kernel
theorem dX3_isSame_159 : decode cX3_isSame 159 = .ok (.iload 5, 2) := by decide +kernel
theorem dX3_isSame_161 : decode cX3_isSame 161 = .ok (.invokevirtual 80, 3) := by decide +kernel
theorem dX3_isSame_164 : decode cX3_isSame 164 = .ok (.aload 7, 2) := by decide +kernel
theorem dX3_isSame_166 : decode cX3_isSame 166 = .ok (.iconst 0, 1) := by decide +kernel
theorem dX3_isSame_167 : decode cX3_isSame 167 = .ok (.iaload, 1) := by decide +kernel
theorem dX3_isSame_168 : decode cX3_isSame 168 = .ok (.if_icmp .ne 42, 3) := by decide +kernel
theorem dX3_isSame_171 : decode cX3_isSame 171 = .ok (.aload_n 1, 1) := by decide +kernel
theorem dX3_isSame_172 : decode cX3_isSame 172 = .ok (.iload 5, 2) := by decide +kernel
theorem dX3_isSame_174 : decode cX3_isSame 174 = .ok (.invokevirtual 83, 3) := by decide +kernel
theorem dX3_isSame_177 : decode cX3_isSame 177 = .ok (.aload 7, 2) := by decide +kernel
theorem dX3_isSame_179 : decode cX3_isSame 179 = .ok (.iconst 1, 1) := by decide +kernel
theorem dX3_isSame_180 : decode cX3_isSame 180 = .ok (.iaload, 1) := by decide +kernel
theorem dX3_isSame_181 : decode cX3_isSame 181 = .ok (.if_icmp .ne 29, 3) := by decide +kernel
theorem dX3_isSame_184 : decode cX3_isSame 184 = .ok (.aload_n 1, 1) := by decide +kernel
theorem dX3_isSame_185 : decode cX3_isSame 185 = .ok (.iload 5, 2) := by decide +kernel
theorem dX3_isSame_187 : decode cX3_isSame 187 = .ok (.invokevirtual 86, 3) := by decide +kernel
theorem dX3_isSame_190 : decode cX3_isSame 190 = .ok (.aload 7, 2) := by decide +kernel
theorem dX3_isSame_192 : decode cX3_isSame 192 = .ok (.iconst 2, 1) := by decide +kernel
theorem dX3_isSame_193 : decode cX3_isSame 193 = .ok (.iaload, 1) := by decide +kernel
theorem dX3_isSame_194 : decode cX3_isSame 194 = .ok (.if_icmp .ne 16, 3) := by decide +kernel
theorem dX3_isSame_197 : decode cX3_isSame 197 = .ok (.aload_n 1, 1) := by decide +kernel
theorem dX3_isSame_198 : decode cX3_isSame 198 = .ok (.iload 5, 2) := by decide +kernel
theorem dX3_isSame_200 : decode cX3_isSame 200 = .ok (.invokevirtual 89, 3) := by decide +kernel
theorem dX3_isSame_203 : decode cX3_isSame 203 = .ok (.aload 7, 2) := by decide +kernel
theorem dX3_isSame_205 : decode cX3_isSame 205 = .ok (.iconst 3, 1) := by decide +kernel
theorem dX3_isSame_206 : decode cX3_isSame 206 = .ok (.iaload, 1) := by decide +kernel
theorem dX3_isSame_207 : decode cX3_isSame 207 = .ok (.if_icmp .eq 5, 3) := by decide +kernel
theorem dX3_isSame_210 : decode cX3_isSame 210 = .ok (.iconst 0, 1) := by decide +kernel
theorem dX3_isSame_211 : decode cX3_isSame 211 = .ok (.ireturn, 1) := by decide +kernel
theorem dX3_isSame_212 : decode cX3_isSame 212 = .ok (.iinc 5 (-1), 3) := by decide +kernel
theorem dX3_isSame_215 : decode cX3_isSame 215 = .ok (.goto (-199), 3) := by decide +kernel
theorem dX3_isSame_218 : decode cX3_isSame 218 = .ok (.iconst 0, 1) := by decide +kernel
theorem dX3_isSame_219 : decode cX3_isSame 219 = .ok (.istore 5, 2) := by decide +kernel
theorem dX3_isSame_221 : decode cX3_isSame 221 = .ok (.aload_n 0, 1) := by decide +kernel
theorem dX3_isSame_222 : decode cX3_isSame 222 = .ok (.getfield 26, 3) := by decide +kernel
theorem dX3_isSame_225 : decode cX3_isSame 225 = .ok (.iload 5, 2) := by decide +kernel
theorem dX3_isSame_227 : decode cX3_isSame 227 = .ok (.iadd, 1) := by decide +kernel
theorem dX3_isSame_228 : decode cX3_isSame 228 = .ok (.bipush 12, 2) := by decide +kernel
theorem dX3_isSame_230 : decode cX3_isSame 230 = .ok (.irem, 1) := by decide +kernel
theorem dX3_isSame_231 : decode cX3_isSame 231 = .ok (.iconst 5, 1) := by decide +kernel
theorem dX3_isSame_232 : decode cX3_isSame 232 = .ok (.if_icmp .eq 24, 3) := by decide +kernel
theorem dX3_isSame_235 : decode cX3_isSame 235 = .ok (.aload_n 0, 1) := by decide +kernel
theorem dX3_isSame_236 : decode cX3_isSame 236 = .ok (.getfield 26, 3) := by decide +kernel
theorem dX3_isSame_239 : decode cX3_isSame 239 = .ok (.iload 5, 2) := by decide +kernel
theorem dX3_isSame_241 : decode cX3_isSame 241 = .ok (.iadd, 1) := by decide +kernel
theorem dX3_isSame_242 : decode cX3_isSame 242 = .ok (.bipush 12, 2) := by decide +kernel
theorem dX3_isSame_244 : decode cX3_isSame 244 = .ok (.irem, 1) := by decide +kernel
theorem dX3_isSame_245 : decode cX3_isSame 245 = .ok (.bipush 6, 2) := by decide +kernel
theorem dX3_isSame_247 : decode cX3_isSame 247 = .ok (.if_icmp .eq 9, 3) := by decide +kernel
theorem dX3_isSame_250 : decode cX3_isSame 250 = .ok (.iinc 5 1, 3) := by decide +kernel
theorem dX3_isSame_253 : decode cX3_isSame 253 = .ok (.goto (-32), 3) := by decide +kernel
theorem dX3_isSame_256 : decode cX3_isSame 256 = .ok (.aload_n 1, 1) := by decide +kernel
theorem dX3_isSame_257 : decode cX3_isSame 257 = .ok (.invokevirtual 92, 3) := by decide +kernel
theorem dX3_isSame_260 : decode cX3_isSame 260 = .ok (.aload_n 0, 1) := by decide +kernel
theorem dX3_isSame_261 : decode cX3_isSame 261 = .ok (.getfield 26, 3) := by decide +kernel
theorem dX3_isSame_264 : decode cX3_isSame 264 = .ok (.if_icmp .ne 151, 3) := by decide +kernel
theorem dX3_isSame_267 : decode cX3_isSame 267 = .ok (.aload_n 1, 1) := by decide +kernel
theorem dX3_isSame_268 : decode cX3_isSame 268 = .ok (.invokevirtual 94, 3) := by decide +kernel
theorem dX3_isSame_271 : decode cX3_isSame 271 = .ok (.aload_n 0, 1) := by decide +kernel
theorem dX3_isSame_272 : decode cX3_isSame 272 = .ok (.invokevirtual 43, 3) := by decide +kernel
theorem dX3_isSame_275 : decode cX3_isSame 275 = .ok (.if_icmp .ne 140, 3) := by decide +kernel
theorem dX3_isSame_278 : decode cX3_isSame 278 = .ok (.aload_n 1, 1) := by decide +kernel
theorem dX3_isSame_279 : decode cX3_isSame 279 = .ok (.invokevirtual 95, 3) := by decide +kernel
theorem dX3_isSame_282 : decode cX3_isSame 282 = .ok (.aload_n 0, 1) := by decide +kernel
theorem dX3_isSame_283 : decode cX3_isSame 283 = .ok (.invokevirtual 50, 3) := by decide +kernel
theorem dX3_isSame_286 : decode cX3_isSame 286 = .ok (.if_icmp .ne 129, 3) := by decide +kernel
theorem dX3_isSame_289 : decode cX3_isSame 289 = .ok (.aload_n 1, 1) := by decide +kernel
theorem dX3_isSame_290 : decode cX3_isSame 290 = .ok (.invokevirtual 96, 3) := by decide +kernel
theorem dX3_isSame_293 : decode cX3_isSame 293 = .ok (.iload 5, 2) := by decide +kernel
theorem dX3_isSame_295 : decode cX3_isSame 295 = .ok (.if_icmp .ne 120, 3) := by decide +kernel
theorem dX3_isSame_298 : decode cX3_isSame 298 = .ok (.aload_n 1, 1) := by decide +kernel
theorem dX3_isSame_299 : decode cX3_isSame 299 = .ok (.invokevirtual 99, 3) := by decide +kernel
theorem dX3_isSame_302 : decode cX3_isSame 302 = .ok (.aload_n 0, 1) := by decide +kernel
theorem dX3_isSame_303 : decode cX3_isSame 303 = .ok (.getfield 21, 3) := by decide +kernel
theorem dX3_isSame_306 : decode cX3_isSame 306 = .ok (.arraylength, 1) := by decide +kernel
theorem dX3_isSame_307 : decode cX3_isSame 307 = .ok (.if_icmp .ne 108, 3) := by decide +kernel
theorem dX3_isSame_310 : decode cX3_isSame 310 = .ok (.aload_n 1, 1) := by decide +kernel
theorem dX3_isSame_311 : decode cX3_isSame 311 = .ok (.invokevirtual 102, 3) := by decide +kernel
theorem dX3_isSame_314 : decode cX3_isSame 314 = .ok (.iload_n 2, 1) := by decide +kernel
theorem dX3_isSame_315 : decode cX3_isSame 315 = .ok (.if_icmp .ne 100, 3) := by decide +kernel
theorem dX3_isSame_318 : decode cX3_isSame 318 = .ok (.aload_n 1, 1) := by decide +kernel
theorem dX3_isSame_319 : decode cX3_isSame 319 = .ok (.invokevirtual 105, 3) := by decide +kernel
theorem dX3_isSame_322 : decode cX3_isSame 322 = .ok (.iload_n 3, 1) := by decide +kernel
theorem dX3_isSame_323 : decode cX3_isSame 323 = .ok (.if_icmp .ne 92, 3) := by decide +kernel
theorem dX3_isSame_326 : decode cX3_isSame 326 = .ok (.aload_n 1, 1) := by decide +kernel
theorem dX3_isSame_327 : decode cX3_isSame 327 = .ok (.invokevirtual 108, 3) := by decide +kernel
theorem dX3_isSame_330 : decode cX3_isSame 330 = .ok (.aload_n 0, 1) := by decide +kernel
theorem dX3_isSame_331 : decode cX3_isSame 331 = .ok (.getfield 7, 3) := by decide +kernel
theorem dX3_isSame_334 : decode cX3_isSame 334 = .ok (.if_icmp .ne 81, 3) := by decide +kernel
theorem dX3_isSame_337 : decode cX3_isSame 337 = .ok (.aload_n 1, 1) := by decide +kernel
theorem dX3_isSame_338 : decode cX3_isSame 338 = .ok (.invokevirtual 110, 3) := by decide +kernel
theorem dX3_isSame_341 : decode cX3_isSame 341 = .ok (.aload_n 0, 1) := by decide +kernel
theorem dX3_isSame_342 : decode cX3_isSame 342 = .ok (.getfield 13, 3) := by decide +kernel
theorem dX3_isSame_345 : decode cX3_isSame 345 = .ok (.if_icmp .ne 70, 3) := by decide +kernel
theorem dX3_isSame_348 : decode cX3_isSame 348 = .ok (.aload_n 1, 1) := by decide +kernel
theorem dX3_isSame_349 : decode cX3_isSame 349 = .ok (.invokevirtual 112, 3) := by decide +kernel
theorem dX3_isSame_352 : decode cX3_isSame 352 = .ok (.aload_n 0, 1) := by decide +kernel
theorem dX3_isSame_353 : decode cX3_isSame 353 = .ok (.getfield 16, 3) := by decide +kernel
theorem dX3_isSame_356 : decode cX3_isSame 356 = .ok (.if_icmp .ne 59, 3) := by decide +kernel
theorem dX3_isSame_359 : decode cX3_isSame 359 = .ok (.aload_n 1, 1) := by decide +kernel
theorem dX3_isSame_360 : decode cX3_isSame 360 = .ok (.invokevirtual 114, 3) := by decide +kernel
theorem dX3_isSame_363 : decode cX3_isSame 363 = .ok (.aload_n 0, 1) := by decide +kernel
theorem dX3_isSame_364 : decode cX3_isSame 364 = .ok (.getfield 29, 3) := by decide +kernel
theorem dX3_isSame_367 : decode cX3_isSame 367 = .ok (.if_icmp .ne 48, 3) := by decide +kernel
theorem dX3_isSame_370 : decode cX3_isSame 370 = .ok (.aload_n 1, 1) := by decide +kernel
theorem dX3_isSame_371 : decode cX3_isSame 371 = .ok (.invokevirtual 116, 3) := by decide +kernel
theorem dX3_isSame_374 : decode cX3_isSame 374 = .ok (.aload_n 0, 1) := by decide +kernel
theorem dX3_isSame_375 : decode cX3_isSame 375 = .ok (.getfield 32, 3) := by decide +kernel
theorem dX3_isSame_378 : decode cX3_isSame 378 = .ok (.if_icmp .ne 37, 3) := by decide +kernel
theorem dX3_isSame_381 : decode cX3_isSame 381 = .ok (.aload_n 1, 1) := by decide +kernel
theorem dX3_isSame_382 : decode cX3_isSame 382 = .ok (.invokevirtual 119, 3) := by decide +kernel
theorem dX3_isSame_385 : decode cX3_isSame 385 = .ok (.aload_n 0, 1) := by decide +kernel
theorem dX3_isSame_386 : decode cX3_isSame 386 = .ok (.getfield 21, 3) := by decide +kernel
theorem dX3_isSame_389 : decode cX3_isSame 389 = .ok (.arraylength, 1) := by decide +kernel
theorem dX3_isSame_390 : decode cX3_isSame 390 = .ok (.ifCond .ne 7, 3) := by decide +kernel
theorem dX3_isSame_393 : decode cX3_isSame 393 = .ok (.dconst 0, 1) := by decide +kernel
theorem dX3_isSame_394 : decode cX3_isSame 394 = .ok (.goto 13, 3) := by decide +kernel
theorem dX3_isSame_397 : decode cX3_isSame 397 = .ok (.iload 4, 2) := by decide +kernel
theorem dX3_isSame_399 : decode cX3_isSame 399 = .ok (.i2d, 1) := by decide +kernel
theorem dX3_isSame_400 : decode cX3_isSame 400 = .ok (.aload_n 0, 1) := by decide +kernel
theorem dX3_isSame_401 : decode cX3_isSame 401 = .ok (.getfield 21, 3) := by decide +kernel
theorem dX3_isSame_404 : decode cX3_isSame 404 = .ok (.arraylength, 1) := by decide +kernel
theorem dX3_isSame_405 : decode cX3_isSame 405 = .ok (.i2d, 1) := by decide +kernel
theorem dX3_isSame_406 : decode cX3_isSame 406 = .ok (.ddiv, 1) := by decide +kernel
theorem dX3_isSame_407 : decode cX3_isSame 407 = .ok (.dcmp .l, 1) := by decide +kernel
theorem dX3_isSame_408 : decode cX3_isSame 408 = .ok (.ifCond .ne 7, 3) := by decide +kernel
theorem dX3_isSame_411 : decode cX3_isSame 411 = .ok (.iconst 1, 1) := by decide +kernel
theorem dX3_isSame_412 : decode cX3_isSame 412 = .ok (.goto 4, 3) := by decide +kernel
theorem dX3_isSame_415 : decode cX3_isSame 415 = .ok (.iconst 0, 1) := by decide +kernel
theorem dX3_isSame_416 : decode cX3_isSame 416 = .ok (.ireturn, 1) := by decide +kernel
end
section
theorem dL_below_0 : decode cL_below 0 = .ok (.iload_n 0, 1) := by decide +kernel
theorem dL_below_1 : decode cL_below 1 = .ok (.ldc 7, 2) := by decide +kernel
theorem dL_below_3 : decode cL_below 3 = .ok (.iand, 1) := by decide +kernel
theorem dL_below_4 : decode cL_below 4 = .ok (.iload_n 1, 1) := by decide +kernel
theorem dL_below_5 : decode cL_below 5 = .ok (.irem, 1) := by decide +kernel
theorem dL_below_6 : decode cL_below 6 = .ok (.ireturn, 1) := by decide +kernel
theorem dL_cell_0 : decode cL_cell 0 = .ok (.iload_n 1, 1) := by decide +kernel
theorem dL_cell_1 : decode cL_cell 1 = .ok (.aload_n 0, 1) := by decide +kernel
theorem dL_cell_2 : decode cL_cell 2 = .ok (.arraylength, 1) := by decide +kernel
theorem dL_cell_3 : decode cL_cell 3 = .ok (.if_icmp .ge 9, 3) := by decide +kernel
theorem dL_cell_6 : decode cL_cell 6 = .ok (.aload_n 0, 1) := by decide +kernel
theorem dL_cell_7 : decode cL_cell 7 = .ok (.iload_n 1, 1) := by decide +kernel
theorem dL_cell_8 : decode cL_cell 8 = .ok (.iaload, 1) := by decide +kernel
theorem dL_cell_9 : decode cL_cell 9 = .ok (.goto 9, 3) := by decide +kernel
theorem dL_cell_12 : decode cL_cell 12 = .ok (.ldc 8, 2) := by decide +kernel
theorem dL_cell_14 : decode cL_cell 14 = .ok (.iload_n 1, 1) := by decide +kernel
theorem dL_cell_15 : decode cL_cell 15 = .ok (.iconst 3, 1) := by decide +kernel
theorem dL_cell_16 : decode cL_cell 16 = .ok (.iadd, 1) := by decide +kernel
theorem dL_cell_17 : decode cL_cell 17 = .ok (.imul, 1) := by decide +kernel
theorem dL_cell_18 : decode cL_cell 18 = .ok (.ireturn, 1) := by decide +kernel
theorem dL_act_0 : decode cL_act 0 = .ok (.aload_n 1, 1) := by decide +kernel
theorem dL_act_1 : decode cL_act 1 = .ok (.getfield 9, 3) := by decide +kernel
theorem dL_act_4 : decode cL_act 4 = .ok (.arraylength, 1) := by decide +kernel
theorem dL_act_5 : decode cL_act 5 = .ok (.istore_n 3, 1) := by decide +kernel
theorem dL_act_6 : decode cL_act 6 = .ok (.iload_n 3, 1) := by decide +kernel
theorem dL_act_7 : decode cL_act 7 = .ok (.ifCond .ne 7, 3) := by decide +kernel
theorem dL_act_10 : decode cL_act 10 = .ok (.iconst 0, 1) := by decide +kernel
theorem dL_act_11 : decode cL_act 11 = .ok (.goto 10, 3) := by decide +kernel
theorem dL_act_14 : decode cL_act 14 = .ok (.iload_n 2, 1) := by decide +kernel
theorem dL_act_15 : decode cL_act 15 = .ok (.iconst 5, 1) := by decide +kernel
theorem dL_act_16 : decode cL_act 16 = .ok (.ishr, 1) := by decide +kernel
theorem dL_act_17 : decode cL_act 17 = .ok (.iload_n 3, 1) := by decide +kernel
theorem dL_act_18 : decode cL_act 18 = .ok (.invokestatic 15, 3) := by decide +kernel
theorem dL_act_21 : decode cL_act 21 = .ok (.istore 4, 2) := by decide +kernel
theorem dL_act_23 : decode cL_act 23 = .ok (.iconst 1, 1) := by decide +kernel
theorem dL_act_24 : decode cL_act 24 = .ok (.istore 5, 2) := by decide +kernel
theorem dL_act_26 : decode cL_act 26 = .ok (.iload_n 3, 1) := by decide +kernel
theorem dL_act_27 : decode cL_act 27 = .ok (.ifCond .ne 7, 3) := by decide +kernel
theorem dL_act_30 : decode cL_act 30 = .ok (.iconst 0, 1) := by decide +kernel
theorem dL_act_31 : decode cL_act 31 = .ok (.goto 9, 3) := by decide +kernel
theorem dL_act_34 : decode cL_act 34 = .ok (.iload_n 2, 1) := by decide +kernel
theorem dL_act_35 : decode cL_act 35 = .ok (.bipush 14, 2) := by decide +kernel
theorem dL_act_37 : decode cL_act 37 = .ok (.invokestatic 15, 3) := by decide +kernel
theorem dL_act_40 : decode cL_act 40 = .ok (.tableswitch 420 0 7 #[48, 48, 135, 188, 243, 281, 318, 318], 48) := by decide +kernel
theorem dL_act_88 : decode cL_act 88 = .ok (.iload_n 3, 1) := by decide +kernel
theorem dL_act_89 : decode cL_act 89 = .ok (.bipush 8, 2) := by decide +kernel
theorem dL_act_91 : decode cL_act 91 = .ok (.if_icmp .ge 7, 3) := by decide +kernel
theorem dL_act_94 : decode cL_act 94 = .ok (.iconst 1, 1) := by decide +kernel
theorem dL_act_95 : decode cL_act 95 = .ok (.goto 4, 3) := by decide +kernel
theorem dL_act_98 : decode cL_act 98 = .ok (.iconst 0, 1) := by decide +kernel
theorem dL_act_99 : decode cL_act 99 = .ok (.istore 5, 2) := by decide +kernel
theorem dL_act_101 : decode cL_act 101 = .ok (.iconst 1, 1) := by decide +kernel
theorem dL_act_102 : decode cL_act 102 = .ok (.iload_n 2, 1) := by decide +kernel
theorem dL_act_103 : decode cL_act 103 = .ok (.iconst 4, 1) := by decide +kernel
theorem dL_act_104 : decode cL_act 104 = .ok (.ishr, 1) := by decide +kernel
theorem dL_act_105 : decode cL_act 105 = .ok (.bipush 30, 2) := by decide +kernel
theorem dL_act_107 : decode cL_act 107 = .ok (.invokestatic 15, 3) := by decide +kernel
theorem dL_act_110 : decode cL_act 110 = .ok (.iadd, 1) := by decide +kernel
theorem dL_act_111 : decode cL_act 111 = .ok (.istore 6, 2) := by decide +kernel
theorem dL_act_113 : decode cL_act 113 = .ok (.iload_n 2, 1) := by decide +kernel
theorem dL_act_114 : decode cL_act 114 = .ok (.bipush 7, 2) := by decide +kernel
theorem dL_act_116 : decode cL_act 116 = .ok (.ishr, 1) := by decide +kernel
theorem dL_act_117 : decode cL_act 117 = .ok (.bipush 6, 2) := by decide +kernel
theorem dL_act_119 : decode cL_act 119 = .ok (.invokestatic 15, 3) := by decide +kernel
theorem dL_act_122 : decode cL_act 122 = .ok (.istore 7, 2) := by decide +kernel
theorem dL_act_124 : decode cL_act 124 = .ok (.iload_n 2, 1) := by decide +kernel
theorem dL_act_125 : decode cL_act 125 = .ok (.bipush 6, 2) := by decide +kernel
theorem dL_act_127 : decode cL_act 127 = .ok (.ishr, 1) := by decide +kernel
theorem dL_act_128 : decode cL_act 128 = .ok (.bipush 10, 2) := by decide +kernel
theorem dL_act_130 : decode cL_act 130 = .ok (.invokestatic 15, 3) := by decide +kernel
theorem dL_act_133 : decode cL_act 133 = .ok (.istore 8, 2) := by decide +kernel
theorem dL_act_135 : decode cL_act 135 = .ok (.iload 5, 2) := by decide +kernel
theorem dL_act_137 : decode cL_act 137 = .ok (.ifCond .eq 13, 3) := by decide +kernel
theorem dL_act_140 : decode cL_act 140 = .ok (.aload_n 1, 1) := by decide +kernel
theorem dL_act_141 : decode cL_act 141 = .ok (.iload 6, 2) := by decide +kernel
theorem dL_act_143 : decode cL_act 143 = .ok (.iload 7, 2) := by decide +kernel
theorem dL_act_145 : decode cL_act 145 = .ok (.iload 8, 2) := by decide +kernel
theorem dL_act_147 : decode cL_act 147 = .ok (.invokevirtual 21, 3) := by decide +kernel
theorem dL_act_150 : decode cL_act 150 = .ok (.aload_n 0, 1) := by decide +kernel
theorem dL_act_151 : decode cL_act 151 = .ok (.iload 6, 2) := by decide +kernel
theorem dL_act_153 : decode cL_act 153 = .ok (.iload 7, 2) := by decide +kernel
theorem dL_act_155 : decode cL_act 155 = .ok (.iload 8, 2) := by decide +kernel
theorem dL_act_157 : decode cL_act 157 = .ok (.invokevirtual 25, 3) := by decide +kernel
theorem dL_act_160 : decode cL_act 160 = .ok (.iload_n 3, 1) := by decide +kernel
theorem dL_act_161 : decode cL_act 161 = .ok (.if_icmp .ne 12, 3) := by decide +kernel
theorem dL_act_164 : decode cL_act 164 = .ok (.iload 5, 2) := by decide +kernel
theorem dL_act_166 : decode cL_act 166 = .ok (.ifCond .eq 7, 3) := by decide +kernel
theorem dL_act_169 : decode cL_act 169 = .ok (.iconst 1, 1) := by decide +kernel
theorem dL_act_170 : decode cL_act 170 = .ok (.goto 4, 3) := by decide +kernel
theorem dL_act_173 : decode cL_act 173 = .ok (.iconst 0, 1) := by decide +kernel
theorem dL_act_174 : decode cL_act 174 = .ok (.ireturn, 1) := by decide +kernel
theorem dL_act_175 : decode cL_act 175 = .ok (.aload_n 1, 1) := by decide +kernel
theorem dL_act_176 : decode cL_act 176 = .ok (.getfield 9, 3) := by decide +kernel
theorem dL_act_179 : decode cL_act 179 = .ok (.iload 4, 2) := by decide +kernel
theorem dL_act_181 : decode cL_act 181 = .ok (.aaload, 1) := by decide +kernel
theorem dL_act_182 : decode cL_act 182 = .ok (.iconst 4, 1) := by decide +kernel
theorem dL_act_183 : decode cL_act 183 = .ok (.iconst 1, 1) := by decide +kernel
theorem dL_act_184 : decode cL_act 184 = .ok (.aload_n 1, 1) := by decide +kernel
theorem dL_act_185 : decode cL_act 185 = .ok (.getfield 9, 3) := by decide +kernel
theorem dL_act_188 : decode cL_act 188 = .ok (.iload 4, 2) := by decide +kernel
theorem dL_act_190 : decode cL_act 190 = .ok (.aaload, 1) := by decide +kernel
theorem dL_act_191 : decode cL_act 191 = .ok (.iconst 4, 1) := by decide +kernel
theorem dL_act_192 : decode cL_act 192 = .ok (.iaload, 1) := by decide +kernel
theorem dL_act_193 : decode cL_act 193 = .ok (.isub, 1) := by decide +kernel
theorem dL_act_194 : decode cL_act 194 = .ok (.iastore, 1) := by decide +kernel
theorem dL_act_195 : decode cL_act 195 = .ok (.aload_n 0, 1) := by decide +kernel
theorem dL_act_196 : decode cL_act 196 = .ok (.iload 4, 2) := by decide +kernel
theorem dL_act_198 : decode cL_act 198 = .ok (.invokevirtual 31, 3) := by decide +kernel
theorem dL_act_201 : decode cL_act 201 = .ok (.aload_n 1, 1) := by decide +kernel
theorem dL_act_202 : decode cL_act 202 = .ok (.getfield 9, 3) := by decide +kernel
theorem dL_act_205 : decode cL_act 205 = .ok (.iload 4, 2) := by decide +kernel
theorem dL_act_207 : decode cL_act 207 = .ok (.aaload, 1) := by decide +kernel
theorem dL_act_208 : decode cL_act 208 = .ok (.iconst 4, 1) := by decide +kernel
theorem dL_act_209 : decode cL_act 209 = .ok (.iaload, 1) := by decide +kernel
theorem dL_act_210 : decode cL_act 210 = .ok (.iconst 1, 1) := by decide +kernel
theorem dL_act_211 : decode cL_act 211 = .ok (.if_icmp .ne 7, 3) := by decide +kernel
theorem dL_act_214 : decode cL_act 214 = .ok (.iconst 1, 1) := by decide +kernel
theorem dL_act_215 : decode cL_act 215 = .ok (.goto 4, 3) := by decide +kernel
theorem dL_act_218 : decode cL_act 218 = .ok (.iconst 0, 1) := by decide +kernel
theorem dL_act_219 : decode cL_act 219 = .ok (.if_icmp .ne 7, 3) := by decide +kernel
theorem dL_act_222 : decode cL_act 222 = .ok (.iconst 1, 1) := by decide +kernel
theorem dL_act_223 : decode cL_act 223 = .ok (.goto 4, 3) := by decide +kernel
theorem dL_act_226 : decode cL_act 226 = .ok (.iconst 0, 1) := by decide +kernel
theorem dL_act_227 : decode cL_act 227 = .ok (.ireturn, 1) := by decide +kernel
theorem dL_act_228 : decode cL_act 228 = .ok (.aload_n 1, 1) := by decide +kernel
theorem dL_act_229 : decode cL_act 229 = .ok (.getfield 9, 3) := by decide +kernel
theorem dL_act_232 : decode cL_act 232 = .ok (.iload 4, 2) := by decide +kernel
theorem dL_act_234 : decode cL_act 234 = .ok (.aaload, 1) := by decide +kernel
theorem dL_act_235 : decode cL_act 235 = .ok (.iconst 2, 1) := by decide +kernel
theorem dL_act_236 : decode cL_act 236 = .ok (.iaload, 1) := by decide +kernel
theorem dL_act_237 : decode cL_act 237 = .ok (.istore 6, 2) := by decide +kernel
theorem dL_act_239 : decode cL_act 239 = .ok (.aload_n 1, 1) := by decide +kernel
theorem dL_act_240 : decode cL_act 240 = .ok (.getfield 9, 3) := by decide +kernel
theorem dL_act_243 : decode cL_act 243 = .ok (.iload 4, 2) := by decide +kernel
theorem dL_act_245 : decode cL_act 245 = .ok (.aaload, 1) := by decide +kernel
theorem dL_act_246 : decode cL_act 246 = .ok (.iconst 2, 1) := by decide +kernel
theorem dL_act_247 : decode cL_act 247 = .ok (.iload_n 2, 1) := by decide +kernel
theorem dL_act_248 : decode cL_act 248 = .ok (.bipush 7, 2) := by decide +kernel
theorem dL_act_250 : decode cL_act 250 = .ok (.ishr, 1) := by decide +kernel
theorem dL_act_251 : decode cL_act 251 = .ok (.bipush 10, 2) := by decide +kernel
theorem dL_act_253 : decode cL_act 253 = .ok (.invokestatic 15, 3) := by decide +kernel
theorem dL_act_256 : decode cL_act 256 = .ok (.iastore, 1) := by decide +kernel
theorem dL_act_257 : decode cL_act 257 = .ok (.aload_n 0, 1) := by decide +kernel
theorem dL_act_258 : decode cL_act 258 = .ok (.iload 4, 2) := by decide +kernel
theorem dL_act_260 : decode cL_act 260 = .ok (.aload_n 1, 1) := by decide +kernel
theorem dL_act_261 : decode cL_act 261 = .ok (.getfield 9, 3) := by decide +kernel
theorem dL_act_264 : decode cL_act 264 = .ok (.iload 4, 2) := by decide +kernel
theorem dL_act_266 : decode cL_act 266 = .ok (.aaload, 1) := by decide +kernel
theorem dL_act_267 : decode cL_act 267 = .ok (.iconst 2, 1) := by decide +kernel
theorem dL_act_268 : decode cL_act 268 = .ok (.iaload, 1) := by decide +kernel
theorem dL_act_269 : decode cL_act 269 = .ok (.invokevirtual 35, 3) := by decide +kernel
theorem dL_act_272 : decode cL_act 272 = .ok (.iload 6, 2) := by decide +kernel
theorem dL_act_274 : decode cL_act 274 = .ok (.if_icmp .ne 7, 3) := by decide +kernel
theorem dL_act_277 : decode cL_act 277 = .ok (.iconst 1, 1) := by decide +kernel
theorem dL_act_278 : decode cL_act 278 = .ok (.goto 4, 3) := by decide +kernel
theorem dL_act_281 : decode cL_act 281 = .ok (.iconst 0, 1) := by decide +kernel
theorem dL_act_282 : decode cL_act 282 = .ok (.ireturn, 1) := by decide +kernel
theorem dL_act_283 : decode cL_act 283 = .ok (.aload_n 1, 1) := by decide +kernel
theorem dL_act_284 : decode cL_act 284 = .ok (.getfield 9, 3) := by decide +kernel
theorem dL_act_287 : decode cL_act 287 = .ok (.iload 4, 2) := by decide +kernel
theorem dL_act_289 : decode cL_act 289 = .ok (.aaload, 1) := by decide +kernel
theorem dL_act_290 : decode cL_act 290 = .ok (.iconst 3, 1) := by decide +kernel
theorem dL_act_291 : decode cL_act 291 = .ok (.iaload, 1) := by decide +kernel
theorem dL_act_292 : decode cL_act 292 = .ok (.istore 6, 2) := by decide +kernel
theorem dL_act_294 : decode cL_act 294 = .ok (.aload_n 1, 1) := by decide +kernel
theorem dL_act_295 : decode cL_act 295 = .ok (.getfield 9, 3) := by decide +kernel
theorem dL_act_298 : decode cL_act 298 = .ok (.iload 4, 2) := by decide +kernel
theorem dL_act_300 : decode cL_act 300 = .ok (.aaload, 1) := by decide +kernel
theorem dL_act_301 : decode cL_act 301 = .ok (.iconst 3, 1) := by decide +kernel
theorem dL_act_302 : decode cL_act 302 = .ok (.iconst 0, 1) := by decide +kernel
theorem dL_act_303 : decode cL_act 303 = .ok (.iastore, 1) := by decide +kernel
theorem dL_act_304 : decode cL_act 304 = .ok (.aload_n 0, 1) := by decide +kernel
theorem dL_act_305 : decode cL_act 305 = .ok (.iload 4, 2) := by decide +kernel
theorem dL_act_307 : decode cL_act 307 = .ok (.invokevirtual 38, 3) := by decide +kernel
theorem dL_act_310 : decode cL_act 310 = .ok (.iload 6, 2) := by decide +kernel
theorem dL_act_312 : decode cL_act 312 = .ok (.if_icmp .ne 7, 3) := by decide +kernel
theorem dL_act_315 : decode cL_act 315 = .ok (.iconst 1, 1) := by decide +kernel
theorem dL_act_316 : decode cL_act 316 = .ok (.goto 4, 3) := by decide +kernel
theorem dL_act_319 : decode cL_act 319 = .ok (.iconst 0, 1) := by decide +kernel
theorem dL_act_320 : decode cL_act 320 = .ok (.ireturn, 1) := by decide +kernel
theorem dL_act_321 : decode cL_act 321 = .ok (.aload_n 1, 1) := by decide +kernel
theorem dL_act_322 : decode cL_act 322 = .ok (.getfield 42, 3) := by decide +kernel
theorem dL_act_325 : decode cL_act 325 = .ok (.istore 6, 2) := by decide +kernel
theorem dL_act_327 : decode cL_act 327 = .ok (.aload_n 1, 1) := by decide +kernel
theorem dL_act_328 : decode cL_act 328 = .ok (.iload_n 2, 1) := by decide +kernel
theorem dL_act_329 : decode cL_act 329 = .ok (.iconst 4, 1) := by decide +kernel
theorem dL_act_330 : decode cL_act 330 = .ok (.ishr, 1) := by decide +kernel
theorem dL_act_331 : decode cL_act 331 = .ok (.bipush 10, 2) := by decide +kernel
theorem dL_act_333 : decode cL_act 333 = .ok (.invokestatic 15, 3) := by decide +kernel
theorem dL_act_336 : decode cL_act 336 = .ok (.putfield 42, 3) := by decide +kernel
theorem dL_act_339 : decode cL_act 339 = .ok (.aload_n 0, 1) := by decide +kernel
theorem dL_act_340 : decode cL_act 340 = .ok (.aload_n 1, 1) := by decide +kernel
theorem dL_act_341 : decode cL_act 341 = .ok (.getfield 42, 3) := by decide +kernel
theorem dL_act_344 : decode cL_act 344 = .ok (.invokevirtual 46, 3) := by decide +kernel
theorem dL_act_347 : decode cL_act 347 = .ok (.iload 6, 2) := by decide +kernel
theorem dL_act_349 : decode cL_act 349 = .ok (.if_icmp .ne 7, 3) := by decide +kernel
theorem dL_act_352 : decode cL_act 352 = .ok (.iconst 1, 1) := by decide +kernel
theorem dL_act_353 : decode cL_act 353 = .ok (.goto 4, 3) := by decide +kernel
theorem dL_act_356 : decode cL_act 356 = .ok (.iconst 0, 1) := by decide +kernel
theorem dL_act_357 : decode cL_act 357 = .ok (.ireturn, 1) := by decide +kernel
theorem dL_act_358 : decode cL_act 358 = .ok (.aload_n 1, 1) := by decide +kernel
theorem dL_act_359 : decode cL_act 359 = .ok (.getfield 49, 3) := by decide +kernel
theorem dL_act_362 : decode cL_act 362 = .ok (.istore 6, 2) := by decide +kernel
theorem dL_act_364 : decode cL_act 364 = .ok (.aload_n 1, 1) := by decide +kernel
theorem dL_act_365 : decode cL_act 365 = .ok (.iload_n 2, 1) := by decide +kernel
theorem dL_act_366 : decode cL_act 366 = .ok (.iconst 4, 1) := by decide +kernel
theorem dL_act_367 : decode cL_act 367 = .ok (.ishr, 1) := by decide +kernel
theorem dL_act_368 : decode cL_act 368 = .ok (.iload_n 2, 1) := by decide +kernel
theorem dL_act_369 : decode cL_act 369 = .ok (.bipush 8, 2) := by decide +kernel
theorem dL_act_371 : decode cL_act 371 = .ok (.ishr, 1) := by decide +kernel
theorem dL_act_372 : decode cL_act 372 = .ok (.iconst 2, 1) := by decide +kernel
theorem dL_act_373 : decode cL_act 373 = .ok (.invokestatic 15, 3) := by decide +kernel
theorem dL_act_376 : decode cL_act 376 = .ok (.ifCond .ne 9, 3) := by decide +kernel
theorem dL_act_379 : decode cL_act 379 = .ok (.sipush 201, 3) := by decide +kernel
theorem dL_act_382 : decode cL_act 382 = .ok (.goto 5, 3) := by decide +kernel
theorem dL_act_385 : decode cL_act 385 = .ok (.bipush 40, 2) := by decide +kernel
theorem dL_act_387 : decode cL_act 387 = .ok (.invokestatic 15, 3) := by decide +kernel
theorem dL_act_390 : decode cL_act 390 = .ok (.putfield 52, 3) := by decide +kernel
theorem dL_act_393 : decode cL_act 393 = .ok (.aload_n 1, 1) := by decide +kernel
theorem dL_act_394 : decode cL_act 394 = .ok (.iload_n 2, 1) := by decide +kernel
theorem dL_act_395 : decode cL_act 395 = .ok (.bipush 9, 2) := by decide +kernel
theorem dL_act_397 : decode cL_act 397 = .ok (.ishr, 1) := by decide +kernel
theorem dL_act_398 : decode cL_act 398 = .ok (.iconst 3, 1) := by decide +kernel
theorem dL_act_399 : decode cL_act 399 = .ok (.invokestatic 15, 3) := by decide +kernel
theorem dL_act_402 : decode cL_act 402 = .ok (.ifCond .ne 7, 3) := by decide +kernel
theorem dL_act_405 : decode cL_act 405 = .ok (.iconst 0, 1) := by decide +kernel
theorem dL_act_406 : decode cL_act 406 = .ok (.goto 28, 3) := by decide +kernel
theorem dL_act_409 : decode cL_act 409 = .ok (.iload_n 2, 1) := by decide +kernel
theorem dL_act_410 : decode cL_act 410 = .ok (.bipush 6, 2) := by decide +kernel
theorem dL_act_412 : decode cL_act 412 = .ok (.ishr, 1) := by decide +kernel
theorem dL_act_413 : decode cL_act 413 = .ok (.iload_n 2, 1) := by decide +kernel
theorem dL_act_414 : decode cL_act 414 = .ok (.iconst 3, 1) := by decide +kernel
theorem dL_act_415 : decode cL_act 415 = .ok (.ishr, 1) := by decide +kernel
theorem dL_act_416 : decode cL_act 416 = .ok (.iconst 2, 1) := by decide +kernel
theorem dL_act_417 : decode cL_act 417 = .ok (.invokestatic 15, 3) := by decide +kernel
theorem dL_act_420 : decode cL_act 420 = .ok (.ifCond .ne 9, 3) := by decide +kernel
theorem dL_act_423 : decode cL_act 423 = .ok (.sipush 401, 3) := by decide +kernel
theorem dL_act_426 : decode cL_act 426 = .ok (.goto 5, 3) := by decide +kernel
theorem dL_act_429 : decode cL_act 429 = .ok (.bipush 60, 2) := by decide +kernel
theorem dL_act_431 : decode cL_act 431 = .ok (.invokestatic 15, 3) := by decide +kernel
theorem dL_act_434 : decode cL_act 434 = .ok (.putfield 49, 3) := by decide +kernel
theorem dL_act_437 : decode cL_act 437 = .ok (.aload_n 0, 1) := by decide +kernel
theorem dL_act_438 : decode cL_act 438 = .ok (.aload_n 1, 1) := by decide +kernel
theorem dL_act_439 : decode cL_act 439 = .ok (.getfield 52, 3) := by decide +kernel
theorem dL_act_442 : decode cL_act 442 = .ok (.aload_n 1, 1) := by decide +kernel
theorem dL_act_443 : decode cL_act 443 = .ok (.getfield 49, 3) := by decide +kernel
theorem dL_act_446 : decode cL_act 446 = .ok (.invokevirtual 55, 3) := by decide +kernel
theorem dL_act_449 : decode cL_act 449 = .ok (.iload 6, 2) := by decide +kernel
theorem dL_act_451 : decode cL_act 451 = .ok (.if_icmp .ne 7, 3) := by decide +kernel
theorem dL_act_454 : decode cL_act 454 = .ok (.iconst 1, 1) := by decide +kernel
theorem dL_act_455 : decode cL_act 455 = .ok (.goto 4, 3) := by decide +kernel
theorem dL_act_458 : decode cL_act 458 = .ok (.iconst 0, 1) := by decide +kernel
theorem dL_act_459 : decode cL_act 459 = .ok (.ireturn, 1) := by decide +kernel
theorem dL_act_460 : decode cL_act 460 = .ok (.iconst 1, 1) := by decide +kernel
theorem dL_act_461 : decode cL_act 461 = .ok (.iload_n 2, 1) := by decide +kernel
theorem dL_act_462 : decode cL_act 462 = .ok (.iconst 4, 1) := by decide +kernel
theorem dL_act_463 : decode cL_act 463 = .ok (.ishr, 1) := by decide +kernel
theorem dL_act_464 : decode cL_act 464 = .ok (.iload_n 2, 1) := by decide +kernel
theorem dL_act_465 : decode cL_act 465 = .ok (.bipush 8, 2) := by decide +kernel
theorem dL_act_467 : decode cL_act 467 = .ok (.ishr, 1) := by decide +kernel
theorem dL_act_468 : decode cL_act 468 = .ok (.iconst 5, 1) := by decide +kernel
theorem dL_act_469 : decode cL_act 469 = .ok (.invokestatic 15, 3) := by decide +kernel
theorem dL_act_472 : decode cL_act 472 = .ok (.ifCond .ne 8, 3) := by decide +kernel
theorem dL_act_475 : decode cL_act 475 = .ok (.bipush 60, 2) := by decide +kernel
theorem dL_act_477 : decode cL_act 477 = .ok (.goto 5, 3) := by decide +kernel
theorem dL_act_480 : decode cL_act 480 = .ok (.bipush 7, 2) := by decide +kernel
theorem dL_act_482 : decode cL_act 482 = .ok (.invokestatic 15, 3) := by decide +kernel
theorem dL_act_485 : decode cL_act 485 = .ok (.iadd, 1) := by decide +kernel
theorem dL_act_486 : decode cL_act 486 = .ok (.istore 6, 2) := by decide +kernel
theorem dL_act_488 : decode cL_act 488 = .ok (.aload_n 0, 1) := by decide +kernel
theorem dL_act_489 : decode cL_act 489 = .ok (.iload 6, 2) := by decide +kernel
theorem dL_act_491 : decode cL_act 491 = .ok (.invokevirtual 58, 3) := by decide +kernel
theorem dL_act_494 : decode cL_act 494 = .ok (.aload_n 1, 1) := by decide +kernel
theorem dL_act_495 : decode cL_act 495 = .ok (.iload 6, 2) := by decide +kernel
theorem dL_act_497 : decode cL_act 497 = .ok (.invokevirtual 61, 3) := by decide +kernel
theorem dL_act_500 : decode cL_act 500 = .ok (.if_icmp .ne 7, 3) := by decide +kernel
theorem dL_act_503 : decode cL_act 503 = .ok (.iconst 1, 1) := by decide +kernel
theorem dL_act_504 : decode cL_act 504 = .ok (.goto 4, 3) := by decide +kernel
theorem dL_act_507 : decode cL_act 507 = .ok (.iconst 0, 1) := by decide +kernel
theorem dL_act_508 : decode cL_act 508 = .ok (.ireturn, 1) := by decide +kernel
theorem dL_act_509 : decode cL_act 509 = .ok (.astore 6, 2) := by decide +kernel
theorem dL_act_511 : decode cL_act 511 = .ok (.iload 5, 2) := by decide +kernel
theorem dL_act_513 : decode cL_act 513 = .ok (.ifCond .ne 7, 3) := by decide +kernel
theorem dL_act_516 : decode cL_act 516 = .ok (.iconst 1, 1) := by decide +kernel
theorem dL_act_517 : decode cL_act 517 = .ok (.goto 4, 3) := by decide +kernel
theorem dL_act_520 : decode cL_act 520 = .ok (.iconst 0, 1) := by decide +kernel
theorem dL_act_521 : decode cL_act 521 = .ok (.ireturn, 1) := by decide +kernel
theorem dL_build_0 : decode cL_build 0 = .ok (.new 10, 3) := by decide +kernel
theorem dL_build_3 : decode cL_build 3 = .ok (.dup, 1) := by decide +kernel
theorem dL_build_4 : decode cL_build 4 = .ok (.invokespecial 64, 3) := by decide +kernel
theorem dL_build_7 : decode cL_build 7 = .ok (.astore_n 2, 1) := by decide +kernel
theorem dL_build_8 : decode cL_build 8 = .ok (.iconst 4, 1) := by decide +kernel
theorem dL_build_9 : decode cL_build 9 = .ok (.aload_n 1, 1) := by decide +kernel
theorem dL_build_10 : decode cL_build 10 = .ok (.iconst 0, 1) := by decide +kernel
theorem dL_build_11 : decode cL_build 11 = .ok (.invokestatic 65, 3) := by decide +kernel
theorem dL_build_14 : decode cL_build 14 = .ok (.bipush 14, 2) := by decide +kernel
theorem dL_build_16 : decode cL_build 16 = .ok (.invokestatic 15, 3) := by decide +kernel
theorem dL_build_19 : decode cL_build 19 = .ok (.iadd, 1) := by decide +kernel
theorem dL_build_20 : decode cL_build 20 = .ok (.istore_n 3, 1) := by decide +kernel
theorem dL_build_21 : decode cL_build 21 = .ok (.iconst 0, 1) := by decide +kernel
theorem dL_build_22 : decode cL_build 22 = .ok (.istore 4, 2) := by decide +kernel
theorem dL_build_24 : decode cL_build 24 = .ok (.iload 4, 2) := by decide +kernel
theorem dL_build_26 : decode cL_build 26 = .ok (.iload_n 3, 1) := by decide +kernel
theorem dL_build_27 : decode cL_build 27 = .ok (.if_icmp .ge 62, 3) := by decide +kernel
theorem dL_build_30 : decode cL_build 30 = .ok (.aload_n 1, 1) := by decide +kernel
theorem dL_build_31 : decode cL_build 31 = .ok (.iconst 1, 1) := by decide +kernel
theorem dL_build_32 : decode cL_build 32 = .ok (.iload 4, 2) := by decide +kernel
theorem dL_build_34 : decode cL_build 34 = .ok (.bipush 15, 2) := by decide +kernel
theorem dL_build_36 : decode cL_build 36 = .ok (.irem, 1) := by decide +kernel
theorem dL_build_37 : decode cL_build 37 = .ok (.iadd, 1) := by decide +kernel
theorem dL_build_38 : decode cL_build 38 = .ok (.invokestatic 65, 3) := by decide +kernel
theorem dL_build_41 : decode cL_build 41 = .ok (.iload 4, 2) := by decide +kernel
theorem dL_build_43 : decode cL_build 43 = .ok (.bipush 15, 2) := by decide +kernel
theorem dL_build_45 : decode cL_build 45 = .ok (.idiv, 1) := by decide +kernel
theorem dL_build_46 : decode cL_build 46 = .ok (.iconst 3, 1) := by decide +kernel
theorem dL_build_47 : decode cL_build 47 = .ok (.imul, 1) := by decide +kernel
theorem dL_build_48 : decode cL_build 48 = .ok (.ishr, 1) := by decide +kernel
theorem dL_build_49 : decode cL_build 49 = .ok (.istore 5, 2) := by decide +kernel
theorem dL_build_51 : decode cL_build 51 = .ok (.aload_n 0, 1) := by decide +kernel
theorem dL_build_52 : decode cL_build 52 = .ok (.aload_n 2, 1) := by decide +kernel
theorem dL_build_53 : decode cL_build 53 = .ok (.iload 4, 2) := by decide +kernel
theorem dL_build_55 : decode cL_build 55 = .ok (.iconst 2, 1) := by decide +kernel
theorem dL_build_56 : decode cL_build 56 = .ok (.irem, 1) := by decide +kernel
theorem dL_build_57 : decode cL_build 57 = .ok (.ifCond .ne 16, 3) := by decide +kernel
theorem dL_build_60 : decode cL_build 60 = .ok (.iload 5, 2) := by decide +kernel
theorem dL_build_62 : decode cL_build 62 = .ok (.iload 5, 2) := by decide +kernel
theorem dL_build_64 : decode cL_build 64 = .ok (.bipush 14, 2) := by decide +kernel
theorem dL_build_66 : decode cL_build 66 = .ok (.invokestatic 15, 3) := by decide +kernel
theorem dL_build_69 : decode cL_build 69 = .ok (.isub, 1) := by decide +kernel
theorem dL_build_70 : decode cL_build 70 = .ok (.goto 5, 3) := by decide +kernel
theorem dL_build_73 : decode cL_build 73 = .ok (.iload 5, 2) := by decide +kernel
theorem dL_build_75 : decode cL_build 75 = .ok (.invokestatic 69, 3) := by decide +kernel
theorem dL_build_78 : decode cL_build 78 = .ok (.ifCond .ne 5, 3) := by decide +kernel
theorem dL_build_81 : decode cL_build 81 = .ok (.aconst_null, 1) := by decide +kernel
theorem dL_build_82 : decode cL_build 82 = .ok (.areturn, 1) := by decide +kernel
theorem dL_build_83 : decode cL_build 83 = .ok (.iinc 4 1, 3) := by decide +kernel
theorem dL_build_86 : decode cL_build 86 = .ok (.goto (-62), 3) := by decide +kernel
theorem dL_build_89 : decode cL_build 89 = .ok (.aload_n 2, 1) := by decide +kernel
theorem dL_build_90 : decode cL_build 90 = .ok (.areturn, 1) := by decide +kernel
theorem dL_law_0 : decode cL_law 0 = .ok (.new 26, 3) := by decide +kernel
theorem dL_law_3 : decode cL_law 3 = .ok (.dup, 1) := by decide +kernel
theorem dL_law_4 : decode cL_law 4 = .ok (.invokespecial 73, 3) := by decide +kernel
theorem dL_law_7 : decode cL_law 7 = .ok (.astore_n 1, 1) := by decide +kernel
theorem dL_law_8 : decode cL_law 8 = .ok (.aload_n 1, 1) := by decide +kernel
theorem dL_law_9 : decode cL_law 9 = .ok (.aload_n 0, 1) := by decide +kernel
theorem dL_law_10 : decode cL_law 10 = .ok (.invokestatic 74, 3) := by decide +kernel
theorem dL_law_13 : decode cL_law 13 = .ok (.astore_n 2, 1) := by decide +kernel
theorem dL_law_14 : decode cL_law 14 = .ok (.aload_n 2, 1) := by decide +kernel
theorem dL_law_15 : decode cL_law 15 = .ok (.ifnonnull 5, 3) := by decide +kernel
theorem dL_law_18 : decode cL_law 18 = .ok (.iconst 0, 1) := by decide +kernel
theorem dL_law_19 : decode cL_law 19 = .ok (.ireturn, 1) := by decide +kernel
theorem dL_law_20 : decode cL_law 20 = .ok (.iconst 0, 1) := by decide +kernel
theorem dL_law_21 : decode cL_law 21 = .ok (.istore_n 3, 1) := by decide +kernel
theorem dL_law_22 : decode cL_law 22 = .ok (.iload_n 3, 1) := by decide +kernel
theorem dL_law_23 : decode cL_law 23 = .ok (.bipush 8, 2) := by decide +kernel
theorem dL_law_25 : decode cL_law 25 = .ok (.if_icmp .ge 1436, 3) := by decide +kernel
theorem dL_law_28 : decode cL_law 28 = .ok (.aload_n 0, 1) := by decide +kernel
theorem dL_law_29 : decode cL_law 29 = .ok (.iload_n 3, 1) := by decide +kernel
theorem dL_law_30 : decode cL_law 30 = .ok (.invokestatic 65, 3) := by decide +kernel
theorem dL_law_33 : decode cL_law 33 = .ok (.iconst 2, 1) := by decide +kernel
theorem dL_law_34 : decode cL_law 34 = .ok (.ishr, 1) := by decide +kernel
theorem dL_law_35 : decode cL_law 35 = .ok (.bipush 53, 2) := by decide +kernel
theorem dL_law_37 : decode cL_law 37 = .ok (.iload_n 3, 1) := by decide +kernel
theorem dL_law_38 : decode cL_law 38 = .ok (.imul, 1) := by decide +kernel
theorem dL_law_39 : decode cL_law 39 = .ok (.iadd, 1) := by decide +kernel
theorem dL_law_40 : decode cL_law 40 = .ok (.istore 4, 2) := by decide +kernel
theorem dL_law_42 : decode cL_law 42 = .ok (.iconst 0, 1) := by decide +kernel
theorem dL_law_43 : decode cL_law 43 = .ok (.istore 5, 2) := by decide +kernel
theorem dL_law_45 : decode cL_law 45 = .ok (.iload 5, 2) := by decide +kernel
theorem dL_law_47 : decode cL_law 47 = .ok (.iconst 3, 1) := by decide +kernel
theorem dL_law_48 : decode cL_law 48 = .ok (.if_icmp .ge 32, 3) := by decide +kernel
theorem dL_law_51 : decode cL_law 51 = .ok (.aload_n 1, 1) := by decide +kernel
theorem dL_law_52 : decode cL_law 52 = .ok (.aload_n 2, 1) := by decide +kernel
theorem dL_law_53 : decode cL_law 53 = .ok (.iload 4, 2) := by decide +kernel
theorem dL_law_55 : decode cL_law 55 = .ok (.iconst 3, 1) := by decide +kernel
theorem dL_law_56 : decode cL_law 56 = .ok (.iload 5, 2) := by decide +kernel
theorem dL_law_58 : decode cL_law 58 = .ok (.imul, 1) := by decide +kernel
theorem dL_law_59 : decode cL_law 59 = .ok (.ishr, 1) := by decide +kernel
theorem dL_law_60 : decode cL_law 60 = .ok (.bipush 29, 2) := by decide +kernel
theorem dL_law_62 : decode cL_law 62 = .ok (.iload 5, 2) := by decide +kernel
theorem dL_law_64 : decode cL_law 64 = .ok (.imul, 1) := by decide +kernel
theorem dL_law_65 : decode cL_law 65 = .ok (.iadd, 1) := by decide +kernel
theorem dL_law_66 : decode cL_law 66 = .ok (.invokestatic 69, 3) := by decide +kernel
theorem dL_law_69 : decode cL_law 69 = .ok (.ifCond .ne 5, 3) := by decide +kernel
theorem dL_law_72 : decode cL_law 72 = .ok (.iconst 0, 1) := by decide +kernel
theorem dL_law_73 : decode cL_law 73 = .ok (.ireturn, 1) := by decide +kernel
theorem dL_law_74 : decode cL_law 74 = .ok (.iinc 5 1, 3) := by decide +kernel
theorem dL_law_77 : decode cL_law 77 = .ok (.goto (-32), 3) := by decide +kernel
theorem dL_law_80 : decode cL_law 80 = .ok (.aload_n 1, 1) := by decide +kernel
theorem dL_law_81 : decode cL_law 81 = .ok (.invokevirtual 78, 3) := by decide +kernel
theorem dL_law_84 : decode cL_law 84 = .ok (.lstore 5, 2) := by decide +kernel
theorem dL_law_86 : decode cL_law 86 = .ok (.aload_n 1, 1) := by decide +kernel
theorem dL_law_87 : decode cL_law 87 = .ok (.invokevirtual 82, 3) := by decide +kernel
theorem dL_law_90 : decode cL_law 90 = .ok (.istore 7, 2) := by decide +kernel
theorem dL_law_92 : decode cL_law 92 = .ok (.aload_n 1, 1) := by decide +kernel
theorem dL_law_93 : decode cL_law 93 = .ok (.invokevirtual 86, 3) := by decide +kernel
theorem dL_law_96 : decode cL_law 96 = .ok (.bipush 12, 2) := by decide +kernel
theorem dL_law_98 : decode cL_law 98 = .ok (.irem, 1) := by decide +kernel
theorem dL_law_99 : decode cL_law 99 = .ok (.istore 8, 2) := by decide +kernel
theorem dL_law_101 : decode cL_law 101 = .ok (.aload_n 1, 1) := by decide +kernel
theorem dL_law_102 : decode cL_law 102 = .ok (.invokevirtual 89, 3) := by decide +kernel
theorem dL_law_105 : decode cL_law 105 = .ok (.iload 8, 2) := by decide +kernel
theorem dL_law_107 : decode cL_law 107 = .ok (.iconst 1, 1) := by decide +kernel
theorem dL_law_108 : decode cL_law 108 = .ok (.iadd, 1) := by decide +kernel
theorem dL_law_109 : decode cL_law 109 = .ok (.bipush 12, 2) := by decide +kernel
theorem dL_law_111 : decode cL_law 111 = .ok (.iload 8, 2) := by decide +kernel
theorem dL_law_113 : decode cL_law 113 = .ok (.isub, 1) := by decide +kernel
theorem dL_law_114 : decode cL_law 114 = .ok (.invokestatic 92, 3) := by decide +kernel
theorem dL_law_117 : decode cL_law 117 = .ok (.if_icmp .ne 52, 3) := by decide +kernel
theorem dL_law_120 : decode cL_law 120 = .ok (.aload_n 1, 1) := by decide +kernel
theorem dL_law_121 : decode cL_law 121 = .ok (.invokevirtual 97, 3) := by decide +kernel
theorem dL_law_124 : decode cL_law 124 = .ok (.aload_n 1, 1) := by decide +kernel
theorem dL_law_125 : decode cL_law 125 = .ok (.invokevirtual 89, 3) := by decide +kernel
theorem dL_law_128 : decode cL_law 128 = .ok (.bipush 6, 2) := by decide +kernel
theorem dL_law_130 : decode cL_law 130 = .ok (.if_icmp .ne 7, 3) := by decide +kernel
theorem dL_law_133 : decode cL_law 133 = .ok (.iconst 1, 1) := by decide +kernel
theorem dL_law_134 : decode cL_law 134 = .ok (.goto 4, 3) := by decide +kernel
theorem dL_law_137 : decode cL_law 137 = .ok (.iconst 0, 1) := by decide +kernel
theorem dL_law_138 : decode cL_law 138 = .ok (.if_icmp .ne 31, 3) := by decide +kernel
theorem dL_law_141 : decode cL_law 141 = .ok (.aload_n 1, 1) := by decide +kernel
theorem dL_law_142 : decode cL_law 142 = .ok (.invokevirtual 101, 3) := by decide +kernel
theorem dL_law_145 : decode cL_law 145 = .ok (.ifCond .ne 7, 3) := by decide +kernel
theorem dL_law_148 : decode cL_law 148 = .ok (.iconst 1, 1) := by decide +kernel
theorem dL_law_149 : decode cL_law 149 = .ok (.goto 4, 3) := by decide +kernel
theorem dL_law_152 : decode cL_law 152 = .ok (.iconst 0, 1) := by decide +kernel
theorem dL_law_153 : decode cL_law 153 = .ok (.aload_n 1, 1) := by decide +kernel
theorem dL_law_154 : decode cL_law 154 = .ok (.invokevirtual 97, 3) := by decide +kernel
theorem dL_law_157 : decode cL_law 157 = .ok (.if_icmp .ne 12, 3) := by decide +kernel
theorem dL_law_160 : decode cL_law 160 = .ok (.aload_n 1, 1) := by decide +kernel
theorem dL_law_161 : decode cL_law 161 = .ok (.invokevirtual 101, 3) := by decide +kernel
theorem dL_law_164 : decode cL_law 164 = .ok (.bipush 10, 2) := by decide +kernel
theorem dL_law_166 : decode cL_law 166 = .ok (.if_icmp .le 5, 3) := by decide +kernel
theorem dL_law_169 : decode cL_law 169 = .ok (.iconst 0, 1) := by decide +kernel
theorem dL_law_170 : decode cL_law 170 = .ok (.ireturn, 1) := by decide +kernel
theorem dL_law_171 : decode cL_law 171 = .ok (.iconst 0, 1) := by decide +kernel
theorem dL_law_172 : decode cL_law 172 = .ok (.istore 9, 2) := by decide +kernel
theorem dL_law_174 : decode cL_law 174 = .ok (.iconst 0, 1) := by decide +kernel
theorem dL_law_175 : decode cL_law 175 = .ok (.istore 10, 2) := by decide +kernel
theorem dL_law_177 : decode cL_law 177 = .ok (.iload 10, 2) := by decide +kernel
theorem dL_law_179 : decode cL_law 179 = .ok (.iload 7, 2) := by decide +kernel
theorem dL_law_181 : decode cL_law 181 = .ok (.if_icmp .ge 322, 3) := by decide +kernel
theorem dL_law_184 : decode cL_law 184 = .ok (.iload 9, 2) := by decide +kernel
theorem dL_law_186 : decode cL_law 186 = .ok (.aload_n 1, 1) := by decide +kernel
theorem dL_law_187 : decode cL_law 187 = .ok (.iload 10, 2) := by decide +kernel
theorem dL_law_189 : decode cL_law 189 = .ok (.invokevirtual 104, 3) := by decide +kernel
theorem dL_law_192 : decode cL_law 192 = .ok (.ifCond .eq 7, 3) := by decide +kernel
theorem dL_law_195 : decode cL_law 195 = .ok (.iconst 1, 1) := by decide +kernel
theorem dL_law_196 : decode cL_law 196 = .ok (.goto 4, 3) := by decide +kernel
theorem dL_law_199 : decode cL_law 199 = .ok (.iconst 0, 1) := by decide +kernel
theorem dL_law_200 : decode cL_law 200 = .ok (.iadd, 1) := by decide +kernel
theorem dL_law_201 : decode cL_law 201 = .ok (.istore 9, 2) := by decide +kernel
theorem dL_law_203 : decode cL_law 203 = .ok (.aload_n 2, 1) := by decide +kernel
theorem dL_law_204 : decode cL_law 204 = .ok (.getfield 9, 3) := by decide +kernel
theorem dL_law_207 : decode cL_law 207 = .ok (.iload 10, 2) := by decide +kernel
theorem dL_law_209 : decode cL_law 209 = .ok (.aaload, 1) := by decide +kernel
theorem dL_law_210 : decode cL_law 210 = .ok (.iconst 0, 1) := by decide +kernel
theorem dL_law_211 : decode cL_law 211 = .ok (.iaload, 1) := by decide +kernel
theorem dL_law_212 : decode cL_law 212 = .ok (.istore 11, 2) := by decide +kernel
theorem dL_law_214 : decode cL_law 214 = .ok (.aload_n 1, 1) := by decide +kernel
theorem dL_law_215 : decode cL_law 215 = .ok (.iload 10, 2) := by decide +kernel
theorem dL_law_217 : decode cL_law 217 = .ok (.invokevirtual 107, 3) := by decide +kernel
theorem dL_law_220 : decode cL_law 220 = .ok (.ifCond .lt 125, 3) := by decide +kernel
theorem dL_law_223 : decode cL_law 223 = .ok (.aload_n 1, 1) := by decide +kernel
theorem dL_law_224 : decode cL_law 224 = .ok (.iload 10, 2) := by decide +kernel
theorem dL_law_226 : decode cL_law 226 = .ok (.invokevirtual 107, 3) := by decide +kernel
theorem dL_law_229 : decode cL_law 229 = .ok (.bipush 9, 2) := by decide +kernel
theorem dL_law_231 : decode cL_law 231 = .ok (.if_icmp .gt 114, 3) := by decide +kernel
theorem dL_law_234 : decode cL_law 234 = .ok (.aload_n 1, 1) := by decide +kernel
theorem dL_law_235 : decode cL_law 235 = .ok (.iload 10, 2) := by decide +kernel
theorem dL_law_237 : decode cL_law 237 = .ok (.invokevirtual 110, 3) := by decide +kernel
theorem dL_law_240 : decode cL_law 240 = .ok (.ifCond .lt 105, 3) := by decide +kernel
theorem dL_law_243 : decode cL_law 243 = .ok (.aload_n 1, 1) := by decide +kernel
theorem dL_law_244 : decode cL_law 244 = .ok (.iload 10, 2) := by decide +kernel
theorem dL_law_246 : decode cL_law 246 = .ok (.invokevirtual 110, 3) := by decide +kernel
theorem dL_law_249 : decode cL_law 249 = .ok (.bipush 9, 2) := by decide +kernel
theorem dL_law_251 : decode cL_law 251 = .ok (.if_icmp .gt 94, 3) := by decide +kernel
theorem dL_law_254 : decode cL_law 254 = .ok (.aload_n 1, 1) := by decide +kernel
theorem dL_law_255 : decode cL_law 255 = .ok (.iload 10, 2) := by decide +kernel
theorem dL_law_257 : decode cL_law 257 = .ok (.invokevirtual 113, 3) := by decide +kernel
theorem dL_law_260 : decode cL_law 260 = .ok (.ifCond .lt 85, 3) := by decide +kernel
theorem dL_law_263 : decode cL_law 263 = .ok (.aload_n 1, 1) := by decide +kernel
theorem dL_law_264 : decode cL_law 264 = .ok (.iload 10, 2) := by decide +kernel
theorem dL_law_266 : decode cL_law 266 = .ok (.invokevirtual 116, 3) := by decide +kernel
theorem dL_law_269 : decode cL_law 269 = .ok (.iload 11, 2) := by decide +kernel
theorem dL_law_271 : decode cL_law 271 = .ok (.if_icmp .lt 74, 3) := by decide +kernel
theorem dL_law_274 : decode cL_law 274 = .ok (.aload_n 1, 1) := by decide +kernel
theorem dL_law_275 : decode cL_law 275 = .ok (.iload 10, 2) := by decide +kernel
theorem dL_law_277 : decode cL_law 277 = .ok (.invokevirtual 116, 3) := by decide +kernel
theorem dL_law_280 : decode cL_law 280 = .ok (.bipush 6, 2) := by decide +kernel
theorem dL_law_282 : decode cL_law 282 = .ok (.iload 11, 2) := by decide +kernel
theorem dL_law_284 : decode cL_law 284 = .ok (.imul, 1) := by decide +kernel
theorem dL_law_285 : decode cL_law 285 = .ok (.if_icmp .gt 60, 3) := by decide +kernel
theorem dL_law_288 : decode cL_law 288 = .ok (.aload_n 1, 1) := by decide +kernel
theorem dL_law_289 : decode cL_law 289 = .ok (.invokevirtual 97, 3) := by decide +kernel
theorem dL_law_292 : decode cL_law 292 = .ok (.ifCond .eq 14, 3) := by decide +kernel
theorem dL_law_295 : decode cL_law 295 = .ok (.aload_n 1, 1) := by decide +kernel
theorem dL_law_296 : decode cL_law 296 = .ok (.iload 10, 2) := by decide +kernel
theorem dL_law_298 : decode cL_law 298 = .ok (.invokevirtual 116, 3) := by decide +kernel
theorem dL_law_301 : decode cL_law 301 = .ok (.iload 11, 2) := by decide +kernel
theorem dL_law_303 : decode cL_law 303 = .ok (.if_icmp .ne 42, 3) := by decide +kernel
theorem dL_law_306 : decode cL_law 306 = .ok (.aload_n 1, 1) := by decide +kernel
theorem dL_law_307 : decode cL_law 307 = .ok (.invokevirtual 89, 3) := by decide +kernel
theorem dL_law_310 : decode cL_law 310 = .ok (.iconst 1, 1) := by decide +kernel
theorem dL_law_311 : decode cL_law 311 = .ok (.if_icmp .ne 17, 3) := by decide +kernel
theorem dL_law_314 : decode cL_law 314 = .ok (.aload_n 1, 1) := by decide +kernel
theorem dL_law_315 : decode cL_law 315 = .ok (.iload 10, 2) := by decide +kernel
theorem dL_law_317 : decode cL_law 317 = .ok (.invokevirtual 116, 3) := by decide +kernel
theorem dL_law_320 : decode cL_law 320 = .ok (.bipush 6, 2) := by decide +kernel
theorem dL_law_322 : decode cL_law 322 = .ok (.iload 11, 2) := by decide +kernel
theorem dL_law_324 : decode cL_law 324 = .ok (.imul, 1) := by decide +kernel
theorem dL_law_325 : decode cL_law 325 = .ok (.if_icmp .ne 20, 3) := by decide +kernel
theorem dL_law_328 : decode cL_law 328 = .ok (.aload_n 1, 1) := by decide +kernel
theorem dL_law_329 : decode cL_law 329 = .ok (.iload 10, 2) := by decide +kernel
theorem dL_law_331 : decode cL_law 331 = .ok (.invokevirtual 116, 3) := by decide +kernel
theorem dL_law_334 : decode cL_law 334 = .ok (.aload_n 1, 1) := by decide +kernel
theorem dL_law_335 : decode cL_law 335 = .ok (.aload_n 1, 1) := by decide +kernel
theorem dL_law_336 : decode cL_law 336 = .ok (.invokevirtual 119, 3) := by decide +kernel
theorem dL_law_339 : decode cL_law 339 = .ok (.invokevirtual 116, 3) := by decide +kernel
theorem dL_law_342 : decode cL_law 342 = .ok (.if_icmp .le 5, 3) := by decide +kernel
theorem dL_law_345 : decode cL_law 345 = .ok (.iconst 0, 1) := by decide +kernel
theorem dL_law_346 : decode cL_law 346 = .ok (.ireturn, 1) := by decide +kernel
theorem dL_law_347 : decode cL_law 347 = .ok (.aload_n 1, 1) := by decide +kernel
theorem dL_law_348 : decode cL_law 348 = .ok (.iload 10, 2) := by decide +kernel
theorem dL_law_350 : decode cL_law 350 = .ok (.invokevirtual 122, 3) := by decide +kernel
theorem dL_law_353 : decode cL_law 353 = .ok (.istore 12, 2) := by decide +kernel
theorem dL_law_355 : decode cL_law 355 = .ok (.aload_n 1, 1) := by decide +kernel
theorem dL_law_356 : decode cL_law 356 = .ok (.iload 10, 2) := by decide +kernel
theorem dL_law_358 : decode cL_law 358 = .ok (.invokevirtual 125, 3) := by decide +kernel
theorem dL_law_361 : decode cL_law 361 = .ok (.istore 13, 2) := by decide +kernel
theorem dL_law_363 : decode cL_law 363 = .ok (.aload_n 1, 1) := by decide +kernel
theorem dL_law_364 : decode cL_law 364 = .ok (.iload 10, 2) := by decide +kernel
theorem dL_law_366 : decode cL_law 366 = .ok (.invokevirtual 128, 3) := by decide +kernel
theorem dL_law_369 : decode cL_law 369 = .ok (.istore 14, 2) := by decide +kernel
theorem dL_law_371 : decode cL_law 371 = .ok (.aload_n 1, 1) := by decide +kernel
theorem dL_law_372 : decode cL_law 372 = .ok (.iload 10, 2) := by decide +kernel
theorem dL_law_374 : decode cL_law 374 = .ok (.invokevirtual 131, 3) := by decide +kernel
theorem dL_law_377 : decode cL_law 377 = .ok (.aload_n 1, 1) := by decide +kernel
theorem dL_law_378 : decode cL_law 378 = .ok (.iload 10, 2) := by decide +kernel
theorem dL_law_380 : decode cL_law 380 = .ok (.invokevirtual 116, 3) := by decide +kernel
theorem dL_law_383 : decode cL_law 383 = .ok (.if_icmp .gt 112, 3) := by decide +kernel
theorem dL_law_386 : decode cL_law 386 = .ok (.aload_n 1, 1) := by decide +kernel
theorem dL_law_387 : decode cL_law 387 = .ok (.iload 10, 2) := by decide +kernel
theorem dL_law_389 : decode cL_law 389 = .ok (.invokevirtual 131, 3) := by decide +kernel
theorem dL_law_392 : decode cL_law 392 = .ok (.ifCond .lt 103, 3) := by decide +kernel
theorem dL_law_395 : decode cL_law 395 = .ok (.iload 12, 2) := by decide +kernel
theorem dL_law_397 : decode cL_law 397 = .ok (.iload 13, 2) := by decide +kernel
theorem dL_law_399 : decode cL_law 399 = .ok (.iadd, 1) := by decide +kernel
theorem dL_law_400 : decode cL_law 400 = .ok (.iload 14, 2) := by decide +kernel
theorem dL_law_402 : decode cL_law 402 = .ok (.iadd, 1) := by decide +kernel
theorem dL_law_403 : decode cL_law 403 = .ok (.aload_n 1, 1) := by decide +kernel
theorem dL_law_404 : decode cL_law 404 = .ok (.iload 10, 2) := by decide +kernel
theorem dL_law_406 : decode cL_law 406 = .ok (.invokevirtual 131, 3) := by decide +kernel
theorem dL_law_409 : decode cL_law 409 = .ok (.if_icmp .ne 86, 3) := by decide +kernel
theorem dL_law_412 : decode cL_law 412 = .ok (.iload 12, 2) := by decide +kernel
theorem dL_law_414 : decode cL_law 414 = .ok (.ifCond .lt 81, 3) := by decide +kernel
theorem dL_law_417 : decode cL_law 417 = .ok (.iload 13, 2) := by decide +kernel
theorem dL_law_419 : decode cL_law 419 = .ok (.ifCond .lt 76, 3) := by decide +kernel
theorem dL_law_422 : decode cL_law 422 = .ok (.iload 14, 2) := by decide +kernel
theorem dL_law_424 : decode cL_law 424 = .ok (.ifCond .lt 71, 3) := by decide +kernel
theorem dL_law_427 : decode cL_law 427 = .ok (.iload 14, 2) := by decide +kernel
theorem dL_law_429 : decode cL_law 429 = .ok (.aload_n 1, 1) := by decide +kernel
theorem dL_law_430 : decode cL_law 430 = .ok (.invokevirtual 134, 3) := by decide +kernel
theorem dL_law_433 : decode cL_law 433 = .ok (.if_icmp .gt 62, 3) := by decide +kernel
theorem dL_law_436 : decode cL_law 436 = .ok (.aload_n 1, 1) := by decide +kernel
theorem dL_law_437 : decode cL_law 437 = .ok (.iload 10, 2) := by decide +kernel
theorem dL_law_439 : decode cL_law 439 = .ok (.invokevirtual 104, 3) := by decide +kernel
theorem dL_law_442 : decode cL_law 442 = .ok (.ifCond .ne 14, 3) := by decide +kernel
theorem dL_law_445 : decode cL_law 445 = .ok (.iload 12, 2) := by decide +kernel
theorem dL_law_447 : decode cL_law 447 = .ok (.aload_n 1, 1) := by decide +kernel
theorem dL_law_448 : decode cL_law 448 = .ok (.iload 10, 2) := by decide +kernel
theorem dL_law_450 : decode cL_law 450 = .ok (.invokevirtual 131, 3) := by decide +kernel
theorem dL_law_453 : decode cL_law 453 = .ok (.if_icmp .ne 42, 3) := by decide +kernel
theorem dL_law_456 : decode cL_law 456 = .ok (.aload_n 1, 1) := by decide +kernel
theorem dL_law_457 : decode cL_law 457 = .ok (.iload 10, 2) := by decide +kernel
theorem dL_law_459 : decode cL_law 459 = .ok (.invokevirtual 104, 3) := by decide +kernel
theorem dL_law_462 : decode cL_law 462 = .ok (.ifCond .eq 10, 3) := by decide +kernel
theorem dL_law_465 : decode cL_law 465 = .ok (.iload 12, 2) := by decide +kernel
theorem dL_law_467 : decode cL_law 467 = .ok (.bipush 6, 2) := by decide +kernel
theorem dL_law_469 : decode cL_law 469 = .ok (.if_icmp .gt 26, 3) := by decide +kernel
theorem dL_law_472 : decode cL_law 472 = .ok (.iload 14, 2) := by decide +kernel
theorem dL_law_474 : decode cL_law 474 = .ok (.ifCond .le 23, 3) := by decide +kernel
theorem dL_law_477 : decode cL_law 477 = .ok (.iload 13, 2) := by decide +kernel
theorem dL_law_479 : decode cL_law 479 = .ok (.aload_n 1, 1) := by decide +kernel
theorem dL_law_480 : decode cL_law 480 = .ok (.invokevirtual 136, 3) := by decide +kernel
theorem dL_law_483 : decode cL_law 483 = .ok (.if_icmp .eq 14, 3) := by decide +kernel
theorem dL_law_486 : decode cL_law 486 = .ok (.iload 14, 2) := by decide +kernel
theorem dL_law_488 : decode cL_law 488 = .ok (.aload_n 1, 1) := by decide +kernel
theorem dL_law_489 : decode cL_law 489 = .ok (.invokevirtual 134, 3) := by decide +kernel
theorem dL_law_492 : decode cL_law 492 = .ok (.if_icmp .eq 5, 3) := by decide +kernel
theorem dL_law_495 : decode cL_law 495 = .ok (.iconst 0, 1) := by decide +kernel
theorem dL_law_496 : decode cL_law 496 = .ok (.ireturn, 1) := by decide +kernel
theorem dL_law_497 : decode cL_law 497 = .ok (.iinc 10 1, 3) := by decide +kernel
theorem dL_law_500 : decode cL_law 500 = .ok (.goto (-323), 3) := by decide +kernel
theorem dL_law_503 : decode cL_law 503 = .ok (.iload 9, 2) := by decide +kernel
theorem dL_law_505 : decode cL_law 505 = .ok (.aload_n 1, 1) := by decide +kernel
theorem dL_law_506 : decode cL_law 506 = .ok (.invokevirtual 138, 3) := by decide +kernel
theorem dL_law_509 : decode cL_law 509 = .ok (.if_icmp .eq 5, 3) := by decide +kernel
theorem dL_law_512 : decode cL_law 512 = .ok (.iconst 0, 1) := by decide +kernel
theorem dL_law_513 : decode cL_law 513 = .ok (.ireturn, 1) := by decide +kernel
theorem dL_law_514 : decode cL_law 514 = .ok (.aload_n 1, 1) := by decide +kernel
theorem dL_law_515 : decode cL_law 515 = .ok (.invokevirtual 141, 3) := by decide +kernel
theorem dL_law_518 : decode cL_law 518 = .ok (.istore 10, 2) := by decide +kernel
theorem dL_law_520 : decode cL_law 520 = .ok (.aload_n 1, 1) := by decide +kernel
theorem dL_law_521 : decode cL_law 521 = .ok (.invokevirtual 144, 3) := by decide +kernel
theorem dL_law_524 : decode cL_law 524 = .ok (.istore 11, 2) := by decide +kernel
theorem dL_law_526 : decode cL_law 526 = .ok (.bipush 20, 2) := by decide +kernel
theorem dL_law_528 : decode cL_law 528 = .ok (.iload 4, 2) := by decide +kernel
theorem dL_law_530 : decode cL_law 530 = .ok (.iconst 4, 1) := by decide +kernel
theorem dL_law_531 : decode cL_law 531 = .ok (.ishr, 1) := by decide +kernel
theorem dL_law_532 : decode cL_law 532 = .ok (.bipush 6, 2) := by decide +kernel
theorem dL_law_534 : decode cL_law 534 = .ok (.invokestatic 15, 3) := by decide +kernel
theorem dL_law_537 : decode cL_law 537 = .ok (.imul, 1) := by decide +kernel
theorem dL_law_538 : decode cL_law 538 = .ok (.istore 12, 2) := by decide +kernel
theorem dL_law_540 : decode cL_law 540 = .ok (.iload 4, 2) := by decide +kernel
theorem dL_law_542 : decode cL_law 542 = .ok (.iconst 5, 1) := by decide +kernel
theorem dL_law_543 : decode cL_law 543 = .ok (.ishr, 1) := by decide +kernel
theorem dL_law_544 : decode cL_law 544 = .ok (.bipush 10, 2) := by decide +kernel
theorem dL_law_546 : decode cL_law 546 = .ok (.invokestatic 15, 3) := by decide +kernel
theorem dL_law_549 : decode cL_law 549 = .ok (.istore 13, 2) := by decide +kernel
theorem dL_law_551 : decode cL_law 551 = .ok (.aload_n 2, 1) := by decide +kernel
theorem dL_law_552 : decode cL_law 552 = .ok (.invokevirtual 147, 3) := by decide +kernel
theorem dL_law_555 : decode cL_law 555 = .ok (.astore 14, 2) := by decide +kernel
theorem dL_law_557 : decode cL_law 557 = .ok (.aload 14, 2) := by decide +kernel
theorem dL_law_559 : decode cL_law 559 = .ok (.iload 10, 2) := by decide +kernel
theorem dL_law_561 : decode cL_law 561 = .ok (.putfield 49, 3) := by decide +kernel
theorem dL_law_564 : decode cL_law 564 = .ok (.aload 14, 2) := by decide +kernel
theorem dL_law_566 : decode cL_law 566 = .ok (.bipush 48, 2) := by decide +kernel
theorem dL_law_568 : decode cL_law 568 = .ok (.invokevirtual 61, 3) := by decide +kernel
theorem dL_law_571 : decode cL_law 571 = .ok (.pop, 1) := by decide +kernel
theorem dL_law_572 : decode cL_law 572 = .ok (.aload_n 2, 1) := by decide +kernel
theorem dL_law_573 : decode cL_law 573 = .ok (.invokevirtual 147, 3) := by decide +kernel
theorem dL_law_576 : decode cL_law 576 = .ok (.astore 15, 2) := by decide +kernel
theorem dL_law_578 : decode cL_law 578 = .ok (.aload 15, 2) := by decide +kernel
theorem dL_law_580 : decode cL_law 580 = .ok (.iload 12, 2) := by decide +kernel
theorem dL_law_582 : decode cL_law 582 = .ok (.putfield 49, 3) := by decide +kernel
theorem dL_law_585 : decode cL_law 585 = .ok (.aload 15, 2) := by decide +kernel
theorem dL_law_587 : decode cL_law 587 = .ok (.bipush 48, 2) := by decide +kernel
theorem dL_law_589 : decode cL_law 589 = .ok (.invokevirtual 61, 3) := by decide +kernel
theorem dL_law_592 : decode cL_law 592 = .ok (.pop, 1) := by decide +kernel
theorem dL_law_593 : decode cL_law 593 = .ok (.iload 10, 2) := by decide +kernel
theorem dL_law_595 : decode cL_law 595 = .ok (.ifCond .lt 51, 3) := by decide +kernel
theorem dL_law_598 : decode cL_law 598 = .ok (.iload 10, 2) := by decide +kernel
theorem dL_law_600 : decode cL_law 600 = .ok (.bipush 100, 2) := by decide +kernel
theorem dL_law_602 : decode cL_law 602 = .ok (.if_icmp .gt 44, 3) := by decide +kernel
theorem dL_law_605 : decode cL_law 605 = .ok (.iload 10, 2) := by decide +kernel
theorem dL_law_607 : decode cL_law 607 = .ok (.bipush 20, 2) := by decide +kernel
theorem dL_law_609 : decode cL_law 609 = .ok (.irem, 1) := by decide +kernel
theorem dL_law_610 : decode cL_law 610 = .ok (.ifCond .ne 36, 3) := by decide +kernel
theorem dL_law_613 : decode cL_law 613 = .ok (.aload 15, 2) := by decide +kernel
theorem dL_law_615 : decode cL_law 615 = .ok (.getfield 151, 3) := by decide +kernel
theorem dL_law_618 : decode cL_law 618 = .ok (.aload 14, 2) := by decide +kernel
theorem dL_law_620 : decode cL_law 620 = .ok (.getfield 151, 3) := by decide +kernel
theorem dL_law_623 : decode cL_law 623 = .ok (.if_icmp .gt 23, 3) := by decide +kernel
theorem dL_law_626 : decode cL_law 626 = .ok (.aload 15, 2) := by decide +kernel
theorem dL_law_628 : decode cL_law 628 = .ok (.getfield 151, 3) := by decide +kernel
theorem dL_law_631 : decode cL_law 631 = .ok (.aload 14, 2) := by decide +kernel
theorem dL_law_633 : decode cL_law 633 = .ok (.getfield 151, 3) := by decide +kernel
theorem dL_law_636 : decode cL_law 636 = .ok (.if_icmp .ne 12, 3) := by decide +kernel
theorem dL_law_639 : decode cL_law 639 = .ok (.iload 12, 2) := by decide +kernel
theorem dL_law_641 : decode cL_law 641 = .ok (.iload 10, 2) := by decide +kernel
theorem dL_law_643 : decode cL_law 643 = .ok (.if_icmp .ge 5, 3) := by decide +kernel
theorem dL_law_646 : decode cL_law 646 = .ok (.iconst 0, 1) := by decide +kernel
theorem dL_law_647 : decode cL_law 647 = .ok (.ireturn, 1) := by decide +kernel
theorem dL_law_648 : decode cL_law 648 = .ok (.aload_n 2, 1) := by decide +kernel
theorem dL_law_649 : decode cL_law 649 = .ok (.invokevirtual 147, 3) := by decide +kernel
theorem dL_law_652 : decode cL_law 652 = .ok (.astore 14, 2) := by decide +kernel
theorem dL_law_654 : decode cL_law 654 = .ok (.aload 14, 2) := by decide +kernel
theorem dL_law_656 : decode cL_law 656 = .ok (.iload 13, 2) := by decide +kernel
theorem dL_law_658 : decode cL_law 658 = .ok (.putfield 42, 3) := by decide +kernel
theorem dL_law_661 : decode cL_law 661 = .ok (.aload 14, 2) := by decide +kernel
theorem dL_law_663 : decode cL_law 663 = .ok (.bipush 48, 2) := by decide +kernel
theorem dL_law_665 : decode cL_law 665 = .ok (.invokevirtual 61, 3) := by decide +kernel
theorem dL_law_668 : decode cL_law 668 = .ok (.pop, 1) := by decide +kernel
theorem dL_law_669 : decode cL_law 669 = .ok (.aload 14, 2) := by decide +kernel
theorem dL_law_671 : decode cL_law 671 = .ok (.getfield 151, 3) := by decide +kernel
theorem dL_law_674 : decode cL_law 674 = .ok (.aload_n 1, 1) := by decide +kernel
theorem dL_law_675 : decode cL_law 675 = .ok (.invokevirtual 154, 3) := by decide +kernel
theorem dL_law_678 : decode cL_law 678 = .ok (.if_icmp .lt 7, 3) := by decide +kernel
theorem dL_law_681 : decode cL_law 681 = .ok (.iconst 1, 1) := by decide +kernel
theorem dL_law_682 : decode cL_law 682 = .ok (.goto 4, 3) := by decide +kernel
theorem dL_law_685 : decode cL_law 685 = .ok (.iconst 0, 1) := by decide +kernel
theorem dL_law_686 : decode cL_law 686 = .ok (.iload 11, 2) := by decide +kernel
theorem dL_law_688 : decode cL_law 688 = .ok (.ifCond .lt 14, 3) := by decide +kernel
theorem dL_law_691 : decode cL_law 691 = .ok (.iload 13, 2) := by decide +kernel
theorem dL_law_693 : decode cL_law 693 = .ok (.iload 11, 2) := by decide +kernel
theorem dL_law_695 : decode cL_law 695 = .ok (.if_icmp .lt 7, 3) := by decide +kernel
theorem dL_law_698 : decode cL_law 698 = .ok (.iconst 1, 1) := by decide +kernel
theorem dL_law_699 : decode cL_law 699 = .ok (.goto 4, 3) := by decide +kernel
theorem dL_law_702 : decode cL_law 702 = .ok (.iconst 0, 1) := by decide +kernel
theorem dL_law_703 : decode cL_law 703 = .ok (.if_icmp .eq 5, 3) := by decide +kernel
theorem dL_law_706 : decode cL_law 706 = .ok (.iconst 0, 1) := by decide +kernel
theorem dL_law_707 : decode cL_law 707 = .ok (.ireturn, 1) := by decide +kernel
theorem dL_law_708 : decode cL_law 708 = .ok (.iconst 1, 1) := by decide +kernel
theorem dL_law_709 : decode cL_law 709 = .ok (.iload 4, 2) := by decide +kernel
theorem dL_law_711 : decode cL_law 711 = .ok (.bipush 6, 2) := by decide +kernel
theorem dL_law_713 : decode cL_law 713 = .ok (.ishr, 1) := by decide +kernel
theorem dL_law_714 : decode cL_law 714 = .ok (.bipush 20, 2) := by decide +kernel
theorem dL_law_716 : decode cL_law 716 = .ok (.invokestatic 15, 3) := by decide +kernel
theorem dL_law_719 : decode cL_law 719 = .ok (.iadd, 1) := by decide +kernel
theorem dL_law_720 : decode cL_law 720 = .ok (.istore 16, 2) := by decide +kernel
theorem dL_law_722 : decode cL_law 722 = .ok (.aload_n 1, 1) := by decide +kernel
theorem dL_law_723 : decode cL_law 723 = .ok (.iload 16, 2) := by decide +kernel
theorem dL_law_725 : decode cL_law 725 = .ok (.invokevirtual 156, 3) := by decide +kernel
theorem dL_law_728 : decode cL_law 728 = .ok (.istore 17, 2) := by decide +kernel
theorem dL_law_730 : decode cL_law 730 = .ok (.aload_n 1, 1) := by decide +kernel
theorem dL_law_731 : decode cL_law 731 = .ok (.invokevirtual 159, 3) := by decide +kernel
theorem dL_law_734 : decode cL_law 734 = .ok (.istore 18, 2) := by decide +kernel
theorem dL_law_736 : decode cL_law 736 = .ok (.aload_n 1, 1) := by decide +kernel
theorem dL_law_737 : decode cL_law 737 = .ok (.invokevirtual 162, 3) := by decide +kernel
theorem dL_law_740 : decode cL_law 740 = .ok (.istore 19, 2) := by decide +kernel
theorem dL_law_742 : decode cL_law 742 = .ok (.iload 7, 2) := by decide +kernel
theorem dL_law_744 : decode cL_law 744 = .ok (.ifCond .ne 7, 3) := by decide +kernel
theorem dL_law_747 : decode cL_law 747 = .ok (.iconst (-1), 1) := by decide +kernel
theorem dL_law_748 : decode cL_law 748 = .ok (.goto 13, 3) := by decide +kernel
theorem dL_law_751 : decode cL_law 751 = .ok (.iload 4, 2) := by decide +kernel
theorem dL_law_753 : decode cL_law 753 = .ok (.bipush 7, 2) := by decide +kernel
theorem dL_law_755 : decode cL_law 755 = .ok (.ishr, 1) := by decide +kernel
theorem dL_law_756 : decode cL_law 756 = .ok (.iload 7, 2) := by decide +kernel
theorem dL_law_758 : decode cL_law 758 = .ok (.invokestatic 15, 3) := by decide +kernel
theorem dL_law_761 : decode cL_law 761 = .ok (.istore 20, 2) := by decide +kernel
theorem dL_law_763 : decode cL_law 763 = .ok (.iload 20, 2) := by decide +kernel
theorem dL_law_765 : decode cL_law 765 = .ok (.ifCond .ge 7, 3) := by decide +kernel
theorem dL_law_768 : decode cL_law 768 = .ok (.iconst (-1), 1) := by decide +kernel
theorem dL_law_769 : decode cL_law 769 = .ok (.goto 9, 3) := by decide +kernel
theorem dL_law_772 : decode cL_law 772 = .ok (.aload_n 1, 1) := by decide +kernel
theorem dL_law_773 : decode cL_law 773 = .ok (.iload 20, 2) := by decide +kernel
theorem dL_law_775 : decode cL_law 775 = .ok (.invokevirtual 165, 3) := by decide +kernel
theorem dL_law_778 : decode cL_law 778 = .ok (.istore 21, 2) := by decide +kernel
theorem dL_law_780 : decode cL_law 780 = .ok (.iload 19, 2) := by decide +kernel
theorem dL_law_782 : decode cL_law 782 = .ok (.ifCond .ge 7, 3) := by decide +kernel
theorem dL_law_785 : decode cL_law 785 = .ok (.iconst (-1), 1) := by decide +kernel
theorem dL_law_786 : decode cL_law 786 = .ok (.goto 9, 3) := by decide +kernel
theorem dL_law_789 : decode cL_law 789 = .ok (.aload_n 1, 1) := by decide +kernel
theorem dL_law_790 : decode cL_law 790 = .ok (.iload 19, 2) := by decide +kernel
theorem dL_law_792 : decode cL_law 792 = .ok (.invokevirtual 165, 3) := by decide +kernel
theorem dL_law_795 : decode cL_law 795 = .ok (.istore 22, 2) := by decide +kernel
theorem dL_law_797 : decode cL_law 797 = .ok (.aload_n 1, 1) := by decide +kernel
theorem dL_law_798 : decode cL_law 798 = .ok (.invokevirtual 78, 3) := by decide +kernel
theorem dL_law_801 : decode cL_law 801 = .ok (.lload 5, 2) := by decide +kernel
theorem dL_law_803 : decode cL_law 803 = .ok (.lcmp, 1) := by decide +kernel
theorem dL_law_804 : decode cL_law 804 = .ok (.ifCond .ne 71, 3) := by decide +kernel
theorem dL_law_807 : decode cL_law 807 = .ok (.iload 21, 2) := by decide +kernel
theorem dL_law_809 : decode cL_law 809 = .ok (.ifCond .eq 66, 3) := by decide +kernel
theorem dL_law_812 : decode cL_law 812 = .ok (.iload 21, 2) := by decide +kernel
theorem dL_law_814 : decode cL_law 814 = .ok (.bipush 100, 2) := by decide +kernel
theorem dL_law_816 : decode cL_law 816 = .ok (.if_icmp .gt 59, 3) := by decide +kernel
theorem dL_law_819 : decode cL_law 819 = .ok (.iload 18, 2) := by decide +kernel
theorem dL_law_821 : decode cL_law 821 = .ok (.ifCond .ne 7, 3) := by decide +kernel
theorem dL_law_824 : decode cL_law 824 = .ok (.iconst 1, 1) := by decide +kernel
theorem dL_law_825 : decode cL_law 825 = .ok (.goto 4, 3) := by decide +kernel
theorem dL_law_828 : decode cL_law 828 = .ok (.iconst 0, 1) := by decide +kernel
theorem dL_law_829 : decode cL_law 829 = .ok (.aload_n 1, 1) := by decide +kernel
theorem dL_law_830 : decode cL_law 830 = .ok (.invokevirtual 154, 3) := by decide +kernel
theorem dL_law_833 : decode cL_law 833 = .ok (.ifCond .ge 7, 3) := by decide +kernel
theorem dL_law_836 : decode cL_law 836 = .ok (.iconst 1, 1) := by decide +kernel
theorem dL_law_837 : decode cL_law 837 = .ok (.goto 4, 3) := by decide +kernel
theorem dL_law_840 : decode cL_law 840 = .ok (.iconst 0, 1) := by decide +kernel
theorem dL_law_841 : decode cL_law 841 = .ok (.if_icmp .ne 34, 3) := by decide +kernel
theorem dL_law_844 : decode cL_law 844 = .ok (.iload 21, 2) := by decide +kernel
theorem dL_law_846 : decode cL_law 846 = .ok (.ifCond .le 31, 3) := by decide +kernel
theorem dL_law_849 : decode cL_law 849 = .ok (.iload 19, 2) := by decide +kernel
theorem dL_law_851 : decode cL_law 851 = .ok (.ifCond .lt 24, 3) := by decide +kernel
theorem dL_law_854 : decode cL_law 854 = .ok (.iload 22, 2) := by decide +kernel
theorem dL_law_856 : decode cL_law 856 = .ok (.iload 21, 2) := by decide +kernel
theorem dL_law_858 : decode cL_law 858 = .ok (.if_icmp .gt 17, 3) := by decide +kernel
theorem dL_law_861 : decode cL_law 861 = .ok (.iload 22, 2) := by decide +kernel
theorem dL_law_863 : decode cL_law 863 = .ok (.iload 21, 2) := by decide +kernel
theorem dL_law_865 : decode cL_law 865 = .ok (.if_icmp .ne 12, 3) := by decide +kernel
theorem dL_law_868 : decode cL_law 868 = .ok (.iload 20, 2) := by decide +kernel
theorem dL_law_870 : decode cL_law 870 = .ok (.iload 19, 2) := by decide +kernel
theorem dL_law_872 : decode cL_law 872 = .ok (.if_icmp .ge 5, 3) := by decide +kernel
theorem dL_law_875 : decode cL_law 875 = .ok (.iconst 0, 1) := by decide +kernel
theorem dL_law_876 : decode cL_law 876 = .ok (.ireturn, 1) := by decide +kernel
theorem dL_law_877 : decode cL_law 877 = .ok (.iconst 0, 1) := by decide +kernel
theorem dL_law_878 : decode cL_law 878 = .ok (.istore 23, 2) := by decide +kernel
theorem dL_law_880 : decode cL_law 880 = .ok (.iconst 1, 1) := by decide +kernel
theorem dL_law_881 : decode cL_law 881 = .ok (.istore 24, 2) := by decide +kernel
theorem dL_law_883 : decode cL_law 883 = .ok (.iconst 1, 1) := by decide +kernel
theorem dL_law_884 : decode cL_law 884 = .ok (.istore 25, 2) := by decide +kernel
theorem dL_law_886 : decode cL_law 886 = .ok (.iload 25, 2) := by decide +kernel
theorem dL_law_888 : decode cL_law 888 = .ok (.iload 16, 2) := by decide +kernel
theorem dL_law_890 : decode cL_law 890 = .ok (.if_icmp .gt 554, 3) := by decide +kernel
theorem dL_law_893 : decode cL_law 893 = .ok (.aload_n 1, 1) := by decide +kernel
theorem dL_law_894 : decode cL_law 894 = .ok (.invokevirtual 154, 3) := by decide +kernel
theorem dL_law_897 : decode cL_law 897 = .ok (.istore 26, 2) := by decide +kernel
theorem dL_law_899 : decode cL_law 899 = .ok (.aload_n 1, 1) := by decide +kernel
theorem dL_law_900 : decode cL_law 900 = .ok (.invokevirtual 168, 3) := by decide +kernel
theorem dL_law_903 : decode cL_law 903 = .ok (.istore 27, 2) := by decide +kernel
theorem dL_law_905 : decode cL_law 905 = .ok (.iload 7, 2) := by decide +kernel
theorem dL_law_907 : decode cL_law 907 = .ok (.newarray .int, 2) := by decide +kernel
theorem dL_law_909 : decode cL_law 909 = .ok (.astore 28, 2) := by decide +kernel
theorem dL_law_911 : decode cL_law 911 = .ok (.iload 7, 2) := by decide +kernel
theorem dL_law_913 : decode cL_law 913 = .ok (.newarray .int, 2) := by decide +kernel
theorem dL_law_915 : decode cL_law 915 = .ok (.astore 29, 2) := by decide +kernel
theorem dL_law_917 : decode cL_law 917 = .ok (.iload 7, 2) := by decide +kernel
theorem dL_law_919 : decode cL_law 919 = .ok (.newarray .int, 2) := by decide +kernel
theorem dL_law_921 : decode cL_law 921 = .ok (.astore 30, 2) := by decide +kernel
theorem dL_law_923 : decode cL_law 923 = .ok (.iload 7, 2) := by decide +kernel
theorem dL_law_925 : decode cL_law 925 = .ok (.newarray .int, 2) := by decide +kernel
theorem dL_law_927 : decode cL_law 927 = .ok (.astore 31, 2) := by decide +kernel
theorem dL_law_929 : decode cL_law 929 = .ok (.iload 7, 2) := by decide +kernel
theorem dL_law_931 : decode cL_law 931 = .ok (.newarray .int, 2) := by decide +kernel
theorem dL_law_933 : decode cL_law 933 = .ok (.astore 32, 2) := by decide +kernel
theorem dL_law_935 : decode cL_law 935 = .ok (.iconst 0, 1) := by decide +kernel
theorem dL_law_936 : decode cL_law 936 = .ok (.istore 33, 2) := by decide +kernel
theorem dL_law_938 : decode cL_law 938 = .ok (.iload 33, 2) := by decide +kernel
theorem dL_law_940 : decode cL_law 940 = .ok (.iload 7, 2) := by decide +kernel
theorem dL_law_942 : decode cL_law 942 = .ok (.if_icmp .ge 64, 3) := by decide +kernel
theorem dL_law_945 : decode cL_law 945 = .ok (.aload 28, 2) := by decide +kernel
theorem dL_law_947 : decode cL_law 947 = .ok (.iload 33, 2) := by decide +kernel
theorem dL_law_949 : decode cL_law 949 = .ok (.aload_n 1, 1) := by decide +kernel
theorem dL_law_950 : decode cL_law 950 = .ok (.iload 33, 2) := by decide +kernel
theorem dL_law_952 : decode cL_law 952 = .ok (.invokevirtual 107, 3) := by decide +kernel
theorem dL_law_955 : decode cL_law 955 = .ok (.iastore, 1) := by decide +kernel
theorem dL_law_956 : decode cL_law 956 = .ok (.aload 29, 2) := by decide +kernel
theorem dL_law_958 : decode cL_law 958 = .ok (.iload 33, 2) := by decide +kernel
theorem dL_law_960 : decode cL_law 960 = .ok (.aload_n 1, 1) := by decide +kernel
theorem dL_law_961 : decode cL_law 961 = .ok (.iload 33, 2) := by decide +kernel
theorem dL_law_963 : decode cL_law 963 = .ok (.invokevirtual 113, 3) := by decide +kernel
theorem dL_law_966 : decode cL_law 966 = .ok (.iastore, 1) := by decide +kernel
theorem dL_law_967 : decode cL_law 967 = .ok (.aload 30, 2) := by decide +kernel
theorem dL_law_969 : decode cL_law 969 = .ok (.iload 33, 2) := by decide +kernel
theorem dL_law_971 : decode cL_law 971 = .ok (.aload_n 1, 1) := by decide +kernel
theorem dL_law_972 : decode cL_law 972 = .ok (.iload 33, 2) := by decide +kernel
theorem dL_law_974 : decode cL_law 974 = .ok (.invokevirtual 110, 3) := by decide +kernel
theorem dL_law_977 : decode cL_law 977 = .ok (.iastore, 1) := by decide +kernel
theorem dL_law_978 : decode cL_law 978 = .ok (.aload 31, 2) := by decide +kernel
theorem dL_law_980 : decode cL_law 980 = .ok (.iload 33, 2) := by decide +kernel
theorem dL_law_982 : decode cL_law 982 = .ok (.aload_n 1, 1) := by decide +kernel
theorem dL_law_983 : decode cL_law 983 = .ok (.iload 33, 2) := by decide +kernel
theorem dL_law_985 : decode cL_law 985 = .ok (.invokevirtual 125, 3) := by decide +kernel
theorem dL_law_988 : decode cL_law 988 = .ok (.iastore, 1) := by decide +kernel
theorem dL_law_989 : decode cL_law 989 = .ok (.aload 32, 2) := by decide +kernel
theorem dL_law_991 : decode cL_law 991 = .ok (.iload 33, 2) := by decide +kernel
theorem dL_law_993 : decode cL_law 993 = .ok (.aload_n 1, 1) := by decide +kernel
theorem dL_law_994 : decode cL_law 994 = .ok (.iload 33, 2) := by decide +kernel
theorem dL_law_996 : decode cL_law 996 = .ok (.invokevirtual 128, 3) := by decide +kernel
theorem dL_law_999 : decode cL_law 999 = .ok (.iastore, 1) := by decide +kernel
theorem dL_law_1000 : decode cL_law 1000 = .ok (.iinc 33 1, 3) := by decide +kernel
theorem dL_law_1003 : decode cL_law 1003 = .ok (.goto (-65), 3) := by decide +kernel
theorem dL_law_1006 : decode cL_law 1006 = .ok (.aload_n 1, 1) := by decide +kernel
theorem dL_law_1007 : decode cL_law 1007 = .ok (.invokevirtual 86, 3) := by decide +kernel
theorem dL_law_1010 : decode cL_law 1010 = .ok (.bipush 12, 2) := by decide +kernel
theorem dL_law_1012 : decode cL_law 1012 = .ok (.irem, 1) := by decide +kernel
theorem dL_law_1013 : decode cL_law 1013 = .ok (.ifCond .ne 63, 3) := by decide +kernel
theorem dL_law_1016 : decode cL_law 1016 = .ok (.iload 26, 2) := by decide +kernel
theorem dL_law_1018 : decode cL_law 1018 = .ok (.aload_n 1, 1) := by decide +kernel
theorem dL_law_1019 : decode cL_law 1019 = .ok (.invokevirtual 171, 3) := by decide +kernel
theorem dL_law_1022 : decode cL_law 1022 = .ok (.aload_n 1, 1) := by decide +kernel
theorem dL_law_1023 : decode cL_law 1023 = .ok (.invokevirtual 138, 3) := by decide +kernel
theorem dL_law_1026 : decode cL_law 1026 = .ok (.imul, 1) := by decide +kernel
theorem dL_law_1027 : decode cL_law 1027 = .ok (.aload_n 1, 1) := by decide +kernel
theorem dL_law_1028 : decode cL_law 1028 = .ok (.invokevirtual 134, 3) := by decide +kernel
theorem dL_law_1031 : decode cL_law 1031 = .ok (.ifCond .le 15, 3) := by decide +kernel
theorem dL_law_1034 : decode cL_law 1034 = .ok (.aload_n 1, 1) := by decide +kernel
theorem dL_law_1035 : decode cL_law 1035 = .ok (.invokevirtual 134, 3) := by decide +kernel
theorem dL_law_1038 : decode cL_law 1038 = .ok (.bipush 20, 2) := by decide +kernel
theorem dL_law_1040 : decode cL_law 1040 = .ok (.idiv, 1) := by decide +kernel
theorem dL_law_1041 : decode cL_law 1041 = .ok (.iconst 1, 1) := by decide +kernel
theorem dL_law_1042 : decode cL_law 1042 = .ok (.iadd, 1) := by decide +kernel
theorem dL_law_1043 : decode cL_law 1043 = .ok (.goto 4, 3) := by decide +kernel
theorem dL_law_1046 : decode cL_law 1046 = .ok (.iconst 0, 1) := by decide +kernel
theorem dL_law_1047 : decode cL_law 1047 = .ok (.isub, 1) := by decide +kernel
theorem dL_law_1048 : decode cL_law 1048 = .ok (.iadd, 1) := by decide +kernel
theorem dL_law_1049 : decode cL_law 1049 = .ok (.istore 26, 2) := by decide +kernel
theorem dL_law_1051 : decode cL_law 1051 = .ok (.iload 27, 2) := by decide +kernel
theorem dL_law_1053 : decode cL_law 1053 = .ok (.aload_n 1, 1) := by decide +kernel
theorem dL_law_1054 : decode cL_law 1054 = .ok (.invokevirtual 134, 3) := by decide +kernel
theorem dL_law_1057 : decode cL_law 1057 = .ok (.ifCond .le 15, 3) := by decide +kernel
theorem dL_law_1060 : decode cL_law 1060 = .ok (.aload_n 1, 1) := by decide +kernel
theorem dL_law_1061 : decode cL_law 1061 = .ok (.invokevirtual 134, 3) := by decide +kernel
theorem dL_law_1064 : decode cL_law 1064 = .ok (.bipush 20, 2) := by decide +kernel
theorem dL_law_1066 : decode cL_law 1066 = .ok (.idiv, 1) := by decide +kernel
theorem dL_law_1067 : decode cL_law 1067 = .ok (.iconst 1, 1) := by decide +kernel
theorem dL_law_1068 : decode cL_law 1068 = .ok (.iadd, 1) := by decide +kernel
theorem dL_law_1069 : decode cL_law 1069 = .ok (.goto 4, 3) := by decide +kernel
theorem dL_law_1072 : decode cL_law 1072 = .ok (.iconst 0, 1) := by decide +kernel
theorem dL_law_1073 : decode cL_law 1073 = .ok (.isub, 1) := by decide +kernel
theorem dL_law_1074 : decode cL_law 1074 = .ok (.istore 27, 2) := by decide +kernel
theorem dL_law_1076 : decode cL_law 1076 = .ok (.aload_n 1, 1) := by decide +kernel
theorem dL_law_1077 : decode cL_law 1077 = .ok (.iconst 1, 1) := by decide +kernel
theorem dL_law_1078 : decode cL_law 1078 = .ok (.invokevirtual 58, 3) := by decide +kernel
theorem dL_law_1081 : decode cL_law 1081 = .ok (.istore 33, 2) := by decide +kernel
theorem dL_law_1083 : decode cL_law 1083 = .ok (.iload 33, 2) := by decide +kernel
theorem dL_law_1085 : decode cL_law 1085 = .ok (.aload_n 2, 1) := by decide +kernel
theorem dL_law_1086 : decode cL_law 1086 = .ok (.invokevirtual 173, 3) := by decide +kernel
theorem dL_law_1089 : decode cL_law 1089 = .ok (.if_icmp .eq 5, 3) := by decide +kernel
theorem dL_law_1092 : decode cL_law 1092 = .ok (.iconst 0, 1) := by decide +kernel
theorem dL_law_1093 : decode cL_law 1093 = .ok (.ireturn, 1) := by decide +kernel
theorem dL_law_1094 : decode cL_law 1094 = .ok (.iconst 0, 1) := by decide +kernel
theorem dL_law_1095 : decode cL_law 1095 = .ok (.istore 34, 2) := by decide +kernel
theorem dL_law_1097 : decode cL_law 1097 = .ok (.iload 34, 2) := by decide +kernel
theorem dL_law_1099 : decode cL_law 1099 = .ok (.iload 7, 2) := by decide +kernel
theorem dL_law_1101 : decode cL_law 1101 = .ok (.if_icmp .ge 209, 3) := by decide +kernel
theorem dL_law_1104 : decode cL_law 1104 = .ok (.aload_n 1, 1) := by decide +kernel
theorem dL_law_1105 : decode cL_law 1105 = .ok (.iload 34, 2) := by decide +kernel
theorem dL_law_1107 : decode cL_law 1107 = .ok (.invokevirtual 113, 3) := by decide +kernel
theorem dL_law_1110 : decode cL_law 1110 = .ok (.aload 29, 2) := by decide +kernel
theorem dL_law_1112 : decode cL_law 1112 = .ok (.iload 34, 2) := by decide +kernel
theorem dL_law_1114 : decode cL_law 1114 = .ok (.iaload, 1) := by decide +kernel
theorem dL_law_1115 : decode cL_law 1115 = .ok (.if_icmp .le 7, 3) := by decide +kernel
theorem dL_law_1118 : decode cL_law 1118 = .ok (.iconst 1, 1) := by decide +kernel
theorem dL_law_1119 : decode cL_law 1119 = .ok (.goto 4, 3) := by decide +kernel
theorem dL_law_1122 : decode cL_law 1122 = .ok (.iconst 0, 1) := by decide +kernel
theorem dL_law_1123 : decode cL_law 1123 = .ok (.istore 35, 2) := by decide +kernel
theorem dL_law_1125 : decode cL_law 1125 = .ok (.iload 33, 2) := by decide +kernel
theorem dL_law_1127 : decode cL_law 1127 = .ok (.iload 35, 2) := by decide +kernel
theorem dL_law_1129 : decode cL_law 1129 = .ok (.ifCond .eq 7, 3) := by decide +kernel
theorem dL_law_1132 : decode cL_law 1132 = .ok (.iconst 1, 1) := by decide +kernel
theorem dL_law_1133 : decode cL_law 1133 = .ok (.goto 4, 3) := by decide +kernel
theorem dL_law_1136 : decode cL_law 1136 = .ok (.iconst 0, 1) := by decide +kernel
theorem dL_law_1137 : decode cL_law 1137 = .ok (.isub, 1) := by decide +kernel
theorem dL_law_1138 : decode cL_law 1138 = .ok (.istore 33, 2) := by decide +kernel
theorem dL_law_1140 : decode cL_law 1140 = .ok (.iload 26, 2) := by decide +kernel
theorem dL_law_1142 : decode cL_law 1142 = .ok (.iload 35, 2) := by decide +kernel
theorem dL_law_1144 : decode cL_law 1144 = .ok (.ifCond .eq 11, 3) := by decide +kernel
theorem dL_law_1147 : decode cL_law 1147 = .ok (.aload 31, 2) := by decide +kernel
theorem dL_law_1149 : decode cL_law 1149 = .ok (.iload 34, 2) := by decide +kernel
theorem dL_law_1151 : decode cL_law 1151 = .ok (.iaload, 1) := by decide +kernel
theorem dL_law_1152 : decode cL_law 1152 = .ok (.goto 4, 3) := by decide +kernel
theorem dL_law_1155 : decode cL_law 1155 = .ok (.iconst 0, 1) := by decide +kernel
theorem dL_law_1156 : decode cL_law 1156 = .ok (.isub, 1) := by decide +kernel
theorem dL_law_1157 : decode cL_law 1157 = .ok (.istore 26, 2) := by decide +kernel
theorem dL_law_1159 : decode cL_law 1159 = .ok (.iload 27, 2) := by decide +kernel
theorem dL_law_1161 : decode cL_law 1161 = .ok (.iload 35, 2) := by decide +kernel
theorem dL_law_1163 : decode cL_law 1163 = .ok (.ifCond .eq 11, 3) := by decide +kernel
theorem dL_law_1166 : decode cL_law 1166 = .ok (.aload 32, 2) := by decide +kernel
theorem dL_law_1168 : decode cL_law 1168 = .ok (.iload 34, 2) := by decide +kernel
theorem dL_law_1170 : decode cL_law 1170 = .ok (.iaload, 1) := by decide +kernel
theorem dL_law_1171 : decode cL_law 1171 = .ok (.goto 4, 3) := by decide +kernel
theorem dL_law_1174 : decode cL_law 1174 = .ok (.iconst 0, 1) := by decide +kernel
theorem dL_law_1175 : decode cL_law 1175 = .ok (.iadd, 1) := by decide +kernel
theorem dL_law_1176 : decode cL_law 1176 = .ok (.istore 27, 2) := by decide +kernel
theorem dL_law_1178 : decode cL_law 1178 = .ok (.aload_n 1, 1) := by decide +kernel
theorem dL_law_1179 : decode cL_law 1179 = .ok (.iload 34, 2) := by decide +kernel
theorem dL_law_1181 : decode cL_law 1181 = .ok (.invokevirtual 113, 3) := by decide +kernel
theorem dL_law_1184 : decode cL_law 1184 = .ok (.aload 29, 2) := by decide +kernel
theorem dL_law_1186 : decode cL_law 1186 = .ok (.iload 34, 2) := by decide +kernel
theorem dL_law_1188 : decode cL_law 1188 = .ok (.iaload, 1) := by decide +kernel
theorem dL_law_1189 : decode cL_law 1189 = .ok (.iconst 1, 1) := by decide +kernel
theorem dL_law_1190 : decode cL_law 1190 = .ok (.iadd, 1) := by decide +kernel
theorem dL_law_1191 : decode cL_law 1191 = .ok (.if_icmp .gt 70, 3) := by decide +kernel
theorem dL_law_1194 : decode cL_law 1194 = .ok (.aload_n 1, 1) := by decide +kernel
theorem dL_law_1195 : decode cL_law 1195 = .ok (.iload 34, 2) := by decide +kernel
theorem dL_law_1197 : decode cL_law 1197 = .ok (.invokevirtual 110, 3) := by decide +kernel
theorem dL_law_1200 : decode cL_law 1200 = .ok (.iload 35, 2) := by decide +kernel
theorem dL_law_1202 : decode cL_law 1202 = .ok (.ifCond .eq 17, 3) := by decide +kernel
theorem dL_law_1205 : decode cL_law 1205 = .ok (.iconst 0, 1) := by decide +kernel
theorem dL_law_1206 : decode cL_law 1206 = .ok (.aload 30, 2) := by decide +kernel
theorem dL_law_1208 : decode cL_law 1208 = .ok (.iload 34, 2) := by decide +kernel
theorem dL_law_1210 : decode cL_law 1210 = .ok (.iaload, 1) := by decide +kernel
theorem dL_law_1211 : decode cL_law 1211 = .ok (.iconst 1, 1) := by decide +kernel
theorem dL_law_1212 : decode cL_law 1212 = .ok (.isub, 1) := by decide +kernel
theorem dL_law_1213 : decode cL_law 1213 = .ok (.invokestatic 175, 3) := by decide +kernel
theorem dL_law_1216 : decode cL_law 1216 = .ok (.goto 8, 3) := by decide +kernel
theorem dL_law_1219 : decode cL_law 1219 = .ok (.aload 30, 2) := by decide +kernel
theorem dL_law_1221 : decode cL_law 1221 = .ok (.iload 34, 2) := by decide +kernel
theorem dL_law_1223 : decode cL_law 1223 = .ok (.iaload, 1) := by decide +kernel
theorem dL_law_1224 : decode cL_law 1224 = .ok (.if_icmp .ne 37, 3) := by decide +kernel
theorem dL_law_1227 : decode cL_law 1227 = .ok (.iload 35, 2) := by decide +kernel
theorem dL_law_1229 : decode cL_law 1229 = .ok (.ifCond .eq 12, 3) := by decide +kernel
theorem dL_law_1232 : decode cL_law 1232 = .ok (.aload_n 1, 1) := by decide +kernel
theorem dL_law_1233 : decode cL_law 1233 = .ok (.iload 34, 2) := by decide +kernel
theorem dL_law_1235 : decode cL_law 1235 = .ok (.invokevirtual 107, 3) := by decide +kernel
theorem dL_law_1238 : decode cL_law 1238 = .ok (.ifCond .ne 23, 3) := by decide +kernel
theorem dL_law_1241 : decode cL_law 1241 = .ok (.aload_n 1, 1) := by decide +kernel
theorem dL_law_1242 : decode cL_law 1242 = .ok (.iload 34, 2) := by decide +kernel
theorem dL_law_1244 : decode cL_law 1244 = .ok (.invokevirtual 107, 3) := by decide +kernel
theorem dL_law_1247 : decode cL_law 1247 = .ok (.aload 28, 2) := by decide +kernel
theorem dL_law_1249 : decode cL_law 1249 = .ok (.iload 34, 2) := by decide +kernel
theorem dL_law_1251 : decode cL_law 1251 = .ok (.iaload, 1) := by decide +kernel
theorem dL_law_1252 : decode cL_law 1252 = .ok (.isub, 1) := by decide +kernel
theorem dL_law_1253 : decode cL_law 1253 = .ok (.invokestatic 178, 3) := by decide +kernel
theorem dL_law_1256 : decode cL_law 1256 = .ok (.bipush 10, 2) := by decide +kernel
theorem dL_law_1258 : decode cL_law 1258 = .ok (.if_icmp .le 5, 3) := by decide +kernel
theorem dL_law_1261 : decode cL_law 1261 = .ok (.iconst 0, 1) := by decide +kernel
theorem dL_law_1262 : decode cL_law 1262 = .ok (.ireturn, 1) := by decide +kernel
theorem dL_law_1263 : decode cL_law 1263 = .ok (.iload 35, 2) := by decide +kernel
theorem dL_law_1265 : decode cL_law 1265 = .ok (.ifCond .eq 24, 3) := by decide +kernel
theorem dL_law_1268 : decode cL_law 1268 = .ok (.iload 24, 2) := by decide +kernel
theorem dL_law_1270 : decode cL_law 1270 = .ok (.ifCond .eq 19, 3) := by decide +kernel
theorem dL_law_1273 : decode cL_law 1273 = .ok (.iload 34, 2) := by decide +kernel
theorem dL_law_1275 : decode cL_law 1275 = .ok (.iload 19, 2) := by decide +kernel
theorem dL_law_1277 : decode cL_law 1277 = .ok (.if_icmp .ne 10, 3) := by decide +kernel
theorem dL_law_1280 : decode cL_law 1280 = .ok (.iload 25, 2) := by decide +kernel
theorem dL_law_1282 : decode cL_law 1282 = .ok (.iload 22, 2) := by decide +kernel
theorem dL_law_1284 : decode cL_law 1284 = .ok (.if_icmp .eq 5, 3) := by decide +kernel
theorem dL_law_1287 : decode cL_law 1287 = .ok (.iconst 0, 1) := by decide +kernel
theorem dL_law_1288 : decode cL_law 1288 = .ok (.ireturn, 1) := by decide +kernel
theorem dL_law_1289 : decode cL_law 1289 = .ok (.iload 24, 2) := by decide +kernel
theorem dL_law_1291 : decode cL_law 1291 = .ok (.iload 35, 2) := by decide +kernel
theorem dL_law_1293 : decode cL_law 1293 = .ok (.ifCond .ne 7, 3) := by decide +kernel
theorem dL_law_1296 : decode cL_law 1296 = .ok (.iconst 1, 1) := by decide +kernel
theorem dL_law_1297 : decode cL_law 1297 = .ok (.goto 4, 3) := by decide +kernel
theorem dL_law_1300 : decode cL_law 1300 = .ok (.iconst 0, 1) := by decide +kernel
theorem dL_law_1301 : decode cL_law 1301 = .ok (.iand, 1) := by decide +kernel
theorem dL_law_1302 : decode cL_law 1302 = .ok (.istore 24, 2) := by decide +kernel
theorem dL_law_1304 : decode cL_law 1304 = .ok (.iinc 34 1, 3) := by decide +kernel
theorem dL_law_1307 : decode cL_law 1307 = .ok (.goto (-210), 3) := by decide +kernel
theorem dL_law_1310 : decode cL_law 1310 = .ok (.iload 33, 2) := by decide +kernel
theorem dL_law_1312 : decode cL_law 1312 = .ok (.ifCond .ne 21, 3) := by decide +kernel
theorem dL_law_1315 : decode cL_law 1315 = .ok (.aload_n 1, 1) := by decide +kernel
theorem dL_law_1316 : decode cL_law 1316 = .ok (.invokevirtual 154, 3) := by decide +kernel
theorem dL_law_1319 : decode cL_law 1319 = .ok (.iload 26, 2) := by decide +kernel
theorem dL_law_1321 : decode cL_law 1321 = .ok (.if_icmp .ne 12, 3) := by decide +kernel
theorem dL_law_1324 : decode cL_law 1324 = .ok (.aload_n 1, 1) := by decide +kernel
theorem dL_law_1325 : decode cL_law 1325 = .ok (.invokevirtual 168, 3) := by decide +kernel
theorem dL_law_1328 : decode cL_law 1328 = .ok (.iload 27, 2) := by decide +kernel
theorem dL_law_1330 : decode cL_law 1330 = .ok (.if_icmp .eq 5, 3) := by decide +kernel
theorem dL_law_1333 : decode cL_law 1333 = .ok (.iconst 0, 1) := by decide +kernel
theorem dL_law_1334 : decode cL_law 1334 = .ok (.ireturn, 1) := by decide +kernel
theorem dL_law_1335 : decode cL_law 1335 = .ok (.iload 20, 2) := by decide +kernel
theorem dL_law_1337 : decode cL_law 1337 = .ok (.ifCond .lt 48, 3) := by decide +kernel
theorem dL_law_1340 : decode cL_law 1340 = .ok (.iload 23, 2) := by decide +kernel
theorem dL_law_1342 : decode cL_law 1342 = .ok (.ifCond .ne 43, 3) := by decide +kernel
theorem dL_law_1345 : decode cL_law 1345 = .ok (.aload_n 1, 1) := by decide +kernel
theorem dL_law_1346 : decode cL_law 1346 = .ok (.iload 20, 2) := by decide +kernel
theorem dL_law_1348 : decode cL_law 1348 = .ok (.invokevirtual 113, 3) := by decide +kernel
theorem dL_law_1351 : decode cL_law 1351 = .ok (.aload 29, 2) := by decide +kernel
theorem dL_law_1353 : decode cL_law 1353 = .ok (.iload 20, 2) := by decide +kernel
theorem dL_law_1355 : decode cL_law 1355 = .ok (.iaload, 1) := by decide +kernel
theorem dL_law_1356 : decode cL_law 1356 = .ok (.if_icmp .le 7, 3) := by decide +kernel
theorem dL_law_1359 : decode cL_law 1359 = .ok (.iconst 1, 1) := by decide +kernel
theorem dL_law_1360 : decode cL_law 1360 = .ok (.goto 4, 3) := by decide +kernel
theorem dL_law_1363 : decode cL_law 1363 = .ok (.iconst 0, 1) := by decide +kernel
theorem dL_law_1364 : decode cL_law 1364 = .ok (.istore 23, 2) := by decide +kernel
theorem dL_law_1366 : decode cL_law 1366 = .ok (.iload 23, 2) := by decide +kernel
theorem dL_law_1368 : decode cL_law 1368 = .ok (.iload 21, 2) := by decide +kernel
theorem dL_law_1370 : decode cL_law 1370 = .ok (.iload 25, 2) := by decide +kernel
theorem dL_law_1372 : decode cL_law 1372 = .ok (.if_icmp .ne 7, 3) := by decide +kernel
theorem dL_law_1375 : decode cL_law 1375 = .ok (.iconst 1, 1) := by decide +kernel
theorem dL_law_1376 : decode cL_law 1376 = .ok (.goto 4, 3) := by decide +kernel
theorem dL_law_1379 : decode cL_law 1379 = .ok (.iconst 0, 1) := by decide +kernel
theorem dL_law_1380 : decode cL_law 1380 = .ok (.if_icmp .eq 5, 3) := by decide +kernel
theorem dL_law_1383 : decode cL_law 1383 = .ok (.iconst 0, 1) := by decide +kernel
theorem dL_law_1384 : decode cL_law 1384 = .ok (.ireturn, 1) := by decide +kernel
theorem dL_law_1385 : decode cL_law 1385 = .ok (.iload 18, 2) := by decide +kernel
theorem dL_law_1387 : decode cL_law 1387 = .ok (.ifCond .le 37, 3) := by decide +kernel
theorem dL_law_1390 : decode cL_law 1390 = .ok (.iload 25, 2) := by decide +kernel
theorem dL_law_1392 : decode cL_law 1392 = .ok (.iload 18, 2) := by decide +kernel
theorem dL_law_1394 : decode cL_law 1394 = .ok (.if_icmp .gt 30, 3) := by decide +kernel
theorem dL_law_1397 : decode cL_law 1397 = .ok (.aload_n 1, 1) := by decide +kernel
theorem dL_law_1398 : decode cL_law 1398 = .ok (.invokevirtual 154, 3) := by decide +kernel
theorem dL_law_1401 : decode cL_law 1401 = .ok (.ifCond .ge 7, 3) := by decide +kernel
theorem dL_law_1404 : decode cL_law 1404 = .ok (.iconst 1, 1) := by decide +kernel
theorem dL_law_1405 : decode cL_law 1405 = .ok (.goto 4, 3) := by decide +kernel
theorem dL_law_1408 : decode cL_law 1408 = .ok (.iconst 0, 1) := by decide +kernel
theorem dL_law_1409 : decode cL_law 1409 = .ok (.iload 25, 2) := by decide +kernel
theorem dL_law_1411 : decode cL_law 1411 = .ok (.iload 18, 2) := by decide +kernel
theorem dL_law_1413 : decode cL_law 1413 = .ok (.if_icmp .ne 7, 3) := by decide +kernel
theorem dL_law_1416 : decode cL_law 1416 = .ok (.iconst 1, 1) := by decide +kernel
theorem dL_law_1417 : decode cL_law 1417 = .ok (.goto 4, 3) := by decide +kernel
theorem dL_law_1420 : decode cL_law 1420 = .ok (.iconst 0, 1) := by decide +kernel
theorem dL_law_1421 : decode cL_law 1421 = .ok (.if_icmp .ne 15, 3) := by decide +kernel
theorem dL_law_1424 : decode cL_law 1424 = .ok (.iload 18, 2) := by decide +kernel
theorem dL_law_1426 : decode cL_law 1426 = .ok (.ifCond .ge 12, 3) := by decide +kernel
theorem dL_law_1429 : decode cL_law 1429 = .ok (.aload_n 1, 1) := by decide +kernel
theorem dL_law_1430 : decode cL_law 1430 = .ok (.invokevirtual 154, 3) := by decide +kernel
theorem dL_law_1433 : decode cL_law 1433 = .ok (.ifCond .ge 5, 3) := by decide +kernel
theorem dL_law_1436 : decode cL_law 1436 = .ok (.iconst 0, 1) := by decide +kernel
theorem dL_law_1437 : decode cL_law 1437 = .ok (.ireturn, 1) := by decide +kernel
theorem dL_law_1438 : decode cL_law 1438 = .ok (.iinc 25 1, 3) := by decide +kernel
theorem dL_law_1441 : decode cL_law 1441 = .ok (.goto (-555), 3) := by decide +kernel
theorem dL_law_1444 : decode cL_law 1444 = .ok (.aload_n 1, 1) := by decide +kernel
theorem dL_law_1445 : decode cL_law 1445 = .ok (.invokevirtual 154, 3) := by decide +kernel
theorem dL_law_1448 : decode cL_law 1448 = .ok (.iload 17, 2) := by decide +kernel
theorem dL_law_1450 : decode cL_law 1450 = .ok (.if_icmp .eq 5, 3) := by decide +kernel
theorem dL_law_1453 : decode cL_law 1453 = .ok (.iconst 0, 1) := by decide +kernel
theorem dL_law_1454 : decode cL_law 1454 = .ok (.ireturn, 1) := by decide +kernel
theorem dL_law_1455 : decode cL_law 1455 = .ok (.iinc 3 1, 3) := by decide +kernel
theorem dL_law_1458 : decode cL_law 1458 = .ok (.goto (-1436), 3) := by decide +kernel
theorem dL_law_1461 : decode cL_law 1461 = .ok (.aload_n 2, 1) := by decide +kernel
theorem dL_law_1462 : decode cL_law 1462 = .ok (.aload_n 1, 1) := by decide +kernel
theorem dL_law_1463 : decode cL_law 1463 = .ok (.invokevirtual 181, 3) := by decide +kernel
theorem dL_law_1466 : decode cL_law 1466 = .ok (.ireturn, 1) := by decide +kernel
end
section
/-! the tables' words in one list: every method's own list is its code and these -/
def lw_all : List Cond := lw_tbl.filter goodWord
theorem lw_all_tbl {w : Cond} (h : w ∈ lw_all) : w ∈ lw_tbl := (List.mem_filter.mp h).1
theorem lw_all_good {w : Cond} (h : w ∈ lw_all) : goodWord w = true := (List.mem_filter.mp h).2
theorem lw_in {w : Cond} (h : w ∈ tables_1) (g : goodWord w = true) : w ∈ lw_all := List.mem_filter.mpr ⟨List.mem_append_right _ h, g⟩
theorem lw_inS {w : Cond} (h : w ∈ k2_sels lw_privs) (g : goodWord w = true) : w ∈ lw_all := List.mem_filter.mpr ⟨List.mem_append_left _ h, g⟩
theorem q0 : (Jvm.Cond.initialized "ShadowPoolLaw") ∈ lw_all := lw_in (List.mem_of_getElem? (i := 0) (by decide +kernel)) (by decide +kernel)
theorem q1 : (Jvm.Cond.initialized "ShadowPool") ∈ lw_all := lw_in (List.mem_of_getElem? (i := 1) (by decide +kernel)) (by decide +kernel)
theorem q2 : (Jvm.Cond.initialized "ShadowPool$Book") ∈ lw_all := lw_in (List.mem_of_getElem? (i := 2) (by decide +kernel)) (by decide +kernel)
theorem q3 : (Jvm.Cond.initialized "ShadowPool$Walker") ∈ lw_all := lw_in (List.mem_of_getElem? (i := 3) (by decide +kernel)) (by decide +kernel)
theorem q4 : (Jvm.Cond.initialized "ShadowPoolLaw$Sim") ∈ lw_all := lw_in (List.mem_of_getElem? (i := 4) (by decide +kernel)) (by decide +kernel)
theorem q5 : (Jvm.Cond.initialized "java/lang/Throwable") ∈ lw_all := lw_in (List.mem_of_getElem? (i := 5) (by decide +kernel)) (by decide +kernel)
theorem q6 : (Jvm.Cond.initialized "java/lang/Exception") ∈ lw_all := lw_in (List.mem_of_getElem? (i := 6) (by decide +kernel)) (by decide +kernel)
theorem q7 : (Jvm.Cond.initialized "java/lang/RuntimeException") ∈ lw_all := lw_in (List.mem_of_getElem? (i := 7) (by decide +kernel)) (by decide +kernel)
theorem q8 : (Jvm.Cond.initialized "java/lang/IllegalArgumentException") ∈ lw_all := lw_in (List.mem_of_getElem? (i := 8) (by decide +kernel)) (by decide +kernel)
theorem q9 : (Jvm.Cond.initialized "java/lang/IllegalStateException") ∈ lw_all := lw_in (List.mem_of_getElem? (i := 9) (by decide +kernel)) (by decide +kernel)
theorem q10 : (Jvm.Cond.initialized "java/lang/IndexOutOfBoundsException") ∈ lw_all := lw_in (List.mem_of_getElem? (i := 10) (by decide +kernel)) (by decide +kernel)
theorem q11 : (Jvm.Cond.initialized "java/lang/Math") ∈ lw_all := lw_in (List.mem_of_getElem? (i := 11) (by decide +kernel)) (by decide +kernel)
theorem q12 : (Jvm.Cond.classLink "ShadowPoolLaw" (26 : Nat) "ShadowPool") ∈ lw_all := lw_in (List.mem_of_getElem? (i := 12) (by decide +kernel)) (by decide +kernel)
theorem q13 : (Jvm.Cond.instantiable "ShadowPool" (2 : Nat)) ∈ lw_all := lw_in (List.mem_of_getElem? (i := 13) (by decide +kernel)) (by decide +kernel)
theorem q14 : (Jvm.Cond.methodLink "ShadowPoolLaw" (73 : Nat) ({ cls := "ShadowPool", name := "<init>", desc := "()V" } : Jvm.MethodName)) ∈ lw_all := lw_in (List.mem_of_getElem? (i := 14) (by decide +kernel)) (by decide +kernel)
theorem q15 : (Jvm.Cond.instanceMethod ({ cls := "ShadowPool", name := "<init>", desc := "()V" } : Jvm.MethodName)) ∈ lw_all := lw_in (List.mem_of_getElem? (i := 15) (by decide +kernel)) (by decide +kernel)
theorem q16 : (Jvm.Cond.code ({ cls := "ShadowPool", name := "<init>", desc := "()V" } : Jvm.MethodName) prog_1_method_1_code (1 : Nat) (Option.none : Option Jvm.ClassFile.FieldType)) ∈ lw_all := lw_in (List.mem_of_getElem? (i := 16) (by decide +kernel)) (by decide +kernel)
theorem q17 : (Jvm.Cond.methodLink "ShadowPool" (1 : Nat) ({ cls := "java/lang/Object", name := "<init>", desc := "()V" } : Jvm.MethodName)) ∈ lw_all := lw_in (List.mem_of_getElem? (i := 17) (by decide +kernel)) (by decide +kernel)
theorem q18 : (Jvm.Cond.instanceMethod ({ cls := "java/lang/Object", name := "<init>", desc := "()V" } : Jvm.MethodName)) ∈ lw_all := lw_in (List.mem_of_getElem? (i := 18) (by decide +kernel)) (by decide +kernel)
theorem q19 : (Jvm.Cond.code ({ cls := "java/lang/Object", name := "<init>", desc := "()V" } : Jvm.MethodName) object_method_1_code (1 : Nat) (Option.none : Option Jvm.ClassFile.FieldType)) ∈ lw_all := lw_in (List.mem_of_getElem? (i := 19) (by decide +kernel)) (by decide +kernel)
theorem q20 : (Jvm.Cond.classLink "ShadowPool" (7 : Nat) "ShadowPool$Book") ∈ lw_all := lw_in (List.mem_of_getElem? (i := 20) (by decide +kernel)) (by decide +kernel)
theorem q21 : (Jvm.Cond.instantiable "ShadowPool$Book" (8 : Nat)) ∈ lw_all := lw_in (List.mem_of_getElem? (i := 21) (by decide +kernel)) (by decide +kernel)
theorem q23 : (Jvm.Cond.instanceMethod ({ cls := "ShadowPool$Book", name := "<init>", desc := "()V" } : Jvm.MethodName)) ∈ lw_all := lw_in (List.mem_of_getElem? (i := 23) (by decide +kernel)) (by decide +kernel)
theorem q24 : (Jvm.Cond.code ({ cls := "ShadowPool$Book", name := "<init>", desc := "()V" } : Jvm.MethodName) prog_2_method_1_code (2 : Nat) (Option.none : Option Jvm.ClassFile.FieldType)) ∈ lw_all := lw_in (List.mem_of_getElem? (i := 24) (by decide +kernel)) (by decide +kernel)
theorem q25 : (Jvm.Cond.methodLink "ShadowPool$Book" (3 : Nat) ({ cls := "java/lang/Object", name := "<init>", desc := "()V" } : Jvm.MethodName)) ∈ lw_all := lw_in (List.mem_of_getElem? (i := 25) (by decide +kernel)) (by decide +kernel)
theorem q26 : (Jvm.Cond.classLink "ShadowPool$Book" (33 : Nat) "ShadowPool$Walker") ∈ lw_all := lw_in (List.mem_of_getElem? (i := 26) (by decide +kernel)) (by decide +kernel)
theorem qt27 : (Jvm.Cond.arrayOver (Jvm.ClassFile.FieldType.object "ShadowPool$Walker")) ∈ tables_1 := List.mem_of_getElem? (i := 27) (by decide +kernel)
theorem q28 : (Jvm.Cond.instantiable "ShadowPool$Walker" (6 : Nat)) ∈ lw_all := lw_in (List.mem_of_getElem? (i := 28) (by decide +kernel)) (by decide +kernel)
theorem q30 : (Jvm.Cond.instanceMethod ({ cls := "ShadowPool$Walker", name := "<init>", desc := "()V" } : Jvm.MethodName)) ∈ lw_all := lw_in (List.mem_of_getElem? (i := 30) (by decide +kernel)) (by decide +kernel)
theorem q31 : (Jvm.Cond.code ({ cls := "ShadowPool$Walker", name := "<init>", desc := "()V" } : Jvm.MethodName) prog_3_method_1_code (1 : Nat) (Option.none : Option Jvm.ClassFile.FieldType)) ∈ lw_all := lw_in (List.mem_of_getElem? (i := 31) (by decide +kernel)) (by decide +kernel)
theorem q32 : (Jvm.Cond.methodLink "ShadowPool$Walker" (3 : Nat) ({ cls := "java/lang/Object", name := "<init>", desc := "()V" } : Jvm.MethodName)) ∈ lw_all := lw_in (List.mem_of_getElem? (i := 32) (by decide +kernel)) (by decide +kernel)
theorem q33 : (Jvm.Cond.fieldLink "ShadowPool$Walker" (9 : Nat) "ShadowPool$Walker" "height" "I") ∈ lw_all := lw_in (List.mem_of_getElem? (i := 33) (by decide +kernel)) (by decide +kernel)
theorem q34 : (Jvm.Cond.fieldLink "ShadowPool$Walker" (15 : Nat) "ShadowPool$Walker" "skill" "I") ∈ lw_all := lw_in (List.mem_of_getElem? (i := 34) (by decide +kernel)) (by decide +kernel)
theorem q35 : (Jvm.Cond.fieldLink "ShadowPool$Walker" (18 : Nat) "ShadowPool$Walker" "net" "I") ∈ lw_all := lw_in (List.mem_of_getElem? (i := 35) (by decide +kernel)) (by decide +kernel)
theorem q37 : (Jvm.Cond.fieldLink "ShadowPool$Walker" (21 : Nat) "ShadowPool$Walker" "wobble" "I") ∈ lw_all := lw_in (List.mem_of_getElem? (i := 37) (by decide +kernel)) (by decide +kernel)
theorem q40 : (Jvm.Cond.fieldLink "ShadowPool$Walker" (24 : Nat) "ShadowPool$Walker" "falls" "I") ∈ lw_all := lw_in (List.mem_of_getElem? (i := 40) (by decide +kernel)) (by decide +kernel)
theorem q42 : (Jvm.Cond.fieldLink "ShadowPool$Walker" (27 : Nat) "ShadowPool$Walker" "member" "Z") ∈ lw_all := lw_in (List.mem_of_getElem? (i := 42) (by decide +kernel)) (by decide +kernel)
theorem q45 : (Jvm.Cond.lays "ShadowPool$Walker" "ShadowPool$Walker" "height" "I") ∈ lw_all := lw_in (List.mem_of_getElem? (i := 45) (by decide +kernel)) (by decide +kernel)
theorem q46 : (Jvm.Cond.soleField "ShadowPool$Walker" "height") ∈ lw_all := lw_in (List.mem_of_getElem? (i := 46) (by decide +kernel)) (by decide +kernel)
theorem q47 : (Jvm.Cond.lays "ShadowPool$Walker" "ShadowPool$Walker" "skill" "I") ∈ lw_all := lw_in (List.mem_of_getElem? (i := 47) (by decide +kernel)) (by decide +kernel)
theorem q48 : (Jvm.Cond.soleField "ShadowPool$Walker" "skill") ∈ lw_all := lw_in (List.mem_of_getElem? (i := 48) (by decide +kernel)) (by decide +kernel)
theorem q49 : (Jvm.Cond.lays "ShadowPool$Walker" "ShadowPool$Walker" "net" "I") ∈ lw_all := lw_in (List.mem_of_getElem? (i := 49) (by decide +kernel)) (by decide +kernel)
theorem q50 : (Jvm.Cond.soleField "ShadowPool$Walker" "net") ∈ lw_all := lw_in (List.mem_of_getElem? (i := 50) (by decide +kernel)) (by decide +kernel)
theorem q51 : (Jvm.Cond.lays "ShadowPool$Walker" "ShadowPool$Walker" "wobble" "I") ∈ lw_all := lw_in (List.mem_of_getElem? (i := 51) (by decide +kernel)) (by decide +kernel)
theorem q52 : (Jvm.Cond.soleField "ShadowPool$Walker" "wobble") ∈ lw_all := lw_in (List.mem_of_getElem? (i := 52) (by decide +kernel)) (by decide +kernel)
theorem q53 : (Jvm.Cond.lays "ShadowPool$Walker" "ShadowPool$Walker" "falls" "I") ∈ lw_all := lw_in (List.mem_of_getElem? (i := 53) (by decide +kernel)) (by decide +kernel)
theorem q54 : (Jvm.Cond.soleField "ShadowPool$Walker" "falls") ∈ lw_all := lw_in (List.mem_of_getElem? (i := 54) (by decide +kernel)) (by decide +kernel)
theorem q55 : (Jvm.Cond.lays "ShadowPool$Walker" "ShadowPool$Walker" "member" "Z") ∈ lw_all := lw_in (List.mem_of_getElem? (i := 55) (by decide +kernel)) (by decide +kernel)
theorem q56 : (Jvm.Cond.soleField "ShadowPool$Walker" "member") ∈ lw_all := lw_in (List.mem_of_getElem? (i := 56) (by decide +kernel)) (by decide +kernel)
theorem q57 : (Jvm.Cond.superclass "ShadowPool$Walker" "java/lang/Object") ∈ lw_all := lw_in (List.mem_of_getElem? (i := 57) (by decide +kernel)) (by decide +kernel)
theorem q58 : (Jvm.Cond.fieldLink "ShadowPool$Book" (9 : Nat) "ShadowPool$Book" "hour" "I") ∈ lw_all := lw_in (List.mem_of_getElem? (i := 58) (by decide +kernel)) (by decide +kernel)
theorem q60 : (Jvm.Cond.fieldLink "ShadowPool$Book" (15 : Nat) "ShadowPool$Book" "fund" "I") ∈ lw_all := lw_in (List.mem_of_getElem? (i := 60) (by decide +kernel)) (by decide +kernel)
theorem q62 : (Jvm.Cond.fieldLink "ShadowPool$Book" (18 : Nat) "ShadowPool$Book" "rate" "I") ∈ lw_all := lw_in (List.mem_of_getElem? (i := 62) (by decide +kernel)) (by decide +kernel)
theorem q64 : (Jvm.Cond.fieldLink "ShadowPool$Book" (21 : Nat) "ShadowPool$Book" "retention" "I") ∈ lw_all := lw_in (List.mem_of_getElem? (i := 64) (by decide +kernel)) (by decide +kernel)
theorem q66 : (Jvm.Cond.fieldLink "ShadowPool$Book" (24 : Nat) "ShadowPool$Book" "limit" "I") ∈ lw_all := lw_in (List.mem_of_getElem? (i := 66) (by decide +kernel)) (by decide +kernel)
theorem q68 : (Jvm.Cond.fieldLink "ShadowPool$Book" (27 : Nat) "ShadowPool$Book" "reinsurersLoss" "I") ∈ lw_all := lw_in (List.mem_of_getElem? (i := 68) (by decide +kernel)) (by decide +kernel)
theorem q70 : (Jvm.Cond.fieldLink "ShadowPool$Book" (30 : Nat) "ShadowPool$Book" "count" "I") ∈ lw_all := lw_in (List.mem_of_getElem? (i := 70) (by decide +kernel)) (by decide +kernel)
theorem q72 : (Jvm.Cond.fieldLink "ShadowPool$Book" (35 : Nat) "ShadowPool$Book" "row" "[LShadowPool$Walker;") ∈ lw_all := lw_in (List.mem_of_getElem? (i := 72) (by decide +kernel)) (by decide +kernel)
theorem q73 : (Jvm.Cond.lays "ShadowPool$Book" "ShadowPool$Book" "hour" "I") ∈ lw_all := lw_in (List.mem_of_getElem? (i := 73) (by decide +kernel)) (by decide +kernel)
theorem q74 : (Jvm.Cond.soleField "ShadowPool$Book" "hour") ∈ lw_all := lw_in (List.mem_of_getElem? (i := 74) (by decide +kernel)) (by decide +kernel)
theorem q75 : (Jvm.Cond.lays "ShadowPool$Book" "ShadowPool$Book" "fund" "I") ∈ lw_all := lw_in (List.mem_of_getElem? (i := 75) (by decide +kernel)) (by decide +kernel)
theorem q76 : (Jvm.Cond.soleField "ShadowPool$Book" "fund") ∈ lw_all := lw_in (List.mem_of_getElem? (i := 76) (by decide +kernel)) (by decide +kernel)
theorem q77 : (Jvm.Cond.lays "ShadowPool$Book" "ShadowPool$Book" "rate" "I") ∈ lw_all := lw_in (List.mem_of_getElem? (i := 77) (by decide +kernel)) (by decide +kernel)
theorem q78 : (Jvm.Cond.soleField "ShadowPool$Book" "rate") ∈ lw_all := lw_in (List.mem_of_getElem? (i := 78) (by decide +kernel)) (by decide +kernel)
theorem q79 : (Jvm.Cond.lays "ShadowPool$Book" "ShadowPool$Book" "retention" "I") ∈ lw_all := lw_in (List.mem_of_getElem? (i := 79) (by decide +kernel)) (by decide +kernel)
theorem q80 : (Jvm.Cond.soleField "ShadowPool$Book" "retention") ∈ lw_all := lw_in (List.mem_of_getElem? (i := 80) (by decide +kernel)) (by decide +kernel)
theorem q81 : (Jvm.Cond.lays "ShadowPool$Book" "ShadowPool$Book" "limit" "I") ∈ lw_all := lw_in (List.mem_of_getElem? (i := 81) (by decide +kernel)) (by decide +kernel)
theorem q82 : (Jvm.Cond.soleField "ShadowPool$Book" "limit") ∈ lw_all := lw_in (List.mem_of_getElem? (i := 82) (by decide +kernel)) (by decide +kernel)
theorem q83 : (Jvm.Cond.lays "ShadowPool$Book" "ShadowPool$Book" "reinsurersLoss" "I") ∈ lw_all := lw_in (List.mem_of_getElem? (i := 83) (by decide +kernel)) (by decide +kernel)
theorem q84 : (Jvm.Cond.soleField "ShadowPool$Book" "reinsurersLoss") ∈ lw_all := lw_in (List.mem_of_getElem? (i := 84) (by decide +kernel)) (by decide +kernel)
theorem q85 : (Jvm.Cond.lays "ShadowPool$Book" "ShadowPool$Book" "count" "I") ∈ lw_all := lw_in (List.mem_of_getElem? (i := 85) (by decide +kernel)) (by decide +kernel)
theorem q86 : (Jvm.Cond.soleField "ShadowPool$Book" "count") ∈ lw_all := lw_in (List.mem_of_getElem? (i := 86) (by decide +kernel)) (by decide +kernel)
theorem q87 : (Jvm.Cond.laysFinal "ShadowPool$Book" "ShadowPool$Book" "row" "[LShadowPool$Walker;") ∈ lw_all := lw_in (List.mem_of_getElem? (i := 87) (by decide +kernel)) (by decide +kernel)
theorem q88 : (Jvm.Cond.soleField "ShadowPool$Book" "row") ∈ lw_all := lw_in (List.mem_of_getElem? (i := 88) (by decide +kernel)) (by decide +kernel)
theorem q89 : (Jvm.Cond.superclass "ShadowPool$Book" "java/lang/Object") ∈ lw_all := lw_in (List.mem_of_getElem? (i := 89) (by decide +kernel)) (by decide +kernel)
theorem q90 : (Jvm.Cond.fieldLink "ShadowPool" (10 : Nat) "ShadowPool" "now" "LShadowPool$Book;") ∈ lw_all := lw_in (List.mem_of_getElem? (i := 90) (by decide +kernel)) (by decide +kernel)
theorem q91 : (Jvm.Cond.fieldLink "ShadowPool" (16 : Nat) "ShadowPool" "trial" "LShadowPool$Book;") ∈ lw_all := lw_in (List.mem_of_getElem? (i := 91) (by decide +kernel)) (by decide +kernel)
theorem q92 : (Jvm.Cond.laysFinal "ShadowPool" "ShadowPool" "now" "LShadowPool$Book;") ∈ lw_all := lw_in (List.mem_of_getElem? (i := 92) (by decide +kernel)) (by decide +kernel)
theorem q93 : (Jvm.Cond.soleField "ShadowPool" "now") ∈ lw_all := lw_in (List.mem_of_getElem? (i := 93) (by decide +kernel)) (by decide +kernel)
theorem q94 : (Jvm.Cond.laysFinal "ShadowPool" "ShadowPool" "trial" "LShadowPool$Book;") ∈ lw_all := lw_in (List.mem_of_getElem? (i := 94) (by decide +kernel)) (by decide +kernel)
theorem q95 : (Jvm.Cond.soleField "ShadowPool" "trial") ∈ lw_all := lw_in (List.mem_of_getElem? (i := 95) (by decide +kernel)) (by decide +kernel)
theorem q96 : (Jvm.Cond.superclass "ShadowPool" "java/lang/Object") ∈ lw_all := lw_in (List.mem_of_getElem? (i := 96) (by decide +kernel)) (by decide +kernel)
theorem q97 : (Jvm.Cond.methodLink "ShadowPoolLaw" (58 : Nat) ({ cls := "ShadowPool", name := "pass", desc := "(I)I" } : Jvm.MethodName)) ∈ lw_all := lw_in (List.mem_of_getElem? (i := 97) (by decide +kernel)) (by decide +kernel)
theorem q98 : (Jvm.Cond.instanceMethod ({ cls := "ShadowPool", name := "pass", desc := "(I)I" } : Jvm.MethodName)) ∈ lw_all := lw_in (List.mem_of_getElem? (i := 98) (by decide +kernel)) (by decide +kernel)
theorem q99 : (Jvm.Cond.selects "ShadowPool" ({ cls := "ShadowPool", name := "pass", desc := "(I)I" } : Jvm.MethodName) ({ cls := "ShadowPool", name := "pass", desc := "(I)I" } : Jvm.MethodName)) ∈ lw_all := lw_in (List.mem_of_getElem? (i := 99) (by decide +kernel)) (by decide +kernel)
theorem q100 : (Jvm.Cond.code ({ cls := "ShadowPool", name := "pass", desc := "(I)I" } : Jvm.MethodName) prog_1_method_8_code (2 : Nat) (Option.some Jvm.ClassFile.FieldType.int)) ∈ lw_all := lw_in (List.mem_of_getElem? (i := 100) (by decide +kernel)) (by decide +kernel)
theorem q101 : (Jvm.Cond.methodLink "ShadowPool" (19 : Nat) ({ cls := "ShadowPool", name := "within", desc := "(III)Z" } : Jvm.MethodName)) ∈ lw_all := lw_in (List.mem_of_getElem? (i := 101) (by decide +kernel)) (by decide +kernel)
theorem q102 : (Jvm.Cond.static ({ cls := "ShadowPool", name := "within", desc := "(III)Z" } : Jvm.MethodName)) ∈ lw_all := lw_in (List.mem_of_getElem? (i := 102) (by decide +kernel)) (by decide +kernel)
theorem q103 : (Jvm.Cond.code ({ cls := "ShadowPool", name := "within", desc := "(III)Z" } : Jvm.MethodName) prog_1_method_42_code (3 : Nat) (Option.some Jvm.ClassFile.FieldType.boolean)) ∈ lw_all := lw_in (List.mem_of_getElem? (i := 103) (by decide +kernel)) (by decide +kernel)
theorem q104 : (Jvm.Cond.classLink "ShadowPool" (23 : Nat) "java/lang/IllegalArgumentException") ∈ lw_all := lw_in (List.mem_of_getElem? (i := 104) (by decide +kernel)) (by decide +kernel)
theorem q105 : (Jvm.Cond.instantiable "java/lang/IllegalArgumentException" (6 : Nat)) ∈ lw_all := lw_in (List.mem_of_getElem? (i := 105) (by decide +kernel)) (by decide +kernel)
theorem qt106 : (Jvm.Cond.castable "java/lang/IllegalArgumentException" "java/lang/IllegalArgumentException") ∈ tables_1 := List.mem_of_getElem? (i := 106) (by decide +kernel)
theorem q113 : (Jvm.Cond.selects "java/lang/IllegalArgumentException" ({ cls := "java/lang/Throwable", name := "fillInStackTrace", desc := "(I)Ljava/lang/Throwable;" } : Jvm.MethodName) ({ cls := "java/lang/Throwable", name := "fillInStackTrace", desc := "(I)Ljava/lang/Throwable;" } : Jvm.MethodName)) ∈ lw_all := lw_in (List.mem_of_getElem? (i := 113) (by decide +kernel)) (by decide +kernel)
theorem q114 : (Jvm.Cond.selects "java/lang/IllegalArgumentException" ({ cls := "java/lang/Throwable", name := "fillInStackTrace", desc := "()Ljava/lang/Throwable;" } : Jvm.MethodName) ({ cls := "java/lang/Throwable", name := "fillInStackTrace", desc := "()Ljava/lang/Throwable;" } : Jvm.MethodName)) ∈ lw_all := lw_in (List.mem_of_getElem? (i := 114) (by decide +kernel)) (by decide +kernel)
theorem q115 : (Jvm.Cond.lays "java/lang/IllegalArgumentException" "java/lang/Throwable" "cause" "Ljava/lang/Throwable;") ∈ lw_all := lw_in (List.mem_of_getElem? (i := 115) (by decide +kernel)) (by decide +kernel)
theorem q116 : (Jvm.Cond.lays "java/lang/Throwable" "java/lang/Throwable" "cause" "Ljava/lang/Throwable;") ∈ lw_all := lw_in (List.mem_of_getElem? (i := 116) (by decide +kernel)) (by decide +kernel)
theorem q117 : (Jvm.Cond.lays "java/lang/IllegalArgumentException" "java/lang/Throwable" "stackTrace" "[Ljava/lang/StackTraceElement;") ∈ lw_all := lw_in (List.mem_of_getElem? (i := 117) (by decide +kernel)) (by decide +kernel)
theorem q118 : (Jvm.Cond.lays "java/lang/Throwable" "java/lang/Throwable" "stackTrace" "[Ljava/lang/StackTraceElement;") ∈ lw_all := lw_in (List.mem_of_getElem? (i := 118) (by decide +kernel)) (by decide +kernel)
theorem q119 : (Jvm.Cond.lays "java/lang/IllegalArgumentException" "java/lang/Throwable" "suppressedExceptions" "Ljava/util/List;") ∈ lw_all := lw_in (List.mem_of_getElem? (i := 119) (by decide +kernel)) (by decide +kernel)
theorem q120 : (Jvm.Cond.lays "java/lang/Throwable" "java/lang/Throwable" "suppressedExceptions" "Ljava/util/List;") ∈ lw_all := lw_in (List.mem_of_getElem? (i := 120) (by decide +kernel)) (by decide +kernel)
theorem q121 : (Jvm.Cond.lays "java/lang/IllegalArgumentException" "java/lang/Throwable" "detailMessage" "Ljava/lang/String;") ∈ lw_all := lw_in (List.mem_of_getElem? (i := 121) (by decide +kernel)) (by decide +kernel)
theorem q122 : (Jvm.Cond.lays "java/lang/Throwable" "java/lang/Throwable" "detailMessage" "Ljava/lang/String;") ∈ lw_all := lw_in (List.mem_of_getElem? (i := 122) (by decide +kernel)) (by decide +kernel)
theorem q123 : (Jvm.Cond.lays "java/lang/IllegalArgumentException" "java/lang/Throwable" "backtrace" "Ljava/lang/Object;") ∈ lw_all := lw_in (List.mem_of_getElem? (i := 123) (by decide +kernel)) (by decide +kernel)
theorem q124 : (Jvm.Cond.lays "java/lang/Throwable" "java/lang/Throwable" "backtrace" "Ljava/lang/Object;") ∈ lw_all := lw_in (List.mem_of_getElem? (i := 124) (by decide +kernel)) (by decide +kernel)
theorem q125 : (Jvm.Cond.fieldLink "java/lang/Throwable" (198 : Nat) "java/lang/Throwable" "backtrace" "Ljava/lang/Object;") ∈ lw_all := lw_in (List.mem_of_getElem? (i := 125) (by decide +kernel)) (by decide +kernel)
theorem q126 : (Jvm.Cond.superclass "java/lang/Throwable" "java/lang/Object") ∈ lw_all := lw_in (List.mem_of_getElem? (i := 126) (by decide +kernel)) (by decide +kernel)
theorem q127 : (Jvm.Cond.instanceMethod ({ cls := "java/lang/Throwable", name := "<init>", desc := "()V" } : Jvm.MethodName)) ∈ lw_all := lw_in (List.mem_of_getElem? (i := 127) (by decide +kernel)) (by decide +kernel)
theorem q128 : (Jvm.Cond.code ({ cls := "java/lang/Throwable", name := "<init>", desc := "()V" } : Jvm.MethodName) prog_15_method_1_code (1 : Nat) (Option.none : Option Jvm.ClassFile.FieldType)) ∈ lw_all := lw_in (List.mem_of_getElem? (i := 128) (by decide +kernel)) (by decide +kernel)
theorem q129 : (Jvm.Cond.methodLink "java/lang/Throwable" (1 : Nat) ({ cls := "java/lang/Object", name := "<init>", desc := "()V" } : Jvm.MethodName)) ∈ lw_all := lw_in (List.mem_of_getElem? (i := 129) (by decide +kernel)) (by decide +kernel)
theorem q130 : (Jvm.Cond.fieldLink "java/lang/Throwable" (13 : Nat) "java/lang/Throwable" "UNASSIGNED_STACK" "[Ljava/lang/StackTraceElement;") ∈ lw_all := lw_in (List.mem_of_getElem? (i := 130) (by decide +kernel)) (by decide +kernel)
theorem q132 : (Jvm.Cond.fieldLink "java/lang/Throwable" (20 : Nat) "java/lang/Throwable" "SUPPRESSED_SENTINEL" "Ljava/util/List;") ∈ lw_all := lw_in (List.mem_of_getElem? (i := 132) (by decide +kernel)) (by decide +kernel)
theorem q134 : (Jvm.Cond.methodLink "java/lang/Throwable" (27 : Nat) ({ cls := "java/lang/Throwable", name := "fillInStackTrace", desc := "()Ljava/lang/Throwable;" } : Jvm.MethodName)) ∈ lw_all := lw_in (List.mem_of_getElem? (i := 134) (by decide +kernel)) (by decide +kernel)
theorem q135 : (Jvm.Cond.instanceMethod ({ cls := "java/lang/Throwable", name := "fillInStackTrace", desc := "()Ljava/lang/Throwable;" } : Jvm.MethodName)) ∈ lw_all := lw_in (List.mem_of_getElem? (i := 135) (by decide +kernel)) (by decide +kernel)
theorem q136 : (Jvm.Cond.sameMethod "java/lang/Throwable" "java/lang/Throwable" "fillInStackTrace" "()Ljava/lang/Throwable;") ∈ lw_all := lw_in (List.mem_of_getElem? (i := 136) (by decide +kernel)) (by decide +kernel)
theorem q137 : (Jvm.Cond.selects "java/lang/IllegalStateException" ({ cls := "java/lang/Throwable", name := "fillInStackTrace", desc := "()Ljava/lang/Throwable;" } : Jvm.MethodName) ({ cls := "java/lang/Throwable", name := "fillInStackTrace", desc := "()Ljava/lang/Throwable;" } : Jvm.MethodName)) ∈ lw_all := lw_in (List.mem_of_getElem? (i := 137) (by decide +kernel)) (by decide +kernel)
theorem q138 : (Jvm.Cond.selects "java/lang/IndexOutOfBoundsException" ({ cls := "java/lang/Throwable", name := "fillInStackTrace", desc := "()Ljava/lang/Throwable;" } : Jvm.MethodName) ({ cls := "java/lang/Throwable", name := "fillInStackTrace", desc := "()Ljava/lang/Throwable;" } : Jvm.MethodName)) ∈ lw_all := lw_in (List.mem_of_getElem? (i := 138) (by decide +kernel)) (by decide +kernel)
theorem q139 : (Jvm.Cond.codeSync ({ cls := "java/lang/Throwable", name := "fillInStackTrace", desc := "()Ljava/lang/Throwable;" } : Jvm.MethodName) prog_15_method_18_code (1 : Nat) (Option.some (Jvm.ClassFile.FieldType.object "java/lang/Throwable"))) ∈ lw_all := lw_in (List.mem_of_getElem? (i := 139) (by decide +kernel)) (by decide +kernel)
theorem q140 : (Jvm.Cond.methodLink "java/lang/Throwable" (202 : Nat) ({ cls := "java/lang/Throwable", name := "fillInStackTrace", desc := "(I)Ljava/lang/Throwable;" } : Jvm.MethodName)) ∈ lw_all := lw_in (List.mem_of_getElem? (i := 140) (by decide +kernel)) (by decide +kernel)
theorem q142 : (Jvm.Cond.instanceMethod ({ cls := "java/lang/Throwable", name := "fillInStackTrace", desc := "(I)Ljava/lang/Throwable;" } : Jvm.MethodName)) ∈ lw_all := lw_in (List.mem_of_getElem? (i := 142) (by decide +kernel)) (by decide +kernel)
theorem q143 : (Jvm.Cond.instantiable "java/lang/Throwable" (6 : Nat)) ∈ lw_all := lw_in (List.mem_of_getElem? (i := 143) (by decide +kernel)) (by decide +kernel)
theorem q144 : (Jvm.Cond.native ({ cls := "java/lang/Throwable", name := "fillInStackTrace", desc := "(I)Ljava/lang/Throwable;" } : Jvm.MethodName)) ∈ lw_all := lw_in (List.mem_of_getElem? (i := 144) (by decide +kernel)) (by decide +kernel)
theorem q146 : (Jvm.Cond.methodLink "ShadowPool" (27 : Nat) ({ cls := "java/lang/IllegalArgumentException", name := "<init>", desc := "(Ljava/lang/String;)V" } : Jvm.MethodName)) ∈ lw_all := lw_in (List.mem_of_getElem? (i := 146) (by decide +kernel)) (by decide +kernel)
theorem q147 : (Jvm.Cond.instanceMethod ({ cls := "java/lang/IllegalArgumentException", name := "<init>", desc := "(Ljava/lang/String;)V" } : Jvm.MethodName)) ∈ lw_all := lw_in (List.mem_of_getElem? (i := 147) (by decide +kernel)) (by decide +kernel)
theorem q148 : (Jvm.Cond.code ({ cls := "java/lang/IllegalArgumentException", name := "<init>", desc := "(Ljava/lang/String;)V" } : Jvm.MethodName) prog_9_method_2_code (2 : Nat) (Option.none : Option Jvm.ClassFile.FieldType)) ∈ lw_all := lw_in (List.mem_of_getElem? (i := 148) (by decide +kernel)) (by decide +kernel)
theorem q149 : (Jvm.Cond.methodLink "java/lang/IllegalArgumentException" (7 : Nat) ({ cls := "java/lang/RuntimeException", name := "<init>", desc := "(Ljava/lang/String;)V" } : Jvm.MethodName)) ∈ lw_all := lw_in (List.mem_of_getElem? (i := 149) (by decide +kernel)) (by decide +kernel)
theorem q150 : (Jvm.Cond.instanceMethod ({ cls := "java/lang/RuntimeException", name := "<init>", desc := "(Ljava/lang/String;)V" } : Jvm.MethodName)) ∈ lw_all := lw_in (List.mem_of_getElem? (i := 150) (by decide +kernel)) (by decide +kernel)
theorem q151 : (Jvm.Cond.code ({ cls := "java/lang/RuntimeException", name := "<init>", desc := "(Ljava/lang/String;)V" } : Jvm.MethodName) prog_13_method_2_code (2 : Nat) (Option.none : Option Jvm.ClassFile.FieldType)) ∈ lw_all := lw_in (List.mem_of_getElem? (i := 151) (by decide +kernel)) (by decide +kernel)
theorem q152 : (Jvm.Cond.methodLink "java/lang/RuntimeException" (7 : Nat) ({ cls := "java/lang/Exception", name := "<init>", desc := "(Ljava/lang/String;)V" } : Jvm.MethodName)) ∈ lw_all := lw_in (List.mem_of_getElem? (i := 152) (by decide +kernel)) (by decide +kernel)
theorem q153 : (Jvm.Cond.instanceMethod ({ cls := "java/lang/Exception", name := "<init>", desc := "(Ljava/lang/String;)V" } : Jvm.MethodName)) ∈ lw_all := lw_in (List.mem_of_getElem? (i := 153) (by decide +kernel)) (by decide +kernel)
theorem q154 : (Jvm.Cond.code ({ cls := "java/lang/Exception", name := "<init>", desc := "(Ljava/lang/String;)V" } : Jvm.MethodName) prog_8_method_2_code (2 : Nat) (Option.none : Option Jvm.ClassFile.FieldType)) ∈ lw_all := lw_in (List.mem_of_getElem? (i := 154) (by decide +kernel)) (by decide +kernel)
theorem q155 : (Jvm.Cond.methodLink "java/lang/Exception" (7 : Nat) ({ cls := "java/lang/Throwable", name := "<init>", desc := "(Ljava/lang/String;)V" } : Jvm.MethodName)) ∈ lw_all := lw_in (List.mem_of_getElem? (i := 155) (by decide +kernel)) (by decide +kernel)
theorem q156 : (Jvm.Cond.instanceMethod ({ cls := "java/lang/Throwable", name := "<init>", desc := "(Ljava/lang/String;)V" } : Jvm.MethodName)) ∈ lw_all := lw_in (List.mem_of_getElem? (i := 156) (by decide +kernel)) (by decide +kernel)
theorem q157 : (Jvm.Cond.code ({ cls := "java/lang/Throwable", name := "<init>", desc := "(Ljava/lang/String;)V" } : Jvm.MethodName) prog_15_method_2_code (2 : Nat) (Option.none : Option Jvm.ClassFile.FieldType)) ∈ lw_all := lw_in (List.mem_of_getElem? (i := 157) (by decide +kernel)) (by decide +kernel)
theorem q158 : (Jvm.Cond.fieldLink "java/lang/Throwable" (198 : Nat) "java/lang/Throwable" "backtrace" "Ljava/lang/Object;") ∈ lw_all := lw_in (List.mem_of_getElem? (i := 158) (by decide +kernel)) (by decide +kernel)
theorem q159 : (Jvm.Cond.fieldLink "java/lang/Throwable" (31 : Nat) "java/lang/Throwable" "detailMessage" "Ljava/lang/String;") ∈ lw_all := lw_in (List.mem_of_getElem? (i := 159) (by decide +kernel)) (by decide +kernel)
theorem q160 : (Jvm.Cond.fieldLink "java/lang/Throwable" (7 : Nat) "java/lang/Throwable" "cause" "Ljava/lang/Throwable;") ∈ lw_all := lw_in (List.mem_of_getElem? (i := 160) (by decide +kernel)) (by decide +kernel)
theorem q161 : (Jvm.Cond.fieldLink "java/lang/Throwable" (17 : Nat) "java/lang/Throwable" "stackTrace" "[Ljava/lang/StackTraceElement;") ∈ lw_all := lw_in (List.mem_of_getElem? (i := 161) (by decide +kernel)) (by decide +kernel)
theorem q162 : (Jvm.Cond.fieldLink "java/lang/Throwable" (24 : Nat) "java/lang/Throwable" "suppressedExceptions" "Ljava/util/List;") ∈ lw_all := lw_in (List.mem_of_getElem? (i := 162) (by decide +kernel)) (by decide +kernel)
theorem q163 : (Jvm.Cond.soleField "java/lang/Throwable" "backtrace") ∈ lw_all := lw_in (List.mem_of_getElem? (i := 163) (by decide +kernel)) (by decide +kernel)
theorem q164 : (Jvm.Cond.soleField "java/lang/Throwable" "detailMessage") ∈ lw_all := lw_in (List.mem_of_getElem? (i := 164) (by decide +kernel)) (by decide +kernel)
theorem q165 : (Jvm.Cond.soleField "java/lang/Throwable" "cause") ∈ lw_all := lw_in (List.mem_of_getElem? (i := 165) (by decide +kernel)) (by decide +kernel)
theorem q166 : (Jvm.Cond.soleField "java/lang/Throwable" "stackTrace") ∈ lw_all := lw_in (List.mem_of_getElem? (i := 166) (by decide +kernel)) (by decide +kernel)
theorem q167 : (Jvm.Cond.lays "java/lang/IllegalArgumentException" "java/lang/Throwable" "depth" "I") ∈ lw_all := lw_in (List.mem_of_getElem? (i := 167) (by decide +kernel)) (by decide +kernel)
theorem q168 : (Jvm.Cond.soleField "java/lang/Throwable" "depth") ∈ lw_all := lw_in (List.mem_of_getElem? (i := 168) (by decide +kernel)) (by decide +kernel)
theorem q169 : (Jvm.Cond.soleField "java/lang/Throwable" "suppressedExceptions") ∈ lw_all := lw_in (List.mem_of_getElem? (i := 169) (by decide +kernel)) (by decide +kernel)
theorem q170 : (Jvm.Cond.superclass "java/lang/IllegalArgumentException" "java/lang/RuntimeException") ∈ lw_all := lw_in (List.mem_of_getElem? (i := 170) (by decide +kernel)) (by decide +kernel)
theorem q171 : (Jvm.Cond.arrayClass Jvm.ClassFile.FieldType.byte) ∈ lw_all := lw_in (List.mem_of_getElem? (i := 171) (by decide +kernel)) (by decide +kernel)
theorem q174 : (Jvm.Cond.instanceMethod ({ cls := "ShadowPool$Book", name := "letGoBy", desc := "(I)I" } : Jvm.MethodName)) ∈ lw_all := lw_in (List.mem_of_getElem? (i := 174) (by decide +kernel)) (by decide +kernel)
theorem q175 : (Jvm.Cond.code ({ cls := "ShadowPool$Book", name := "letGoBy", desc := "(I)I" } : Jvm.MethodName) prog_2_method_7_code (4 : Nat) (Option.some Jvm.ClassFile.FieldType.int)) ∈ lw_all := lw_in (List.mem_of_getElem? (i := 175) (by decide +kernel)) (by decide +kernel)
theorem q176 : (Jvm.Cond.methodLink "ShadowPool$Book" (65 : Nat) ({ cls := "ShadowPool$Book", name := "letOneHourGoBy", desc := "()I" } : Jvm.MethodName)) ∈ lw_all := lw_in (List.mem_of_getElem? (i := 176) (by decide +kernel)) (by decide +kernel)
theorem q178 : (Jvm.Cond.instanceMethod ({ cls := "ShadowPool$Book", name := "letOneHourGoBy", desc := "()I" } : Jvm.MethodName)) ∈ lw_all := lw_in (List.mem_of_getElem? (i := 178) (by decide +kernel)) (by decide +kernel)
theorem q179 : (Jvm.Cond.code ({ cls := "ShadowPool$Book", name := "letOneHourGoBy", desc := "()I" } : Jvm.MethodName) prog_2_method_8_code (5 : Nat) (Option.some Jvm.ClassFile.FieldType.int)) ∈ lw_all := lw_in (List.mem_of_getElem? (i := 179) (by decide +kernel)) (by decide +kernel)
theorem q181 : (Jvm.Cond.static ({ cls := "ShadowPool", name := "hourOfDay", desc := "(I)I" } : Jvm.MethodName)) ∈ lw_all := lw_in (List.mem_of_getElem? (i := 181) (by decide +kernel)) (by decide +kernel)
theorem q182 : (Jvm.Cond.code ({ cls := "ShadowPool", name := "hourOfDay", desc := "(I)I" } : Jvm.MethodName) prog_1_method_43_code (1 : Nat) (Option.some Jvm.ClassFile.FieldType.int)) ∈ lw_all := lw_in (List.mem_of_getElem? (i := 182) (by decide +kernel)) (by decide +kernel)
theorem q183 : (Jvm.Cond.methodLink "ShadowPool" (99 : Nat) ({ cls := "java/lang/Math", name := "floorMod", desc := "(II)I" } : Jvm.MethodName)) ∈ lw_all := lw_in (List.mem_of_getElem? (i := 183) (by decide +kernel)) (by decide +kernel)
theorem q184 : (Jvm.Cond.static ({ cls := "java/lang/Math", name := "floorMod", desc := "(II)I" } : Jvm.MethodName)) ∈ lw_all := lw_in (List.mem_of_getElem? (i := 184) (by decide +kernel)) (by decide +kernel)
theorem q185 : (Jvm.Cond.code ({ cls := "java/lang/Math", name := "floorMod", desc := "(II)I" } : Jvm.MethodName) prog_12_method_50_code (3 : Nat) (Option.some Jvm.ClassFile.FieldType.int)) ∈ lw_all := lw_in (List.mem_of_getElem? (i := 185) (by decide +kernel)) (by decide +kernel)
theorem q186 : (Jvm.Cond.methodLink "ShadowPool$Book" (73 : Nat) ({ cls := "ShadowPool$Book", name := "payDues", desc := "()V" } : Jvm.MethodName)) ∈ lw_all := lw_in (List.mem_of_getElem? (i := 186) (by decide +kernel)) (by decide +kernel)
theorem q188 : (Jvm.Cond.instanceMethod ({ cls := "ShadowPool$Book", name := "payDues", desc := "()V" } : Jvm.MethodName)) ∈ lw_all := lw_in (List.mem_of_getElem? (i := 188) (by decide +kernel)) (by decide +kernel)
theorem q189 : (Jvm.Cond.code ({ cls := "ShadowPool$Book", name := "payDues", desc := "()V" } : Jvm.MethodName) prog_2_method_9_code (2 : Nat) (Option.none : Option Jvm.ClassFile.FieldType)) ∈ lw_all := lw_in (List.mem_of_getElem? (i := 189) (by decide +kernel)) (by decide +kernel)
theorem q190 : (Jvm.Cond.methodLink "ShadowPool$Book" (87 : Nat) ({ cls := "ShadowPool$Book", name := "countMembers", desc := "()I" } : Jvm.MethodName)) ∈ lw_all := lw_in (List.mem_of_getElem? (i := 190) (by decide +kernel)) (by decide +kernel)
theorem q192 : (Jvm.Cond.instanceMethod ({ cls := "ShadowPool$Book", name := "countMembers", desc := "()I" } : Jvm.MethodName)) ∈ lw_all := lw_in (List.mem_of_getElem? (i := 192) (by decide +kernel)) (by decide +kernel)
theorem q193 : (Jvm.Cond.code ({ cls := "ShadowPool$Book", name := "countMembers", desc := "()I" } : Jvm.MethodName) prog_2_method_5_code (4 : Nat) (Option.some Jvm.ClassFile.FieldType.int)) ∈ lw_all := lw_in (List.mem_of_getElem? (i := 193) (by decide +kernel)) (by decide +kernel)
theorem q194 : (Jvm.Cond.methodLink "ShadowPool$Book" (44 : Nat) ({ cls := "ShadowPool$Book", name := "find", desc := "(I)LShadowPool$Walker;" } : Jvm.MethodName)) ∈ lw_all := lw_in (List.mem_of_getElem? (i := 194) (by decide +kernel)) (by decide +kernel)
theorem q196 : (Jvm.Cond.instanceMethod ({ cls := "ShadowPool$Book", name := "find", desc := "(I)LShadowPool$Walker;" } : Jvm.MethodName)) ∈ lw_all := lw_in (List.mem_of_getElem? (i := 196) (by decide +kernel)) (by decide +kernel)
theorem q197 : (Jvm.Cond.code ({ cls := "ShadowPool$Book", name := "find", desc := "(I)LShadowPool$Walker;" } : Jvm.MethodName) prog_2_method_2_code (2 : Nat) (Option.some (Jvm.ClassFile.FieldType.object "ShadowPool$Walker"))) ∈ lw_all := lw_in (List.mem_of_getElem? (i := 197) (by decide +kernel)) (by decide +kernel)
theorem q199 : (Jvm.Cond.static ({ cls := "ShadowPool", name := "sunAt", desc := "(I)I" } : Jvm.MethodName)) ∈ lw_all := lw_in (List.mem_of_getElem? (i := 199) (by decide +kernel)) (by decide +kernel)
theorem q200 : (Jvm.Cond.code ({ cls := "ShadowPool", name := "sunAt", desc := "(I)I" } : Jvm.MethodName) prog_1_method_44_code (1 : Nat) (Option.some Jvm.ClassFile.FieldType.int)) ∈ lw_all := lw_in (List.mem_of_getElem? (i := 200) (by decide +kernel)) (by decide +kernel)
theorem q202 : (Jvm.Cond.static ({ cls := "ShadowPool", name := "noonAt", desc := "(I)Z" } : Jvm.MethodName)) ∈ lw_all := lw_in (List.mem_of_getElem? (i := 202) (by decide +kernel)) (by decide +kernel)
theorem q203 : (Jvm.Cond.code ({ cls := "ShadowPool", name := "noonAt", desc := "(I)Z" } : Jvm.MethodName) prog_1_method_45_code (1 : Nat) (Option.some Jvm.ClassFile.FieldType.boolean)) ∈ lw_all := lw_in (List.mem_of_getElem? (i := 203) (by decide +kernel)) (by decide +kernel)
theorem q204 : (Jvm.Cond.methodLink "ShadowPool$Book" (83 : Nat) ({ cls := "ShadowPool$Book", name := "walk", desc := "(LShadowPool$Walker;IZ)Z" } : Jvm.MethodName)) ∈ lw_all := lw_in (List.mem_of_getElem? (i := 204) (by decide +kernel)) (by decide +kernel)
theorem q206 : (Jvm.Cond.instanceMethod ({ cls := "ShadowPool$Book", name := "walk", desc := "(LShadowPool$Walker;IZ)Z" } : Jvm.MethodName)) ∈ lw_all := lw_in (List.mem_of_getElem? (i := 206) (by decide +kernel)) (by decide +kernel)
theorem q207 : (Jvm.Cond.code ({ cls := "ShadowPool$Book", name := "walk", desc := "(LShadowPool$Walker;IZ)Z" } : Jvm.MethodName) prog_2_method_10_code (7 : Nat) (Option.some Jvm.ClassFile.FieldType.boolean)) ∈ lw_all := lw_in (List.mem_of_getElem? (i := 207) (by decide +kernel)) (by decide +kernel)
theorem q210 : (Jvm.Cond.instanceMethod ({ cls := "ShadowPool$Walker", name := "wobbleBehind", desc := "(IZ)I" } : Jvm.MethodName)) ∈ lw_all := lw_in (List.mem_of_getElem? (i := 210) (by decide +kernel)) (by decide +kernel)
theorem q211 : (Jvm.Cond.code ({ cls := "ShadowPool$Walker", name := "wobbleBehind", desc := "(IZ)I" } : Jvm.MethodName) prog_3_method_7_code (4 : Nat) (Option.some Jvm.ClassFile.FieldType.int)) ∈ lw_all := lw_in (List.mem_of_getElem? (i := 211) (by decide +kernel)) (by decide +kernel)
theorem q212 : (Jvm.Cond.methodLink "ShadowPool$Walker" (35 : Nat) ({ cls := "java/lang/Math", name := "max", desc := "(II)I" } : Jvm.MethodName)) ∈ lw_all := lw_in (List.mem_of_getElem? (i := 212) (by decide +kernel)) (by decide +kernel)
theorem q213 : (Jvm.Cond.static ({ cls := "java/lang/Math", name := "max", desc := "(II)I" } : Jvm.MethodName)) ∈ lw_all := lw_in (List.mem_of_getElem? (i := 213) (by decide +kernel)) (by decide +kernel)
theorem q214 : (Jvm.Cond.code ({ cls := "java/lang/Math", name := "max", desc := "(II)I" } : Jvm.MethodName) prog_12_method_65_code (2 : Nat) (Option.some Jvm.ClassFile.FieldType.int)) ∈ lw_all := lw_in (List.mem_of_getElem? (i := 214) (by decide +kernel)) (by decide +kernel)
theorem q217 : (Jvm.Cond.instanceMethod ({ cls := "ShadowPool$Walker", name := "costUnder", desc := "(I)I" } : Jvm.MethodName)) ∈ lw_all := lw_in (List.mem_of_getElem? (i := 217) (by decide +kernel)) (by decide +kernel)
theorem q218 : (Jvm.Cond.code ({ cls := "ShadowPool$Walker", name := "costUnder", desc := "(I)I" } : Jvm.MethodName) prog_3_method_5_code (2 : Nat) (Option.some Jvm.ClassFile.FieldType.int)) ∈ lw_all := lw_in (List.mem_of_getElem? (i := 218) (by decide +kernel)) (by decide +kernel)
theorem q219 : (Jvm.Cond.methodLink "ShadowPool$Walker" (31 : Nat) ({ cls := "ShadowPool$Walker", name := "shadowUnder", desc := "(I)I" } : Jvm.MethodName)) ∈ lw_all := lw_in (List.mem_of_getElem? (i := 219) (by decide +kernel)) (by decide +kernel)
theorem q221 : (Jvm.Cond.instanceMethod ({ cls := "ShadowPool$Walker", name := "shadowUnder", desc := "(I)I" } : Jvm.MethodName)) ∈ lw_all := lw_in (List.mem_of_getElem? (i := 221) (by decide +kernel)) (by decide +kernel)
theorem q222 : (Jvm.Cond.code ({ cls := "ShadowPool$Walker", name := "shadowUnder", desc := "(I)I" } : Jvm.MethodName) prog_3_method_4_code (2 : Nat) (Option.some Jvm.ClassFile.FieldType.int)) ∈ lw_all := lw_in (List.mem_of_getElem? (i := 222) (by decide +kernel)) (by decide +kernel)
theorem q225 : (Jvm.Cond.instanceMethod ({ cls := "ShadowPool$Walker", name := "ownPart", desc := "(IZ)I" } : Jvm.MethodName)) ∈ lw_all := lw_in (List.mem_of_getElem? (i := 225) (by decide +kernel)) (by decide +kernel)
theorem q226 : (Jvm.Cond.code ({ cls := "ShadowPool$Walker", name := "ownPart", desc := "(IZ)I" } : Jvm.MethodName) prog_3_method_6_code (3 : Nat) (Option.some Jvm.ClassFile.FieldType.int)) ∈ lw_all := lw_in (List.mem_of_getElem? (i := 226) (by decide +kernel)) (by decide +kernel)
theorem q227 : (Jvm.Cond.methodLink "ShadowPool$Walker" (41 : Nat) ({ cls := "java/lang/Math", name := "min", desc := "(II)I" } : Jvm.MethodName)) ∈ lw_all := lw_in (List.mem_of_getElem? (i := 227) (by decide +kernel)) (by decide +kernel)
theorem q228 : (Jvm.Cond.static ({ cls := "java/lang/Math", name := "min", desc := "(II)I" } : Jvm.MethodName)) ∈ lw_all := lw_in (List.mem_of_getElem? (i := 228) (by decide +kernel)) (by decide +kernel)
theorem q229 : (Jvm.Cond.code ({ cls := "java/lang/Math", name := "min", desc := "(II)I" } : Jvm.MethodName) prog_12_method_69_code (2 : Nat) (Option.some Jvm.ClassFile.FieldType.int)) ∈ lw_all := lw_in (List.mem_of_getElem? (i := 229) (by decide +kernel)) (by decide +kernel)
theorem q230 : (Jvm.Cond.methodLink "ShadowPool$Book" (103 : Nat) ({ cls := "ShadowPool$Book", name := "reinsuredPart", desc := "(I)I" } : Jvm.MethodName)) ∈ lw_all := lw_in (List.mem_of_getElem? (i := 230) (by decide +kernel)) (by decide +kernel)
theorem q232 : (Jvm.Cond.instanceMethod ({ cls := "ShadowPool$Book", name := "reinsuredPart", desc := "(I)I" } : Jvm.MethodName)) ∈ lw_all := lw_in (List.mem_of_getElem? (i := 232) (by decide +kernel)) (by decide +kernel)
theorem q233 : (Jvm.Cond.code ({ cls := "ShadowPool$Book", name := "reinsuredPart", desc := "(I)I" } : Jvm.MethodName) prog_2_method_6_code (2 : Nat) (Option.some Jvm.ClassFile.FieldType.int)) ∈ lw_all := lw_in (List.mem_of_getElem? (i := 233) (by decide +kernel)) (by decide +kernel)
theorem q234 : (Jvm.Cond.methodLink "ShadowPool$Book" (56 : Nat) ({ cls := "java/lang/Math", name := "max", desc := "(II)I" } : Jvm.MethodName)) ∈ lw_all := lw_in (List.mem_of_getElem? (i := 234) (by decide +kernel)) (by decide +kernel)
theorem q235 : (Jvm.Cond.methodLink "ShadowPool$Book" (62 : Nat) ({ cls := "java/lang/Math", name := "min", desc := "(II)I" } : Jvm.MethodName)) ∈ lw_all := lw_in (List.mem_of_getElem? (i := 235) (by decide +kernel)) (by decide +kernel)
theorem q238 : (Jvm.Cond.instanceMethod ({ cls := "ShadowPool$Walker", name := "fall", desc := "()V" } : Jvm.MethodName)) ∈ lw_all := lw_in (List.mem_of_getElem? (i := 238) (by decide +kernel)) (by decide +kernel)
theorem q239 : (Jvm.Cond.code ({ cls := "ShadowPool$Walker", name := "fall", desc := "()V" } : Jvm.MethodName) prog_3_method_9_code (1 : Nat) (Option.none : Option Jvm.ClassFile.FieldType)) ∈ lw_all := lw_in (List.mem_of_getElem? (i := 239) (by decide +kernel)) (by decide +kernel)
theorem q240 : (Jvm.Cond.methodLink "ShadowPoolLaw" (86 : Nat) ({ cls := "ShadowPool", name := "hour", desc := "()I" } : Jvm.MethodName)) ∈ lw_all := lw_in (List.mem_of_getElem? (i := 240) (by decide +kernel)) (by decide +kernel)
theorem q241 : (Jvm.Cond.instanceMethod ({ cls := "ShadowPool", name := "hour", desc := "()I" } : Jvm.MethodName)) ∈ lw_all := lw_in (List.mem_of_getElem? (i := 241) (by decide +kernel)) (by decide +kernel)
theorem q242 : (Jvm.Cond.selects "ShadowPool" ({ cls := "ShadowPool", name := "hour", desc := "()I" } : Jvm.MethodName) ({ cls := "ShadowPool", name := "hour", desc := "()I" } : Jvm.MethodName)) ∈ lw_all := lw_in (List.mem_of_getElem? (i := 242) (by decide +kernel)) (by decide +kernel)
theorem q243 : (Jvm.Cond.code ({ cls := "ShadowPool", name := "hour", desc := "()I" } : Jvm.MethodName) prog_1_method_9_code (1 : Nat) (Option.some Jvm.ClassFile.FieldType.int)) ∈ lw_all := lw_in (List.mem_of_getElem? (i := 243) (by decide +kernel)) (by decide +kernel)
theorem q244 : (Jvm.Cond.methodLink "ShadowPoolLaw" (89 : Nat) ({ cls := "ShadowPool", name := "sun", desc := "()I" } : Jvm.MethodName)) ∈ lw_all := lw_in (List.mem_of_getElem? (i := 244) (by decide +kernel)) (by decide +kernel)
theorem q245 : (Jvm.Cond.instanceMethod ({ cls := "ShadowPool", name := "sun", desc := "()I" } : Jvm.MethodName)) ∈ lw_all := lw_in (List.mem_of_getElem? (i := 245) (by decide +kernel)) (by decide +kernel)
theorem q246 : (Jvm.Cond.selects "ShadowPool" ({ cls := "ShadowPool", name := "sun", desc := "()I" } : Jvm.MethodName) ({ cls := "ShadowPool", name := "sun", desc := "()I" } : Jvm.MethodName)) ∈ lw_all := lw_in (List.mem_of_getElem? (i := 246) (by decide +kernel)) (by decide +kernel)
theorem q247 : (Jvm.Cond.code ({ cls := "ShadowPool", name := "sun", desc := "()I" } : Jvm.MethodName) prog_1_method_10_code (1 : Nat) (Option.some Jvm.ClassFile.FieldType.int)) ∈ lw_all := lw_in (List.mem_of_getElem? (i := 247) (by decide +kernel)) (by decide +kernel)
theorem q248 : (Jvm.Cond.methodLink "ShadowPool" (89 : Nat) ({ cls := "ShadowPool", name := "hourOfDay", desc := "(I)I" } : Jvm.MethodName)) ∈ lw_all := lw_in (List.mem_of_getElem? (i := 248) (by decide +kernel)) (by decide +kernel)
theorem q249 : (Jvm.Cond.methodLink "ShadowPool" (92 : Nat) ({ cls := "ShadowPool", name := "sunAt", desc := "(I)I" } : Jvm.MethodName)) ∈ lw_all := lw_in (List.mem_of_getElem? (i := 249) (by decide +kernel)) (by decide +kernel)
theorem q250 : (Jvm.Cond.methodLink "ShadowPoolLaw" (97 : Nat) ({ cls := "ShadowPool", name := "isNoon", desc := "()Z" } : Jvm.MethodName)) ∈ lw_all := lw_in (List.mem_of_getElem? (i := 250) (by decide +kernel)) (by decide +kernel)
theorem q251 : (Jvm.Cond.instanceMethod ({ cls := "ShadowPool", name := "isNoon", desc := "()Z" } : Jvm.MethodName)) ∈ lw_all := lw_in (List.mem_of_getElem? (i := 251) (by decide +kernel)) (by decide +kernel)
theorem q252 : (Jvm.Cond.selects "ShadowPool" ({ cls := "ShadowPool", name := "isNoon", desc := "()Z" } : Jvm.MethodName) ({ cls := "ShadowPool", name := "isNoon", desc := "()Z" } : Jvm.MethodName)) ∈ lw_all := lw_in (List.mem_of_getElem? (i := 252) (by decide +kernel)) (by decide +kernel)
theorem q253 : (Jvm.Cond.code ({ cls := "ShadowPool", name := "isNoon", desc := "()Z" } : Jvm.MethodName) prog_1_method_11_code (1 : Nat) (Option.some Jvm.ClassFile.FieldType.boolean)) ∈ lw_all := lw_in (List.mem_of_getElem? (i := 253) (by decide +kernel)) (by decide +kernel)
theorem q254 : (Jvm.Cond.methodLink "ShadowPool" (95 : Nat) ({ cls := "ShadowPool", name := "noonAt", desc := "(I)Z" } : Jvm.MethodName)) ∈ lw_all := lw_in (List.mem_of_getElem? (i := 254) (by decide +kernel)) (by decide +kernel)
theorem q255 : (Jvm.Cond.methodLink "ShadowPoolLaw" (101 : Nat) ({ cls := "ShadowPool", name := "hoursUntilNoon", desc := "()I" } : Jvm.MethodName)) ∈ lw_all := lw_in (List.mem_of_getElem? (i := 255) (by decide +kernel)) (by decide +kernel)
theorem q256 : (Jvm.Cond.instanceMethod ({ cls := "ShadowPool", name := "hoursUntilNoon", desc := "()I" } : Jvm.MethodName)) ∈ lw_all := lw_in (List.mem_of_getElem? (i := 256) (by decide +kernel)) (by decide +kernel)
theorem q257 : (Jvm.Cond.selects "ShadowPool" ({ cls := "ShadowPool", name := "hoursUntilNoon", desc := "()I" } : Jvm.MethodName) ({ cls := "ShadowPool", name := "hoursUntilNoon", desc := "()I" } : Jvm.MethodName)) ∈ lw_all := lw_in (List.mem_of_getElem? (i := 257) (by decide +kernel)) (by decide +kernel)
theorem q258 : (Jvm.Cond.code ({ cls := "ShadowPool", name := "hoursUntilNoon", desc := "()I" } : Jvm.MethodName) prog_1_method_12_code (2 : Nat) (Option.some Jvm.ClassFile.FieldType.int)) ∈ lw_all := lw_in (List.mem_of_getElem? (i := 258) (by decide +kernel)) (by decide +kernel)
theorem q259 : (Jvm.Cond.methodLink "ShadowPoolLaw" (82 : Nat) ({ cls := "ShadowPool", name := "walkers", desc := "()I" } : Jvm.MethodName)) ∈ lw_all := lw_in (List.mem_of_getElem? (i := 259) (by decide +kernel)) (by decide +kernel)
theorem q260 : (Jvm.Cond.instanceMethod ({ cls := "ShadowPool", name := "walkers", desc := "()I" } : Jvm.MethodName)) ∈ lw_all := lw_in (List.mem_of_getElem? (i := 260) (by decide +kernel)) (by decide +kernel)
theorem q261 : (Jvm.Cond.selects "ShadowPool" ({ cls := "ShadowPool", name := "walkers", desc := "()I" } : Jvm.MethodName) ({ cls := "ShadowPool", name := "walkers", desc := "()I" } : Jvm.MethodName)) ∈ lw_all := lw_in (List.mem_of_getElem? (i := 261) (by decide +kernel)) (by decide +kernel)
theorem q262 : (Jvm.Cond.code ({ cls := "ShadowPool", name := "walkers", desc := "()I" } : Jvm.MethodName) prog_1_method_13_code (1 : Nat) (Option.some Jvm.ClassFile.FieldType.int)) ∈ lw_all := lw_in (List.mem_of_getElem? (i := 262) (by decide +kernel)) (by decide +kernel)
theorem q263 : (Jvm.Cond.methodLink "ShadowPoolLaw" (138 : Nat) ({ cls := "ShadowPool", name := "members", desc := "()I" } : Jvm.MethodName)) ∈ lw_all := lw_in (List.mem_of_getElem? (i := 263) (by decide +kernel)) (by decide +kernel)
theorem q264 : (Jvm.Cond.instanceMethod ({ cls := "ShadowPool", name := "members", desc := "()I" } : Jvm.MethodName)) ∈ lw_all := lw_in (List.mem_of_getElem? (i := 264) (by decide +kernel)) (by decide +kernel)
theorem q265 : (Jvm.Cond.selects "ShadowPool" ({ cls := "ShadowPool", name := "members", desc := "()I" } : Jvm.MethodName) ({ cls := "ShadowPool", name := "members", desc := "()I" } : Jvm.MethodName)) ∈ lw_all := lw_in (List.mem_of_getElem? (i := 265) (by decide +kernel)) (by decide +kernel)
theorem q266 : (Jvm.Cond.code ({ cls := "ShadowPool", name := "members", desc := "()I" } : Jvm.MethodName) prog_1_method_14_code (1 : Nat) (Option.some Jvm.ClassFile.FieldType.int)) ∈ lw_all := lw_in (List.mem_of_getElem? (i := 266) (by decide +kernel)) (by decide +kernel)
theorem q268 : (Jvm.Cond.methodLink "ShadowPoolLaw" (104 : Nat) ({ cls := "ShadowPool", name := "isMember", desc := "(I)Z" } : Jvm.MethodName)) ∈ lw_all := lw_in (List.mem_of_getElem? (i := 268) (by decide +kernel)) (by decide +kernel)
theorem q269 : (Jvm.Cond.instanceMethod ({ cls := "ShadowPool", name := "isMember", desc := "(I)Z" } : Jvm.MethodName)) ∈ lw_all := lw_in (List.mem_of_getElem? (i := 269) (by decide +kernel)) (by decide +kernel)
theorem q270 : (Jvm.Cond.selects "ShadowPool" ({ cls := "ShadowPool", name := "isMember", desc := "(I)Z" } : Jvm.MethodName) ({ cls := "ShadowPool", name := "isMember", desc := "(I)Z" } : Jvm.MethodName)) ∈ lw_all := lw_in (List.mem_of_getElem? (i := 270) (by decide +kernel)) (by decide +kernel)
theorem q271 : (Jvm.Cond.code ({ cls := "ShadowPool", name := "isMember", desc := "(I)Z" } : Jvm.MethodName) prog_1_method_15_code (3 : Nat) (Option.some Jvm.ClassFile.FieldType.boolean)) ∈ lw_all := lw_in (List.mem_of_getElem? (i := 271) (by decide +kernel)) (by decide +kernel)
theorem q273 : (Jvm.Cond.classLink "ShadowPool" (47 : Nat) "java/lang/IndexOutOfBoundsException") ∈ lw_all := lw_in (List.mem_of_getElem? (i := 273) (by decide +kernel)) (by decide +kernel)
theorem q274 : (Jvm.Cond.instantiable "java/lang/IndexOutOfBoundsException" (6 : Nat)) ∈ lw_all := lw_in (List.mem_of_getElem? (i := 274) (by decide +kernel)) (by decide +kernel)
theorem qt275 : (Jvm.Cond.castable "java/lang/IndexOutOfBoundsException" "java/lang/IndexOutOfBoundsException") ∈ tables_1 := List.mem_of_getElem? (i := 275) (by decide +kernel)
theorem q276 : (Jvm.Cond.selects "java/lang/IndexOutOfBoundsException" ({ cls := "java/lang/Throwable", name := "fillInStackTrace", desc := "(I)Ljava/lang/Throwable;" } : Jvm.MethodName) ({ cls := "java/lang/Throwable", name := "fillInStackTrace", desc := "(I)Ljava/lang/Throwable;" } : Jvm.MethodName)) ∈ lw_all := lw_in (List.mem_of_getElem? (i := 276) (by decide +kernel)) (by decide +kernel)
theorem q277 : (Jvm.Cond.lays "java/lang/IndexOutOfBoundsException" "java/lang/Throwable" "cause" "Ljava/lang/Throwable;") ∈ lw_all := lw_in (List.mem_of_getElem? (i := 277) (by decide +kernel)) (by decide +kernel)
theorem q278 : (Jvm.Cond.lays "java/lang/IndexOutOfBoundsException" "java/lang/Throwable" "stackTrace" "[Ljava/lang/StackTraceElement;") ∈ lw_all := lw_in (List.mem_of_getElem? (i := 278) (by decide +kernel)) (by decide +kernel)
theorem q279 : (Jvm.Cond.lays "java/lang/IndexOutOfBoundsException" "java/lang/Throwable" "suppressedExceptions" "Ljava/util/List;") ∈ lw_all := lw_in (List.mem_of_getElem? (i := 279) (by decide +kernel)) (by decide +kernel)
theorem q280 : (Jvm.Cond.lays "java/lang/IndexOutOfBoundsException" "java/lang/Throwable" "detailMessage" "Ljava/lang/String;") ∈ lw_all := lw_in (List.mem_of_getElem? (i := 280) (by decide +kernel)) (by decide +kernel)
theorem q281 : (Jvm.Cond.lays "java/lang/IndexOutOfBoundsException" "java/lang/Throwable" "backtrace" "Ljava/lang/Object;") ∈ lw_all := lw_in (List.mem_of_getElem? (i := 281) (by decide +kernel)) (by decide +kernel)
theorem q283 : (Jvm.Cond.methodLink "ShadowPool" (51 : Nat) ({ cls := "java/lang/IndexOutOfBoundsException", name := "<init>", desc := "(Ljava/lang/String;)V" } : Jvm.MethodName)) ∈ lw_all := lw_in (List.mem_of_getElem? (i := 283) (by decide +kernel)) (by decide +kernel)
theorem q284 : (Jvm.Cond.instanceMethod ({ cls := "java/lang/IndexOutOfBoundsException", name := "<init>", desc := "(Ljava/lang/String;)V" } : Jvm.MethodName)) ∈ lw_all := lw_in (List.mem_of_getElem? (i := 284) (by decide +kernel)) (by decide +kernel)
theorem q285 : (Jvm.Cond.code ({ cls := "java/lang/IndexOutOfBoundsException", name := "<init>", desc := "(Ljava/lang/String;)V" } : Jvm.MethodName) prog_11_method_2_code (2 : Nat) (Option.none : Option Jvm.ClassFile.FieldType)) ∈ lw_all := lw_in (List.mem_of_getElem? (i := 285) (by decide +kernel)) (by decide +kernel)
theorem q286 : (Jvm.Cond.methodLink "java/lang/IndexOutOfBoundsException" (7 : Nat) ({ cls := "java/lang/RuntimeException", name := "<init>", desc := "(Ljava/lang/String;)V" } : Jvm.MethodName)) ∈ lw_all := lw_in (List.mem_of_getElem? (i := 286) (by decide +kernel)) (by decide +kernel)
theorem q287 : (Jvm.Cond.lays "java/lang/IndexOutOfBoundsException" "java/lang/Throwable" "depth" "I") ∈ lw_all := lw_in (List.mem_of_getElem? (i := 287) (by decide +kernel)) (by decide +kernel)
theorem q288 : (Jvm.Cond.superclass "java/lang/IndexOutOfBoundsException" "java/lang/RuntimeException") ∈ lw_all := lw_in (List.mem_of_getElem? (i := 288) (by decide +kernel)) (by decide +kernel)
theorem q289 : (Jvm.Cond.methodLink "ShadowPoolLaw" (110 : Nat) ({ cls := "ShadowPool", name := "netOf", desc := "(I)I" } : Jvm.MethodName)) ∈ lw_all := lw_in (List.mem_of_getElem? (i := 289) (by decide +kernel)) (by decide +kernel)
theorem q290 : (Jvm.Cond.instanceMethod ({ cls := "ShadowPool", name := "netOf", desc := "(I)I" } : Jvm.MethodName)) ∈ lw_all := lw_in (List.mem_of_getElem? (i := 290) (by decide +kernel)) (by decide +kernel)
theorem q291 : (Jvm.Cond.selects "ShadowPool" ({ cls := "ShadowPool", name := "netOf", desc := "(I)I" } : Jvm.MethodName) ({ cls := "ShadowPool", name := "netOf", desc := "(I)I" } : Jvm.MethodName)) ∈ lw_all := lw_in (List.mem_of_getElem? (i := 291) (by decide +kernel)) (by decide +kernel)
theorem q292 : (Jvm.Cond.code ({ cls := "ShadowPool", name := "netOf", desc := "(I)I" } : Jvm.MethodName) prog_1_method_16_code (3 : Nat) (Option.some Jvm.ClassFile.FieldType.int)) ∈ lw_all := lw_in (List.mem_of_getElem? (i := 292) (by decide +kernel)) (by decide +kernel)
theorem q293 : (Jvm.Cond.methodLink "ShadowPoolLaw" (107 : Nat) ({ cls := "ShadowPool", name := "wobbleOf", desc := "(I)I" } : Jvm.MethodName)) ∈ lw_all := lw_in (List.mem_of_getElem? (i := 293) (by decide +kernel)) (by decide +kernel)
theorem q294 : (Jvm.Cond.instanceMethod ({ cls := "ShadowPool", name := "wobbleOf", desc := "(I)I" } : Jvm.MethodName)) ∈ lw_all := lw_in (List.mem_of_getElem? (i := 294) (by decide +kernel)) (by decide +kernel)
theorem q295 : (Jvm.Cond.selects "ShadowPool" ({ cls := "ShadowPool", name := "wobbleOf", desc := "(I)I" } : Jvm.MethodName) ({ cls := "ShadowPool", name := "wobbleOf", desc := "(I)I" } : Jvm.MethodName)) ∈ lw_all := lw_in (List.mem_of_getElem? (i := 295) (by decide +kernel)) (by decide +kernel)
theorem q296 : (Jvm.Cond.code ({ cls := "ShadowPool", name := "wobbleOf", desc := "(I)I" } : Jvm.MethodName) prog_1_method_17_code (3 : Nat) (Option.some Jvm.ClassFile.FieldType.int)) ∈ lw_all := lw_in (List.mem_of_getElem? (i := 296) (by decide +kernel)) (by decide +kernel)
theorem q297 : (Jvm.Cond.methodLink "ShadowPoolLaw" (113 : Nat) ({ cls := "ShadowPool", name := "fallsOf", desc := "(I)I" } : Jvm.MethodName)) ∈ lw_all := lw_in (List.mem_of_getElem? (i := 297) (by decide +kernel)) (by decide +kernel)
theorem q298 : (Jvm.Cond.instanceMethod ({ cls := "ShadowPool", name := "fallsOf", desc := "(I)I" } : Jvm.MethodName)) ∈ lw_all := lw_in (List.mem_of_getElem? (i := 298) (by decide +kernel)) (by decide +kernel)
theorem q299 : (Jvm.Cond.selects "ShadowPool" ({ cls := "ShadowPool", name := "fallsOf", desc := "(I)I" } : Jvm.MethodName) ({ cls := "ShadowPool", name := "fallsOf", desc := "(I)I" } : Jvm.MethodName)) ∈ lw_all := lw_in (List.mem_of_getElem? (i := 299) (by decide +kernel)) (by decide +kernel)
theorem q300 : (Jvm.Cond.code ({ cls := "ShadowPool", name := "fallsOf", desc := "(I)I" } : Jvm.MethodName) prog_1_method_18_code (3 : Nat) (Option.some Jvm.ClassFile.FieldType.int)) ∈ lw_all := lw_in (List.mem_of_getElem? (i := 300) (by decide +kernel)) (by decide +kernel)
theorem q301 : (Jvm.Cond.methodLink "ShadowPoolLaw" (116 : Nat) ({ cls := "ShadowPool", name := "shadowOf", desc := "(I)I" } : Jvm.MethodName)) ∈ lw_all := lw_in (List.mem_of_getElem? (i := 301) (by decide +kernel)) (by decide +kernel)
theorem q302 : (Jvm.Cond.instanceMethod ({ cls := "ShadowPool", name := "shadowOf", desc := "(I)I" } : Jvm.MethodName)) ∈ lw_all := lw_in (List.mem_of_getElem? (i := 302) (by decide +kernel)) (by decide +kernel)
theorem q303 : (Jvm.Cond.selects "ShadowPool" ({ cls := "ShadowPool", name := "shadowOf", desc := "(I)I" } : Jvm.MethodName) ({ cls := "ShadowPool", name := "shadowOf", desc := "(I)I" } : Jvm.MethodName)) ∈ lw_all := lw_in (List.mem_of_getElem? (i := 303) (by decide +kernel)) (by decide +kernel)
theorem q304 : (Jvm.Cond.code ({ cls := "ShadowPool", name := "shadowOf", desc := "(I)I" } : Jvm.MethodName) prog_1_method_19_code (3 : Nat) (Option.some Jvm.ClassFile.FieldType.int)) ∈ lw_all := lw_in (List.mem_of_getElem? (i := 304) (by decide +kernel)) (by decide +kernel)
theorem q305 : (Jvm.Cond.methodLink "ShadowPool" (115 : Nat) ({ cls := "ShadowPool", name := "sun", desc := "()I" } : Jvm.MethodName)) ∈ lw_all := lw_in (List.mem_of_getElem? (i := 305) (by decide +kernel)) (by decide +kernel)
theorem q307 : (Jvm.Cond.methodLink "ShadowPoolLaw" (119 : Nat) ({ cls := "ShadowPool", name := "longestShadow", desc := "()I" } : Jvm.MethodName)) ∈ lw_all := lw_in (List.mem_of_getElem? (i := 307) (by decide +kernel)) (by decide +kernel)
theorem q308 : (Jvm.Cond.instanceMethod ({ cls := "ShadowPool", name := "longestShadow", desc := "()I" } : Jvm.MethodName)) ∈ lw_all := lw_in (List.mem_of_getElem? (i := 308) (by decide +kernel)) (by decide +kernel)
theorem q309 : (Jvm.Cond.selects "ShadowPool" ({ cls := "ShadowPool", name := "longestShadow", desc := "()I" } : Jvm.MethodName) ({ cls := "ShadowPool", name := "longestShadow", desc := "()I" } : Jvm.MethodName)) ∈ lw_all := lw_in (List.mem_of_getElem? (i := 309) (by decide +kernel)) (by decide +kernel)
theorem q310 : (Jvm.Cond.code ({ cls := "ShadowPool", name := "longestShadow", desc := "()I" } : Jvm.MethodName) prog_1_method_20_code (6 : Nat) (Option.some Jvm.ClassFile.FieldType.int)) ∈ lw_all := lw_in (List.mem_of_getElem? (i := 310) (by decide +kernel)) (by decide +kernel)
theorem q311 : (Jvm.Cond.methodLink "ShadowPoolLaw" (131 : Nat) ({ cls := "ShadowPool", name := "costOf", desc := "(I)I" } : Jvm.MethodName)) ∈ lw_all := lw_in (List.mem_of_getElem? (i := 311) (by decide +kernel)) (by decide +kernel)
theorem q312 : (Jvm.Cond.instanceMethod ({ cls := "ShadowPool", name := "costOf", desc := "(I)I" } : Jvm.MethodName)) ∈ lw_all := lw_in (List.mem_of_getElem? (i := 312) (by decide +kernel)) (by decide +kernel)
theorem q313 : (Jvm.Cond.selects "ShadowPool" ({ cls := "ShadowPool", name := "costOf", desc := "(I)I" } : Jvm.MethodName) ({ cls := "ShadowPool", name := "costOf", desc := "(I)I" } : Jvm.MethodName)) ∈ lw_all := lw_in (List.mem_of_getElem? (i := 313) (by decide +kernel)) (by decide +kernel)
theorem q314 : (Jvm.Cond.code ({ cls := "ShadowPool", name := "costOf", desc := "(I)I" } : Jvm.MethodName) prog_1_method_21_code (3 : Nat) (Option.some Jvm.ClassFile.FieldType.int)) ∈ lw_all := lw_in (List.mem_of_getElem? (i := 314) (by decide +kernel)) (by decide +kernel)
theorem q316 : (Jvm.Cond.methodLink "ShadowPoolLaw" (122 : Nat) ({ cls := "ShadowPool", name := "ownPartOf", desc := "(I)I" } : Jvm.MethodName)) ∈ lw_all := lw_in (List.mem_of_getElem? (i := 316) (by decide +kernel)) (by decide +kernel)
theorem q317 : (Jvm.Cond.instanceMethod ({ cls := "ShadowPool", name := "ownPartOf", desc := "(I)I" } : Jvm.MethodName)) ∈ lw_all := lw_in (List.mem_of_getElem? (i := 317) (by decide +kernel)) (by decide +kernel)
theorem q318 : (Jvm.Cond.selects "ShadowPool" ({ cls := "ShadowPool", name := "ownPartOf", desc := "(I)I" } : Jvm.MethodName) ({ cls := "ShadowPool", name := "ownPartOf", desc := "(I)I" } : Jvm.MethodName)) ∈ lw_all := lw_in (List.mem_of_getElem? (i := 318) (by decide +kernel)) (by decide +kernel)
theorem q319 : (Jvm.Cond.code ({ cls := "ShadowPool", name := "ownPartOf", desc := "(I)I" } : Jvm.MethodName) prog_1_method_22_code (3 : Nat) (Option.some Jvm.ClassFile.FieldType.int)) ∈ lw_all := lw_in (List.mem_of_getElem? (i := 319) (by decide +kernel)) (by decide +kernel)
theorem q320 : (Jvm.Cond.methodLink "ShadowPool" (124 : Nat) ({ cls := "ShadowPool", name := "isNoon", desc := "()Z" } : Jvm.MethodName)) ∈ lw_all := lw_in (List.mem_of_getElem? (i := 320) (by decide +kernel)) (by decide +kernel)
theorem q322 : (Jvm.Cond.methodLink "ShadowPoolLaw" (125 : Nat) ({ cls := "ShadowPool", name := "poolPartOf", desc := "(I)I" } : Jvm.MethodName)) ∈ lw_all := lw_in (List.mem_of_getElem? (i := 322) (by decide +kernel)) (by decide +kernel)
theorem q323 : (Jvm.Cond.instanceMethod ({ cls := "ShadowPool", name := "poolPartOf", desc := "(I)I" } : Jvm.MethodName)) ∈ lw_all := lw_in (List.mem_of_getElem? (i := 323) (by decide +kernel)) (by decide +kernel)
theorem q324 : (Jvm.Cond.selects "ShadowPool" ({ cls := "ShadowPool", name := "poolPartOf", desc := "(I)I" } : Jvm.MethodName) ({ cls := "ShadowPool", name := "poolPartOf", desc := "(I)I" } : Jvm.MethodName)) ∈ lw_all := lw_in (List.mem_of_getElem? (i := 324) (by decide +kernel)) (by decide +kernel)
theorem q325 : (Jvm.Cond.code ({ cls := "ShadowPool", name := "poolPartOf", desc := "(I)I" } : Jvm.MethodName) prog_1_method_23_code (4 : Nat) (Option.some Jvm.ClassFile.FieldType.int)) ∈ lw_all := lw_in (List.mem_of_getElem? (i := 325) (by decide +kernel)) (by decide +kernel)
theorem q326 : (Jvm.Cond.methodLink "ShadowPool" (132 : Nat) ({ cls := "ShadowPool", name := "claimNow", desc := "(LShadowPool$Walker;)I" } : Jvm.MethodName)) ∈ lw_all := lw_in (List.mem_of_getElem? (i := 326) (by decide +kernel)) (by decide +kernel)
theorem q328 : (Jvm.Cond.instanceMethod ({ cls := "ShadowPool", name := "claimNow", desc := "(LShadowPool$Walker;)I" } : Jvm.MethodName)) ∈ lw_all := lw_in (List.mem_of_getElem? (i := 328) (by decide +kernel)) (by decide +kernel)
theorem q329 : (Jvm.Cond.code ({ cls := "ShadowPool", name := "claimNow", desc := "(LShadowPool$Walker;)I" } : Jvm.MethodName) prog_1_method_40_code (3 : Nat) (Option.some Jvm.ClassFile.FieldType.int)) ∈ lw_all := lw_in (List.mem_of_getElem? (i := 329) (by decide +kernel)) (by decide +kernel)
theorem q331 : (Jvm.Cond.methodLink "ShadowPoolLaw" (128 : Nat) ({ cls := "ShadowPool", name := "reinsuredPartOf", desc := "(I)I" } : Jvm.MethodName)) ∈ lw_all := lw_in (List.mem_of_getElem? (i := 331) (by decide +kernel)) (by decide +kernel)
theorem q332 : (Jvm.Cond.instanceMethod ({ cls := "ShadowPool", name := "reinsuredPartOf", desc := "(I)I" } : Jvm.MethodName)) ∈ lw_all := lw_in (List.mem_of_getElem? (i := 332) (by decide +kernel)) (by decide +kernel)
theorem q333 : (Jvm.Cond.selects "ShadowPool" ({ cls := "ShadowPool", name := "reinsuredPartOf", desc := "(I)I" } : Jvm.MethodName) ({ cls := "ShadowPool", name := "reinsuredPartOf", desc := "(I)I" } : Jvm.MethodName)) ∈ lw_all := lw_in (List.mem_of_getElem? (i := 333) (by decide +kernel)) (by decide +kernel)
theorem q334 : (Jvm.Cond.code ({ cls := "ShadowPool", name := "reinsuredPartOf", desc := "(I)I" } : Jvm.MethodName) prog_1_method_24_code (3 : Nat) (Option.some Jvm.ClassFile.FieldType.int)) ∈ lw_all := lw_in (List.mem_of_getElem? (i := 334) (by decide +kernel)) (by decide +kernel)
theorem q335 : (Jvm.Cond.methodLink "ShadowPoolLaw" (154 : Nat) ({ cls := "ShadowPool", name := "fund", desc := "()I" } : Jvm.MethodName)) ∈ lw_all := lw_in (List.mem_of_getElem? (i := 335) (by decide +kernel)) (by decide +kernel)
theorem q336 : (Jvm.Cond.instanceMethod ({ cls := "ShadowPool", name := "fund", desc := "()I" } : Jvm.MethodName)) ∈ lw_all := lw_in (List.mem_of_getElem? (i := 336) (by decide +kernel)) (by decide +kernel)
theorem q337 : (Jvm.Cond.selects "ShadowPool" ({ cls := "ShadowPool", name := "fund", desc := "()I" } : Jvm.MethodName) ({ cls := "ShadowPool", name := "fund", desc := "()I" } : Jvm.MethodName)) ∈ lw_all := lw_in (List.mem_of_getElem? (i := 337) (by decide +kernel)) (by decide +kernel)
theorem q338 : (Jvm.Cond.code ({ cls := "ShadowPool", name := "fund", desc := "()I" } : Jvm.MethodName) prog_1_method_25_code (1 : Nat) (Option.some Jvm.ClassFile.FieldType.int)) ∈ lw_all := lw_in (List.mem_of_getElem? (i := 338) (by decide +kernel)) (by decide +kernel)
theorem q339 : (Jvm.Cond.methodLink "ShadowPoolLaw" (171 : Nat) ({ cls := "ShadowPool", name := "rate", desc := "()I" } : Jvm.MethodName)) ∈ lw_all := lw_in (List.mem_of_getElem? (i := 339) (by decide +kernel)) (by decide +kernel)
theorem q340 : (Jvm.Cond.instanceMethod ({ cls := "ShadowPool", name := "rate", desc := "()I" } : Jvm.MethodName)) ∈ lw_all := lw_in (List.mem_of_getElem? (i := 340) (by decide +kernel)) (by decide +kernel)
theorem q341 : (Jvm.Cond.selects "ShadowPool" ({ cls := "ShadowPool", name := "rate", desc := "()I" } : Jvm.MethodName) ({ cls := "ShadowPool", name := "rate", desc := "()I" } : Jvm.MethodName)) ∈ lw_all := lw_in (List.mem_of_getElem? (i := 341) (by decide +kernel)) (by decide +kernel)
theorem q342 : (Jvm.Cond.code ({ cls := "ShadowPool", name := "rate", desc := "()I" } : Jvm.MethodName) prog_1_method_26_code (1 : Nat) (Option.some Jvm.ClassFile.FieldType.int)) ∈ lw_all := lw_in (List.mem_of_getElem? (i := 342) (by decide +kernel)) (by decide +kernel)
theorem q343 : (Jvm.Cond.methodLink "ShadowPoolLaw" (136 : Nat) ({ cls := "ShadowPool", name := "retention", desc := "()I" } : Jvm.MethodName)) ∈ lw_all := lw_in (List.mem_of_getElem? (i := 343) (by decide +kernel)) (by decide +kernel)
theorem q344 : (Jvm.Cond.instanceMethod ({ cls := "ShadowPool", name := "retention", desc := "()I" } : Jvm.MethodName)) ∈ lw_all := lw_in (List.mem_of_getElem? (i := 344) (by decide +kernel)) (by decide +kernel)
theorem q345 : (Jvm.Cond.selects "ShadowPool" ({ cls := "ShadowPool", name := "retention", desc := "()I" } : Jvm.MethodName) ({ cls := "ShadowPool", name := "retention", desc := "()I" } : Jvm.MethodName)) ∈ lw_all := lw_in (List.mem_of_getElem? (i := 345) (by decide +kernel)) (by decide +kernel)
theorem q346 : (Jvm.Cond.code ({ cls := "ShadowPool", name := "retention", desc := "()I" } : Jvm.MethodName) prog_1_method_27_code (1 : Nat) (Option.some Jvm.ClassFile.FieldType.int)) ∈ lw_all := lw_in (List.mem_of_getElem? (i := 346) (by decide +kernel)) (by decide +kernel)
theorem q347 : (Jvm.Cond.methodLink "ShadowPoolLaw" (134 : Nat) ({ cls := "ShadowPool", name := "limit", desc := "()I" } : Jvm.MethodName)) ∈ lw_all := lw_in (List.mem_of_getElem? (i := 347) (by decide +kernel)) (by decide +kernel)
theorem q348 : (Jvm.Cond.instanceMethod ({ cls := "ShadowPool", name := "limit", desc := "()I" } : Jvm.MethodName)) ∈ lw_all := lw_in (List.mem_of_getElem? (i := 348) (by decide +kernel)) (by decide +kernel)
theorem q349 : (Jvm.Cond.selects "ShadowPool" ({ cls := "ShadowPool", name := "limit", desc := "()I" } : Jvm.MethodName) ({ cls := "ShadowPool", name := "limit", desc := "()I" } : Jvm.MethodName)) ∈ lw_all := lw_in (List.mem_of_getElem? (i := 349) (by decide +kernel)) (by decide +kernel)
theorem q350 : (Jvm.Cond.code ({ cls := "ShadowPool", name := "limit", desc := "()I" } : Jvm.MethodName) prog_1_method_28_code (1 : Nat) (Option.some Jvm.ClassFile.FieldType.int)) ∈ lw_all := lw_in (List.mem_of_getElem? (i := 350) (by decide +kernel)) (by decide +kernel)
theorem q351 : (Jvm.Cond.methodLink "ShadowPoolLaw" (168 : Nat) ({ cls := "ShadowPool", name := "reinsurersLoss", desc := "()I" } : Jvm.MethodName)) ∈ lw_all := lw_in (List.mem_of_getElem? (i := 351) (by decide +kernel)) (by decide +kernel)
theorem q352 : (Jvm.Cond.instanceMethod ({ cls := "ShadowPool", name := "reinsurersLoss", desc := "()I" } : Jvm.MethodName)) ∈ lw_all := lw_in (List.mem_of_getElem? (i := 352) (by decide +kernel)) (by decide +kernel)
theorem q353 : (Jvm.Cond.selects "ShadowPool" ({ cls := "ShadowPool", name := "reinsurersLoss", desc := "()I" } : Jvm.MethodName) ({ cls := "ShadowPool", name := "reinsurersLoss", desc := "()I" } : Jvm.MethodName)) ∈ lw_all := lw_in (List.mem_of_getElem? (i := 353) (by decide +kernel)) (by decide +kernel)
theorem q354 : (Jvm.Cond.code ({ cls := "ShadowPool", name := "reinsurersLoss", desc := "()I" } : Jvm.MethodName) prog_1_method_29_code (1 : Nat) (Option.some Jvm.ClassFile.FieldType.int)) ∈ lw_all := lw_in (List.mem_of_getElem? (i := 354) (by decide +kernel)) (by decide +kernel)
theorem q355 : (Jvm.Cond.methodLink "ShadowPoolLaw" (165 : Nat) ({ cls := "ShadowPool", name := "hoursUntilFall", desc := "(I)I" } : Jvm.MethodName)) ∈ lw_all := lw_in (List.mem_of_getElem? (i := 355) (by decide +kernel)) (by decide +kernel)
theorem q356 : (Jvm.Cond.instanceMethod ({ cls := "ShadowPool", name := "hoursUntilFall", desc := "(I)I" } : Jvm.MethodName)) ∈ lw_all := lw_in (List.mem_of_getElem? (i := 356) (by decide +kernel)) (by decide +kernel)
theorem q357 : (Jvm.Cond.selects "ShadowPool" ({ cls := "ShadowPool", name := "hoursUntilFall", desc := "(I)I" } : Jvm.MethodName) ({ cls := "ShadowPool", name := "hoursUntilFall", desc := "(I)I" } : Jvm.MethodName)) ∈ lw_all := lw_in (List.mem_of_getElem? (i := 357) (by decide +kernel)) (by decide +kernel)
theorem q358 : (Jvm.Cond.code ({ cls := "ShadowPool", name := "hoursUntilFall", desc := "(I)I" } : Jvm.MethodName) prog_1_method_30_code (3 : Nat) (Option.some Jvm.ClassFile.FieldType.int)) ∈ lw_all := lw_in (List.mem_of_getElem? (i := 358) (by decide +kernel)) (by decide +kernel)
theorem q361 : (Jvm.Cond.instanceMethod ({ cls := "ShadowPool$Walker", name := "fallsBehind", desc := "(I)I" } : Jvm.MethodName)) ∈ lw_all := lw_in (List.mem_of_getElem? (i := 361) (by decide +kernel)) (by decide +kernel)
theorem q362 : (Jvm.Cond.code ({ cls := "ShadowPool$Walker", name := "fallsBehind", desc := "(I)I" } : Jvm.MethodName) prog_3_method_8_code (4 : Nat) (Option.some Jvm.ClassFile.FieldType.int)) ∈ lw_all := lw_in (List.mem_of_getElem? (i := 362) (by decide +kernel)) (by decide +kernel)
theorem q365 : (Jvm.Cond.methodLink "ShadowPool$Walker" (51 : Nat) ({ cls := "ShadowPool$Walker", name := "wobbleBehind", desc := "(IZ)I" } : Jvm.MethodName)) ∈ lw_all := lw_in (List.mem_of_getElem? (i := 365) (by decide +kernel)) (by decide +kernel)
theorem q366 : (Jvm.Cond.methodLink "ShadowPoolLaw" (162 : Nat) ({ cls := "ShadowPool", name := "nextToFall", desc := "()I" } : Jvm.MethodName)) ∈ lw_all := lw_in (List.mem_of_getElem? (i := 366) (by decide +kernel)) (by decide +kernel)
theorem q367 : (Jvm.Cond.instanceMethod ({ cls := "ShadowPool", name := "nextToFall", desc := "()I" } : Jvm.MethodName)) ∈ lw_all := lw_in (List.mem_of_getElem? (i := 367) (by decide +kernel)) (by decide +kernel)
theorem q368 : (Jvm.Cond.selects "ShadowPool" ({ cls := "ShadowPool", name := "nextToFall", desc := "()I" } : Jvm.MethodName) ({ cls := "ShadowPool", name := "nextToFall", desc := "()I" } : Jvm.MethodName)) ∈ lw_all := lw_in (List.mem_of_getElem? (i := 368) (by decide +kernel)) (by decide +kernel)
theorem q369 : (Jvm.Cond.code ({ cls := "ShadowPool", name := "nextToFall", desc := "()I" } : Jvm.MethodName) prog_1_method_31_code (6 : Nat) (Option.some Jvm.ClassFile.FieldType.int)) ∈ lw_all := lw_in (List.mem_of_getElem? (i := 369) (by decide +kernel)) (by decide +kernel)
theorem q370 : (Jvm.Cond.methodLink "ShadowPoolLaw" (156 : Nat) ({ cls := "ShadowPool", name := "fundIn", desc := "(I)I" } : Jvm.MethodName)) ∈ lw_all := lw_in (List.mem_of_getElem? (i := 370) (by decide +kernel)) (by decide +kernel)
theorem q371 : (Jvm.Cond.instanceMethod ({ cls := "ShadowPool", name := "fundIn", desc := "(I)I" } : Jvm.MethodName)) ∈ lw_all := lw_in (List.mem_of_getElem? (i := 371) (by decide +kernel)) (by decide +kernel)
theorem q372 : (Jvm.Cond.selects "ShadowPool" ({ cls := "ShadowPool", name := "fundIn", desc := "(I)I" } : Jvm.MethodName) ({ cls := "ShadowPool", name := "fundIn", desc := "(I)I" } : Jvm.MethodName)) ∈ lw_all := lw_in (List.mem_of_getElem? (i := 372) (by decide +kernel)) (by decide +kernel)
theorem q373 : (Jvm.Cond.code ({ cls := "ShadowPool", name := "fundIn", desc := "(I)I" } : Jvm.MethodName) prog_1_method_32_code (2 : Nat) (Option.some Jvm.ClassFile.FieldType.int)) ∈ lw_all := lw_in (List.mem_of_getElem? (i := 373) (by decide +kernel)) (by decide +kernel)
theorem q374 : (Jvm.Cond.methodLink "ShadowPool" (148 : Nat) ({ cls := "ShadowPool", name := "fundBehind", desc := "(III)I" } : Jvm.MethodName)) ∈ lw_all := lw_in (List.mem_of_getElem? (i := 374) (by decide +kernel)) (by decide +kernel)
theorem q376 : (Jvm.Cond.instanceMethod ({ cls := "ShadowPool", name := "fundBehind", desc := "(III)I" } : Jvm.MethodName)) ∈ lw_all := lw_in (List.mem_of_getElem? (i := 376) (by decide +kernel)) (by decide +kernel)
theorem q377 : (Jvm.Cond.code ({ cls := "ShadowPool", name := "fundBehind", desc := "(III)I" } : Jvm.MethodName) prog_1_method_41_code (4 : Nat) (Option.some Jvm.ClassFile.FieldType.int)) ∈ lw_all := lw_in (List.mem_of_getElem? (i := 377) (by decide +kernel)) (by decide +kernel)
theorem q380 : (Jvm.Cond.instanceMethod ({ cls := "ShadowPool$Book", name := "copyFrom", desc := "(LShadowPool$Book;)V" } : Jvm.MethodName)) ∈ lw_all := lw_in (List.mem_of_getElem? (i := 380) (by decide +kernel)) (by decide +kernel)
theorem q381 : (Jvm.Cond.code ({ cls := "ShadowPool$Book", name := "copyFrom", desc := "(LShadowPool$Book;)V" } : Jvm.MethodName) prog_2_method_4_code (5 : Nat) (Option.none : Option Jvm.ClassFile.FieldType)) ∈ lw_all := lw_in (List.mem_of_getElem? (i := 381) (by decide +kernel)) (by decide +kernel)
theorem q384 : (Jvm.Cond.instanceMethod ({ cls := "ShadowPool$Walker", name := "copyWalker", desc := "(LShadowPool$Walker;)V" } : Jvm.MethodName)) ∈ lw_all := lw_in (List.mem_of_getElem? (i := 384) (by decide +kernel)) (by decide +kernel)
theorem q385 : (Jvm.Cond.code ({ cls := "ShadowPool$Walker", name := "copyWalker", desc := "(LShadowPool$Walker;)V" } : Jvm.MethodName) prog_3_method_3_code (2 : Nat) (Option.none : Option Jvm.ClassFile.FieldType)) ∈ lw_all := lw_in (List.mem_of_getElem? (i := 385) (by decide +kernel)) (by decide +kernel)
theorem q386 : (Jvm.Cond.methodLink "ShadowPoolLaw" (159 : Nat) ({ cls := "ShadowPool", name := "hoursUntilRuin", desc := "()I" } : Jvm.MethodName)) ∈ lw_all := lw_in (List.mem_of_getElem? (i := 386) (by decide +kernel)) (by decide +kernel)
theorem q387 : (Jvm.Cond.instanceMethod ({ cls := "ShadowPool", name := "hoursUntilRuin", desc := "()I" } : Jvm.MethodName)) ∈ lw_all := lw_in (List.mem_of_getElem? (i := 387) (by decide +kernel)) (by decide +kernel)
theorem q388 : (Jvm.Cond.selects "ShadowPool" ({ cls := "ShadowPool", name := "hoursUntilRuin", desc := "()I" } : Jvm.MethodName) ({ cls := "ShadowPool", name := "hoursUntilRuin", desc := "()I" } : Jvm.MethodName)) ∈ lw_all := lw_in (List.mem_of_getElem? (i := 388) (by decide +kernel)) (by decide +kernel)
theorem q389 : (Jvm.Cond.code ({ cls := "ShadowPool", name := "hoursUntilRuin", desc := "()I" } : Jvm.MethodName) prog_1_method_33_code (2 : Nat) (Option.some Jvm.ClassFile.FieldType.int)) ∈ lw_all := lw_in (List.mem_of_getElem? (i := 389) (by decide +kernel)) (by decide +kernel)
theorem q390 : (Jvm.Cond.methodLink "ShadowPoolLaw" (141 : Nat) ({ cls := "ShadowPool", name := "bestLimit", desc := "()I" } : Jvm.MethodName)) ∈ lw_all := lw_in (List.mem_of_getElem? (i := 390) (by decide +kernel)) (by decide +kernel)
theorem q391 : (Jvm.Cond.instanceMethod ({ cls := "ShadowPool", name := "bestLimit", desc := "()I" } : Jvm.MethodName)) ∈ lw_all := lw_in (List.mem_of_getElem? (i := 391) (by decide +kernel)) (by decide +kernel)
theorem q392 : (Jvm.Cond.selects "ShadowPool" ({ cls := "ShadowPool", name := "bestLimit", desc := "()I" } : Jvm.MethodName) ({ cls := "ShadowPool", name := "bestLimit", desc := "()I" } : Jvm.MethodName)) ∈ lw_all := lw_in (List.mem_of_getElem? (i := 392) (by decide +kernel)) (by decide +kernel)
theorem q393 : (Jvm.Cond.code ({ cls := "ShadowPool", name := "bestLimit", desc := "()I" } : Jvm.MethodName) prog_1_method_34_code (5 : Nat) (Option.some Jvm.ClassFile.FieldType.int)) ∈ lw_all := lw_in (List.mem_of_getElem? (i := 393) (by decide +kernel)) (by decide +kernel)
theorem q394 : (Jvm.Cond.methodLink "ShadowPoolLaw" (144 : Nat) ({ cls := "ShadowPool", name := "fairRate", desc := "()I" } : Jvm.MethodName)) ∈ lw_all := lw_in (List.mem_of_getElem? (i := 394) (by decide +kernel)) (by decide +kernel)
theorem q395 : (Jvm.Cond.instanceMethod ({ cls := "ShadowPool", name := "fairRate", desc := "()I" } : Jvm.MethodName)) ∈ lw_all := lw_in (List.mem_of_getElem? (i := 395) (by decide +kernel)) (by decide +kernel)
theorem q396 : (Jvm.Cond.selects "ShadowPool" ({ cls := "ShadowPool", name := "fairRate", desc := "()I" } : Jvm.MethodName) ({ cls := "ShadowPool", name := "fairRate", desc := "()I" } : Jvm.MethodName)) ∈ lw_all := lw_in (List.mem_of_getElem? (i := 396) (by decide +kernel)) (by decide +kernel)
theorem q397 : (Jvm.Cond.code ({ cls := "ShadowPool", name := "fairRate", desc := "()I" } : Jvm.MethodName) prog_1_method_35_code (2 : Nat) (Option.some Jvm.ClassFile.FieldType.int)) ∈ lw_all := lw_in (List.mem_of_getElem? (i := 397) (by decide +kernel)) (by decide +kernel)
theorem q398 : (Jvm.Cond.methodLink "ShadowPoolLaw" (78 : Nat) ({ cls := "ShadowPool", name := "digest", desc := "()J" } : Jvm.MethodName)) ∈ lw_all := lw_in (List.mem_of_getElem? (i := 398) (by decide +kernel)) (by decide +kernel)
theorem q399 : (Jvm.Cond.instanceMethod ({ cls := "ShadowPool", name := "digest", desc := "()J" } : Jvm.MethodName)) ∈ lw_all := lw_in (List.mem_of_getElem? (i := 399) (by decide +kernel)) (by decide +kernel)
theorem q400 : (Jvm.Cond.selects "ShadowPool" ({ cls := "ShadowPool", name := "digest", desc := "()J" } : Jvm.MethodName) ({ cls := "ShadowPool", name := "digest", desc := "()J" } : Jvm.MethodName)) ∈ lw_all := lw_in (List.mem_of_getElem? (i := 400) (by decide +kernel)) (by decide +kernel)
theorem q401 : (Jvm.Cond.code ({ cls := "ShadowPool", name := "digest", desc := "()J" } : Jvm.MethodName) prog_1_method_37_code (5 : Nat) (Option.some Jvm.ClassFile.FieldType.long)) ∈ lw_all := lw_in (List.mem_of_getElem? (i := 401) (by decide +kernel)) (by decide +kernel)
theorem q402 : (Jvm.Cond.constantLong "ShadowPool" (155 : Nat) (2069 : Int64)) ∈ lw_all := lw_in (List.mem_of_getElem? (i := 402) (by decide +kernel)) (by decide +kernel)
theorem q403 : (Jvm.Cond.methodLink "ShadowPool" (157 : Nat) ({ cls := "ShadowPool", name := "hour", desc := "()I" } : Jvm.MethodName)) ∈ lw_all := lw_in (List.mem_of_getElem? (i := 403) (by decide +kernel)) (by decide +kernel)
theorem q404 : (Jvm.Cond.methodLink "ShadowPool" (159 : Nat) ({ cls := "ShadowPool", name := "chain", desc := "(JI)J" } : Jvm.MethodName)) ∈ lw_all := lw_in (List.mem_of_getElem? (i := 404) (by decide +kernel)) (by decide +kernel)
theorem q405 : (Jvm.Cond.static ({ cls := "ShadowPool", name := "chain", desc := "(JI)J" } : Jvm.MethodName)) ∈ lw_all := lw_in (List.mem_of_getElem? (i := 405) (by decide +kernel)) (by decide +kernel)
theorem q406 : (Jvm.Cond.code ({ cls := "ShadowPool", name := "chain", desc := "(JI)J" } : Jvm.MethodName) prog_1_method_39_code (3 : Nat) (Option.some Jvm.ClassFile.FieldType.long)) ∈ lw_all := lw_in (List.mem_of_getElem? (i := 406) (by decide +kernel)) (by decide +kernel)
theorem q407 : (Jvm.Cond.constantLong "ShadowPool" (192 : Nat) (31 : Int64)) ∈ lw_all := lw_in (List.mem_of_getElem? (i := 407) (by decide +kernel)) (by decide +kernel)
theorem q408 : (Jvm.Cond.methodLink "ShadowPool" (163 : Nat) ({ cls := "ShadowPool", name := "walkers", desc := "()I" } : Jvm.MethodName)) ∈ lw_all := lw_in (List.mem_of_getElem? (i := 408) (by decide +kernel)) (by decide +kernel)
theorem q409 : (Jvm.Cond.methodLink "ShadowPool" (166 : Nat) ({ cls := "ShadowPool", name := "members", desc := "()I" } : Jvm.MethodName)) ∈ lw_all := lw_in (List.mem_of_getElem? (i := 409) (by decide +kernel)) (by decide +kernel)
theorem q410 : (Jvm.Cond.methodLink "ShadowPool" (169 : Nat) ({ cls := "ShadowPool", name := "fund", desc := "()I" } : Jvm.MethodName)) ∈ lw_all := lw_in (List.mem_of_getElem? (i := 410) (by decide +kernel)) (by decide +kernel)
theorem q411 : (Jvm.Cond.methodLink "ShadowPool" (171 : Nat) ({ cls := "ShadowPool", name := "rate", desc := "()I" } : Jvm.MethodName)) ∈ lw_all := lw_in (List.mem_of_getElem? (i := 411) (by decide +kernel)) (by decide +kernel)
theorem q412 : (Jvm.Cond.methodLink "ShadowPool" (173 : Nat) ({ cls := "ShadowPool", name := "retention", desc := "()I" } : Jvm.MethodName)) ∈ lw_all := lw_in (List.mem_of_getElem? (i := 412) (by decide +kernel)) (by decide +kernel)
theorem q413 : (Jvm.Cond.methodLink "ShadowPool" (175 : Nat) ({ cls := "ShadowPool", name := "limit", desc := "()I" } : Jvm.MethodName)) ∈ lw_all := lw_in (List.mem_of_getElem? (i := 413) (by decide +kernel)) (by decide +kernel)
theorem q414 : (Jvm.Cond.methodLink "ShadowPool" (177 : Nat) ({ cls := "ShadowPool", name := "reinsurersLoss", desc := "()I" } : Jvm.MethodName)) ∈ lw_all := lw_in (List.mem_of_getElem? (i := 414) (by decide +kernel)) (by decide +kernel)
theorem q415 : (Jvm.Cond.methodLink "ShadowPool" (179 : Nat) ({ cls := "ShadowPool", name := "nextToFall", desc := "()I" } : Jvm.MethodName)) ∈ lw_all := lw_in (List.mem_of_getElem? (i := 415) (by decide +kernel)) (by decide +kernel)
theorem q416 : (Jvm.Cond.methodLink "ShadowPool" (182 : Nat) ({ cls := "ShadowPool", name := "bestLimit", desc := "()I" } : Jvm.MethodName)) ∈ lw_all := lw_in (List.mem_of_getElem? (i := 416) (by decide +kernel)) (by decide +kernel)
theorem q417 : (Jvm.Cond.methodLink "ShadowPool" (185 : Nat) ({ cls := "ShadowPool", name := "fairRate", desc := "()I" } : Jvm.MethodName)) ∈ lw_all := lw_in (List.mem_of_getElem? (i := 417) (by decide +kernel)) (by decide +kernel)
theorem q418 : (Jvm.Cond.methodLink "ShadowPool" (188 : Nat) ({ cls := "ShadowPool", name := "chainWalker", desc := "(JLShadowPool$Walker;)J" } : Jvm.MethodName)) ∈ lw_all := lw_in (List.mem_of_getElem? (i := 418) (by decide +kernel)) (by decide +kernel)
theorem q420 : (Jvm.Cond.instanceMethod ({ cls := "ShadowPool", name := "chainWalker", desc := "(JLShadowPool$Walker;)J" } : Jvm.MethodName)) ∈ lw_all := lw_in (List.mem_of_getElem? (i := 420) (by decide +kernel)) (by decide +kernel)
theorem q421 : (Jvm.Cond.code ({ cls := "ShadowPool", name := "chainWalker", desc := "(JLShadowPool$Walker;)J" } : Jvm.MethodName) prog_1_method_38_code (8 : Nat) (Option.some Jvm.ClassFile.FieldType.long)) ∈ lw_all := lw_in (List.mem_of_getElem? (i := 421) (by decide +kernel)) (by decide +kernel)
theorem q422 : (Jvm.Cond.methodLink "ShadowPoolLaw" (147 : Nat) ({ cls := "ShadowPoolLaw$Sim", name := "copy", desc := "()LShadowPoolLaw$Sim;" } : Jvm.MethodName)) ∈ lw_all := lw_in (List.mem_of_getElem? (i := 422) (by decide +kernel)) (by decide +kernel)
theorem q423 : (Jvm.Cond.instanceMethod ({ cls := "ShadowPoolLaw$Sim", name := "copy", desc := "()LShadowPoolLaw$Sim;" } : Jvm.MethodName)) ∈ lw_all := lw_in (List.mem_of_getElem? (i := 423) (by decide +kernel)) (by decide +kernel)
theorem q424 : (Jvm.Cond.selects "ShadowPoolLaw$Sim" ({ cls := "ShadowPoolLaw$Sim", name := "copy", desc := "()LShadowPoolLaw$Sim;" } : Jvm.MethodName) ({ cls := "ShadowPoolLaw$Sim", name := "copy", desc := "()LShadowPoolLaw$Sim;" } : Jvm.MethodName)) ∈ lw_all := lw_in (List.mem_of_getElem? (i := 424) (by decide +kernel)) (by decide +kernel)
theorem q425 : (Jvm.Cond.code ({ cls := "ShadowPoolLaw$Sim", name := "copy", desc := "()LShadowPoolLaw$Sim;" } : Jvm.MethodName) prog_5_method_3_code (3 : Nat) (Option.some (Jvm.ClassFile.FieldType.object "ShadowPoolLaw$Sim"))) ∈ lw_all := lw_in (List.mem_of_getElem? (i := 425) (by decide +kernel)) (by decide +kernel)
theorem q426 : (Jvm.Cond.classLink "ShadowPoolLaw$Sim" (8 : Nat) "ShadowPoolLaw$Sim") ∈ lw_all := lw_in (List.mem_of_getElem? (i := 426) (by decide +kernel)) (by decide +kernel)
theorem q427 : (Jvm.Cond.instantiable "ShadowPoolLaw$Sim" (7 : Nat)) ∈ lw_all := lw_in (List.mem_of_getElem? (i := 427) (by decide +kernel)) (by decide +kernel)
theorem q428 : (Jvm.Cond.methodLink "ShadowPoolLaw$Sim" (25 : Nat) ({ cls := "ShadowPoolLaw$Sim", name := "<init>", desc := "()V" } : Jvm.MethodName)) ∈ lw_all := lw_in (List.mem_of_getElem? (i := 428) (by decide +kernel)) (by decide +kernel)
theorem q429 : (Jvm.Cond.instanceMethod ({ cls := "ShadowPoolLaw$Sim", name := "<init>", desc := "()V" } : Jvm.MethodName)) ∈ lw_all := lw_in (List.mem_of_getElem? (i := 429) (by decide +kernel)) (by decide +kernel)
theorem q430 : (Jvm.Cond.code ({ cls := "ShadowPoolLaw$Sim", name := "<init>", desc := "()V" } : Jvm.MethodName) prog_5_method_1_code (1 : Nat) (Option.none : Option Jvm.ClassFile.FieldType)) ∈ lw_all := lw_in (List.mem_of_getElem? (i := 430) (by decide +kernel)) (by decide +kernel)
theorem q431 : (Jvm.Cond.methodLink "ShadowPoolLaw$Sim" (1 : Nat) ({ cls := "java/lang/Object", name := "<init>", desc := "()V" } : Jvm.MethodName)) ∈ lw_all := lw_in (List.mem_of_getElem? (i := 431) (by decide +kernel)) (by decide +kernel)
theorem q432 : (Jvm.Cond.classLink "ShadowPoolLaw$Sim" (19 : Nat) "[I") ∈ lw_all := lw_in (List.mem_of_getElem? (i := 432) (by decide +kernel)) (by decide +kernel)
theorem qt433 : (Jvm.Cond.arrayOver (Jvm.ClassFile.FieldType.array Jvm.ClassFile.FieldType.int)) ∈ tables_1 := List.mem_of_getElem? (i := 433) (by decide +kernel)
theorem q434 : (Jvm.Cond.fieldLink "ShadowPoolLaw$Sim" (26 : Nat) "ShadowPoolLaw$Sim" "hour" "I") ∈ lw_all := lw_in (List.mem_of_getElem? (i := 434) (by decide +kernel)) (by decide +kernel)
theorem q435 : (Jvm.Cond.fieldLink "ShadowPoolLaw$Sim" (7 : Nat) "ShadowPoolLaw$Sim" "fund" "I") ∈ lw_all := lw_in (List.mem_of_getElem? (i := 435) (by decide +kernel)) (by decide +kernel)
theorem q436 : (Jvm.Cond.fieldLink "ShadowPoolLaw" (151 : Nat) "ShadowPoolLaw$Sim" "fund" "I") ∈ lw_all := lw_in (List.mem_of_getElem? (i := 436) (by decide +kernel)) (by decide +kernel)
theorem q437 : (Jvm.Cond.fieldLink "ShadowPoolLaw$Sim" (13 : Nat) "ShadowPoolLaw$Sim" "rate" "I") ∈ lw_all := lw_in (List.mem_of_getElem? (i := 437) (by decide +kernel)) (by decide +kernel)
theorem q438 : (Jvm.Cond.fieldLink "ShadowPoolLaw" (42 : Nat) "ShadowPoolLaw$Sim" "rate" "I") ∈ lw_all := lw_in (List.mem_of_getElem? (i := 438) (by decide +kernel)) (by decide +kernel)
theorem q439 : (Jvm.Cond.fieldLink "ShadowPoolLaw$Sim" (16 : Nat) "ShadowPoolLaw$Sim" "retention" "I") ∈ lw_all := lw_in (List.mem_of_getElem? (i := 439) (by decide +kernel)) (by decide +kernel)
theorem q440 : (Jvm.Cond.fieldLink "ShadowPoolLaw" (52 : Nat) "ShadowPoolLaw$Sim" "retention" "I") ∈ lw_all := lw_in (List.mem_of_getElem? (i := 440) (by decide +kernel)) (by decide +kernel)
theorem q441 : (Jvm.Cond.fieldLink "ShadowPoolLaw$Sim" (29 : Nat) "ShadowPoolLaw$Sim" "limit" "I") ∈ lw_all := lw_in (List.mem_of_getElem? (i := 441) (by decide +kernel)) (by decide +kernel)
theorem q442 : (Jvm.Cond.fieldLink "ShadowPoolLaw" (49 : Nat) "ShadowPoolLaw$Sim" "limit" "I") ∈ lw_all := lw_in (List.mem_of_getElem? (i := 442) (by decide +kernel)) (by decide +kernel)
theorem q443 : (Jvm.Cond.fieldLink "ShadowPoolLaw$Sim" (32 : Nat) "ShadowPoolLaw$Sim" "loss" "I") ∈ lw_all := lw_in (List.mem_of_getElem? (i := 443) (by decide +kernel)) (by decide +kernel)
theorem q444 : (Jvm.Cond.fieldLink "ShadowPoolLaw$Sim" (21 : Nat) "ShadowPoolLaw$Sim" "all" "[[I") ∈ lw_all := lw_in (List.mem_of_getElem? (i := 444) (by decide +kernel)) (by decide +kernel)
theorem q445 : (Jvm.Cond.fieldLink "ShadowPoolLaw" (9 : Nat) "ShadowPoolLaw$Sim" "all" "[[I") ∈ lw_all := lw_in (List.mem_of_getElem? (i := 445) (by decide +kernel)) (by decide +kernel)
theorem q446 : (Jvm.Cond.lays "ShadowPoolLaw$Sim" "ShadowPoolLaw$Sim" "hour" "I") ∈ lw_all := lw_in (List.mem_of_getElem? (i := 446) (by decide +kernel)) (by decide +kernel)
theorem q447 : (Jvm.Cond.soleField "ShadowPoolLaw$Sim" "hour") ∈ lw_all := lw_in (List.mem_of_getElem? (i := 447) (by decide +kernel)) (by decide +kernel)
theorem q448 : (Jvm.Cond.lays "ShadowPoolLaw$Sim" "ShadowPoolLaw$Sim" "fund" "I") ∈ lw_all := lw_in (List.mem_of_getElem? (i := 448) (by decide +kernel)) (by decide +kernel)
theorem q449 : (Jvm.Cond.soleField "ShadowPoolLaw$Sim" "fund") ∈ lw_all := lw_in (List.mem_of_getElem? (i := 449) (by decide +kernel)) (by decide +kernel)
theorem q450 : (Jvm.Cond.lays "ShadowPoolLaw$Sim" "ShadowPoolLaw$Sim" "rate" "I") ∈ lw_all := lw_in (List.mem_of_getElem? (i := 450) (by decide +kernel)) (by decide +kernel)
theorem q451 : (Jvm.Cond.soleField "ShadowPoolLaw$Sim" "rate") ∈ lw_all := lw_in (List.mem_of_getElem? (i := 451) (by decide +kernel)) (by decide +kernel)
theorem q452 : (Jvm.Cond.lays "ShadowPoolLaw$Sim" "ShadowPoolLaw$Sim" "retention" "I") ∈ lw_all := lw_in (List.mem_of_getElem? (i := 452) (by decide +kernel)) (by decide +kernel)
theorem q453 : (Jvm.Cond.soleField "ShadowPoolLaw$Sim" "retention") ∈ lw_all := lw_in (List.mem_of_getElem? (i := 453) (by decide +kernel)) (by decide +kernel)
theorem q454 : (Jvm.Cond.lays "ShadowPoolLaw$Sim" "ShadowPoolLaw$Sim" "limit" "I") ∈ lw_all := lw_in (List.mem_of_getElem? (i := 454) (by decide +kernel)) (by decide +kernel)
theorem q455 : (Jvm.Cond.soleField "ShadowPoolLaw$Sim" "limit") ∈ lw_all := lw_in (List.mem_of_getElem? (i := 455) (by decide +kernel)) (by decide +kernel)
theorem q456 : (Jvm.Cond.lays "ShadowPoolLaw$Sim" "ShadowPoolLaw$Sim" "loss" "I") ∈ lw_all := lw_in (List.mem_of_getElem? (i := 456) (by decide +kernel)) (by decide +kernel)
theorem q457 : (Jvm.Cond.soleField "ShadowPoolLaw$Sim" "loss") ∈ lw_all := lw_in (List.mem_of_getElem? (i := 457) (by decide +kernel)) (by decide +kernel)
theorem q458 : (Jvm.Cond.lays "ShadowPoolLaw$Sim" "ShadowPoolLaw$Sim" "all" "[[I") ∈ lw_all := lw_in (List.mem_of_getElem? (i := 458) (by decide +kernel)) (by decide +kernel)
theorem q459 : (Jvm.Cond.soleField "ShadowPoolLaw$Sim" "all") ∈ lw_all := lw_in (List.mem_of_getElem? (i := 459) (by decide +kernel)) (by decide +kernel)
theorem q460 : (Jvm.Cond.superclass "ShadowPoolLaw$Sim" "java/lang/Object") ∈ lw_all := lw_in (List.mem_of_getElem? (i := 460) (by decide +kernel)) (by decide +kernel)
theorem q461 : (Jvm.Cond.methodLink "ShadowPoolLaw$Sim" (35 : Nat) ({ cls := "[I", name := "clone", desc := "()Ljava/lang/Object;" } : Jvm.MethodName)) ∈ lw_all := lw_in (List.mem_of_getElem? (i := 461) (by decide +kernel)) (by decide +kernel)
theorem q462 : (Jvm.Cond.sameMethod "[I" "java/lang/Object" "clone" "()Ljava/lang/Object;") ∈ lw_all := lw_in (List.mem_of_getElem? (i := 462) (by decide +kernel)) (by decide +kernel)
theorem q463 : (Jvm.Cond.native ({ cls := "java/lang/Object", name := "clone", desc := "()Ljava/lang/Object;" } : Jvm.MethodName)) ∈ lw_all := lw_in (List.mem_of_getElem? (i := 463) (by decide +kernel)) (by decide +kernel)
theorem q464 : (Jvm.Cond.instanceMethod ({ cls := "java/lang/Object", name := "clone", desc := "()Ljava/lang/Object;" } : Jvm.MethodName)) ∈ lw_all := lw_in (List.mem_of_getElem? (i := 464) (by decide +kernel)) (by decide +kernel)
theorem q465 : (Jvm.Cond.selects "[I" ({ cls := "[I", name := "clone", desc := "()Ljava/lang/Object;" } : Jvm.MethodName) ({ cls := "java/lang/Object", name := "clone", desc := "()Ljava/lang/Object;" } : Jvm.MethodName)) ∈ lw_all := lw_in (List.mem_of_getElem? (i := 465) (by decide +kernel)) (by decide +kernel)
theorem qt466 : (Jvm.Cond.castable "[I" "java/lang/Cloneable") ∈ tables_1 := List.mem_of_getElem? (i := 466) (by decide +kernel)
theorem q467 : (Jvm.Cond.arrayClass Jvm.ClassFile.FieldType.int) ∈ lw_all := lw_in (List.mem_of_getElem? (i := 467) (by decide +kernel)) (by decide +kernel)
theorem q468 : (Jvm.Cond.methodLink "ShadowPoolLaw" (173 : Nat) ({ cls := "ShadowPoolLaw$Sim", name := "pass", desc := "()I" } : Jvm.MethodName)) ∈ lw_all := lw_in (List.mem_of_getElem? (i := 468) (by decide +kernel)) (by decide +kernel)
theorem q469 : (Jvm.Cond.instanceMethod ({ cls := "ShadowPoolLaw$Sim", name := "pass", desc := "()I" } : Jvm.MethodName)) ∈ lw_all := lw_in (List.mem_of_getElem? (i := 469) (by decide +kernel)) (by decide +kernel)
theorem q470 : (Jvm.Cond.selects "ShadowPoolLaw$Sim" ({ cls := "ShadowPoolLaw$Sim", name := "pass", desc := "()I" } : Jvm.MethodName) ({ cls := "ShadowPoolLaw$Sim", name := "pass", desc := "()I" } : Jvm.MethodName)) ∈ lw_all := lw_in (List.mem_of_getElem? (i := 470) (by decide +kernel)) (by decide +kernel)
theorem q471 : (Jvm.Cond.code ({ cls := "ShadowPoolLaw$Sim", name := "pass", desc := "()I" } : Jvm.MethodName) prog_5_method_9_code (7 : Nat) (Option.some Jvm.ClassFile.FieldType.int)) ∈ lw_all := lw_in (List.mem_of_getElem? (i := 471) (by decide +kernel)) (by decide +kernel)
theorem q472 : (Jvm.Cond.methodLink "ShadowPoolLaw$Sim" (39 : Nat) ({ cls := "ShadowPoolLaw$Sim", name := "ofDay", desc := "()I" } : Jvm.MethodName)) ∈ lw_all := lw_in (List.mem_of_getElem? (i := 472) (by decide +kernel)) (by decide +kernel)
theorem q473 : (Jvm.Cond.instanceMethod ({ cls := "ShadowPoolLaw$Sim", name := "ofDay", desc := "()I" } : Jvm.MethodName)) ∈ lw_all := lw_in (List.mem_of_getElem? (i := 473) (by decide +kernel)) (by decide +kernel)
theorem q474 : (Jvm.Cond.selects "ShadowPoolLaw$Sim" ({ cls := "ShadowPoolLaw$Sim", name := "ofDay", desc := "()I" } : Jvm.MethodName) ({ cls := "ShadowPoolLaw$Sim", name := "ofDay", desc := "()I" } : Jvm.MethodName)) ∈ lw_all := lw_in (List.mem_of_getElem? (i := 474) (by decide +kernel)) (by decide +kernel)
theorem q475 : (Jvm.Cond.code ({ cls := "ShadowPoolLaw$Sim", name := "ofDay", desc := "()I" } : Jvm.MethodName) prog_5_method_4_code (1 : Nat) (Option.some Jvm.ClassFile.FieldType.int)) ∈ lw_all := lw_in (List.mem_of_getElem? (i := 475) (by decide +kernel)) (by decide +kernel)
theorem q476 : (Jvm.Cond.methodLink "ShadowPoolLaw$Sim" (50 : Nat) ({ cls := "ShadowPoolLaw$Sim", name := "isNoon", desc := "()Z" } : Jvm.MethodName)) ∈ lw_all := lw_in (List.mem_of_getElem? (i := 476) (by decide +kernel)) (by decide +kernel)
theorem q477 : (Jvm.Cond.instanceMethod ({ cls := "ShadowPoolLaw$Sim", name := "isNoon", desc := "()Z" } : Jvm.MethodName)) ∈ lw_all := lw_in (List.mem_of_getElem? (i := 477) (by decide +kernel)) (by decide +kernel)
theorem q478 : (Jvm.Cond.selects "ShadowPoolLaw$Sim" ({ cls := "ShadowPoolLaw$Sim", name := "isNoon", desc := "()Z" } : Jvm.MethodName) ({ cls := "ShadowPoolLaw$Sim", name := "isNoon", desc := "()Z" } : Jvm.MethodName)) ∈ lw_all := lw_in (List.mem_of_getElem? (i := 478) (by decide +kernel)) (by decide +kernel)
theorem q479 : (Jvm.Cond.code ({ cls := "ShadowPoolLaw$Sim", name := "isNoon", desc := "()Z" } : Jvm.MethodName) prog_5_method_6_code (1 : Nat) (Option.some Jvm.ClassFile.FieldType.boolean)) ∈ lw_all := lw_in (List.mem_of_getElem? (i := 479) (by decide +kernel)) (by decide +kernel)
theorem q480 : (Jvm.Cond.methodLink "ShadowPoolLaw$Sim" (43 : Nat) ({ cls := "ShadowPoolLaw$Sim", name := "sun", desc := "()I" } : Jvm.MethodName)) ∈ lw_all := lw_in (List.mem_of_getElem? (i := 480) (by decide +kernel)) (by decide +kernel)
theorem q481 : (Jvm.Cond.instanceMethod ({ cls := "ShadowPoolLaw$Sim", name := "sun", desc := "()I" } : Jvm.MethodName)) ∈ lw_all := lw_in (List.mem_of_getElem? (i := 481) (by decide +kernel)) (by decide +kernel)
theorem q482 : (Jvm.Cond.selects "ShadowPoolLaw$Sim" ({ cls := "ShadowPoolLaw$Sim", name := "sun", desc := "()I" } : Jvm.MethodName) ({ cls := "ShadowPoolLaw$Sim", name := "sun", desc := "()I" } : Jvm.MethodName)) ∈ lw_all := lw_in (List.mem_of_getElem? (i := 482) (by decide +kernel)) (by decide +kernel)
theorem q483 : (Jvm.Cond.code ({ cls := "ShadowPoolLaw$Sim", name := "sun", desc := "()I" } : Jvm.MethodName) prog_5_method_5_code (1 : Nat) (Option.some Jvm.ClassFile.FieldType.int)) ∈ lw_all := lw_in (List.mem_of_getElem? (i := 483) (by decide +kernel)) (by decide +kernel)
theorem q484 : (Jvm.Cond.methodLink "ShadowPoolLaw$Sim" (54 : Nat) ({ cls := "ShadowPoolLaw$Sim", name := "parts", desc := "([I)[I" } : Jvm.MethodName)) ∈ lw_all := lw_in (List.mem_of_getElem? (i := 484) (by decide +kernel)) (by decide +kernel)
theorem q485 : (Jvm.Cond.instanceMethod ({ cls := "ShadowPoolLaw$Sim", name := "parts", desc := "([I)[I" } : Jvm.MethodName)) ∈ lw_all := lw_in (List.mem_of_getElem? (i := 485) (by decide +kernel)) (by decide +kernel)
theorem q486 : (Jvm.Cond.selects "ShadowPoolLaw$Sim" ({ cls := "ShadowPoolLaw$Sim", name := "parts", desc := "([I)[I" } : Jvm.MethodName) ({ cls := "ShadowPoolLaw$Sim", name := "parts", desc := "([I)[I" } : Jvm.MethodName)) ∈ lw_all := lw_in (List.mem_of_getElem? (i := 486) (by decide +kernel)) (by decide +kernel)
theorem q487 : (Jvm.Cond.code ({ cls := "ShadowPoolLaw$Sim", name := "parts", desc := "([I)[I" } : Jvm.MethodName) prog_5_method_8_code (7 : Nat) (Option.some (Jvm.ClassFile.FieldType.array Jvm.ClassFile.FieldType.int))) ∈ lw_all := lw_in (List.mem_of_getElem? (i := 487) (by decide +kernel)) (by decide +kernel)
theorem q488 : (Jvm.Cond.methodLink "ShadowPoolLaw$Sim" (46 : Nat) ({ cls := "ShadowPoolLaw$Sim", name := "shadow", desc := "([I)I" } : Jvm.MethodName)) ∈ lw_all := lw_in (List.mem_of_getElem? (i := 488) (by decide +kernel)) (by decide +kernel)
theorem q489 : (Jvm.Cond.instanceMethod ({ cls := "ShadowPoolLaw$Sim", name := "shadow", desc := "([I)I" } : Jvm.MethodName)) ∈ lw_all := lw_in (List.mem_of_getElem? (i := 489) (by decide +kernel)) (by decide +kernel)
theorem q490 : (Jvm.Cond.selects "ShadowPoolLaw$Sim" ({ cls := "ShadowPoolLaw$Sim", name := "shadow", desc := "([I)I" } : Jvm.MethodName) ({ cls := "ShadowPoolLaw$Sim", name := "shadow", desc := "([I)I" } : Jvm.MethodName)) ∈ lw_all := lw_in (List.mem_of_getElem? (i := 490) (by decide +kernel)) (by decide +kernel)
theorem q491 : (Jvm.Cond.code ({ cls := "ShadowPoolLaw$Sim", name := "shadow", desc := "([I)I" } : Jvm.MethodName) prog_5_method_7_code (2 : Nat) (Option.some Jvm.ClassFile.FieldType.int)) ∈ lw_all := lw_in (List.mem_of_getElem? (i := 491) (by decide +kernel)) (by decide +kernel)
theorem q492 : (Jvm.Cond.methodLink "ShadowPoolLaw" (61 : Nat) ({ cls := "ShadowPoolLaw$Sim", name := "pass", desc := "(I)I" } : Jvm.MethodName)) ∈ lw_all := lw_in (List.mem_of_getElem? (i := 492) (by decide +kernel)) (by decide +kernel)
theorem q493 : (Jvm.Cond.instanceMethod ({ cls := "ShadowPoolLaw$Sim", name := "pass", desc := "(I)I" } : Jvm.MethodName)) ∈ lw_all := lw_in (List.mem_of_getElem? (i := 493) (by decide +kernel)) (by decide +kernel)
theorem q494 : (Jvm.Cond.selects "ShadowPoolLaw$Sim" ({ cls := "ShadowPoolLaw$Sim", name := "pass", desc := "(I)I" } : Jvm.MethodName) ({ cls := "ShadowPoolLaw$Sim", name := "pass", desc := "(I)I" } : Jvm.MethodName)) ∈ lw_all := lw_in (List.mem_of_getElem? (i := 494) (by decide +kernel)) (by decide +kernel)
theorem q495 : (Jvm.Cond.code ({ cls := "ShadowPoolLaw$Sim", name := "pass", desc := "(I)I" } : Jvm.MethodName) prog_5_method_10_code (4 : Nat) (Option.some Jvm.ClassFile.FieldType.int)) ∈ lw_all := lw_in (List.mem_of_getElem? (i := 495) (by decide +kernel)) (by decide +kernel)
theorem q496 : (Jvm.Cond.methodLink "ShadowPoolLaw$Sim" (58 : Nat) ({ cls := "ShadowPoolLaw$Sim", name := "pass", desc := "()I" } : Jvm.MethodName)) ∈ lw_all := lw_in (List.mem_of_getElem? (i := 496) (by decide +kernel)) (by decide +kernel)
theorem q497 : (Jvm.Cond.methodLink "ShadowPoolLaw" (181 : Nat) ({ cls := "ShadowPoolLaw$Sim", name := "isSame", desc := "(LShadowPool;)Z" } : Jvm.MethodName)) ∈ lw_all := lw_in (List.mem_of_getElem? (i := 497) (by decide +kernel)) (by decide +kernel)
theorem q498 : (Jvm.Cond.instanceMethod ({ cls := "ShadowPoolLaw$Sim", name := "isSame", desc := "(LShadowPool;)Z" } : Jvm.MethodName)) ∈ lw_all := lw_in (List.mem_of_getElem? (i := 498) (by decide +kernel)) (by decide +kernel)
theorem q499 : (Jvm.Cond.selects "ShadowPoolLaw$Sim" ({ cls := "ShadowPoolLaw$Sim", name := "isSame", desc := "(LShadowPool;)Z" } : Jvm.MethodName) ({ cls := "ShadowPoolLaw$Sim", name := "isSame", desc := "(LShadowPool;)Z" } : Jvm.MethodName)) ∈ lw_all := lw_in (List.mem_of_getElem? (i := 499) (by decide +kernel)) (by decide +kernel)
theorem q500 : (Jvm.Cond.code ({ cls := "ShadowPoolLaw$Sim", name := "isSame", desc := "(LShadowPool;)Z" } : Jvm.MethodName) prog_5_method_11_code (8 : Nat) (Option.some Jvm.ClassFile.FieldType.boolean)) ∈ lw_all := lw_in (List.mem_of_getElem? (i := 500) (by decide +kernel)) (by decide +kernel)
theorem q501 : (Jvm.Cond.methodLink "ShadowPoolLaw$Sim" (61 : Nat) ({ cls := "ShadowPool", name := "isMember", desc := "(I)Z" } : Jvm.MethodName)) ∈ lw_all := lw_in (List.mem_of_getElem? (i := 501) (by decide +kernel)) (by decide +kernel)
theorem q502 : (Jvm.Cond.methodLink "ShadowPoolLaw$Sim" (67 : Nat) ({ cls := "ShadowPool", name := "netOf", desc := "(I)I" } : Jvm.MethodName)) ∈ lw_all := lw_in (List.mem_of_getElem? (i := 502) (by decide +kernel)) (by decide +kernel)
theorem q503 : (Jvm.Cond.methodLink "ShadowPoolLaw$Sim" (71 : Nat) ({ cls := "ShadowPool", name := "wobbleOf", desc := "(I)I" } : Jvm.MethodName)) ∈ lw_all := lw_in (List.mem_of_getElem? (i := 503) (by decide +kernel)) (by decide +kernel)
theorem q504 : (Jvm.Cond.methodLink "ShadowPoolLaw$Sim" (74 : Nat) ({ cls := "ShadowPool", name := "fallsOf", desc := "(I)I" } : Jvm.MethodName)) ∈ lw_all := lw_in (List.mem_of_getElem? (i := 504) (by decide +kernel)) (by decide +kernel)
theorem q505 : (Jvm.Cond.methodLink "ShadowPoolLaw$Sim" (77 : Nat) ({ cls := "ShadowPool", name := "shadowOf", desc := "(I)I" } : Jvm.MethodName)) ∈ lw_all := lw_in (List.mem_of_getElem? (i := 505) (by decide +kernel)) (by decide +kernel)
theorem q506 : (Jvm.Cond.methodLink "ShadowPoolLaw$Sim" (80 : Nat) ({ cls := "ShadowPool", name := "costOf", desc := "(I)I" } : Jvm.MethodName)) ∈ lw_all := lw_in (List.mem_of_getElem? (i := 506) (by decide +kernel)) (by decide +kernel)
theorem q507 : (Jvm.Cond.methodLink "ShadowPoolLaw$Sim" (83 : Nat) ({ cls := "ShadowPool", name := "ownPartOf", desc := "(I)I" } : Jvm.MethodName)) ∈ lw_all := lw_in (List.mem_of_getElem? (i := 507) (by decide +kernel)) (by decide +kernel)
theorem q508 : (Jvm.Cond.methodLink "ShadowPoolLaw$Sim" (86 : Nat) ({ cls := "ShadowPool", name := "poolPartOf", desc := "(I)I" } : Jvm.MethodName)) ∈ lw_all := lw_in (List.mem_of_getElem? (i := 508) (by decide +kernel)) (by decide +kernel)
theorem q509 : (Jvm.Cond.methodLink "ShadowPoolLaw$Sim" (89 : Nat) ({ cls := "ShadowPool", name := "reinsuredPartOf", desc := "(I)I" } : Jvm.MethodName)) ∈ lw_all := lw_in (List.mem_of_getElem? (i := 509) (by decide +kernel)) (by decide +kernel)
theorem q510 : (Jvm.Cond.methodLink "ShadowPoolLaw$Sim" (92 : Nat) ({ cls := "ShadowPool", name := "hour", desc := "()I" } : Jvm.MethodName)) ∈ lw_all := lw_in (List.mem_of_getElem? (i := 510) (by decide +kernel)) (by decide +kernel)
theorem q511 : (Jvm.Cond.methodLink "ShadowPoolLaw$Sim" (94 : Nat) ({ cls := "ShadowPool", name := "sun", desc := "()I" } : Jvm.MethodName)) ∈ lw_all := lw_in (List.mem_of_getElem? (i := 511) (by decide +kernel)) (by decide +kernel)
theorem q512 : (Jvm.Cond.methodLink "ShadowPoolLaw$Sim" (95 : Nat) ({ cls := "ShadowPool", name := "isNoon", desc := "()Z" } : Jvm.MethodName)) ∈ lw_all := lw_in (List.mem_of_getElem? (i := 512) (by decide +kernel)) (by decide +kernel)
theorem q513 : (Jvm.Cond.methodLink "ShadowPoolLaw$Sim" (96 : Nat) ({ cls := "ShadowPool", name := "hoursUntilNoon", desc := "()I" } : Jvm.MethodName)) ∈ lw_all := lw_in (List.mem_of_getElem? (i := 513) (by decide +kernel)) (by decide +kernel)
theorem q514 : (Jvm.Cond.methodLink "ShadowPoolLaw$Sim" (99 : Nat) ({ cls := "ShadowPool", name := "walkers", desc := "()I" } : Jvm.MethodName)) ∈ lw_all := lw_in (List.mem_of_getElem? (i := 514) (by decide +kernel)) (by decide +kernel)
theorem q515 : (Jvm.Cond.methodLink "ShadowPoolLaw$Sim" (102 : Nat) ({ cls := "ShadowPool", name := "members", desc := "()I" } : Jvm.MethodName)) ∈ lw_all := lw_in (List.mem_of_getElem? (i := 515) (by decide +kernel)) (by decide +kernel)
theorem q516 : (Jvm.Cond.methodLink "ShadowPoolLaw$Sim" (105 : Nat) ({ cls := "ShadowPool", name := "longestShadow", desc := "()I" } : Jvm.MethodName)) ∈ lw_all := lw_in (List.mem_of_getElem? (i := 516) (by decide +kernel)) (by decide +kernel)
theorem q517 : (Jvm.Cond.methodLink "ShadowPoolLaw$Sim" (108 : Nat) ({ cls := "ShadowPool", name := "fund", desc := "()I" } : Jvm.MethodName)) ∈ lw_all := lw_in (List.mem_of_getElem? (i := 517) (by decide +kernel)) (by decide +kernel)
theorem q518 : (Jvm.Cond.methodLink "ShadowPoolLaw$Sim" (110 : Nat) ({ cls := "ShadowPool", name := "rate", desc := "()I" } : Jvm.MethodName)) ∈ lw_all := lw_in (List.mem_of_getElem? (i := 518) (by decide +kernel)) (by decide +kernel)
theorem q519 : (Jvm.Cond.methodLink "ShadowPoolLaw$Sim" (112 : Nat) ({ cls := "ShadowPool", name := "retention", desc := "()I" } : Jvm.MethodName)) ∈ lw_all := lw_in (List.mem_of_getElem? (i := 519) (by decide +kernel)) (by decide +kernel)
theorem q520 : (Jvm.Cond.methodLink "ShadowPoolLaw$Sim" (114 : Nat) ({ cls := "ShadowPool", name := "limit", desc := "()I" } : Jvm.MethodName)) ∈ lw_all := lw_in (List.mem_of_getElem? (i := 520) (by decide +kernel)) (by decide +kernel)
theorem q521 : (Jvm.Cond.methodLink "ShadowPoolLaw$Sim" (116 : Nat) ({ cls := "ShadowPool", name := "reinsurersLoss", desc := "()I" } : Jvm.MethodName)) ∈ lw_all := lw_in (List.mem_of_getElem? (i := 521) (by decide +kernel)) (by decide +kernel)
theorem q522 : (Jvm.Cond.methodLink "ShadowPoolLaw$Sim" (119 : Nat) ({ cls := "ShadowPool", name := "meanShadow", desc := "()D" } : Jvm.MethodName)) ∈ lw_all := lw_in (List.mem_of_getElem? (i := 522) (by decide +kernel)) (by decide +kernel)
theorem q523 : (Jvm.Cond.instanceMethod ({ cls := "ShadowPool", name := "meanShadow", desc := "()D" } : Jvm.MethodName)) ∈ lw_all := lw_in (List.mem_of_getElem? (i := 523) (by decide +kernel)) (by decide +kernel)
theorem q524 : (Jvm.Cond.selects "ShadowPool" ({ cls := "ShadowPool", name := "meanShadow", desc := "()D" } : Jvm.MethodName) ({ cls := "ShadowPool", name := "meanShadow", desc := "()D" } : Jvm.MethodName)) ∈ lw_all := lw_in (List.mem_of_getElem? (i := 524) (by decide +kernel)) (by decide +kernel)
theorem q525 : (Jvm.Cond.code ({ cls := "ShadowPool", name := "meanShadow", desc := "()D" } : Jvm.MethodName) prog_1_method_36_code (4 : Nat) (Option.some Jvm.ClassFile.FieldType.double)) ∈ lw_all := lw_in (List.mem_of_getElem? (i := 525) (by decide +kernel)) (by decide +kernel)
theorem q526 : (Jvm.Cond.methodLink "ShadowPoolLaw" (15 : Nat) ({ cls := "ShadowPoolLaw", name := "below", desc := "(II)I" } : Jvm.MethodName)) ∈ lw_all := lw_in (List.mem_of_getElem? (i := 526) (by decide +kernel)) (by decide +kernel)
theorem q527 : (Jvm.Cond.static ({ cls := "ShadowPoolLaw", name := "below", desc := "(II)I" } : Jvm.MethodName)) ∈ lw_all := lw_in (List.mem_of_getElem? (i := 527) (by decide +kernel)) (by decide +kernel)
theorem q528 : (Jvm.Cond.code ({ cls := "ShadowPoolLaw", name := "below", desc := "(II)I" } : Jvm.MethodName) method_2_code (2 : Nat) (Option.some Jvm.ClassFile.FieldType.int)) ∈ lw_all := lw_in (List.mem_of_getElem? (i := 528) (by decide +kernel)) (by decide +kernel)
theorem q529 : (Jvm.Cond.constant "ShadowPoolLaw" (7 : Nat) (2147483647 : Int32)) ∈ lw_all := lw_in (List.mem_of_getElem? (i := 529) (by decide +kernel)) (by decide +kernel)
theorem q530 : (Jvm.Cond.methodLink "ShadowPoolLaw" (65 : Nat) ({ cls := "ShadowPoolLaw", name := "cell", desc := "([II)I" } : Jvm.MethodName)) ∈ lw_all := lw_in (List.mem_of_getElem? (i := 530) (by decide +kernel)) (by decide +kernel)
theorem q531 : (Jvm.Cond.static ({ cls := "ShadowPoolLaw", name := "cell", desc := "([II)I" } : Jvm.MethodName)) ∈ lw_all := lw_in (List.mem_of_getElem? (i := 531) (by decide +kernel)) (by decide +kernel)
theorem q532 : (Jvm.Cond.code ({ cls := "ShadowPoolLaw", name := "cell", desc := "([II)I" } : Jvm.MethodName) method_3_code (2 : Nat) (Option.some Jvm.ClassFile.FieldType.int)) ∈ lw_all := lw_in (List.mem_of_getElem? (i := 532) (by decide +kernel)) (by decide +kernel)
theorem q533 : (Jvm.Cond.constant "ShadowPoolLaw" (8 : Nat) (790386105 : Int32)) ∈ lw_all := lw_in (List.mem_of_getElem? (i := 533) (by decide +kernel)) (by decide +kernel)
theorem q534 : (Jvm.Cond.methodLink "ShadowPoolLaw" (69 : Nat) ({ cls := "ShadowPoolLaw", name := "act", desc := "(LShadowPool;LShadowPoolLaw$Sim;I)Z" } : Jvm.MethodName)) ∈ lw_all := lw_in (List.mem_of_getElem? (i := 534) (by decide +kernel)) (by decide +kernel)
theorem q535 : (Jvm.Cond.static ({ cls := "ShadowPoolLaw", name := "act", desc := "(LShadowPool;LShadowPoolLaw$Sim;I)Z" } : Jvm.MethodName)) ∈ lw_all := lw_in (List.mem_of_getElem? (i := 535) (by decide +kernel)) (by decide +kernel)
theorem q536 : (Jvm.Cond.codeWith ({ cls := "ShadowPoolLaw", name := "act", desc := "(LShadowPool;LShadowPoolLaw$Sim;I)Z" } : Jvm.MethodName) method_4_code (9 : Nat) (Option.some Jvm.ClassFile.FieldType.boolean) [((26 : Nat), (174 : Nat), (509 : Nat), (62 : Nat)), ((175 : Nat), (227 : Nat), (509 : Nat), (62 : Nat)), ((228 : Nat), (282 : Nat), (509 : Nat), (62 : Nat)), ((283 : Nat), (320 : Nat), (509 : Nat), (62 : Nat)), ((321 : Nat), (357 : Nat), (509 : Nat), (62 : Nat)), ((358 : Nat), (459 : Nat), (509 : Nat), (62 : Nat)), ((460 : Nat), (508 : Nat), (509 : Nat), (62 : Nat))]) ∈ lw_all := lw_in (List.mem_of_getElem? (i := 536) (by decide +kernel)) (by decide +kernel)
theorem q537 : (Jvm.Cond.classLink "ShadowPoolLaw" (62 : Nat) "java/lang/IllegalStateException") ∈ lw_all := lw_in (List.mem_of_getElem? (i := 537) (by decide +kernel)) (by decide +kernel)
theorem q538 : (Jvm.Cond.methodLink "ShadowPoolLaw" (21 : Nat) ({ cls := "ShadowPoolLaw$Sim", name := "add", desc := "(III)V" } : Jvm.MethodName)) ∈ lw_all := lw_in (List.mem_of_getElem? (i := 538) (by decide +kernel)) (by decide +kernel)
theorem q539 : (Jvm.Cond.instanceMethod ({ cls := "ShadowPoolLaw$Sim", name := "add", desc := "(III)V" } : Jvm.MethodName)) ∈ lw_all := lw_in (List.mem_of_getElem? (i := 539) (by decide +kernel)) (by decide +kernel)
theorem q540 : (Jvm.Cond.selects "ShadowPoolLaw$Sim" ({ cls := "ShadowPoolLaw$Sim", name := "add", desc := "(III)V" } : Jvm.MethodName) ({ cls := "ShadowPoolLaw$Sim", name := "add", desc := "(III)V" } : Jvm.MethodName)) ∈ lw_all := lw_in (List.mem_of_getElem? (i := 540) (by decide +kernel)) (by decide +kernel)
theorem q541 : (Jvm.Cond.code ({ cls := "ShadowPoolLaw$Sim", name := "add", desc := "(III)V" } : Jvm.MethodName) prog_5_method_2_code (6 : Nat) (Option.none : Option Jvm.ClassFile.FieldType)) ∈ lw_all := lw_in (List.mem_of_getElem? (i := 541) (by decide +kernel)) (by decide +kernel)
theorem q542 : (Jvm.Cond.methodLink "ShadowPoolLaw" (25 : Nat) ({ cls := "ShadowPool", name := "addWalker", desc := "(III)I" } : Jvm.MethodName)) ∈ lw_all := lw_in (List.mem_of_getElem? (i := 542) (by decide +kernel)) (by decide +kernel)
theorem q543 : (Jvm.Cond.instanceMethod ({ cls := "ShadowPool", name := "addWalker", desc := "(III)I" } : Jvm.MethodName)) ∈ lw_all := lw_in (List.mem_of_getElem? (i := 543) (by decide +kernel)) (by decide +kernel)
theorem q544 : (Jvm.Cond.selects "ShadowPool" ({ cls := "ShadowPool", name := "addWalker", desc := "(III)I" } : Jvm.MethodName) ({ cls := "ShadowPool", name := "addWalker", desc := "(III)I" } : Jvm.MethodName)) ∈ lw_all := lw_in (List.mem_of_getElem? (i := 544) (by decide +kernel)) (by decide +kernel)
theorem q545 : (Jvm.Cond.code ({ cls := "ShadowPool", name := "addWalker", desc := "(III)I" } : Jvm.MethodName) prog_1_method_2_code (5 : Nat) (Option.some Jvm.ClassFile.FieldType.int)) ∈ lw_all := lw_in (List.mem_of_getElem? (i := 545) (by decide +kernel)) (by decide +kernel)
theorem q551 : (Jvm.Cond.instanceMethod ({ cls := "ShadowPool$Book", name := "enter", desc := "(III)I" } : Jvm.MethodName)) ∈ lw_all := lw_in (List.mem_of_getElem? (i := 551) (by decide +kernel)) (by decide +kernel)
theorem q552 : (Jvm.Cond.code ({ cls := "ShadowPool$Book", name := "enter", desc := "(III)I" } : Jvm.MethodName) prog_2_method_3_code (5 : Nat) (Option.some Jvm.ClassFile.FieldType.int)) ∈ lw_all := lw_in (List.mem_of_getElem? (i := 552) (by decide +kernel)) (by decide +kernel)
theorem q555 : (Jvm.Cond.instanceMethod ({ cls := "ShadowPool$Walker", name := "begin", desc := "(III)V" } : Jvm.MethodName)) ∈ lw_all := lw_in (List.mem_of_getElem? (i := 555) (by decide +kernel)) (by decide +kernel)
theorem q556 : (Jvm.Cond.code ({ cls := "ShadowPool$Walker", name := "begin", desc := "(III)V" } : Jvm.MethodName) prog_3_method_2_code (4 : Nat) (Option.none : Option Jvm.ClassFile.FieldType)) ∈ lw_all := lw_in (List.mem_of_getElem? (i := 556) (by decide +kernel)) (by decide +kernel)
theorem q557 : (Jvm.Cond.classLink "ShadowPool" (38 : Nat) "java/lang/IllegalStateException") ∈ lw_all := lw_in (List.mem_of_getElem? (i := 557) (by decide +kernel)) (by decide +kernel)
theorem q558 : (Jvm.Cond.instantiable "java/lang/IllegalStateException" (6 : Nat)) ∈ lw_all := lw_in (List.mem_of_getElem? (i := 558) (by decide +kernel)) (by decide +kernel)
theorem qt559 : (Jvm.Cond.castable "java/lang/IllegalStateException" "java/lang/IllegalStateException") ∈ tables_1 := List.mem_of_getElem? (i := 559) (by decide +kernel)
theorem q560 : (Jvm.Cond.selects "java/lang/IllegalStateException" ({ cls := "java/lang/Throwable", name := "fillInStackTrace", desc := "(I)Ljava/lang/Throwable;" } : Jvm.MethodName) ({ cls := "java/lang/Throwable", name := "fillInStackTrace", desc := "(I)Ljava/lang/Throwable;" } : Jvm.MethodName)) ∈ lw_all := lw_in (List.mem_of_getElem? (i := 560) (by decide +kernel)) (by decide +kernel)
theorem q561 : (Jvm.Cond.lays "java/lang/IllegalStateException" "java/lang/Throwable" "cause" "Ljava/lang/Throwable;") ∈ lw_all := lw_in (List.mem_of_getElem? (i := 561) (by decide +kernel)) (by decide +kernel)
theorem q562 : (Jvm.Cond.lays "java/lang/IllegalStateException" "java/lang/Throwable" "stackTrace" "[Ljava/lang/StackTraceElement;") ∈ lw_all := lw_in (List.mem_of_getElem? (i := 562) (by decide +kernel)) (by decide +kernel)
theorem q563 : (Jvm.Cond.lays "java/lang/IllegalStateException" "java/lang/Throwable" "suppressedExceptions" "Ljava/util/List;") ∈ lw_all := lw_in (List.mem_of_getElem? (i := 563) (by decide +kernel)) (by decide +kernel)
theorem q564 : (Jvm.Cond.lays "java/lang/IllegalStateException" "java/lang/Throwable" "detailMessage" "Ljava/lang/String;") ∈ lw_all := lw_in (List.mem_of_getElem? (i := 564) (by decide +kernel)) (by decide +kernel)
theorem q565 : (Jvm.Cond.lays "java/lang/IllegalStateException" "java/lang/Throwable" "backtrace" "Ljava/lang/Object;") ∈ lw_all := lw_in (List.mem_of_getElem? (i := 565) (by decide +kernel)) (by decide +kernel)
theorem q567 : (Jvm.Cond.methodLink "ShadowPool" (42 : Nat) ({ cls := "java/lang/IllegalStateException", name := "<init>", desc := "(Ljava/lang/String;)V" } : Jvm.MethodName)) ∈ lw_all := lw_in (List.mem_of_getElem? (i := 567) (by decide +kernel)) (by decide +kernel)
theorem q568 : (Jvm.Cond.instanceMethod ({ cls := "java/lang/IllegalStateException", name := "<init>", desc := "(Ljava/lang/String;)V" } : Jvm.MethodName)) ∈ lw_all := lw_in (List.mem_of_getElem? (i := 568) (by decide +kernel)) (by decide +kernel)
theorem q569 : (Jvm.Cond.code ({ cls := "java/lang/IllegalStateException", name := "<init>", desc := "(Ljava/lang/String;)V" } : Jvm.MethodName) prog_10_method_2_code (2 : Nat) (Option.none : Option Jvm.ClassFile.FieldType)) ∈ lw_all := lw_in (List.mem_of_getElem? (i := 569) (by decide +kernel)) (by decide +kernel)
theorem q570 : (Jvm.Cond.methodLink "java/lang/IllegalStateException" (7 : Nat) ({ cls := "java/lang/RuntimeException", name := "<init>", desc := "(Ljava/lang/String;)V" } : Jvm.MethodName)) ∈ lw_all := lw_in (List.mem_of_getElem? (i := 570) (by decide +kernel)) (by decide +kernel)
theorem q571 : (Jvm.Cond.lays "java/lang/IllegalStateException" "java/lang/Throwable" "depth" "I") ∈ lw_all := lw_in (List.mem_of_getElem? (i := 571) (by decide +kernel)) (by decide +kernel)
theorem q572 : (Jvm.Cond.superclass "java/lang/IllegalStateException" "java/lang/RuntimeException") ∈ lw_all := lw_in (List.mem_of_getElem? (i := 572) (by decide +kernel)) (by decide +kernel)
theorem q573 : (Jvm.Cond.methodLink "ShadowPoolLaw" (31 : Nat) ({ cls := "ShadowPool", name := "turnMember", desc := "(I)Z" } : Jvm.MethodName)) ∈ lw_all := lw_in (List.mem_of_getElem? (i := 573) (by decide +kernel)) (by decide +kernel)
theorem q574 : (Jvm.Cond.instanceMethod ({ cls := "ShadowPool", name := "turnMember", desc := "(I)Z" } : Jvm.MethodName)) ∈ lw_all := lw_in (List.mem_of_getElem? (i := 574) (by decide +kernel)) (by decide +kernel)
theorem q575 : (Jvm.Cond.selects "ShadowPool" ({ cls := "ShadowPool", name := "turnMember", desc := "(I)Z" } : Jvm.MethodName) ({ cls := "ShadowPool", name := "turnMember", desc := "(I)Z" } : Jvm.MethodName)) ∈ lw_all := lw_in (List.mem_of_getElem? (i := 575) (by decide +kernel)) (by decide +kernel)
theorem q576 : (Jvm.Cond.code ({ cls := "ShadowPool", name := "turnMember", desc := "(I)Z" } : Jvm.MethodName) prog_1_method_3_code (3 : Nat) (Option.some Jvm.ClassFile.FieldType.boolean)) ∈ lw_all := lw_in (List.mem_of_getElem? (i := 576) (by decide +kernel)) (by decide +kernel)
theorem q577 : (Jvm.Cond.methodLink "ShadowPoolLaw" (35 : Nat) ({ cls := "ShadowPool", name := "setNet", desc := "(II)I" } : Jvm.MethodName)) ∈ lw_all := lw_in (List.mem_of_getElem? (i := 577) (by decide +kernel)) (by decide +kernel)
theorem q578 : (Jvm.Cond.instanceMethod ({ cls := "ShadowPool", name := "setNet", desc := "(II)I" } : Jvm.MethodName)) ∈ lw_all := lw_in (List.mem_of_getElem? (i := 578) (by decide +kernel)) (by decide +kernel)
theorem q579 : (Jvm.Cond.selects "ShadowPool" ({ cls := "ShadowPool", name := "setNet", desc := "(II)I" } : Jvm.MethodName) ({ cls := "ShadowPool", name := "setNet", desc := "(II)I" } : Jvm.MethodName)) ∈ lw_all := lw_in (List.mem_of_getElem? (i := 579) (by decide +kernel)) (by decide +kernel)
theorem q580 : (Jvm.Cond.code ({ cls := "ShadowPool", name := "setNet", desc := "(II)I" } : Jvm.MethodName) prog_1_method_4_code (5 : Nat) (Option.some Jvm.ClassFile.FieldType.int)) ∈ lw_all := lw_in (List.mem_of_getElem? (i := 580) (by decide +kernel)) (by decide +kernel)
theorem q581 : (Jvm.Cond.methodLink "ShadowPoolLaw" (38 : Nat) ({ cls := "ShadowPool", name := "rest", desc := "(I)I" } : Jvm.MethodName)) ∈ lw_all := lw_in (List.mem_of_getElem? (i := 581) (by decide +kernel)) (by decide +kernel)
theorem q582 : (Jvm.Cond.instanceMethod ({ cls := "ShadowPool", name := "rest", desc := "(I)I" } : Jvm.MethodName)) ∈ lw_all := lw_in (List.mem_of_getElem? (i := 582) (by decide +kernel)) (by decide +kernel)
theorem q583 : (Jvm.Cond.selects "ShadowPool" ({ cls := "ShadowPool", name := "rest", desc := "(I)I" } : Jvm.MethodName) ({ cls := "ShadowPool", name := "rest", desc := "(I)I" } : Jvm.MethodName)) ∈ lw_all := lw_in (List.mem_of_getElem? (i := 583) (by decide +kernel)) (by decide +kernel)
theorem q584 : (Jvm.Cond.code ({ cls := "ShadowPool", name := "rest", desc := "(I)I" } : Jvm.MethodName) prog_1_method_5_code (4 : Nat) (Option.some Jvm.ClassFile.FieldType.int)) ∈ lw_all := lw_in (List.mem_of_getElem? (i := 584) (by decide +kernel)) (by decide +kernel)
theorem q585 : (Jvm.Cond.methodLink "ShadowPoolLaw" (46 : Nat) ({ cls := "ShadowPool", name := "setRate", desc := "(I)I" } : Jvm.MethodName)) ∈ lw_all := lw_in (List.mem_of_getElem? (i := 585) (by decide +kernel)) (by decide +kernel)
theorem q586 : (Jvm.Cond.instanceMethod ({ cls := "ShadowPool", name := "setRate", desc := "(I)I" } : Jvm.MethodName)) ∈ lw_all := lw_in (List.mem_of_getElem? (i := 586) (by decide +kernel)) (by decide +kernel)
theorem q587 : (Jvm.Cond.selects "ShadowPool" ({ cls := "ShadowPool", name := "setRate", desc := "(I)I" } : Jvm.MethodName) ({ cls := "ShadowPool", name := "setRate", desc := "(I)I" } : Jvm.MethodName)) ∈ lw_all := lw_in (List.mem_of_getElem? (i := 587) (by decide +kernel)) (by decide +kernel)
theorem q588 : (Jvm.Cond.code ({ cls := "ShadowPool", name := "setRate", desc := "(I)I" } : Jvm.MethodName) prog_1_method_6_code (3 : Nat) (Option.some Jvm.ClassFile.FieldType.int)) ∈ lw_all := lw_in (List.mem_of_getElem? (i := 588) (by decide +kernel)) (by decide +kernel)
theorem q590 : (Jvm.Cond.methodLink "ShadowPoolLaw" (55 : Nat) ({ cls := "ShadowPool", name := "reinsure", desc := "(II)I" } : Jvm.MethodName)) ∈ lw_all := lw_in (List.mem_of_getElem? (i := 590) (by decide +kernel)) (by decide +kernel)
theorem q591 : (Jvm.Cond.instanceMethod ({ cls := "ShadowPool", name := "reinsure", desc := "(II)I" } : Jvm.MethodName)) ∈ lw_all := lw_in (List.mem_of_getElem? (i := 591) (by decide +kernel)) (by decide +kernel)
theorem q592 : (Jvm.Cond.selects "ShadowPool" ({ cls := "ShadowPool", name := "reinsure", desc := "(II)I" } : Jvm.MethodName) ({ cls := "ShadowPool", name := "reinsure", desc := "(II)I" } : Jvm.MethodName)) ∈ lw_all := lw_in (List.mem_of_getElem? (i := 592) (by decide +kernel)) (by decide +kernel)
theorem q593 : (Jvm.Cond.code ({ cls := "ShadowPool", name := "reinsure", desc := "(II)I" } : Jvm.MethodName) prog_1_method_7_code (4 : Nat) (Option.some Jvm.ClassFile.FieldType.int)) ∈ lw_all := lw_in (List.mem_of_getElem? (i := 593) (by decide +kernel)) (by decide +kernel)
theorem q596 : (Jvm.Cond.methodLink "ShadowPoolLaw" (74 : Nat) ({ cls := "ShadowPoolLaw", name := "build", desc := "(LShadowPool;[I)LShadowPoolLaw$Sim;" } : Jvm.MethodName)) ∈ lw_all := lw_in (List.mem_of_getElem? (i := 596) (by decide +kernel)) (by decide +kernel)
theorem q597 : (Jvm.Cond.static ({ cls := "ShadowPoolLaw", name := "build", desc := "(LShadowPool;[I)LShadowPoolLaw$Sim;" } : Jvm.MethodName)) ∈ lw_all := lw_in (List.mem_of_getElem? (i := 597) (by decide +kernel)) (by decide +kernel)
theorem q598 : (Jvm.Cond.code ({ cls := "ShadowPoolLaw", name := "build", desc := "(LShadowPool;[I)LShadowPoolLaw$Sim;" } : Jvm.MethodName) method_5_code (6 : Nat) (Option.some (Jvm.ClassFile.FieldType.object "ShadowPoolLaw$Sim"))) ∈ lw_all := lw_in (List.mem_of_getElem? (i := 598) (by decide +kernel)) (by decide +kernel)
theorem q599 : (Jvm.Cond.classLink "ShadowPoolLaw" (10 : Nat) "ShadowPoolLaw$Sim") ∈ lw_all := lw_in (List.mem_of_getElem? (i := 599) (by decide +kernel)) (by decide +kernel)
theorem q601 : (Jvm.Cond.methodLink "ShadowPoolLaw" (178 : Nat) ({ cls := "java/lang/Math", name := "abs", desc := "(I)I" } : Jvm.MethodName)) ∈ lw_all := lw_in (List.mem_of_getElem? (i := 601) (by decide +kernel)) (by decide +kernel)
theorem q602 : (Jvm.Cond.static ({ cls := "java/lang/Math", name := "abs", desc := "(I)I" } : Jvm.MethodName)) ∈ lw_all := lw_in (List.mem_of_getElem? (i := 602) (by decide +kernel)) (by decide +kernel)
theorem q603 : (Jvm.Cond.code ({ cls := "java/lang/Math", name := "abs", desc := "(I)I" } : Jvm.MethodName) prog_12_method_59_code (1 : Nat) (Option.some Jvm.ClassFile.FieldType.int)) ∈ lw_all := lw_in (List.mem_of_getElem? (i := 603) (by decide +kernel)) (by decide +kernel)
theorem q604 : (Jvm.Cond.methodLink "ShadowPoolLaw" (175 : Nat) ({ cls := "java/lang/Math", name := "max", desc := "(II)I" } : Jvm.MethodName)) ∈ lw_all := lw_in (List.mem_of_getElem? (i := 604) (by decide +kernel)) (by decide +kernel)
theorem q605 : (Jvm.Cond.methodLink "ShadowPoolLaw" (92 : Nat) ({ cls := "java/lang/Math", name := "min", desc := "(II)I" } : Jvm.MethodName)) ∈ lw_all := lw_in (List.mem_of_getElem? (i := 605) (by decide +kernel)) (by decide +kernel)
theorem q606 : (Jvm.Cond.sameMethod "java/lang/Throwable" "java/lang/Throwable" "fillInStackTrace" "(I)Ljava/lang/Throwable;") ∈ lw_all := lw_in (List.mem_of_getElem? (i := 606) (by decide +kernel)) (by decide +kernel)
theorem qs0 : Cond.selects "java/lang/Throwable" (⟨"java/lang/Throwable", "fillInStackTrace", "(I)Ljava/lang/Throwable;"⟩ : MethodName) ⟨"java/lang/Throwable", "fillInStackTrace", "(I)Ljava/lang/Throwable;"⟩ ∈ lw_all := lw_inS (List.mem_of_getElem? (i := 0) (by decide +kernel)) (by decide +kernel)
theorem qs1 : Cond.selects "ShadowPool$Book" (⟨"ShadowPool$Book", "letGoBy", "(I)I"⟩ : MethodName) ⟨"ShadowPool$Book", "letGoBy", "(I)I"⟩ ∈ lw_all := lw_inS (List.mem_of_getElem? (i := 1) (by decide +kernel)) (by decide +kernel)
theorem qs2 : Cond.selects "ShadowPool$Book" (⟨"ShadowPool$Book", "letOneHourGoBy", "()I"⟩ : MethodName) ⟨"ShadowPool$Book", "letOneHourGoBy", "()I"⟩ ∈ lw_all := lw_inS (List.mem_of_getElem? (i := 2) (by decide +kernel)) (by decide +kernel)
theorem qs3 : Cond.selects "ShadowPool$Book" (⟨"ShadowPool$Book", "payDues", "()V"⟩ : MethodName) ⟨"ShadowPool$Book", "payDues", "()V"⟩ ∈ lw_all := lw_inS (List.mem_of_getElem? (i := 3) (by decide +kernel)) (by decide +kernel)
theorem qs4 : Cond.selects "ShadowPool$Book" (⟨"ShadowPool$Book", "countMembers", "()I"⟩ : MethodName) ⟨"ShadowPool$Book", "countMembers", "()I"⟩ ∈ lw_all := lw_inS (List.mem_of_getElem? (i := 4) (by decide +kernel)) (by decide +kernel)
theorem qs5 : Cond.selects "ShadowPool$Book" (⟨"ShadowPool$Book", "find", "(I)LShadowPool$Walker;"⟩ : MethodName) ⟨"ShadowPool$Book", "find", "(I)LShadowPool$Walker;"⟩ ∈ lw_all := lw_inS (List.mem_of_getElem? (i := 5) (by decide +kernel)) (by decide +kernel)
theorem qs6 : Cond.selects "ShadowPool$Book" (⟨"ShadowPool$Book", "walk", "(LShadowPool$Walker;IZ)Z"⟩ : MethodName) ⟨"ShadowPool$Book", "walk", "(LShadowPool$Walker;IZ)Z"⟩ ∈ lw_all := lw_inS (List.mem_of_getElem? (i := 6) (by decide +kernel)) (by decide +kernel)
theorem qs7 : Cond.selects "ShadowPool$Walker" (⟨"ShadowPool$Walker", "wobbleBehind", "(IZ)I"⟩ : MethodName) ⟨"ShadowPool$Walker", "wobbleBehind", "(IZ)I"⟩ ∈ lw_all := lw_inS (List.mem_of_getElem? (i := 7) (by decide +kernel)) (by decide +kernel)
theorem qs8 : Cond.selects "ShadowPool$Walker" (⟨"ShadowPool$Walker", "costUnder", "(I)I"⟩ : MethodName) ⟨"ShadowPool$Walker", "costUnder", "(I)I"⟩ ∈ lw_all := lw_inS (List.mem_of_getElem? (i := 8) (by decide +kernel)) (by decide +kernel)
theorem qs9 : Cond.selects "ShadowPool$Walker" (⟨"ShadowPool$Walker", "shadowUnder", "(I)I"⟩ : MethodName) ⟨"ShadowPool$Walker", "shadowUnder", "(I)I"⟩ ∈ lw_all := lw_inS (List.mem_of_getElem? (i := 9) (by decide +kernel)) (by decide +kernel)
theorem qs10 : Cond.selects "ShadowPool$Walker" (⟨"ShadowPool$Walker", "ownPart", "(IZ)I"⟩ : MethodName) ⟨"ShadowPool$Walker", "ownPart", "(IZ)I"⟩ ∈ lw_all := lw_inS (List.mem_of_getElem? (i := 10) (by decide +kernel)) (by decide +kernel)
theorem qs11 : Cond.selects "ShadowPool$Book" (⟨"ShadowPool$Book", "reinsuredPart", "(I)I"⟩ : MethodName) ⟨"ShadowPool$Book", "reinsuredPart", "(I)I"⟩ ∈ lw_all := lw_inS (List.mem_of_getElem? (i := 11) (by decide +kernel)) (by decide +kernel)
theorem qs12 : Cond.selects "ShadowPool$Walker" (⟨"ShadowPool$Walker", "fall", "()V"⟩ : MethodName) ⟨"ShadowPool$Walker", "fall", "()V"⟩ ∈ lw_all := lw_inS (List.mem_of_getElem? (i := 12) (by decide +kernel)) (by decide +kernel)
theorem qs13 : Cond.selects "ShadowPool" (⟨"ShadowPool", "claimNow", "(LShadowPool$Walker;)I"⟩ : MethodName) ⟨"ShadowPool", "claimNow", "(LShadowPool$Walker;)I"⟩ ∈ lw_all := lw_inS (List.mem_of_getElem? (i := 13) (by decide +kernel)) (by decide +kernel)
theorem qs14 : Cond.selects "ShadowPool$Walker" (⟨"ShadowPool$Walker", "fallsBehind", "(I)I"⟩ : MethodName) ⟨"ShadowPool$Walker", "fallsBehind", "(I)I"⟩ ∈ lw_all := lw_inS (List.mem_of_getElem? (i := 14) (by decide +kernel)) (by decide +kernel)
theorem qs15 : Cond.selects "ShadowPool" (⟨"ShadowPool", "fundBehind", "(III)I"⟩ : MethodName) ⟨"ShadowPool", "fundBehind", "(III)I"⟩ ∈ lw_all := lw_inS (List.mem_of_getElem? (i := 15) (by decide +kernel)) (by decide +kernel)
theorem qs16 : Cond.selects "ShadowPool$Book" (⟨"ShadowPool$Book", "copyFrom", "(LShadowPool$Book;)V"⟩ : MethodName) ⟨"ShadowPool$Book", "copyFrom", "(LShadowPool$Book;)V"⟩ ∈ lw_all := lw_inS (List.mem_of_getElem? (i := 16) (by decide +kernel)) (by decide +kernel)
theorem qs17 : Cond.selects "ShadowPool$Walker" (⟨"ShadowPool$Walker", "copyWalker", "(LShadowPool$Walker;)V"⟩ : MethodName) ⟨"ShadowPool$Walker", "copyWalker", "(LShadowPool$Walker;)V"⟩ ∈ lw_all := lw_inS (List.mem_of_getElem? (i := 17) (by decide +kernel)) (by decide +kernel)
theorem qs18 : Cond.selects "ShadowPool" (⟨"ShadowPool", "chainWalker", "(JLShadowPool$Walker;)J"⟩ : MethodName) ⟨"ShadowPool", "chainWalker", "(JLShadowPool$Walker;)J"⟩ ∈ lw_all := lw_inS (List.mem_of_getElem? (i := 18) (by decide +kernel)) (by decide +kernel)
theorem qs19 : Cond.selects "ShadowPool$Book" (⟨"ShadowPool$Book", "enter", "(III)I"⟩ : MethodName) ⟨"ShadowPool$Book", "enter", "(III)I"⟩ ∈ lw_all := lw_inS (List.mem_of_getElem? (i := 19) (by decide +kernel)) (by decide +kernel)
theorem qs20 : Cond.selects "ShadowPool$Walker" (⟨"ShadowPool$Walker", "begin", "(III)V"⟩ : MethodName) ⟨"ShadowPool$Walker", "begin", "(III)V"⟩ ∈ lw_all := lw_inS (List.mem_of_getElem? (i := 20) (by decide +kernel)) (by decide +kernel)
def lw_nestB : Cond → Bool
  | .fieldLinkNest .. => true
  | .methodLinkNest .. => true
  | _ => false
def lw_nest : List Cond := [(Jvm.Cond.methodLinkNest "ShadowPool" (9 : Nat) ({ cls := "ShadowPool$Book", name := "<init>", desc := "()V" } : Jvm.MethodName) "ShadowPool"), (Jvm.Cond.methodLinkNest "ShadowPool$Book" (39 : Nat) ({ cls := "ShadowPool$Walker", name := "<init>", desc := "()V" } : Jvm.MethodName) "ShadowPool"), (Jvm.Cond.fieldLinkNest "ShadowPool" (58 : Nat) "ShadowPool$Walker" "net" "I" "ShadowPool"), (Jvm.Cond.fieldLinkNest "ShadowPool" (62 : Nat) "ShadowPool$Walker" "wobble" "I" "ShadowPool"), (Jvm.Cond.fieldLinkNest "ShadowPool$Book" (90 : Nat) "ShadowPool$Walker" "wobble" "I" "ShadowPool"), (Jvm.Cond.fieldLinkNest "ShadowPool" (112 : Nat) "ShadowPool$Walker" "falls" "I" "ShadowPool"), (Jvm.Cond.fieldLinkNest "ShadowPool" (52 : Nat) "ShadowPool$Walker" "member" "Z" "ShadowPool"), (Jvm.Cond.fieldLinkNest "ShadowPool$Book" (52 : Nat) "ShadowPool$Walker" "member" "Z" "ShadowPool"), (Jvm.Cond.fieldLinkNest "ShadowPool" (86 : Nat) "ShadowPool$Book" "hour" "I" "ShadowPool"), (Jvm.Cond.fieldLinkNest "ShadowPool" (139 : Nat) "ShadowPool$Book" "fund" "I" "ShadowPool"), (Jvm.Cond.fieldLinkNest "ShadowPool" (67 : Nat) "ShadowPool$Book" "rate" "I" "ShadowPool"), (Jvm.Cond.fieldLinkNest "ShadowPool" (77 : Nat) "ShadowPool$Book" "retention" "I" "ShadowPool"), (Jvm.Cond.fieldLinkNest "ShadowPool" (74 : Nat) "ShadowPool$Book" "limit" "I" "ShadowPool"), (Jvm.Cond.fieldLinkNest "ShadowPool" (142 : Nat) "ShadowPool$Book" "reinsurersLoss" "I" "ShadowPool"), (Jvm.Cond.fieldLinkNest "ShadowPool" (105 : Nat) "ShadowPool$Book" "count" "I" "ShadowPool"), (Jvm.Cond.methodLinkNest "ShadowPool" (82 : Nat) ({ cls := "ShadowPool$Book", name := "letGoBy", desc := "(I)I" } : Jvm.MethodName) "ShadowPool"), (Jvm.Cond.methodLinkNest "ShadowPool$Book" (69 : Nat) ({ cls := "ShadowPool", name := "hourOfDay", desc := "(I)I" } : Jvm.MethodName) "ShadowPool"), (Jvm.Cond.methodLinkNest "ShadowPool$Book" (76 : Nat) ({ cls := "ShadowPool", name := "sunAt", desc := "(I)I" } : Jvm.MethodName) "ShadowPool"), (Jvm.Cond.methodLinkNest "ShadowPool$Book" (79 : Nat) ({ cls := "ShadowPool", name := "noonAt", desc := "(I)Z" } : Jvm.MethodName) "ShadowPool"), (Jvm.Cond.methodLinkNest "ShadowPool$Book" (93 : Nat) ({ cls := "ShadowPool$Walker", name := "wobbleBehind", desc := "(IZ)I" } : Jvm.MethodName) "ShadowPool"), (Jvm.Cond.methodLinkNest "ShadowPool$Book" (97 : Nat) ({ cls := "ShadowPool$Walker", name := "costUnder", desc := "(I)I" } : Jvm.MethodName) "ShadowPool"), (Jvm.Cond.methodLinkNest "ShadowPool$Book" (100 : Nat) ({ cls := "ShadowPool$Walker", name := "ownPart", desc := "(IZ)I" } : Jvm.MethodName) "ShadowPool"), (Jvm.Cond.methodLinkNest "ShadowPool$Book" (106 : Nat) ({ cls := "ShadowPool$Walker", name := "fall", desc := "()V" } : Jvm.MethodName) "ShadowPool"), (Jvm.Cond.methodLinkNest "ShadowPool" (108 : Nat) ({ cls := "ShadowPool$Book", name := "countMembers", desc := "()I" } : Jvm.MethodName) "ShadowPool"), (Jvm.Cond.methodLinkNest "ShadowPool" (43 : Nat) ({ cls := "ShadowPool$Book", name := "find", desc := "(I)LShadowPool$Walker;" } : Jvm.MethodName) "ShadowPool"), (Jvm.Cond.methodLinkNest "ShadowPool" (118 : Nat) ({ cls := "ShadowPool$Walker", name := "shadowUnder", desc := "(I)I" } : Jvm.MethodName) "ShadowPool"), (Jvm.Cond.methodLinkNest "ShadowPool" (121 : Nat) ({ cls := "ShadowPool$Walker", name := "costUnder", desc := "(I)I" } : Jvm.MethodName) "ShadowPool"), (Jvm.Cond.methodLinkNest "ShadowPool" (128 : Nat) ({ cls := "ShadowPool$Walker", name := "ownPart", desc := "(IZ)I" } : Jvm.MethodName) "ShadowPool"), (Jvm.Cond.methodLinkNest "ShadowPool" (136 : Nat) ({ cls := "ShadowPool$Book", name := "reinsuredPart", desc := "(I)I" } : Jvm.MethodName) "ShadowPool"), (Jvm.Cond.methodLinkNest "ShadowPool" (145 : Nat) ({ cls := "ShadowPool$Walker", name := "fallsBehind", desc := "(I)I" } : Jvm.MethodName) "ShadowPool"), (Jvm.Cond.methodLinkNest "ShadowPool$Walker" (44 : Nat) ({ cls := "ShadowPool", name := "hourOfDay", desc := "(I)I" } : Jvm.MethodName) "ShadowPool"), (Jvm.Cond.methodLinkNest "ShadowPool$Walker" (47 : Nat) ({ cls := "ShadowPool", name := "noonAt", desc := "(I)Z" } : Jvm.MethodName) "ShadowPool"), (Jvm.Cond.methodLinkNest "ShadowPool" (151 : Nat) ({ cls := "ShadowPool$Book", name := "copyFrom", desc := "(LShadowPool$Book;)V" } : Jvm.MethodName) "ShadowPool"), (Jvm.Cond.methodLinkNest "ShadowPool$Book" (48 : Nat) ({ cls := "ShadowPool$Walker", name := "copyWalker", desc := "(LShadowPool$Walker;)V" } : Jvm.MethodName) "ShadowPool"), (Jvm.Cond.methodLinkNest "ShadowPool" (34 : Nat) ({ cls := "ShadowPool$Book", name := "enter", desc := "(III)I" } : Jvm.MethodName) "ShadowPool"), (Jvm.Cond.methodLinkNest "ShadowPool$Book" (40 : Nat) ({ cls := "ShadowPool$Walker", name := "begin", desc := "(III)V" } : Jvm.MethodName) "ShadowPool"), (Jvm.Cond.methodLinkNest "ShadowPoolLaw" (64 : Nat) ({ cls := "ShadowPoolLaw$Sim", name := "<init>", desc := "()V" } : Jvm.MethodName) "ShadowPoolLaw")]
theorem lw_nest_ok : ∀ w ∈ lw_nest, lw_nestB w = true := by decide +kernel
theorem lw_nest_tbl : ∀ w ∈ lw_nest, w ∈ tables_1 := by
  intro w hw
  simp only [lw_nest, List.mem_cons, List.not_mem_nil, or_false] at hw
  rcases hw with rfl | rfl | rfl | rfl | rfl | rfl | rfl | rfl | rfl | rfl | rfl | rfl | rfl | rfl | rfl | rfl | rfl | rfl | rfl | rfl | rfl | rfl | rfl | rfl | rfl | rfl | rfl | rfl | rfl | rfl | rfl | rfl | rfl | rfl | rfl | rfl | rfl
  · exact List.mem_of_getElem? (i := 22) (by decide +kernel)
  · exact List.mem_of_getElem? (i := 29) (by decide +kernel)
  · exact List.mem_of_getElem? (i := 36) (by decide +kernel)
  · exact List.mem_of_getElem? (i := 38) (by decide +kernel)
  · exact List.mem_of_getElem? (i := 39) (by decide +kernel)
  · exact List.mem_of_getElem? (i := 41) (by decide +kernel)
  · exact List.mem_of_getElem? (i := 43) (by decide +kernel)
  · exact List.mem_of_getElem? (i := 44) (by decide +kernel)
  · exact List.mem_of_getElem? (i := 59) (by decide +kernel)
  · exact List.mem_of_getElem? (i := 61) (by decide +kernel)
  · exact List.mem_of_getElem? (i := 63) (by decide +kernel)
  · exact List.mem_of_getElem? (i := 65) (by decide +kernel)
  · exact List.mem_of_getElem? (i := 67) (by decide +kernel)
  · exact List.mem_of_getElem? (i := 69) (by decide +kernel)
  · exact List.mem_of_getElem? (i := 71) (by decide +kernel)
  · exact List.mem_of_getElem? (i := 172) (by decide +kernel)
  · exact List.mem_of_getElem? (i := 180) (by decide +kernel)
  · exact List.mem_of_getElem? (i := 198) (by decide +kernel)
  · exact List.mem_of_getElem? (i := 201) (by decide +kernel)
  · exact List.mem_of_getElem? (i := 208) (by decide +kernel)
  · exact List.mem_of_getElem? (i := 215) (by decide +kernel)
  · exact List.mem_of_getElem? (i := 223) (by decide +kernel)
  · exact List.mem_of_getElem? (i := 236) (by decide +kernel)
  · exact List.mem_of_getElem? (i := 267) (by decide +kernel)
  · exact List.mem_of_getElem? (i := 272) (by decide +kernel)
  · exact List.mem_of_getElem? (i := 306) (by decide +kernel)
  · exact List.mem_of_getElem? (i := 315) (by decide +kernel)
  · exact List.mem_of_getElem? (i := 321) (by decide +kernel)
  · exact List.mem_of_getElem? (i := 330) (by decide +kernel)
  · exact List.mem_of_getElem? (i := 359) (by decide +kernel)
  · exact List.mem_of_getElem? (i := 363) (by decide +kernel)
  · exact List.mem_of_getElem? (i := 364) (by decide +kernel)
  · exact List.mem_of_getElem? (i := 378) (by decide +kernel)
  · exact List.mem_of_getElem? (i := 382) (by decide +kernel)
  · exact List.mem_of_getElem? (i := 549) (by decide +kernel)
  · exact List.mem_of_getElem? (i := 553) (by decide +kernel)
  · exact List.mem_of_getElem? (i := 600) (by decide +kernel)
theorem qn22 : (Jvm.Cond.methodLinkNest "ShadowPool" (9 : Nat) ({ cls := "ShadowPool$Book", name := "<init>", desc := "()V" } : Jvm.MethodName) "ShadowPool") ∈ lw_nest := List.mem_of_getElem? (i := 0) (by decide +kernel)
theorem qn29 : (Jvm.Cond.methodLinkNest "ShadowPool$Book" (39 : Nat) ({ cls := "ShadowPool$Walker", name := "<init>", desc := "()V" } : Jvm.MethodName) "ShadowPool") ∈ lw_nest := List.mem_of_getElem? (i := 1) (by decide +kernel)
theorem qn36 : (Jvm.Cond.fieldLinkNest "ShadowPool" (58 : Nat) "ShadowPool$Walker" "net" "I" "ShadowPool") ∈ lw_nest := List.mem_of_getElem? (i := 2) (by decide +kernel)
theorem qn38 : (Jvm.Cond.fieldLinkNest "ShadowPool" (62 : Nat) "ShadowPool$Walker" "wobble" "I" "ShadowPool") ∈ lw_nest := List.mem_of_getElem? (i := 3) (by decide +kernel)
theorem qn39 : (Jvm.Cond.fieldLinkNest "ShadowPool$Book" (90 : Nat) "ShadowPool$Walker" "wobble" "I" "ShadowPool") ∈ lw_nest := List.mem_of_getElem? (i := 4) (by decide +kernel)
theorem qn41 : (Jvm.Cond.fieldLinkNest "ShadowPool" (112 : Nat) "ShadowPool$Walker" "falls" "I" "ShadowPool") ∈ lw_nest := List.mem_of_getElem? (i := 5) (by decide +kernel)
theorem qn43 : (Jvm.Cond.fieldLinkNest "ShadowPool" (52 : Nat) "ShadowPool$Walker" "member" "Z" "ShadowPool") ∈ lw_nest := List.mem_of_getElem? (i := 6) (by decide +kernel)
theorem qn44 : (Jvm.Cond.fieldLinkNest "ShadowPool$Book" (52 : Nat) "ShadowPool$Walker" "member" "Z" "ShadowPool") ∈ lw_nest := List.mem_of_getElem? (i := 7) (by decide +kernel)
theorem qn59 : (Jvm.Cond.fieldLinkNest "ShadowPool" (86 : Nat) "ShadowPool$Book" "hour" "I" "ShadowPool") ∈ lw_nest := List.mem_of_getElem? (i := 8) (by decide +kernel)
theorem qn61 : (Jvm.Cond.fieldLinkNest "ShadowPool" (139 : Nat) "ShadowPool$Book" "fund" "I" "ShadowPool") ∈ lw_nest := List.mem_of_getElem? (i := 9) (by decide +kernel)
theorem qn63 : (Jvm.Cond.fieldLinkNest "ShadowPool" (67 : Nat) "ShadowPool$Book" "rate" "I" "ShadowPool") ∈ lw_nest := List.mem_of_getElem? (i := 10) (by decide +kernel)
theorem qn65 : (Jvm.Cond.fieldLinkNest "ShadowPool" (77 : Nat) "ShadowPool$Book" "retention" "I" "ShadowPool") ∈ lw_nest := List.mem_of_getElem? (i := 11) (by decide +kernel)
theorem qn67 : (Jvm.Cond.fieldLinkNest "ShadowPool" (74 : Nat) "ShadowPool$Book" "limit" "I" "ShadowPool") ∈ lw_nest := List.mem_of_getElem? (i := 12) (by decide +kernel)
theorem qn69 : (Jvm.Cond.fieldLinkNest "ShadowPool" (142 : Nat) "ShadowPool$Book" "reinsurersLoss" "I" "ShadowPool") ∈ lw_nest := List.mem_of_getElem? (i := 13) (by decide +kernel)
theorem qn71 : (Jvm.Cond.fieldLinkNest "ShadowPool" (105 : Nat) "ShadowPool$Book" "count" "I" "ShadowPool") ∈ lw_nest := List.mem_of_getElem? (i := 14) (by decide +kernel)
theorem qn172 : (Jvm.Cond.methodLinkNest "ShadowPool" (82 : Nat) ({ cls := "ShadowPool$Book", name := "letGoBy", desc := "(I)I" } : Jvm.MethodName) "ShadowPool") ∈ lw_nest := List.mem_of_getElem? (i := 15) (by decide +kernel)
theorem qn180 : (Jvm.Cond.methodLinkNest "ShadowPool$Book" (69 : Nat) ({ cls := "ShadowPool", name := "hourOfDay", desc := "(I)I" } : Jvm.MethodName) "ShadowPool") ∈ lw_nest := List.mem_of_getElem? (i := 16) (by decide +kernel)
theorem qn198 : (Jvm.Cond.methodLinkNest "ShadowPool$Book" (76 : Nat) ({ cls := "ShadowPool", name := "sunAt", desc := "(I)I" } : Jvm.MethodName) "ShadowPool") ∈ lw_nest := List.mem_of_getElem? (i := 17) (by decide +kernel)
theorem qn201 : (Jvm.Cond.methodLinkNest "ShadowPool$Book" (79 : Nat) ({ cls := "ShadowPool", name := "noonAt", desc := "(I)Z" } : Jvm.MethodName) "ShadowPool") ∈ lw_nest := List.mem_of_getElem? (i := 18) (by decide +kernel)
theorem qn208 : (Jvm.Cond.methodLinkNest "ShadowPool$Book" (93 : Nat) ({ cls := "ShadowPool$Walker", name := "wobbleBehind", desc := "(IZ)I" } : Jvm.MethodName) "ShadowPool") ∈ lw_nest := List.mem_of_getElem? (i := 19) (by decide +kernel)
theorem qn215 : (Jvm.Cond.methodLinkNest "ShadowPool$Book" (97 : Nat) ({ cls := "ShadowPool$Walker", name := "costUnder", desc := "(I)I" } : Jvm.MethodName) "ShadowPool") ∈ lw_nest := List.mem_of_getElem? (i := 20) (by decide +kernel)
theorem qn223 : (Jvm.Cond.methodLinkNest "ShadowPool$Book" (100 : Nat) ({ cls := "ShadowPool$Walker", name := "ownPart", desc := "(IZ)I" } : Jvm.MethodName) "ShadowPool") ∈ lw_nest := List.mem_of_getElem? (i := 21) (by decide +kernel)
theorem qn236 : (Jvm.Cond.methodLinkNest "ShadowPool$Book" (106 : Nat) ({ cls := "ShadowPool$Walker", name := "fall", desc := "()V" } : Jvm.MethodName) "ShadowPool") ∈ lw_nest := List.mem_of_getElem? (i := 22) (by decide +kernel)
theorem qn267 : (Jvm.Cond.methodLinkNest "ShadowPool" (108 : Nat) ({ cls := "ShadowPool$Book", name := "countMembers", desc := "()I" } : Jvm.MethodName) "ShadowPool") ∈ lw_nest := List.mem_of_getElem? (i := 23) (by decide +kernel)
theorem qn272 : (Jvm.Cond.methodLinkNest "ShadowPool" (43 : Nat) ({ cls := "ShadowPool$Book", name := "find", desc := "(I)LShadowPool$Walker;" } : Jvm.MethodName) "ShadowPool") ∈ lw_nest := List.mem_of_getElem? (i := 24) (by decide +kernel)
theorem qn306 : (Jvm.Cond.methodLinkNest "ShadowPool" (118 : Nat) ({ cls := "ShadowPool$Walker", name := "shadowUnder", desc := "(I)I" } : Jvm.MethodName) "ShadowPool") ∈ lw_nest := List.mem_of_getElem? (i := 25) (by decide +kernel)
theorem qn315 : (Jvm.Cond.methodLinkNest "ShadowPool" (121 : Nat) ({ cls := "ShadowPool$Walker", name := "costUnder", desc := "(I)I" } : Jvm.MethodName) "ShadowPool") ∈ lw_nest := List.mem_of_getElem? (i := 26) (by decide +kernel)
theorem qn321 : (Jvm.Cond.methodLinkNest "ShadowPool" (128 : Nat) ({ cls := "ShadowPool$Walker", name := "ownPart", desc := "(IZ)I" } : Jvm.MethodName) "ShadowPool") ∈ lw_nest := List.mem_of_getElem? (i := 27) (by decide +kernel)
theorem qn330 : (Jvm.Cond.methodLinkNest "ShadowPool" (136 : Nat) ({ cls := "ShadowPool$Book", name := "reinsuredPart", desc := "(I)I" } : Jvm.MethodName) "ShadowPool") ∈ lw_nest := List.mem_of_getElem? (i := 28) (by decide +kernel)
theorem qn359 : (Jvm.Cond.methodLinkNest "ShadowPool" (145 : Nat) ({ cls := "ShadowPool$Walker", name := "fallsBehind", desc := "(I)I" } : Jvm.MethodName) "ShadowPool") ∈ lw_nest := List.mem_of_getElem? (i := 29) (by decide +kernel)
theorem qn363 : (Jvm.Cond.methodLinkNest "ShadowPool$Walker" (44 : Nat) ({ cls := "ShadowPool", name := "hourOfDay", desc := "(I)I" } : Jvm.MethodName) "ShadowPool") ∈ lw_nest := List.mem_of_getElem? (i := 30) (by decide +kernel)
theorem qn364 : (Jvm.Cond.methodLinkNest "ShadowPool$Walker" (47 : Nat) ({ cls := "ShadowPool", name := "noonAt", desc := "(I)Z" } : Jvm.MethodName) "ShadowPool") ∈ lw_nest := List.mem_of_getElem? (i := 31) (by decide +kernel)
theorem qn378 : (Jvm.Cond.methodLinkNest "ShadowPool" (151 : Nat) ({ cls := "ShadowPool$Book", name := "copyFrom", desc := "(LShadowPool$Book;)V" } : Jvm.MethodName) "ShadowPool") ∈ lw_nest := List.mem_of_getElem? (i := 32) (by decide +kernel)
theorem qn382 : (Jvm.Cond.methodLinkNest "ShadowPool$Book" (48 : Nat) ({ cls := "ShadowPool$Walker", name := "copyWalker", desc := "(LShadowPool$Walker;)V" } : Jvm.MethodName) "ShadowPool") ∈ lw_nest := List.mem_of_getElem? (i := 33) (by decide +kernel)
theorem qn549 : (Jvm.Cond.methodLinkNest "ShadowPool" (34 : Nat) ({ cls := "ShadowPool$Book", name := "enter", desc := "(III)I" } : Jvm.MethodName) "ShadowPool") ∈ lw_nest := List.mem_of_getElem? (i := 34) (by decide +kernel)
theorem qn553 : (Jvm.Cond.methodLinkNest "ShadowPool$Book" (40 : Nat) ({ cls := "ShadowPool$Walker", name := "begin", desc := "(III)V" } : Jvm.MethodName) "ShadowPool") ∈ lw_nest := List.mem_of_getElem? (i := 35) (by decide +kernel)
theorem qn600 : (Jvm.Cond.methodLinkNest "ShadowPoolLaw" (64 : Nat) ({ cls := "ShadowPoolLaw$Sim", name := "<init>", desc := "()V" } : Jvm.MethodName) "ShadowPoolLaw") ∈ lw_nest := List.mem_of_getElem? (i := 36) (by decide +kernel)
/-- the class's texts: place in its constant pool, text -/
def lw_strs : List (Nat × String) := [(80, "hours is not 1 to 60"), (49, "no such walker"), (25, "height is not 1 to 30"), (30, "skill is not 0 to 5"), (32, "net is not 0 to 9"), (40, "there are 8 walkers"), (65, "rate is not 0 to 9"), (70, "retention is not 0 to 200"), (72, "limit is not 0 to 400")]
theorem lw_strs_tbl : ∀ z ∈ lw_strs, Cond.stringRef "ShadowPool" z.1 z.2 ∈ tables_1 := by
  intro z hz
  simp only [lw_strs, List.mem_cons, List.not_mem_nil, or_false] at hz
  rcases hz with rfl | rfl | rfl | rfl | rfl | rfl | rfl | rfl | rfl
  · exact List.mem_of_getElem? (i := 145) (by decide +kernel)
  · exact List.mem_of_getElem? (i := 282) (by decide +kernel)
  · exact List.mem_of_getElem? (i := 546) (by decide +kernel)
  · exact List.mem_of_getElem? (i := 547) (by decide +kernel)
  · exact List.mem_of_getElem? (i := 548) (by decide +kernel)
  · exact List.mem_of_getElem? (i := 566) (by decide +kernel)
  · exact List.mem_of_getElem? (i := 589) (by decide +kernel)
  · exact List.mem_of_getElem? (i := 594) (by decide +kernel)
  · exact List.mem_of_getElem? (i := 595) (by decide +kernel)
end
section
/-! THE CLASS'S WORLD: 21 places, their addresses by G, what they hold by F (place, field); o is unused here -/
abbrev gT : Type := va_G × (Nat → ClassId) × (Nat → Nat)
abbrev Fs : Type := Nat → Nat → Int32
abbrev gA (G : gT) (k : Nat) : Nat := G.2.2 k
def up2 (F : Fs) (k j : Nat) (v : Int32) : Fs := fun a b => if a = k ∧ b = j then v else F a b
def upA (F : Fs) (k : Nat) (f : Nat → Int32) : Fs := fun a => if a = k then f else F a
def cellE (G : gT) (F : Fs) (o : Int64) (k : Nat) : va_E :=
  if k = 0 then .inr (2, [.ref (gA G 1), .ref (gA G 2)])
  else if k < 3 then .inr (0, [.int (F k 0), .int (F k 1), .int (F k 2), .int (F k 3), .int (F k 4), .int (F k 5), .int (F k 6), .ref (gA G (k + 2))])
  else if k < 5 then .inl (G.2.1 0, 8, .inr (.inr (.inr (.inr (fun i => some (gA G (8 * k - 19 + i)))))))
  else .inr (1, [.int (F k 0), .int (F k 1), .int (F k 2), .int (F k 3), .int (F k 4), .int (F k 5)])
theorem cE0 (G : gT) (F : Fs) (o : Int64) : cellE G F o 0 = .inr (2, [.ref (gA G 1), .ref (gA G 2)]) := rfl
theorem cEb (G : gT) (F : Fs) (o : Int64) {k : Nat} (h : k = 1 ∨ k = 2) : cellE G F o k = .inr (0, [.int (F k 0), .int (F k 1), .int (F k 2), .int (F k 3), .int (F k 4), .int (F k 5), .int (F k 6), .ref (gA G (k + 2))]) := by
  unfold cellE
  rw [if_neg (by omega), if_pos (by omega)]
theorem cEr (G : gT) (F : Fs) (o : Int64) {k : Nat} (h : k = 3 ∨ k = 4) : cellE G F o k = .inl (G.2.1 0, 8, .inr (.inr (.inr (.inr (fun i => some (gA G (8 * k - 19 + i))))))) := by
  unfold cellE
  rw [if_neg (by omega), if_neg (by omega), if_pos (by omega)]
theorem cEw (G : gT) (F : Fs) (o : Int64) {k : Nat} (h1 : 5 ≤ k) (h2 : k < 21) : cellE G F o k = .inr (1, [.int (F k 0), .int (F k 1), .int (F k 2), .int (F k 3), .int (F k 4), .int (F k 5)]) := by
  unfold cellE
  rw [if_neg (by omega), if_neg (by omega), if_neg (by omega)]
theorem cE_congr (G : gT) {F F' : Fs} (o : Int64) {k : Nat} (h : F k = F' k) : cellE G F o k = cellE G F' o k := by
  unfold cellE
  rw [h]
theorem up2_s (F : Fs) (k j : Nat) (v : Int32) : up2 F k j v k j = v := by simp [up2]
theorem up2_row (F : Fs) (k j : Nat) (v : Int32) {i : Nat} (h : i ≠ k) : up2 F k j v i = F i := by funext b; simp [up2, h]
theorem up2_ne (F : Fs) {k j a b : Nat} (v : Int32) (h : ¬ (a = k ∧ b = j)) : up2 F k j v a b = F a b := by simp [up2, h]
theorem up2_upd (F : Fs) (k j : Nat) (v : Int32) : up2 F k j v k = upd (F k) j v := by funext b; simp [up2, upd]
theorem upA_s (F : Fs) (k : Nat) (f : Nat → Int32) : upA F k f k = f := by simp [upA]
theorem upA_row (F : Fs) (k : Nat) (f : Nat → Int32) {i : Nat} (h : i ≠ k) : upA F k f i = F i := by simp [upA, h]
def wld (G : gT) (F : Fs) (o : Int64) : va_W := (List.range 21).map (fun k => (gA G k, cellE G F o k))
theorem wld_len (G : gT) (F : Fs) (o : Int64) : (wld G F o).length = 21 := by simp [wld]
theorem wld_at0 (G : gT) (F : Fs) (o : Int64) {k : Nat} (hk : k < 21) : (wld G F o)[k]? = some (gA G k, cellE G F o k) := by
  unfold wld
  rw [List.getElem?_map, List.getElem?_range hk]
  rfl
theorem wld_at (G : gT) (F : Fs) (o : Int64) (X : va_W) {k : Nat} (hk : k < 21) {e : va_E} (hE : cellE G F o k = e) : (wld G F o ++ X)[k]? = some (gA G k, e) := by
  rw [List.getElem?_append_left (by rw [wld_len]; exact hk), wld_at0 G F o hk, hE]
theorem wld_set (G : gT) {F F' : Fs} {o o' : Int64} (X : va_W) {k : Nat} (hk : k < 21) {e : va_E} (h1 : cellE G F' o' k = e) (h2 : ∀ i, i < 21 → i ≠ k → cellE G F' o' i = cellE G F o i) : (wld G F o ++ X).set k (gA G k, e) = wld G F' o' ++ X := by
  apply List.ext_getElem?
  intro i
  by_cases hi : i = k
  · subst hi
    rw [List.getElem?_set_self (by rw [List.length_append, wld_len]; omega), wld_at G F' o' X hk h1]
  · rw [List.getElem?_set_ne (Ne.symm hi)]
    by_cases hl : i < 21
    · rw [wld_at G F o X hl rfl, wld_at G F' o' X hl (h2 i hl hi)]
    · rw [List.getElem?_append_right (by rw [wld_len]; omega), List.getElem?_append_right (by rw [wld_len]; omega), wld_len, wld_len]
def tysG (G : gT) : List (ClassId × FieldType) := [(G.2.1 0, .object "ShadowPool$Walker"), (G.2.1 1, .int), (G.2.1 2, .array .int)]
def GA (G : gT) (sz : Nat) : Nat → Prop := fun q => (∃ k, k < 21 ∧ q = gA G k) ∨ sz ≤ q
theorem GA_in (G : gT) (sz : Nat) {k : Nat} (h : k < 21) : GA G sz (gA G k) := Or.inl ⟨k, h, rfl⟩
theorem GA_up {G : gT} {a b : Nat} (h : a ≤ b) {q : Nat} (hq : GA G b q) : GA G a q := by
  rcases hq with h1 | h1
  · exact Or.inl h1
  · exact Or.inr (Nat.le_trans h h1)
theorem va_D_re {A : Nat → Prop} {w w' : va_W} (h : va_D A w) (e : w'.map Prod.fst = w.map Prod.fst) : va_D A w' := by
  have key : ∀ (k : Nat) (q : Nat × va_E), w'[k]? = some q → ∃ q0, w[k]? = some q0 ∧ q0.1 = q.1 := by
    intro k q hq
    have h1 : (w'.map Prod.fst)[k]? = some q.1 := by rw [List.getElem?_map, hq]; rfl
    rw [e, List.getElem?_map] at h1
    cases hw : w[k]? with
    | none => rw [hw] at h1; cases h1
    | some z => rw [hw] at h1; exact ⟨z, rfl, Option.some.inj h1⟩
  refine ⟨fun i j p q hi hj hpq => ?_, fun k q hk => ?_⟩
  · obtain ⟨a, a1, a2⟩ := key i p hi
    obtain ⟨b, b1, b2⟩ := key j q hj
    exact h.1 i j a b a1 b1 (a2.trans (hpq.trans b2.symm))
  · obtain ⟨a, a1, a2⟩ := key k q hk
    rw [← a2]
    exact h.2 k a a1
theorem wld_fst (G : gT) (F F' : Fs) (o o' : Int64) (X : va_W) : (wld G F' o' ++ X).map Prod.fst = (wld G F o ++ X).map Prod.fst := by
  simp [wld, List.map_append, List.map_map, Function.comp_def]
/-- a class that may be caught as another -/
def va_Yc (C T : String) (U : State) : Prop := ∃ c t : ClassId, U.vm.findClass C = some c ∧ U.vm.findClass T = some t ∧ U.vm.assignable c t = true
theorem va_Yc.moved {C T : String} {u U : State} (hvm : u.vm.Alike U.vm) (h : va_Yc C T u) : va_Yc C T U := by
  obtain ⟨c, t, h1, h2, h3⟩ := h
  exact ⟨c, t, by rw [hvm.findClass]; exact h1, by rw [hvm.findClass]; exact h2, by rw [hvm.assignable]; exact h3⟩
theorem va_Yc.of {args : Array Value} {s : State} {C T : String} (h : (Cond.castable C T).before args s = true) : va_Yc C T s := Cond.castable_spec h
theorem va_Yc.word {args : Array Value} {s : State} {C T : String} (h : va_Yc C T s) : (Cond.castable C T).before args s = true := by
  obtain ⟨c, t, h1, h2, h3⟩ := h
  simp [Cond.before, Cond.holds, Cond.value, h1, h2, h3]
def va_Dx (y : MethodName) (U : State) : Prop := (Cond.declares y).before #[] U = true
theorem va_Dx.of {y : MethodName} {A : Array Value} {U : State} (h : (Cond.declares y).before A U = true) : va_Dx y U := va_any rfl h
theorem va_Dx.use {y : MethodName} {A : Array Value} {U : State} (h : va_Dx y U) : (Cond.declares y).before A U = true := va_any rfl h
theorem va_Dx.moved {y : MethodName} {u U : State} (hvm : u.vm.Alike U.vm) (h : va_Dx y u) : va_Dx y U := by
  have h1 : (Cond.declares y).before #[] (u.setVm U.vm) = true := by
    rw [Cond.declares_setVm hvm]
    exact h
  have e := Cond.onTables_vm (A := #[]) (A' := #[]) (U := u) (U' := U) U.vm (Cond.declares y) rfl
  have hU : U.setVm U.vm = U := rfl
  rw [hU] at e
  unfold va_Dx
  rw [← e]
  exact h1
abbrev yRE : MethodName := ⟨"java/lang/RuntimeException", "<init>", "(Ljava/lang/String;)V"⟩
abbrev yEE : MethodName := ⟨"java/lang/Exception", "<init>", "(Ljava/lang/String;)V"⟩
abbrev yTE : MethodName := ⟨"java/lang/Throwable", "<init>", "(Ljava/lang/String;)V"⟩
abbrev xIA : String := "java/lang/IllegalArgumentException"
abbrev xIS : String := "java/lang/IllegalStateException"
abbrev xIB : String := "java/lang/IndexOutOfBoundsException"
def EnvX (U : State) : Prop := va_Yc xIA xIA U ∧ va_Yc xIS xIS U ∧ va_Yc xIB xIB U ∧ va_Nc xIS xIA U ∧ va_Nc xIA xIB U ∧ va_Dx yRE U ∧ va_Dx yEE U ∧ va_Dx yTE U
theorem EnvX.moved {u U : State} (hvm : u.vm.Alike U.vm) (h : EnvX u) : EnvX U := ⟨h.1.moved hvm, h.2.1.moved hvm, h.2.2.1.moved hvm, h.2.2.2.1.moved hvm, h.2.2.2.2.1.moved hvm, h.2.2.2.2.2.1.moved hvm, h.2.2.2.2.2.2.1.moved hvm, h.2.2.2.2.2.2.2.moved hvm⟩
/-- rows of rows of ints can be made, and a row of ints copied -/
def EnvI (U : State) : Prop := va_Nw (.arrayOver (.array .int)) U ∧ va_Nw (.castable "[I" "java/lang/Cloneable") U
theorem ai_moved {u U : State} (hvm : u.vm.Alike U.vm) (h : va_Nw (.arrayOver (.array .int)) u) : va_Nw (.arrayOver (.array .int)) U := by
  obtain ⟨comp, c, k, h1, h2, h3, h4, h5⟩ := arrayOverA_spec h
  obtain ⟨k', hk', he⟩ := hvm.2.2 _ _ h3
  have hi : (U.vm.classes.findIdx? fun (x : Class) => match x.kind with | .array component _ => component == comp | _ => false) = some c := by
    rw [hvm.findIdx?_eq _ (fun _ => rfl)]
    exact h2
  have hkind : k'.kind = .array comp (.array .int) := by rw [he]; exact h4
  have f1 : U.vm.findClass (FieldType.array .int).toString = some comp := by rw [hvm.findClass]; exact h1
  have f2 : U.vm.findClass ("[" ++ (FieldType.array .int).toString) = some c := by rw [hvm.findClass]; exact h5
  unfold va_Nw Cond.before Cond.holds
  simp only [Cond.value]
  rw [f1, Option.bind_some]
  refine (congrArg (fun o : Option Nat => (o.bind (fun c => (U.vm.classes[c]?).map fun (k : Class) => match k.kind with | .array _ ty => decide (ty = FieldType.array .int) && decide (U.vm.findClass ("[" ++ (FieldType.array .int).toString) = some c) | _ => false) == some true)) hi).trans ?_
  simp [hk', hkind, f2]
theorem EnvI.warm {s U : State} (hW : s.WarmedH U.vm) (h : EnvI s) : EnvI U := ⟨ai_moved hW.alike h.1, va_Nw.warmC hW h.2⟩
theorem EnvI.same {u U : State} (hv : u.vm = U.vm) (h : EnvI u) : EnvI U := ⟨ai_moved (by rw [hv]; exact Vm.Alike.refl U.vm) h.1, va_Nw.same rfl hv h.2⟩
/-- what a method knows beside its world: links to nest mates, rows of rows, the two statics of exceptions, the texts -/
def EnvG (A : Nat → Prop) (U : State) (H : Heap) : Prop :=
  (∀ w ∈ lw_nest, va_Nw w U) ∧ EnvI U ∧ vx_Zq Bundle.tN "UNASSIGNED_STACK" Bundle.steD A U H ∧ vx_Zq Bundle.tN "SUPPRESSED_SENTINEL" Bundle.listD A U H ∧ (∀ z ∈ lw_strs, ∃ a : Nat, vk_R "ShadowPool" z.1 z.2 a U) ∧ EnvX U
theorem nest_warm {w : Cond} (h : lw_nestB w = true) {s U : State} (hW : s.WarmedH U.vm) (hZ : va_Nw w s) : va_Nw w U := by
  cases w <;> first | exact va_Nw.warmF hW hZ | exact va_Nw.warmM hW hZ | cases h
theorem nest_tab {w : Cond} (h : lw_nestB w = true) : w.onTables = true := by
  cases w <;> first | rfl | cases h
theorem EnvG.warm {A : Nat → Prop} {s U : State} {H : Heap} (hW : s.WarmedH U.vm) (h : EnvG A s H) : EnvG A U H := by
  obtain ⟨h1, h2, h4, h5, h6, h7⟩ := h
  exact ⟨fun w hw => nest_warm (lw_nest_ok w hw) hW (h1 w hw), h2.warm hW, vx_Zq.moved hW.alike h4, vx_Zq.moved hW.alike h5, fun z hz => by obtain ⟨a, ha⟩ := h6 z hz; exact ⟨a, vk_R.warm hW ha⟩, h7.moved hW.alike⟩
theorem EnvG.same {A : Nat → Prop} {u U : State} {H : Heap} (hv : u.vm = U.vm) (h : EnvG A u H) : EnvG A U H := by
  have hal : u.vm.Alike U.vm := by rw [hv]; exact Vm.Alike.refl U.vm
  obtain ⟨h1, h2, h4, h5, h6, h7⟩ := h
  exact ⟨fun w hw => va_Nw.same (nest_tab (lw_nest_ok w hw)) hv (h1 w hw), h2.same hv, vx_Zq.moved hal h4, vx_Zq.moved hal h5, fun z hz => by obtain ⟨a, ha⟩ := h6 z hz; exact ⟨a, vk_R.same hv.symm ha⟩, h7.moved hal⟩
theorem EnvG.on {A B : Nat → Prop} {U : State} {H H1 : Heap} (h : EnvG A U H) (hq : ∀ a : Nat, a < H.size → ¬ A a → H1[a]? = H[a]?) (hAB : ∀ q, B q → A q) : EnvG B U H1 := by
  obtain ⟨h1, h2, h4, h5, h6, h7⟩ := h
  exact ⟨h1, h2, (h4.kept hq).narrow hAB, (h5.kept hq).narrow hAB, h6, h7⟩
/-- the world at a point of a body -/
def GB (G : gT) (F : Fs) (o : Int64) (X : va_W) (Y : List (ClassId × FieldType)) (s : State) (H : Heap) (locs : List Loc) : Prop :=
  va_P G.1 vwCl (wld G F o ++ X) H ∧ va_D (GA G s.heap.size) (wld G F o ++ X) ∧ va_K G.1 vwCl (tysG G ++ Y) s ∧ va_S (GA G s.heap.size) s.heap H locs ∧ EnvG (GA G s.heap.size) s s.heap
/-- a contract's start -/
abbrev preG (G : gT) (F : Fs) (o : Int64) (sz : Nat) : State → Prop := fun U => U.heap.size = sz ∧ va_P G.1 vwCl (wld G F o) U.heap ∧ va_D (fun _ => True) (wld G F o) ∧ va_K G.1 vwCl (tysG G) U ∧ EnvG (GA G sz) U U.heap
abbrev postG (G : gT) (F : Fs) (o : Int64) : Unit → State → Prop := fun _ t => va_P G.1 vwCl (wld G F o) t.heap
abbrev wsG (y : MethodName) (b : ByteArray) (n : Nat) (r : Option FieldType) : List Cond := .code y b n r :: lw_all
abbrev rmG (f n : Nat) : Room := { frames := f, cells := 0, slots := 0, locals := n }
abbrev QI (G : gT) (F' : Fs) (o : Int64) (R : Int32) (sz : Nat) : Array Value → State → Outcome → State → Prop := va_Qi (fun (r : Int32) (_ : Unit) => r = R) (postG G F' o) (GA G sz)
abbrev QV (G : gT) (F' : Fs) (o : Int64) (sz : Nat) : Array Value → State → Outcome → State → Prop := va_Qv (fun (_ : Unit) => True) (postG G F' o) (GA G sz)
abbrev QL (G : gT) (F' : Fs) (o : Int64) (R : Int64) (sz : Nat) : Array Value → State → Outcome → State → Prop := va_Ql (fun (r : Int64) (_ : Unit) => r = R) (postG G F' o) (GA G sz)
abbrev QD (G : gT) (F' : Fs) (o : Int64) (R : UInt64) (sz : Nat) : Array Value → State → Outcome → State → Prop := va_Qd (fun (r : UInt64) (_ : Unit) => r = R) (postG G F' o) (GA G sz)
abbrev QN (G : gT) (F' : Fs) (o : Int64) (R : Option Nat) (sz : Nat) : Array Value → State → Outcome → State → Prop := va_Qq (fun (r : Option Nat) (_ : Unit) => r = R) (postG G F' o) (GA G sz)
/-- a method's contract over the world: int, nothing, long, double, a reference or null -/
abbrev MI (l : Launch) (y : MethodName) (b : ByteArray) (n : Nat) (ret : Option FieldType) (f k : Nat) (vs : List Value) (G : gT) (F : Fs) (o : Int64) (F' : Fs) (R : Int32) : Prop := ∀ sz : Nat, Met l y (wsG y b n ret) (rmG f k) (va_Pc vs (preG G F o sz)) (QI G F' o R sz) 0 0 (GA G sz)
abbrev MV (l : Launch) (y : MethodName) (b : ByteArray) (n : Nat) (f k : Nat) (vs : List Value) (G : gT) (F : Fs) (o : Int64) (F' : Fs) : Prop := ∀ sz : Nat, Met l y (wsG y b n none) (rmG f k) (va_Pc vs (preG G F o sz)) (QV G F' o sz) 0 0 (GA G sz)
abbrev ML (l : Launch) (y : MethodName) (b : ByteArray) (n : Nat) (f k : Nat) (vs : List Value) (G : gT) (F : Fs) (o : Int64) (F' : Fs) (R : Int64) : Prop := ∀ sz : Nat, Met l y (wsG y b n (some .long)) (rmG f k) (va_Pc vs (preG G F o sz)) (QL G F' o R sz) 0 0 (GA G sz)
abbrev MD (l : Launch) (y : MethodName) (b : ByteArray) (n : Nat) (f k : Nat) (vs : List Value) (G : gT) (F : Fs) (o : Int64) (F' : Fs) (R : UInt64) : Prop := ∀ sz : Nat, Met l y (wsG y b n (some .double)) (rmG f k) (va_Pc vs (preG G F o sz)) (QD G F' o R sz) 0 0 (GA G sz)
abbrev MN (l : Launch) (y : MethodName) (b : ByteArray) (n : Nat) (ret : Option FieldType) (f k : Nat) (vs : List Value) (G : gT) (F : Fs) (o : Int64) (F' : Fs) (R : Option Nat) : Prop := ∀ sz : Nat, Met l y (wsG y b n ret) (rmG f k) (va_Pc vs (preG G F o sz)) (QN G F' o R sz) 0 0 (GA G sz)
theorem preG_blind {vs : List Value} {G : gT} {F : Fs} {o : Int64} {sz : Nat} : FrameBlind (va_Pc vs (preG G F o sz)) := fun a U g mk q => by
  obtain ⟨q0, q1, q2, q3, q4, q5⟩ := q
  exact ⟨q0, q1, q2, q3, va_K.moved (u := U) (U := U.calling g mk a) (Vm.Alike.refl U.vm) q4, EnvG.same (u := U) (U := U.calling g mk a) rfl q5⟩
/-- as Met.ofW, for a class with entries of its own too -/
theorem met_ofF {l : Launch} {y : MethodName} {ws ws' : List Cond} {rm : Room} {Pc : Array Value → State → Prop} {Qc : Array Value → State → Outcome → State → Prop} {mc ms : Nat} {free : Addr → Prop} {cc : ByteArray} {maxL : Nat} {ret : Option FieldType}
    (hy : plainFor y = true) (hw : ws = Cond.code y cc maxL ret :: ws')
    (body : ∀ p e s m args below meth c s₁, BodyLoose p l y (headSpec ws rm) cc maxL ret e s m args below meth c s₁ → c.maxLocals = maxL → Pc args s →
      W p l e (headSpec ws rm).room s m args below meth c s.heap [] 0 0 (MQ below Qc args s mc ms free) (entryFrame m args maxL)) : Met l y ws rm Pc Qc mc ms free := by
  refine MetFree.of_bodySF (code := cc) (maxLocals := maxL) (ret := ret) hy ?_ ?_
  · intro args s m h hn
    obtain ⟨meth, c, h1, h2, h3, h4, h5, h6, -, -⟩ := Cond.code_spec hn (atoms_spec (ws := ws) h _ (by rw [hw]; exact List.mem_cons_self))
    exact ⟨meth, c, h1, h2, h3, h4, h5, h6⟩
  · intro p e s m args below meth c s₁ B hml hP _
    have hh0 : s₁.heap = s.heap := by rw [B.state]; rfl
    obtain ⟨t, a1, o, b1, b2, b3⟩ := body p e s m args below meth c s₁ B hml hP s₁ hh0 (Stand.of_body B)
    exact ⟨t, o, a1, b1, b2, ⟨b3.1, b3.2⟩⟩
/-- from a contract's start to the body's first instruction -/
theorem mk_G {l : Launch} {y : MethodName} {b : ByteArray} {n : Nat} {ret : Option FieldType} {f k : Nat} {vs : List Value} {G : gT} {F : Fs} {o : Int64} {own : String} {Qs : Nat → Array Value → State → Outcome → State → Prop}
    (hy : plainFor y = true) (ho : y.cls = own) (hn : (lg_sl vs).length ≤ n)
    (body : ∀ (p : Program) (e : Env) (s : State) (m : MethodId) (args : Array Value) (below : List Frame) (meth : Method) (c : Code) (ls : Array Slot), meth.sig.returnType = ret → meth.locks = false → meth.name = y.name → CallFix p m c b n s args lw_all own → GB G F o [] [] s s.heap [] → lv_has ls n (lv_args 0 vs) →
      W p l e (rmG f k) s m args below meth c s.heap [] 0 0 (MQ below (Qs s.heap.size) args s 0 0 (GA G s.heap.size)) (F0 m 0 ls [])) (sz : Nat) :
    Met l y (wsG y b n ret) (rmG f k) (va_Pc vs (preG G F o sz)) (Qs sz) 0 0 (GA G sz) := by
  refine met_ofF (cc := b) (maxL := n) (ret := ret) hy rfl ?_
  intro p e s m args below meth c s₁ B hml hv
  obtain ⟨rfl, hsz, hP, hD, hK, hE⟩ := hv
  have hx := B.exec
  have hb := B.bytes
  have hr := B.returns
  have hts := atoms_spec (ws := wsG y b n ret) B.pre
  have hts : ∀ w ∈ lw_all, w.before vs.toArray s = true := fun w h => hts w (List.mem_cons_of_mem _ h)
  have hown : s.vm.findClass y.cls = some m.cls := findClass_of_methodNamed B.named
  have hlocks := B.notSynchronized
  have hin : meth.name = y.name := (name_of_methodNamed B.named B.method).1
  subst hsz
  have hl := lv_entry vs (n := n) hn
  rw [lg_entry_eq]
  generalize (lg_sl vs ++ List.replicate (n - (lg_sl vs).length) Slot.unset).toArray = ls at hl ⊢
  refine body p e s m _ below meth c ls hr hlocks hin ⟨hx, hb, hml, by rw [← ho]; exact hown, hts⟩ ⟨by rw [List.append_nil]; exact hP, ?_, by rw [List.append_nil]; exact hK, va_S.rf, hE⟩ hl
  rw [List.append_nil]
  refine hD.weaken (fun i q hq _ => ?_)
  have hi : i < 21 := by
    have := (List.getElem?_eq_some_iff.mp hq).1
    rw [wld_len] at this; exact this
  rw [wld_at0 G F o hi] at hq
  cases hq
  exact GA_in G _ hi
end
section
/-! rows over the one world -/
theorem lw_V {own C : String} {idx : Nat} {y : MethodName} {b : ByteArray} {n : Nat} {r : Option FieldType} (h1 : Cond.methodLink own idx y ∈ lw_all) (h2 : Cond.instanceMethod y ∈ lw_all) (h3 : Cond.selects C y y ∈ lw_all) (h4 : Cond.initialized C ∈ lw_all) (h5 : Cond.code y b n r ∈ lw_all) : GoodIn lw_all (wsV own idx C y (wsG y b n r)) := by
  refine goodIn_sub (fun w hw => ?_) (List.all_eq_true.mpr (fun w hw => ?_))
  all_goals
    rcases List.mem_append.mp hw with hw | hw
    · simp only [List.mem_cons, List.not_mem_nil, or_false] at hw
      rcases hw with rfl | rfl | rfl | rfl <;> first | assumption | exact lw_all_good (by assumption)
    · rcases List.mem_cons.mp hw with rfl | hw <;> first | assumption | exact lw_all_good (by assumption)
theorem lw_S {own : String} {idx : Nat} {y : MethodName} {b : ByteArray} {n : Nat} {r : Option FieldType} (h1 : Cond.methodLink own idx y ∈ lw_all) (h2 : Cond.static y ∈ lw_all) (h4 : Cond.initialized y.cls ∈ lw_all) (h5 : Cond.code y b n r ∈ lw_all) : GoodIn lw_all (va_wsS own idx y (wsG y b n r)) := by
  refine goodIn_sub (fun w hw => ?_) (List.all_eq_true.mpr (fun w hw => ?_))
  all_goals
    rcases List.mem_append.mp hw with hw | hw
    · simp only [List.mem_cons, List.not_mem_nil, or_false] at hw
      rcases hw with rfl | rfl | rfl <;> first | assumption | exact lw_all_good (by assumption)
    · rcases List.mem_cons.mp hw with rfl | hw <;> first | assumption | exact lw_all_good (by assumption)
theorem lw_C {y : MethodName} {b : ByteArray} {n : Nat} {r : Option FieldType} (h5 : Cond.code y b n r ∈ lw_all) : GoodIn lw_all (wsG y b n r) := by
  refine goodIn_sub (fun w hw => ?_) (List.all_eq_true.mpr (fun w hw => ?_))
  all_goals
    rcases List.mem_cons.mp hw with rfl | hw <;> first | assumption | exact lw_all_good (by assumption)
theorem GB.pre {G : gT} {F : Fs} {o : Int64} {X : va_W} {Y : List (ClassId × FieldType)} {s : State} {H : Heap} {locs : List Loc} (g : GB G F o X Y s H locs) {U : State} (hU : U.heap = H) (hW : s.WarmedH U.vm) : preG G F o H.size U := by
  obtain ⟨hP, hD, hK, hS, hE⟩ := g
  have up : ∀ (k : Nat) (q : Nat × va_E), (wld G F o)[k]? = some q → (wld G F o ++ X)[k]? = some q := fun k q hq => by
    rw [List.getElem?_append_left (List.getElem?_eq_some_iff.mp hq).1]; exact hq
  refine ⟨by rw [hU], by rw [hU]; exact fun k q hq => hP k q (up k q hq), ?_, va_K.moved hW.alike (hK.sub [0, 1, 2] rfl), ?_⟩
  · exact ⟨fun i j x y hx hy he => hD.1 i j x y (up i x hx) (up j y hy) he, fun _ _ _ => trivial⟩
  · rw [hU]
    exact (hE.warm hW).on (fun a h1 h2 => hS.2.1 a h1 h2) (fun q hq => GA_up hS.1 hq)
theorem GB.after {G : gT} {F F' : Fs} {o o' : Int64} {X : va_W} {Y : List (ClassId × FieldType)} {s : State} {H H1 : Heap} {locs locs1 : List Loc} (g : GB G F o X Y s H locs) (hP1 : va_P G.1 vwCl (wld G F' o') H1) (hk1 : ∀ q : Nat, q < H.size → ¬ GA G H.size q → H1[q]? = H[q]?) (hS1 : va_S (GA G s.heap.size) s.heap H1 locs1) : GB G F' o' X Y s H1 locs1 := by
  obtain ⟨hP, hD, hK, hS, hE⟩ := g
  refine ⟨va_P.app hP1 (fun k q hq => ?_), va_D_re hD (wld_fst G F F' o o' X), hK, hS1, hE⟩
  have h1 : (wld G F o ++ X)[21 + k]? = some q := by
    rw [List.getElem?_append_right (by rw [wld_len]; omega), wld_len, Nat.add_sub_cancel_left]; exact hq
  have h2 := hP _ _ h1
  refine h2.kept (hk1 _ h2.lt (fun h => ?_))
  rcases h with ⟨i, hi, he⟩ | h
  · have h3 := hD.1 (21 + k) i q _ h1 (wld_at G F o X hi rfl) he
    omega
  · exact absurd h2.lt (Nat.not_lt.mpr h)
section GR
variable {p : Program} {l : Launch} {e : Env} {R : Room} {s : State} {m : MethodId} {args : Array Value} {below : List Frame} {meth : Method} {c : Code} {H : Heap} {locs : List Loc} {cells slots : Nat} {Q : State → Prop}
variable {cc : ByteArray} {pc nL : Nat} {ls : Array Slot} {rest st0 : List Value} {own : String} {G : gT} {F F' : Fs} {o : Int64} {X : va_W} {Y : List (ClassId × FieldType)}
theorem g_get {C : String} {T : u_T} {N ci index : Nat} (S : CallFix p m c cc nL s args lw_all own) (g : GB G F o X Y s H locs) (hin : ∀ w ∈ u_ws C T N, w ∈ lw_all) (hc : vwCl[ci]? = some (C, T, N)) {k : Nat} (hk : k < 21) {fs : List Value} (hE : cellE G F o k = .inr (ci, fs)) (j : Nat) (hj : j < N) (hT : (T j).1 = C) (hq : Cond.fieldLink own index C (T j).2.1 (T j).2.2.1 ∈ lw_all) {v : Value} (hv : fs[j]? = some v) (hdg : decode cc pc = .ok (.getfield index, 3))
    (kk : W p l e R s m args below meth c H locs cells slots Q (F0 m (pc + 3) ls (v :: rest))) : W p l e R s m args below meth c H locs cells slots Q (F0 m pc ls (.ref (gA G k) :: rest)) := by
  obtain ⟨hx, hb, hml, ho, hts⟩ := S
  exact va_get (ref := C) hx hb hts hin ho g.2.2.1 g.1 k (wld_at G F o X hk hE) hc j hj (hts _ hq) (fun x h => by rw [hT] at h; exact h) hv hdg kk
theorem g_getN {C host : String} {T : u_T} {N ci index : Nat} (S : CallFix p m c cc nL s args lw_all own) (g : GB G F o X Y s H locs) (hin : ∀ w ∈ u_ws C T N, w ∈ lw_all) (hc : vwCl[ci]? = some (C, T, N)) {k : Nat} (hk : k < 21) {fs : List Value} (hE : cellE G F o k = .inr (ci, fs)) (j : Nat) (hj : j < N) (hT : (T j).1 = C) (hq : Cond.fieldLinkNest own index C (T j).2.1 (T j).2.2.1 host ∈ lw_nest) {v : Value} (hv : fs[j]? = some v) (hdg : decode cc pc = .ok (.getfield index, 3))
    (kk : W p l e R s m args below meth c H locs cells slots Q (F0 m (pc + 3) ls (v :: rest))) : W p l e R s m args below meth c H locs cells slots Q (F0 m pc ls (.ref (gA G k) :: rest)) := by
  obtain ⟨hx, hb, hml, ho, hts⟩ := S
  exact va_getN (ref := C) hx hb hts hin ho g.2.2.1 g.1 k (wld_at G F o X hk hE) hc j hj ((g.2.2.2.2.1 _ hq).use rfl) (fun x h => by rw [hT] at h; exact h) hv hdg kk
theorem g_put {C : String} {T : u_T} {N ci index : Nat} (S : CallFix p m c cc nL s args lw_all own) (g : GB G F o X Y s H locs) (hin : ∀ w ∈ u_ws C T N, w ∈ lw_all) (ty0 : Nat → FieldType) (hty : ∀ k, k < N → parseFieldDescriptor (T k).2.2.1 = some (ty0 k)) (hnm : ∀ a, a < N → ∀ b, b < N → a ≠ b → (T a).2.1 ≠ (T b).2.1) (hc : vwCl[ci]? = some (C, T, N)) {k : Nat} (hk : k < 21) {fs : List Value} (hE : cellE G F o k = .inr (ci, fs)) (j : Nat) (hj : j < N) (hT : (T j).1 = C) (hfin : (T j).2.2.2 = false) (hq : Cond.fieldLink own index C (T j).2.1 (T j).2.2.1 ∈ lw_all) {v : Value} (hn : narrow (ty0 j) v = v) (hfit : fits (ty0 j) v = true) (hlen : j < fs.length)
    (hset : (wld G F o ++ X).set k (gA G k, .inr (ci, fs.set j v)) = wld G F' o ++ X) (hdg : decode cc pc = .ok (.putfield index, 3))
    (kk : ∀ (H : Heap) (locs : List Loc), GB G F' o X Y s H locs → W p l e R s m args below meth c H locs cells slots Q (F0 m (pc + 3) ls rest)) : W p l e R s m args below meth c H locs cells slots Q (F0 m pc ls (v :: .ref (gA G k) :: rest)) := by
  obtain ⟨hx, hb, hml, ho, hts⟩ := S
  obtain ⟨hP, hD, hK, hS, hEn⟩ := g
  refine va_put (ref := C) hx hb hts hin ty0 hty hnm ho hK hP hD hS k (wld_at G F o X hk hE) hc j hj (hts _ hq) (fun x h => by rw [hT] at h; exact h) hfin (hty j hj) hn hfit hlen hdg (fun H1 l1 hP hD hS => ?_)
  rw [hset] at hP hD
  exact kk H1 l1 ⟨hP, hD, hK, hS, hEn⟩
theorem g_putN {C host : String} {T : u_T} {N ci index : Nat} (S : CallFix p m c cc nL s args lw_all own) (g : GB G F o X Y s H locs) (hin : ∀ w ∈ u_ws C T N, w ∈ lw_all) (ty0 : Nat → FieldType) (hty : ∀ k, k < N → parseFieldDescriptor (T k).2.2.1 = some (ty0 k)) (hnm : ∀ a, a < N → ∀ b, b < N → a ≠ b → (T a).2.1 ≠ (T b).2.1) (hc : vwCl[ci]? = some (C, T, N)) {k : Nat} (hk : k < 21) {fs : List Value} (hE : cellE G F o k = .inr (ci, fs)) (j : Nat) (hj : j < N) (hT : (T j).1 = C) (hfin : (T j).2.2.2 = false) (hq : Cond.fieldLinkNest own index C (T j).2.1 (T j).2.2.1 host ∈ lw_nest) {v : Value} (hn : narrow (ty0 j) v = v) (hfit : fits (ty0 j) v = true) (hlen : j < fs.length)
    (hset : (wld G F o ++ X).set k (gA G k, .inr (ci, fs.set j v)) = wld G F' o ++ X) (hdg : decode cc pc = .ok (.putfield index, 3))
    (kk : ∀ (H : Heap) (locs : List Loc), GB G F' o X Y s H locs → W p l e R s m args below meth c H locs cells slots Q (F0 m (pc + 3) ls rest)) : W p l e R s m args below meth c H locs cells slots Q (F0 m pc ls (v :: .ref (gA G k) :: rest)) := by
  obtain ⟨hx, hb, hml, ho, hts⟩ := S
  obtain ⟨hP, hD, hK, hS, hEn⟩ := g
  refine va_putN (ref := C) hx hb hts hin ty0 hty hnm ho hK hP hD hS k (wld_at G F o X hk hE) hc j hj ((hEn.1 _ hq).use rfl) (fun x h => by rw [hT] at h; exact h) hfin (hty j hj) hn hfit hlen hdg (fun H1 l1 hP hD hS => ?_)
  rw [hset] at hP hD
  exact kk H1 l1 ⟨hP, hD, hK, hS, hEn⟩
/-! arrays -/
theorem g_aald (S : CallFix p m c cc nL s args lw_all own) (g : GB G F o X Y s H locs) {k : Nat} (hk : k = 3 ∨ k = 4) {i : Int32} (j : Nat) (hi : i = nI j) (hj : j < 8) (hdg : decode cc pc = .ok (.aaload, 1))
    (kk : W p l e R s m args below meth c H locs cells slots Q (F0 m (pc + 1) ls (.ref (gA G (8 * k - 19 + j)) :: rest))) : W p l e R s m args below meth c H locs cells slots Q (F0 m pc ls (.int i :: .ref (gA G k) :: rest)) := by
  obtain ⟨hx, hb, hml, ho, hts⟩ := S
  subst hi
  refine va_aldq hx hb g.2.2.1 g.1 k 0 (wld_at G F o X (by omega) (cEr G F o hk)) rfl (vp_in_nI hj (by omega)) hdg ?_
  rw [nI_clamp (by omega)]
  exact kk
theorem g_alen {len : Nat} {t0 : Nat} {ty : FieldType} {cA : ClassId} {x : (Nat → Int32) ⊕ (Nat → Int64) ⊕ (Nat → UInt32) ⊕ (Nat → UInt64) ⊕ (Nat → Option Nat)} (S : CallFix p m c cc nL s args lw_all own) (g : GB G F o X Y s H locs) {k : Nat} (hk : k < 21) (hE : cellE G F o k = .inl (cA, len, x)) (ht : (tysG G ++ Y)[t0]? = some (cA, ty)) {v : Int32} (hv : Int32.ofNat len = v) (hdg : decode cc pc = .ok (.arraylength, 1))
    (kk : W p l e R s m args below meth c H locs cells slots Q (F0 m (pc + 1) ls (.int v :: rest))) : W p l e R s m args below meth c H locs cells slots Q (F0 m pc ls (.ref (gA G k) :: rest)) := by
  obtain ⟨hx, hb, hml, ho, hts⟩ := S
  exact va_alen hx hb g.2.2.1 g.1 k t0 (wld_at G F o X hk hE) ht hv hdg kk
/-! Math.max, Math.min -/
theorem g_max {index : Nat} (S : CallFix p m c cc nL s args lw_all own) (hsz : ls.size = nL) (h1 : Cond.methodLink own index Lib.Math.max.name ∈ lw_all) (h2 : Cond.static Lib.Math.max.name ∈ lw_all) (h3 : Cond.initialized "java/lang/Math" ∈ lw_all) (h4 : Cond.code Lib.Math.max.name Lib.Math.max.code 2 (some .int) ∈ lw_all)
    (hframes : 1 ≤ R.frames) (hlocals : (rest.map fun v => v.category).sum + 13 ≤ R.locals) (hc : cells ≤ R.cells) (hs : slots ≤ R.slots) {x y : Int32} (hdg : decode cc pc = .ok (.invokestatic index, 3))
    (kk : W p l e R s m args below meth c H locs cells slots Q (F0 m (pc + 3) ls (.int (if x < y then y else x) :: rest))) : W p l e R s m args below meth c H locs cells slots Q (F0 m pc ls (.int y :: .int x :: rest)) := by
  obtain ⟨hx, hb, hml, ho, hts⟩ := S
  exact va_mmax hx hb (hml.trans hsz.symm) ho (hts _ h1) (hts _ h2) (hts _ h3) (hts _ h4) hframes hlocals hc hs hdg kk
theorem g_min {index : Nat} (S : CallFix p m c cc nL s args lw_all own) (hsz : ls.size = nL) (h1 : Cond.methodLink own index Lib.Math.min.name ∈ lw_all) (h2 : Cond.static Lib.Math.min.name ∈ lw_all) (h3 : Cond.initialized "java/lang/Math" ∈ lw_all) (h4 : Cond.code Lib.Math.min.name Lib.Math.min.code 2 (some .int) ∈ lw_all)
    (hframes : 1 ≤ R.frames) (hlocals : (rest.map fun v => v.category).sum + 13 ≤ R.locals) (hc : cells ≤ R.cells) (hs : slots ≤ R.slots) {x y : Int32} (hdg : decode cc pc = .ok (.invokestatic index, 3))
    (kk : W p l e R s m args below meth c H locs cells slots Q (F0 m (pc + 3) ls (.int (if y < x then y else x) :: rest))) : W p l e R s m args below meth c H locs cells slots Q (F0 m pc ls (.int y :: .int x :: rest)) := by
  obtain ⟨hx, hb, hml, ho, hts⟩ := S
  exact va_mmin hx hb (hml.trans hsz.symm) ho (hts _ h1) (hts _ h2) (hts _ h3) (hts _ h4) hframes hlocals hc hs hdg kk
/-! calls: the run -/
theorem g_V {C : String} {y : MethodName} {b : ByteArray} {mL n f k1 index : Nat} {ret : Option FieldType} {As : List Value} {Qs : Nat → Array Value → State → Outcome → State → Prop} {k : Nat} {ci N : Nat} {T : u_T} {fs : List Value}
    (S : CallFix p m c cc nL s args lw_all own) (g : GB G F o X Y s H locs) (hM : ∀ sz : Nat, Met l y (wsG y b mL ret) (rmG f k1) (va_Pc (.ref (gA G k) :: As) (preG G F o sz)) (Qs sz) 0 0 (GA G sz)) (hk : k < 21) (hE : cellE G F o k = .inr (ci, fs)) (hc : vwCl[ci]? = some (C, T, N)) (hq : GoodIn lw_all (wsV own index C y (wsG y b mL ret)))
    (hd : y.cls = C ∧ y.cls ≠ "java/lang/invoke/MethodHandle" ∧ y.cls ≠ "java/lang/invoke/VarHandle" ∧ (parseMethodDescriptor y.desc).map (fun d => d.parameters.length) = some n) (hn : As.length = n) (hR : f + 1 ≤ R.frames ∧ 8 + (mL + 11) + k1 ≤ R.locals) (hsz : ls.size = nL) (hW : (rest.map fun v => v.category).sum ≤ 8) (hst : st0 = As.reverse ++ .ref (gA G k) :: rest) (hcs : cells ≤ R.cells ∧ slots ≤ R.slots) (hdg : decode cc pc = .ok (.invokevirtual index, 3)) :
    va_Run p l e R s m args below meth c H locs cells slots 0 0 (F0 m pc ls st0) rest (Qs H.size (Value.ref (gA G k) :: As).toArray) (GA G H.size) := by
  exact va_runV (As := As) (rest := rest) S (hM H.size) (cwV n S.2.2.2.2 hq rfl rfl rfl hd hR) ⟨preG_blind, va_recv g.2.2.1 g.1 hc (wld_at G F o X hk hE), fun U hU hW => ⟨rfl, g.pre hU hW⟩⟩ rfl hn hsz hst (lv_room (m := m) (pc := pc) (ls := ls) (rest := st0) hW) hdg hcs
theorem g_VN {C host : String} {y : MethodName} {b : ByteArray} {mL n f k1 index : Nat} {ret : Option FieldType} {As : List Value} {Qs : Nat → Array Value → State → Outcome → State → Prop} {k : Nat} {ci N : Nat} {T : u_T} {fs : List Value}
    (S : CallFix p m c cc nL s args lw_all own) (g : GB G F o X Y s H locs) (hM : ∀ sz : Nat, Met l y (wsG y b mL ret) (rmG f k1) (va_Pc (.ref (gA G k) :: As) (preG G F o sz)) (Qs sz) 0 0 (GA G sz)) (hk : k < 21) (hE : cellE G F o k = .inr (ci, fs)) (hc : vwCl[ci]? = some (C, T, N)) (hq : Cond.methodLinkNest own index y host ∈ lw_nest) (h2 : Cond.instanceMethod y ∈ lw_all) (h3 : Cond.selects C y y ∈ lw_all) (h4 : Cond.initialized y.cls ∈ lw_all) (h5 : Cond.code y b mL ret ∈ lw_all)
    (hd : y.cls ≠ "java/lang/invoke/MethodHandle" ∧ y.cls ≠ "java/lang/invoke/VarHandle" ∧ (parseMethodDescriptor y.desc).map (fun d => d.parameters.length) = some n) (hn : As.length = n) (hR : f + 1 ≤ R.frames ∧ 8 + (mL + 11) + k1 ≤ R.locals) (hsz : ls.size = nL) (hW : (rest.map fun v => v.category).sum ≤ 8) (hst : st0 = As.reverse ++ .ref (gA G k) :: rest) (hcs : cells ≤ R.cells ∧ slots ≤ R.slots) (hdg : decode cc pc = .ok (.invokevirtual index, 3)) :
    va_Run p l e R s m args below meth c H locs cells slots 0 0 (F0 m pc ls st0) rest (Qs H.size (Value.ref (gA G k) :: As).toArray) (GA G H.size) := by
  have hts := S.2.2.2.2
  exact va_runVN (As := As) (rest := rest) S (hM H.size) ⟨va_cnB n hts (lw_C h5) rfl rfl rfl (g.2.2.2.2.1 _ hq) (hts _ h4) hd hR, hts _ h2, hts _ h3⟩ ⟨preG_blind, va_recv g.2.2.1 g.1 hc (wld_at G F o X hk hE), fun U hU hW => ⟨rfl, g.pre hU hW⟩⟩ rfl hn hsz hst (lv_room (m := m) (pc := pc) (ls := ls) (rest := st0) hW) hdg hcs
theorem g_S {y : MethodName} {b : ByteArray} {mL n f k1 index : Nat} {ret : Option FieldType} {As : List Value} {Qs : Nat → Array Value → State → Outcome → State → Prop}
    (S : CallFix p m c cc nL s args lw_all own) (g : GB G F o X Y s H locs) (hM : ∀ sz : Nat, Met l y (wsG y b mL ret) (rmG f k1) (va_Pc As (preG G F o sz)) (Qs sz) 0 0 (GA G sz)) (hq : GoodIn lw_all (va_wsS own index y (wsG y b mL ret)))
    (hd : y.cls ≠ "java/lang/invoke/MethodHandle" ∧ y.cls ≠ "java/lang/invoke/VarHandle" ∧ (parseMethodDescriptor y.desc).map (fun d => d.parameters.length) = some n) (hn : As.length = n) (hR : f + 1 ≤ R.frames ∧ 8 + (mL + 11) + k1 ≤ R.locals) (hsz : ls.size = nL) (hW : (rest.map fun v => v.category).sum ≤ 8) (hst : st0 = As.reverse ++ rest) (hcs : cells ≤ R.cells ∧ slots ≤ R.slots) (hdg : decode cc pc = .ok (.invokestatic index, 3)) :
    va_Run p l e R s m args below meth c H locs cells slots 0 0 (F0 m pc ls st0) rest (Qs H.size As.toArray) (GA G H.size) := by
  exact va_runS (As := As) (rest := rest) S (hM H.size) (va_cwS n S.2.2.2.2 hq rfl rfl rfl hd hR) ⟨preG_blind, fun U hU hW => ⟨rfl, g.pre hU hW⟩⟩ rfl hn hsz hst (lv_room (m := m) (pc := pc) (ls := ls) (rest := st0) hW) hdg hcs
theorem g_SN {host : String} {y : MethodName} {b : ByteArray} {mL n f k1 index : Nat} {ret : Option FieldType} {As : List Value} {Qs : Nat → Array Value → State → Outcome → State → Prop}
    (S : CallFix p m c cc nL s args lw_all own) (g : GB G F o X Y s H locs) (hM : ∀ sz : Nat, Met l y (wsG y b mL ret) (rmG f k1) (va_Pc As (preG G F o sz)) (Qs sz) 0 0 (GA G sz)) (hq : Cond.methodLinkNest own index y host ∈ lw_nest) (h2 : Cond.static y ∈ lw_all) (h4 : Cond.initialized y.cls ∈ lw_all) (h5 : Cond.code y b mL ret ∈ lw_all)
    (hd : y.cls ≠ "java/lang/invoke/MethodHandle" ∧ y.cls ≠ "java/lang/invoke/VarHandle" ∧ (parseMethodDescriptor y.desc).map (fun d => d.parameters.length) = some n) (hn : As.length = n) (hR : f + 1 ≤ R.frames ∧ 8 + (mL + 11) + k1 ≤ R.locals) (hsz : ls.size = nL) (hW : (rest.map fun v => v.category).sum ≤ 8) (hst : st0 = As.reverse ++ rest) (hcs : cells ≤ R.cells ∧ slots ≤ R.slots) (hdg : decode cc pc = .ok (.invokestatic index, 3)) :
    va_Run p l e R s m args below meth c H locs cells slots 0 0 (F0 m pc ls st0) rest (Qs H.size As.toArray) (GA G H.size) := by
  have hts := S.2.2.2.2
  exact va_runSN (As := As) (rest := rest) S (hM H.size) ⟨va_cnB n hts (lw_C h5) rfl rfl rfl (g.2.2.2.2.1 _ hq) (hts _ h4) hd hR, hts _ h2, trivial⟩ ⟨preG_blind, fun U hU hW => ⟨rfl, g.pre hU hW⟩⟩ rfl hn hsz hst (lv_room (m := m) (pc := pc) (ls := ls) (rest := st0) hW) hdg hcs
/-! calls: what comes behind -/
theorem g_ci {RR : Int32} {a : Array Value} (g : GB G F o X Y s H locs) (hr : va_Run p l e R s m args below meth c H locs cells slots 0 0 (F0 m pc ls st0) rest (QI G F' o RR H.size a) (GA G H.size))
    (kk : ∀ (H : Heap) (locs : List Loc), GB G F' o X Y s H locs → W p l e R s m args below meth c H locs cells slots Q (F0 m (pc + 3) ls (.int RR :: rest))) : W p l e R s m args below meth c H locs cells slots Q (F0 m pc ls st0) := by
  refine va_calli hr g.2.2.2.1 (fun q _ h => GA_up g.2.2.2.1.1 h) (fun q h => GA_up g.2.2.2.1.1 h) (fun r u t H1 l1 ht hvm hw hB hz hk1 hS => ?_)
  subst hw
  exact kk H1 l1 (g.after (by rw [← ht]; exact hB) hk1 hS)
theorem g_cv {a : Array Value} (g : GB G F o X Y s H locs) (hr : va_Run p l e R s m args below meth c H locs cells slots 0 0 (F0 m pc ls st0) rest (QV G F' o H.size a) (GA G H.size))
    (kk : ∀ (H : Heap) (locs : List Loc), GB G F' o X Y s H locs → W p l e R s m args below meth c H locs cells slots Q (F0 m (pc + 3) ls rest)) : W p l e R s m args below meth c H locs cells slots Q (F0 m pc ls st0) := by
  refine va_callv hr g.2.2.2.1 (fun q _ h => GA_up g.2.2.2.1.1 h) (fun q h => GA_up g.2.2.2.1.1 h) (fun u t H1 l1 ht hvm hw hB hz hk1 hS => ?_)
  exact kk H1 l1 (g.after (by rw [← ht]; exact hB) hk1 hS)
theorem g_cl {RR : Int64} {a : Array Value} (g : GB G F o X Y s H locs) (hr : va_Run p l e R s m args below meth c H locs cells slots 0 0 (F0 m pc ls st0) rest (QL G F' o RR H.size a) (GA G H.size))
    (kk : ∀ (H : Heap) (locs : List Loc), GB G F' o X Y s H locs → W p l e R s m args below meth c H locs cells slots Q (F0 m (pc + 3) ls (.long RR :: rest))) : W p l e R s m args below meth c H locs cells slots Q (F0 m pc ls st0) := by
  refine va_calll hr g.2.2.2.1 (fun q _ h => GA_up g.2.2.2.1.1 h) (fun q h => GA_up g.2.2.2.1.1 h) (fun r u t H1 l1 ht hvm hw hB hz hk1 hS => ?_)
  subst hw
  exact kk H1 l1 (g.after (by rw [← ht]; exact hB) hk1 hS)
theorem g_cd {RR : UInt64} {a : Array Value} (g : GB G F o X Y s H locs) (hr : va_Run p l e R s m args below meth c H locs cells slots 0 0 (F0 m pc ls st0) rest (QD G F' o RR H.size a) (GA G H.size))
    (kk : ∀ (H : Heap) (locs : List Loc), GB G F' o X Y s H locs → W p l e R s m args below meth c H locs cells slots Q (F0 m (pc + 3) ls (.double RR :: rest))) : W p l e R s m args below meth c H locs cells slots Q (F0 m pc ls st0) := by
  refine va_calld hr g.2.2.2.1 (fun q _ h => GA_up g.2.2.2.1.1 h) (fun q h => GA_up g.2.2.2.1.1 h) (fun r u t H1 l1 ht hvm hw hB hz hk1 hS => ?_)
  subst hw
  exact kk H1 l1 (g.after (by rw [← ht]; exact hB) hk1 hS)
theorem g_cn {RR : Option Nat} {v : Value} {a : Array Value} (g : GB G F o X Y s H locs) (hv : va_rf RR = v) (hr : va_Run p l e R s m args below meth c H locs cells slots 0 0 (F0 m pc ls st0) rest (QN G F' o RR H.size a) (GA G H.size))
    (kk : ∀ (H : Heap) (locs : List Loc), GB G F' o X Y s H locs → W p l e R s m args below meth c H locs cells slots Q (F0 m (pc + 3) ls (v :: rest))) : W p l e R s m args below meth c H locs cells slots Q (F0 m pc ls st0) := by
  refine va_callq hr g.2.2.2.1 (fun q _ h => GA_up g.2.2.2.1.1 h) (fun q h => GA_up g.2.2.2.1.1 h) (fun r u t H1 l1 ht hvm hw hB hz hk1 hS => ?_)
  subst hw; subst hv
  exact kk H1 l1 (g.after (by rw [← ht]; exact hB) hk1 hS)
/-! ends -/
theorem GB.end1 {F1 : Fs} (g : GB G F1 o X Y s H locs) (hF : F1 = F') {t : State} (ht : t.heap = H) : va_P G.1 vwCl (wld G F' o) t.heap := by
  subst hF
  rw [ht]
  exact fun k q hq => g.1 k q (by rw [List.getElem?_append_left (List.getElem?_eq_some_iff.mp hq).1]; exact hq)
theorem e_i {F1 : Fs} {v RR : Int32} (S : CallFix p m c cc nL s args lw_all own) (hr : meth.sig.returnType = some .int) (hk : meth.locks = false) (g : GB G F1 o X Y s H locs) (hv : v = RR) (hF : F1 = F') (hdg : decode cc pc = .ok (.ireturn, 1)) : W p l e R s m args below meth c H locs 0 0 (MQ below (QI G F' o RR s.heap.size) args s 0 0 (GA G s.heap.size)) (F0 m pc ls [.int v]) :=
  W.iret S.1 S.2.1 hr (fun t ht hW => ⟨⟨v, (), rfl, hv, g.end1 hF ht⟩, g.2.2.2.1.F ht⟩) g.2.2.2.1.2.2 hdg hk
theorem e_z {F1 : Fs} {v RR : Int32} (S : CallFix p m c cc nL s args lw_all own) (hr : meth.sig.returnType = some .boolean) (hk : meth.locks = false) (g : GB G F1 o X Y s H locs) (hn : narrow .boolean (.int v) = .int v) (hv : v = RR) (hF : F1 = F') (hdg : decode cc pc = .ok (.ireturn, 1)) : W p l e R s m args below meth c H locs 0 0 (MQ below (QI G F' o RR s.heap.size) args s 0 0 (GA G s.heap.size)) (F0 m pc ls [.int v]) :=
  W.zret S.1 S.2.1 hr hn (fun t ht hW => ⟨⟨v, (), rfl, hv, g.end1 hF ht⟩, g.2.2.2.1.F ht⟩) g.2.2.2.1.2.2 hdg hk
theorem e_v {F1 : Fs} (S : CallFix p m c cc nL s args lw_all own) (hr : meth.sig.returnType = none) (hk : meth.locks = false) (g : GB G F1 o X Y s H locs) (hF : F1 = F') (hdg : decode cc pc = .ok (.return_, 1)) : W p l e R s m args below meth c H locs 0 0 (MQ below (QV G F' o s.heap.size) args s 0 0 (GA G s.heap.size)) (F0 m pc ls []) :=
  W.vret S.1 S.2.1 hr (fun t ht hW => ⟨⟨(), rfl, trivial, g.end1 hF ht⟩, g.2.2.2.1.F ht⟩) g.2.2.2.1.2.2 hdg hk
theorem e_l {F1 : Fs} {v RR : Int64} (S : CallFix p m c cc nL s args lw_all own) (hr : meth.sig.returnType = some .long) (hk : meth.locks = false) (g : GB G F1 o X Y s H locs) (hv : v = RR) (hF : F1 = F') (hdg : decode cc pc = .ok (.lreturn, 1)) : W p l e R s m args below meth c H locs 0 0 (MQ below (QL G F' o RR s.heap.size) args s 0 0 (GA G s.heap.size)) (F0 m pc ls [.long v]) :=
  W.lret S.1 S.2.1 hr (fun t ht hW => ⟨⟨v, (), rfl, hv, g.end1 hF ht⟩, g.2.2.2.1.F ht⟩) g.2.2.2.1.2.2 hdg hk
theorem e_d {F1 : Fs} {v RR : UInt64} (S : CallFix p m c cc nL s args lw_all own) (hr : meth.sig.returnType = some .double) (hk : meth.locks = false) (g : GB G F1 o X Y s H locs) (hv : v = RR) (hF : F1 = F') (hdg : decode cc pc = .ok (.dreturn, 1)) : W p l e R s m args below meth c H locs 0 0 (MQ below (QD G F' o RR s.heap.size) args s 0 0 (GA G s.heap.size)) (F0 m pc ls [.double v]) :=
  W.dret S.1 S.2.1 hr (fun t ht hW => ⟨⟨v, (), rfl, hv, g.end1 hF ht⟩, g.2.2.2.1.F ht⟩) g.2.2.2.1.2.2 hdg hk
theorem e_n {F1 : Fs} {v : Value} {RR : Option Nat} {nm : String} (S : CallFix p m c cc nL s args lw_all own) (hr : meth.sig.returnType = some (.object nm)) (hk : meth.locks = false) (g : GB G F1 o X Y s H locs) (hv : v = va_rf RR) (hF : F1 = F') (hdg : decode cc pc = .ok (.areturn, 1)) : W p l e R s m args below meth c H locs 0 0 (MQ below (QN G F' o RR s.heap.size) args s 0 0 (GA G s.heap.size)) (F0 m pc ls [v]) := by
  subst hv
  exact W.aret S.1 S.2.1 hr (Or.inl ⟨nm, rfl⟩) (by cases RR; exact Or.inl rfl; exact Or.inr ⟨_, rfl⟩) (fun t ht hW => ⟨⟨RR, (), rfl, rfl, g.end1 hF ht⟩, g.2.2.2.1.F ht⟩) g.2.2.2.1.2.2 hdg hk
end GR
end
section
theorem iX0 : ∀ w ∈ u_ws RX0 TX0 8, w ∈ lw_all := by
  intro w hw
  obtain ⟨k, hk, rfl⟩ := List.mem_map.mp hw
  have hk := List.mem_range.mp hk
  rcases (show k = 0 ∨ k = 1 ∨ k = 2 ∨ k = 3 ∨ k = 4 ∨ k = 5 ∨ k = 6 ∨ k = 7 by omega) with rfl | rfl | rfl | rfl | rfl | rfl | rfl | rfl
  · exact q73
  · exact q75
  · exact q77
  · exact q79
  · exact q81
  · exact q83
  · exact q85
  · exact q87
theorem iX1 : ∀ w ∈ u_ws RX1 TX1 6, w ∈ lw_all := by
  intro w hw
  obtain ⟨k, hk, rfl⟩ := List.mem_map.mp hw
  have hk := List.mem_range.mp hk
  rcases (show k = 0 ∨ k = 1 ∨ k = 2 ∨ k = 3 ∨ k = 4 ∨ k = 5 by omega) with rfl | rfl | rfl | rfl | rfl | rfl
  · exact q45
  · exact q47
  · exact q49
  · exact q51
  · exact q53
  · exact q55
theorem iX2 : ∀ w ∈ u_ws RX2 TX2 2, w ∈ lw_all := by
  intro w hw
  obtain ⟨k, hk, rfl⟩ := List.mem_map.mp hw
  have hk := List.mem_range.mp hk
  rcases (show k = 0 ∨ k = 1 by omega) with rfl | rfl
  · exact q92
  · exact q94
theorem iX3 : ∀ w ∈ u_ws RX3 TX3 7, w ∈ lw_all := by
  intro w hw
  obtain ⟨k, hk, rfl⟩ := List.mem_map.mp hw
  have hk := List.mem_range.mp hk
  rcases (show k = 0 ∨ k = 1 ∨ k = 2 ∨ k = 3 ∨ k = 4 ∨ k = 5 ∨ k = 6 by omega) with rfl | rfl | rfl | rfl | rfl | rfl | rfl
  · exact q446
  · exact q448
  · exact q450
  · exact q452
  · exact q454
  · exact q456
  · exact q458
theorem qMax : Cond.code Lib.Math.max.name Lib.Math.max.code 2 (some .int) ∈ lw_all := lw_in (List.mem_of_getElem? (i := 214) (by decide +kernel)) (by decide +kernel)
theorem qMin : Cond.code Lib.Math.min.name Lib.Math.min.code 2 (some .int) ∈ lw_all := lw_in (List.mem_of_getElem? (i := 229) (by decide +kernel)) (by decide +kernel)
theorem qMaxS : Cond.static Lib.Math.max.name ∈ lw_all := lw_in (List.mem_of_getElem? (i := 213) (by decide +kernel)) (by decide +kernel)
theorem qMinS : Cond.static Lib.Math.min.name ∈ lw_all := lw_in (List.mem_of_getElem? (i := 228) (by decide +kernel)) (by decide +kernel)
/-- walker j of book b -/
def wb (b j : Nat) : Nat := 8 * b - 3 + j
theorem wb_lo {b : Nat} (h : b = 1 ∨ b = 2) (j : Nat) : 5 ≤ wb b j := by unfold wb; omega
theorem wb_hi {b j : Nat} (h : b = 1 ∨ b = 2) (hj : j < 8) : wb b j < 21 := by unfold wb; omega
section GC
variable {p : Program} {l : Launch} {e : Env} {R : Room} {s : State} {m : MethodId} {args : Array Value} {below : List Frame} {meth : Method} {c : Code} {H : Heap} {locs : List Loc} {cells slots : Nat} {Q : State → Prop}
variable {cc : ByteArray} {pc nL : Nat} {ls : Array Slot} {rest st0 : List Value} {own : String} {G : gT} {F F' : Fs} {o : Int64} {X : va_W} {Y : List (ClassId × FieldType)}
theorem set_B {k : Nat} (hB : k = 1 ∨ k = 2) (j : Nat) (hj : j < 7) (x : Int32) : (wld G F o ++ X).set k (gA G k, .inr (0, ([.int (F k 0), .int (F k 1), .int (F k 2), .int (F k 3), .int (F k 4), .int (F k 5), .int (F k 6), .ref (gA G (k + 2))] : List Value).set j (.int x))) = wld G (up2 F k j x) o ++ X := by
  refine wld_set G X (by omega) ?_ (fun i _ h2 => cE_congr G o (up2_row F k j x h2))
  rw [cEb G _ o hB]
  rcases (show j = 0 ∨ j = 1 ∨ j = 2 ∨ j = 3 ∨ j = 4 ∨ j = 5 ∨ j = 6 by omega) with rfl | rfl | rfl | rfl | rfl | rfl | rfl <;> simp [up2]
theorem set_W {k : Nat} (h1 : 5 ≤ k) (h2 : k < 21) (j : Nat) (hj : j < 6) (x : Int32) : (wld G F o ++ X).set k (gA G k, .inr (1, ([.int (F k 0), .int (F k 1), .int (F k 2), .int (F k 3), .int (F k 4), .int (F k 5)] : List Value).set j (.int x))) = wld G (up2 F k j x) o ++ X := by
  refine wld_set G X (by omega) ?_ (fun i _ h2 => cE_congr G o (up2_row F k j x h2))
  rw [cEw G _ o h1 h2]
  rcases (show j = 0 ∨ j = 1 ∨ j = 2 ∨ j = 3 ∨ j = 4 ∨ j = 5 by omega) with rfl | rfl | rfl | rfl | rfl | rfl <;> simp [up2]
theorem tyX0_int {j : Nat} (hj : j < 7) : tyX0 j = .int := by
  rcases (show j = 0 ∨ j = 1 ∨ j = 2 ∨ j = 3 ∨ j = 4 ∨ j = 5 ∨ j = 6 by omega) with rfl | rfl | rfl | rfl | rfl | rfl | rfl <;> rfl
theorem tyX1_int {j : Nat} (hj : j < 5) : tyX1 j = .int := by
  rcases (show j = 0 ∨ j = 1 ∨ j = 2 ∨ j = 3 ∨ j = 4 by omega) with rfl | rfl | rfl | rfl | rfl <;> rfl
theorem tyX3_int {j : Nat} (hj : j < 6) : tyX3 j = .int := by
  rcases (show j = 0 ∨ j = 1 ∨ j = 2 ∨ j = 3 ∨ j = 4 ∨ j = 5 by omega) with rfl | rfl | rfl | rfl | rfl | rfl <;> rfl
theorem oX0 {j : Nat} : (TX0 j).1 = RX0 := by
  match j with
  | 0 => rfl | 1 => rfl | 2 => rfl | 3 => rfl | 4 => rfl | 5 => rfl | 6 => rfl | n + 7 => rfl
theorem oX1 {j : Nat} : (TX1 j).1 = RX1 := by
  match j with
  | 0 => rfl | 1 => rfl | 2 => rfl | 3 => rfl | 4 => rfl | n + 5 => rfl
theorem oX2 {j : Nat} : (TX2 j).1 = RX2 := by
  match j with
  | 0 => rfl | n + 1 => rfl
theorem oX3 {j : Nat} : (TX3 j).1 = RX3 := by
  match j with
  | 0 => rfl | 1 => rfl | 2 => rfl | 3 => rfl | 4 => rfl | 5 => rfl | n + 6 => rfl
theorem fX0 {j : Nat} (hj : j < 7) : (TX0 j).2.2.2 = false := by
  rcases (show j = 0 ∨ j = 1 ∨ j = 2 ∨ j = 3 ∨ j = 4 ∨ j = 5 ∨ j = 6 by omega) with rfl | rfl | rfl | rfl | rfl | rfl | rfl <;> rfl
theorem fX1 {j : Nat} : (TX1 j).2.2.2 = false := by
  match j with
  | 0 => rfl | 1 => rfl | 2 => rfl | 3 => rfl | 4 => rfl | n + 5 => rfl
theorem fX3 {j : Nat} : (TX3 j).2.2.2 = false := by
  match j with
  | 0 => rfl | 1 => rfl | 2 => rfl | 3 => rfl | 4 => rfl | 5 => rfl | n + 6 => rfl
theorem vB {k : Nat} (j : Nat) (hj : j < 7) : ([.int (F k 0), .int (F k 1), .int (F k 2), .int (F k 3), .int (F k 4), .int (F k 5), .int (F k 6), .ref (gA G (k + 2))] : List Value)[j]? = some (.int (F k j)) := by
  rcases (show j = 0 ∨ j = 1 ∨ j = 2 ∨ j = 3 ∨ j = 4 ∨ j = 5 ∨ j = 6 by omega) with rfl | rfl | rfl | rfl | rfl | rfl | rfl <;> rfl
theorem vW {k : Nat} (j : Nat) (hj : j < 6) : ([.int (F k 0), .int (F k 1), .int (F k 2), .int (F k 3), .int (F k 4), .int (F k 5)] : List Value)[j]? = some (.int (F k j)) := by
  rcases (show j = 0 ∨ j = 1 ∨ j = 2 ∨ j = 3 ∨ j = 4 ∨ j = 5 by omega) with rfl | rfl | rfl | rfl | rfl | rfl <;> rfl
theorem gB {index : Nat} {k : Nat} (S : CallFix p m c cc nL s args lw_all own) (g : GB G F o X Y s H locs) (hB : k = 1 ∨ k = 2) (j : Nat) (hj : j < 7) (hq : Cond.fieldLink own index RX0 (TX0 j).2.1 (TX0 j).2.2.1 ∈ lw_all) (hdg : decode cc pc = .ok (.getfield index, 3))
    (kk : W p l e R s m args below meth c H locs cells slots Q (F0 m (pc + 3) ls (.int (F k j) :: rest))) : W p l e R s m args below meth c H locs cells slots Q (F0 m pc ls (.ref (gA G k) :: rest)) :=
  g_get S g iX0 (ci := 0) rfl (by omega) (cEb G F o hB) j (by omega) oX0 hq (vB j hj) hdg kk
theorem gBr {index : Nat} {k : Nat} (S : CallFix p m c cc nL s args lw_all own) (g : GB G F o X Y s H locs) (hB : k = 1 ∨ k = 2) (j : Nat) (hj : j = 7) (hq : Cond.fieldLink own index RX0 (TX0 j).2.1 (TX0 j).2.2.1 ∈ lw_all) (hdg : decode cc pc = .ok (.getfield index, 3))
    (kk : W p l e R s m args below meth c H locs cells slots Q (F0 m (pc + 3) ls (.ref (gA G (k + 2)) :: rest))) : W p l e R s m args below meth c H locs cells slots Q (F0 m pc ls (.ref (gA G k) :: rest)) :=
  g_get S g iX0 (ci := 0) rfl (by omega) (cEb G F o hB) j (by omega) oX0 hq (by subst hj; rfl) hdg kk
theorem gW {index : Nat} {k : Nat} (S : CallFix p m c cc nL s args lw_all own) (g : GB G F o X Y s H locs) (h1 : 5 ≤ k) (h2 : k < 21) (j : Nat) (hj : j < 6) (hq : Cond.fieldLink own index RX1 (TX1 j).2.1 (TX1 j).2.2.1 ∈ lw_all) (hdg : decode cc pc = .ok (.getfield index, 3))
    (kk : W p l e R s m args below meth c H locs cells slots Q (F0 m (pc + 3) ls (.int (F k j) :: rest))) : W p l e R s m args below meth c H locs cells slots Q (F0 m pc ls (.ref (gA G k) :: rest)) :=
  g_get S g iX1 (ci := 1) rfl (by omega) (cEw G F o h1 h2) j (by omega) oX1 hq (vW j hj) hdg kk
theorem gBN {index : Nat} {host : String} {k : Nat} (S : CallFix p m c cc nL s args lw_all own) (g : GB G F o X Y s H locs) (hB : k = 1 ∨ k = 2) (j : Nat) (hj : j < 7) (hq : Cond.fieldLinkNest own index RX0 (TX0 j).2.1 (TX0 j).2.2.1 host ∈ lw_nest) (hdg : decode cc pc = .ok (.getfield index, 3))
    (kk : W p l e R s m args below meth c H locs cells slots Q (F0 m (pc + 3) ls (.int (F k j) :: rest))) : W p l e R s m args below meth c H locs cells slots Q (F0 m pc ls (.ref (gA G k) :: rest)) :=
  g_getN S g iX0 (ci := 0) rfl (by omega) (cEb G F o hB) j (by omega) oX0 hq (vB j hj) hdg kk
theorem gBrN {index : Nat} {host : String} {k : Nat} (S : CallFix p m c cc nL s args lw_all own) (g : GB G F o X Y s H locs) (hB : k = 1 ∨ k = 2) (j : Nat) (hj : j = 7) (hq : Cond.fieldLinkNest own index RX0 (TX0 j).2.1 (TX0 j).2.2.1 host ∈ lw_nest) (hdg : decode cc pc = .ok (.getfield index, 3))
    (kk : W p l e R s m args below meth c H locs cells slots Q (F0 m (pc + 3) ls (.ref (gA G (k + 2)) :: rest))) : W p l e R s m args below meth c H locs cells slots Q (F0 m pc ls (.ref (gA G k) :: rest)) :=
  g_getN S g iX0 (ci := 0) rfl (by omega) (cEb G F o hB) j (by omega) oX0 hq (by subst hj; rfl) hdg kk
theorem gWN {index : Nat} {host : String} {k : Nat} (S : CallFix p m c cc nL s args lw_all own) (g : GB G F o X Y s H locs) (h1 : 5 ≤ k) (h2 : k < 21) (j : Nat) (hj : j < 6) (hq : Cond.fieldLinkNest own index RX1 (TX1 j).2.1 (TX1 j).2.2.1 host ∈ lw_nest) (hdg : decode cc pc = .ok (.getfield index, 3))
    (kk : W p l e R s m args below meth c H locs cells slots Q (F0 m (pc + 3) ls (.int (F k j) :: rest))) : W p l e R s m args below meth c H locs cells slots Q (F0 m pc ls (.ref (gA G k) :: rest)) :=
  g_getN S g iX1 (ci := 1) rfl (by omega) (cEw G F o h1 h2) j (by omega) oX1 hq (vW j hj) hdg kk
theorem gP {index : Nat} {k : Nat} (S : CallFix p m c cc nL s args lw_all own) (g : GB G F o X Y s H locs)  (j : Nat) (hj : j < 2) (hq : Cond.fieldLink own index RX2 (TX2 j).2.1 (TX2 j).2.2.1 ∈ lw_all) (hdg : decode cc pc = .ok (.getfield index, 3))
    (kk : W p l e R s m args below meth c H locs cells slots Q (F0 m (pc + 3) ls (.ref (gA G (j + 1)) :: rest))) : W p l e R s m args below meth c H locs cells slots Q (F0 m pc ls (.ref (gA G 0) :: rest)) :=
  g_get S g iX2 (ci := 2) rfl (by omega) (cE0 G F o) j (by omega) oX2 hq (by rcases (show j = 0 ∨ j = 1 by omega) with rfl | rfl <;> rfl) hdg kk
theorem gBp {index : Nat} {k : Nat} {x : Int32} (S : CallFix p m c cc nL s args lw_all own) (g : GB G F o X Y s H locs) (hB : k = 1 ∨ k = 2) (j : Nat) (hj : j < 7) (hq : Cond.fieldLink own index RX0 (TX0 j).2.1 (TX0 j).2.2.1 ∈ lw_all) (hdg : decode cc pc = .ok (.putfield index, 3))
    (kk : ∀ (H : Heap) (locs : List Loc), GB G (up2 F k j x) o X Y s H locs → W p l e R s m args below meth c H locs cells slots Q (F0 m (pc + 3) ls rest)) : W p l e R s m args below meth c H locs cells slots Q (F0 m pc ls (.int x :: .ref (gA G k) :: rest)) :=
  g_put S g iX0 tyX0 tyX0_ok nmX0 (ci := 0) rfl (by omega) (cEb G F o hB) j (by omega) oX0 (fX0 hj) hq (by rw [tyX0_int hj]; rfl) (by rw [tyX0_int hj]; rfl) (by simp only [List.length_cons, List.length_nil]; omega) (set_B hB j hj x) hdg kk
theorem gWp {index : Nat} {k : Nat} {x : Int32} (S : CallFix p m c cc nL s args lw_all own) (g : GB G F o X Y s H locs) (h1 : 5 ≤ k) (h2 : k < 21) (j : Nat) (hj : j < 5) (hq : Cond.fieldLink own index RX1 (TX1 j).2.1 (TX1 j).2.2.1 ∈ lw_all) (hdg : decode cc pc = .ok (.putfield index, 3))
    (kk : ∀ (H : Heap) (locs : List Loc), GB G (up2 F k j x) o X Y s H locs → W p l e R s m args below meth c H locs cells slots Q (F0 m (pc + 3) ls rest)) : W p l e R s m args below meth c H locs cells slots Q (F0 m pc ls (.int x :: .ref (gA G k) :: rest)) :=
  g_put S g iX1 tyX1 tyX1_ok nmX1 (ci := 1) rfl (by omega) (cEw G F o h1 h2) j (by omega) oX1 fX1 hq (by rw [tyX1_int hj]; rfl) (by rw [tyX1_int hj]; rfl) (by simp only [List.length_cons, List.length_nil]; omega) (set_W h1 h2 j (by omega) x) hdg kk
theorem gWz {index : Nat} {k : Nat} {x : Int32} (S : CallFix p m c cc nL s args lw_all own) (g : GB G F o X Y s H locs) (h1 : 5 ≤ k) (h2 : k < 21) (j : Nat) (hj : j = 5) (hx : x = 0 ∨ x = 1) (hq : Cond.fieldLink own index RX1 (TX1 j).2.1 (TX1 j).2.2.1 ∈ lw_all) (hdg : decode cc pc = .ok (.putfield index, 3))
    (kk : ∀ (H : Heap) (locs : List Loc), GB G (up2 F k j x) o X Y s H locs → W p l e R s m args below meth c H locs cells slots Q (F0 m (pc + 3) ls rest)) : W p l e R s m args below meth c H locs cells slots Q (F0 m pc ls (.int x :: .ref (gA G k) :: rest)) :=
  g_put S g iX1 tyX1 tyX1_ok nmX1 (ci := 1) rfl (by omega) (cEw G F o h1 h2) j (by omega) oX1 fX1 hq (by subst hj; rcases hx with rfl | rfl <;> rfl) (by subst hj; rcases hx with rfl | rfl <;> rfl) (by simp only [List.length_cons, List.length_nil]; omega) (set_W h1 h2 j (by omega) x) hdg kk
theorem gBpN {index : Nat} {host : String} {k : Nat} {x : Int32} (S : CallFix p m c cc nL s args lw_all own) (g : GB G F o X Y s H locs) (hB : k = 1 ∨ k = 2) (j : Nat) (hj : j < 7) (hq : Cond.fieldLinkNest own index RX0 (TX0 j).2.1 (TX0 j).2.2.1 host ∈ lw_nest) (hdg : decode cc pc = .ok (.putfield index, 3))
    (kk : ∀ (H : Heap) (locs : List Loc), GB G (up2 F k j x) o X Y s H locs → W p l e R s m args below meth c H locs cells slots Q (F0 m (pc + 3) ls rest)) : W p l e R s m args below meth c H locs cells slots Q (F0 m pc ls (.int x :: .ref (gA G k) :: rest)) :=
  g_putN S g iX0 tyX0 tyX0_ok nmX0 (ci := 0) rfl (by omega) (cEb G F o hB) j (by omega) oX0 (fX0 hj) hq (by rw [tyX0_int hj]; rfl) (by rw [tyX0_int hj]; rfl) (by simp only [List.length_cons, List.length_nil]; omega) (set_B hB j hj x) hdg kk
theorem gWpN {index : Nat} {host : String} {k : Nat} {x : Int32} (S : CallFix p m c cc nL s args lw_all own) (g : GB G F o X Y s H locs) (h1 : 5 ≤ k) (h2 : k < 21) (j : Nat) (hj : j < 5) (hq : Cond.fieldLinkNest own index RX1 (TX1 j).2.1 (TX1 j).2.2.1 host ∈ lw_nest) (hdg : decode cc pc = .ok (.putfield index, 3))
    (kk : ∀ (H : Heap) (locs : List Loc), GB G (up2 F k j x) o X Y s H locs → W p l e R s m args below meth c H locs cells slots Q (F0 m (pc + 3) ls rest)) : W p l e R s m args below meth c H locs cells slots Q (F0 m pc ls (.int x :: .ref (gA G k) :: rest)) :=
  g_putN S g iX1 tyX1 tyX1_ok nmX1 (ci := 1) rfl (by omega) (cEw G F o h1 h2) j (by omega) oX1 fX1 hq (by rw [tyX1_int hj]; rfl) (by rw [tyX1_int hj]; rfl) (by simp only [List.length_cons, List.length_nil]; omega) (set_W h1 h2 j (by omega) x) hdg kk
theorem gWzN {index : Nat} {host : String} {k : Nat} {x : Int32} (S : CallFix p m c cc nL s args lw_all own) (g : GB G F o X Y s H locs) (h1 : 5 ≤ k) (h2 : k < 21) (j : Nat) (hj : j = 5) (hx : x = 0 ∨ x = 1) (hq : Cond.fieldLinkNest own index RX1 (TX1 j).2.1 (TX1 j).2.2.1 host ∈ lw_nest) (hdg : decode cc pc = .ok (.putfield index, 3))
    (kk : ∀ (H : Heap) (locs : List Loc), GB G (up2 F k j x) o X Y s H locs → W p l e R s m args below meth c H locs cells slots Q (F0 m (pc + 3) ls rest)) : W p l e R s m args below meth c H locs cells slots Q (F0 m pc ls (.int x :: .ref (gA G k) :: rest)) :=
  g_putN S g iX1 tyX1 tyX1_ok nmX1 (ci := 1) rfl (by omega) (cEw G F o h1 h2) j (by omega) oX1 fX1 hq (by subst hj; rcases hx with rfl | rfl <;> rfl) (by subst hj; rcases hx with rfl | rfl <;> rfl) (by simp only [List.length_cons, List.length_nil]; omega) (set_W h1 h2 j (by omega) x) hdg kk
/-- the row of book b -/
theorem gRow (S : CallFix p m c cc nL s args lw_all own) (g : GB G F o X Y s H locs) {b : Nat} (hB : b = 1 ∨ b = 2) {i : Int32} (j : Nat) (hi : i = nI j) (hj : j < 8) (hdg : decode cc pc = .ok (.aaload, 1))
    (kk : W p l e R s m args below meth c H locs cells slots Q (F0 m (pc + 1) ls (.ref (gA G (wb b j)) :: rest))) : W p l e R s m args below meth c H locs cells slots Q (F0 m pc ls (.int i :: .ref (gA G (b + 2)) :: rest)) := by
  refine g_aald S g (by omega) j hi hj hdg ?_
  have e1 : 8 * (b + 2) - 19 + j = wb b j := by unfold wb; omega
  rw [e1]
  exact kk
theorem gRowLen (S : CallFix p m c cc nL s args lw_all own) (g : GB G F o X Y s H locs) {b : Nat} (hB : b = 1 ∨ b = 2) (hdg : decode cc pc = .ok (.arraylength, 1))
    (kk : W p l e R s m args below meth c H locs cells slots Q (F0 m (pc + 1) ls (.int 8 :: rest))) : W p l e R s m args below meth c H locs cells slots Q (F0 m pc ls (.ref (gA G (b + 2)) :: rest)) :=
  g_alen (t0 := 0) S g (by omega) (cEr G F o (by omega)) rfl rfl hdg kk
end GC
end
section
/-! what the class's methods answer and do, in plain words over F -/
theorem nx_xor (a b : Nat) : nI a ^^^ nI b = nI (a ^^^ b) := by
  apply Int32.toBitVec_inj.1
  show BitVec.ofNat 32 a ^^^ BitVec.ofNat 32 b = BitVec.ofNat 32 (a ^^^ b)
  apply BitVec.eq_of_getLsbD_eq
  intro i hi
  simp [hi]
theorem ne0_pos {x : Int32} (h : 1 ≤ x) : ¬ x = 0 := fun e => by rw [e] at h; exact absurd h (by decide)
def mx0 (v : Int32) : Int32 := if 0 < v then v else 0
def inR (v lo hi : Int32) : Int32 := if v < lo then 0 else if hi < v then 0 else 1
def sunAtI (d : Int32) : Int32 := if 5 < d then 12 - d else d + 1
def noonAtI (d : Int32) : Int32 := if d < 5 then 0 else if 6 < d then 0 else 1
def shI (ht sun : Int32) : Int32 := 6 * ht / sun
def coI (ht net sun : Int32) : Int32 := mx0 (shI ht sun - 2 * net)
def owI (mem cost noon : Int32) : Int32 := if mem = 0 then cost else if noon = 0 then (if 3 < cost then 3 else cost) else (if 6 < cost then 6 else cost)
def woI (ht sk before noon : Int32) : Int32 := if noon = 0 then mx0 (before + (ht / 5 + 1) - sk) else mx0 (before + (ht / 5 + 2) - sk)
def reI (claim ret lim : Int32) : Int32 := if lim < mx0 (claim - ret) then lim else mx0 (claim - ret)
def faB (ht sk : Int32) (h : Nat) : Nat → Nat → Int32 → Int32
  | 0, _, _ => -1
  | n + 1, i, r => if woI ht sk r (noonAtI (nI ((h + i) % 12))) < 10 then faB ht sk h n (i + 1) (woI ht sk r (noonAtI (nI ((h + i) % 12)))) else nI (i + 1)
def fallF (F : Fs) (k : Nat) : Fs := up2 (up2 (up2 F k 4 (F k 4 + 1)) k 2 (mx0 ((up2 F k 4 (F k 4 + 1)) k 2 - 1))) k 3 0
def begF (F : Fs) (k : Nat) (h s n : Int32) : Fs := up2 (up2 (up2 (up2 (up2 (up2 F k 0 h) k 1 s) k 2 n) k 3 0) k 4 0) k 5 1
def cpw1 (F : Fs) (k k2 : Nat) : Fs := up2 F k 0 (F k2 0)
def cpw2 (F : Fs) (k k2 : Nat) : Fs := up2 (cpw1 F k k2) k 1 (cpw1 F k k2 k2 1)
def cpw3 (F : Fs) (k k2 : Nat) : Fs := up2 (cpw2 F k k2) k 2 (cpw2 F k k2 k2 2)
def cpw4 (F : Fs) (k k2 : Nat) : Fs := up2 (cpw3 F k k2) k 3 (cpw3 F k k2 k2 3)
def cpw5 (F : Fs) (k k2 : Nat) : Fs := up2 (cpw4 F k k2) k 4 (cpw4 F k k2 k2 4)
def cpwF (F : Fs) (k k2 : Nat) : Fs := up2 (cpw5 F k k2) k 5 (cpw5 F k k2 k2 5)
theorem cpw5_5 (F : Fs) (k k2 : Nat) : cpw5 F k k2 k2 5 = F k2 5 := by simp [cpw5, cpw4, cpw3, cpw2, cpw1, up2]
def entF (F : Fs) (b j : Nat) (h s n : Int32) : Fs := up2 (begF F (wb b j) h s n) b 6 (begF F (wb b j) h s n b 6 + 1)
def hdr1 (F : Fs) : Fs := up2 F 2 0 (F 1 0)
def hdr2 (F : Fs) : Fs := up2 (hdr1 F) 2 1 (hdr1 F 1 1)
def hdr3 (F : Fs) : Fs := up2 (hdr2 F) 2 2 (hdr2 F 1 2)
def hdr4 (F : Fs) : Fs := up2 (hdr3 F) 2 3 (hdr3 F 1 3)
def hdr5 (F : Fs) : Fs := up2 (hdr4 F) 2 4 (hdr4 F 1 4)
def hdr6 (F : Fs) : Fs := up2 (hdr5 F) 2 5 (hdr5 F 1 5)
def hdrF (F : Fs) : Fs := up2 (hdr6 F) 2 6 (hdr6 F 1 6)
def cpyL : Nat → Nat → Fs → Fs
  | 0, _, F => F
  | n + 1, i, F => cpyL n (i + 1) (cpwF F (wb 2 i) (wb 1 i))
def cpyF (F : Fs) (n : Nat) : Fs := cpyL n 0 (hdrF F)
theorem up2_at (F : Fs) (k j : Nat) (v : Int32) (a b : Nat) : up2 F k j v a b = if a = k ∧ b = j then v else F a b := rfl
theorem cpwF_ne (F : Fs) (k k2 : Nat) {a : Nat} (h : a ≠ k) (b : Nat) : cpwF F k k2 a b = F a b := by simp [cpwF, cpw5, cpw4, cpw3, cpw2, cpw1, up2, h]
theorem cpwF_eq (F : Fs) (k k2 : Nat) {j : Nat} (h : j < 6) : cpwF F k k2 k j = F k2 j := by
  rcases (show j = 0 ∨ j = 1 ∨ j = 2 ∨ j = 3 ∨ j = 4 ∨ j = 5 by omega) with rfl | rfl | rfl | rfl | rfl | rfl <;> simp [cpwF, cpw5, cpw4, cpw3, cpw2, cpw1, up2]
theorem hdrF_eq (F : Fs) {j : Nat} (h : j < 7) : hdrF F 2 j = F 1 j := by
  rcases (show j = 0 ∨ j = 1 ∨ j = 2 ∨ j = 3 ∨ j = 4 ∨ j = 5 ∨ j = 6 by omega) with rfl | rfl | rfl | rfl | rfl | rfl | rfl <;> simp [hdrF, hdr6, hdr5, hdr4, hdr3, hdr2, hdr1, up2]
theorem hdrF_ne (F : Fs) {a : Nat} (h : a ≠ 2) (b : Nat) : hdrF F a b = F a b := by simp [hdrF, hdr6, hdr5, hdr4, hdr3, hdr2, hdr1, up2, h]
theorem wb_ne {b j a : Nat} (hB : b = 1 ∨ b = 2) (h : a < 5) : a ≠ wb b j := by unfold wb; omega
theorem wb_ne2 {i j : Nat} (hi : i < 8) : wb 1 i ≠ wb 2 j := by unfold wb; omega
def cmL (F : Fs) (b : Nat) : Nat → Nat → Int32 → Int32
  | 0, _, acc => acc
  | n + 1, i, acc => cmL F b n (i + 1) (if F (wb b i) 5 = 0 then acc + 0 else acc + 1)
def pay1 (F : Fs) (b n : Nat) : Fs := up2 F b 1 (F b 1 + F b 2 * cmL F b n 0 0)
def pay2 (F : Fs) (b n : Nat) : Fs := up2 (pay1 F b n) b 1 (pay1 F b n b 1 - (pay1 F b n b 4 / 20 + 1))
def pay3 (F : Fs) (b n : Nat) : Fs := up2 (pay2 F b n) b 5 (pay2 F b n b 5 - (pay1 F b n b 4 / 20 + 1))
def payF (F : Fs) (b n : Nat) : Fs := if pay1 F b n b 4 = 0 then pay1 F b n else pay3 F b n
def wk1 (F : Fs) (k : Nat) (noon : Int32) : Fs := up2 F k 3 (woI (F k 0) (F k 1) (F k 3) noon)
def wkc (F : Fs) (k : Nat) (sun noon : Int32) : Int32 := coI (wk1 F k noon k 0) (wk1 F k noon k 2) sun
def wkl (F : Fs) (k : Nat) (sun noon : Int32) : Int32 := wkc F k sun noon - owI (wk1 F k noon k 5) (wkc F k sun noon) noon
def wkr (F : Fs) (b k : Nat) (sun noon : Int32) : Int32 := reI (wkl F k sun noon) (wk1 F k noon b 3) (wk1 F k noon b 4)
def wk2 (F : Fs) (b k : Nat) (sun noon : Int32) : Fs := up2 (wk1 F k noon) b 1 (wk1 F k noon b 1 - (wkl F k sun noon - wkr F b k sun noon))
def wk3 (F : Fs) (b k : Nat) (sun noon : Int32) : Fs := up2 (wk2 F b k sun noon) b 5 (wk2 F b k sun noon b 5 + wkr F b k sun noon)
def wkF (F : Fs) (b k : Nat) (sun noon : Int32) : Fs := if 10 ≤ wk1 F k noon k 3 then fallF (wk3 F b k sun noon) k else wk1 F k noon
def wkR (F : Fs) (k : Nat) (noon : Int32) : Int32 := if 10 ≤ wk1 F k noon k 3 then 1 else 0
def hrL (b : Nat) (sun noon : Int32) : Nat → Nat → Int32 → Fs → Int32 × Fs
  | 0, _, acc, F => (acc, F)
  | n + 1, i, acc, F => hrL b sun noon n (i + 1) (if wkR F (wb b i) noon = 0 then acc + 0 else acc + 1) (wkF F b (wb b i) sun noon)
def hr0 (F : Fs) (b n h : Nat) : Int32 × Fs := hrL b (sunAtI (nI (h % 12))) (noonAtI (nI (h % 12))) n 0 0 (if nI (h % 12) = 0 then payF F b n else F)
def hrF (F : Fs) (b n h : Nat) : Fs := up2 (hr0 F b n h).2 b 0 ((hr0 F b n h).2 b 0 + 1)
def hrR (F : Fs) (b n h : Nat) : Int32 := (hr0 F b n h).1
def gbL (b n : Nat) : Nat → Nat → Int32 → Fs → Int32 × Fs
  | 0, _, acc, F => (acc, F)
  | k + 1, h, acc, F => gbL b n k (h + 1) (acc + hrR F b n h) (hrF F b n h)
theorem sun_pos (h : Nat) : 1 ≤ sunAtI (nI (h % 12)) := by
  have key : ∀ d, d < 12 → 1 ≤ sunAtI (nI d) := by decide
  exact key _ (Nat.mod_lt _ (by decide))
theorem pay_ne (F : Fs) (b n : Nat) {a j : Nat} (h : ¬ (a = b ∧ (j = 1 ∨ j = 5))) : payF F b n a j = F a j := by
  have h1 : ¬ (a = b ∧ j = 1) := fun q => h ⟨q.1, Or.inl q.2⟩
  have h5 : ¬ (a = b ∧ j = 5) := fun q => h ⟨q.1, Or.inr q.2⟩
  unfold payF
  split
  · simp only [pay1, up2_at, if_neg h1]
  · simp only [pay3, pay2, pay1, up2_at, if_neg h1, if_neg h5]
theorem wk_ne (F : Fs) (b k : Nat) (sun noon : Int32) {a j : Nat} (h : ¬ (a = b ∧ (j = 1 ∨ j = 5))) (h2 : a ≠ k) : wkF F b k sun noon a j = F a j := by
  have h1 : ¬ (a = b ∧ j = 1) := fun q => h ⟨q.1, Or.inl q.2⟩
  have h5 : ¬ (a = b ∧ j = 5) := fun q => h ⟨q.1, Or.inr q.2⟩
  unfold wkF
  split
  · simp only [fallF, wk3, wk2, wk1, up2_at, if_neg h1, if_neg h5, h2, false_and, if_false]
  · simp only [wk1, up2_at, h2, false_and, if_false]
theorem hrL_ne (b : Nat) (sun noon : Int32) {a j : Nat} (h : ¬ (a = b ∧ (j = 1 ∨ j = 5))) : ∀ (n i : Nat) (acc : Int32) (F : Fs), (∀ q, i ≤ q → q < i + n → a ≠ wb b q) → (hrL b sun noon n i acc F).2 a j = F a j := by
  intro n
  induction n with
  | zero => intro i acc F _; rfl
  | succ n ih =>
    intro i acc F hq
    show (hrL b sun noon n (i + 1) _ _).2 a j = F a j
    rw [ih (i + 1) _ _ (fun q h1 h2 => hq q (by omega) (by omega))]
    exact wk_ne F b _ sun noon h (hq i (Nat.le_refl _) (by omega))
theorem hrF_ne (F : Fs) (b n h : Nat) {a j : Nat} (h0 : ¬ (a = b ∧ (j = 0 ∨ j = 1 ∨ j = 5))) (hw : ∀ q, q < n → a ≠ wb b q) : hrF F b n h a j = F a j := by
  have e1 : ¬ (a = b ∧ (j = 1 ∨ j = 5)) := fun q => h0 ⟨q.1, Or.inr q.2⟩
  unfold hrF
  rw [up2_ne _ _ (fun q => h0 ⟨q.1, Or.inl q.2⟩)]
  unfold hr0
  rw [hrL_ne b _ _ e1 n 0 _ _ (fun q _ h2 => hw q (by omega))]
  split
  · exact pay_ne F b n e1
  · rfl
theorem hrF_hour (F : Fs) (b n h : Nat) (hB : b = 1 ∨ b = 2) : hrF F b n h b 0 = F b 0 + 1 := by
  unfold hrF
  rw [up2_s]
  unfold hr0
  rw [hrL_ne b _ _ (a := b) (j := 0) (by omega) n 0 _ _ (fun q _ _ => wb_ne hB (by omega))]
  split
  · rw [pay_ne F b n (by omega)]
  · rfl
theorem wk_mem (F : Fs) (b k : Nat) (sun noon : Int32) (hk : 5 ≤ k) (hb : b < 5) (a : Nat) : wkF F b k sun noon a 5 = F a 5 ∨ a = b := by
  by_cases h : a = b
  · exact Or.inr h
  · refine Or.inl ?_
    unfold wkF
    split <;> simp [fallF, wk3, wk2, wk1, up2, h]
end
section
set_option maxHeartbeats 4000000 in
set_option maxRecDepth 100000 in
theorem c_floorMod (l : Launch) (G : gT) (F : Fs) (o : Int64) (a : Nat) (ha : a < 2 ^ 31) : MI l yJ9_floorMod_7cf53 cJ9_floorMod_7cf53 3 (some .int) 0 0 [.int (nI a), .int 12] G (F) o (F) (nI (a % 12)) := by
  refine mk_G (own := "java/lang/Math") (Qs := (fun sz => QI G (F) o (nI (a % 12)) sz)) (by decide +kernel) rfl (Nat.le_of_ble_eq_true rfl) ?_
  intro p e s m args below meth c ls hr hk0 hnm S g hl
  have hl : lv_has ls 3 [(0, .int (nI a)), (1, .int 12)] := hl
  have hx := S.1
  have hb := S.2.1
  refine lv_iload_n hx hb dJ9_floorMod_7cf53_0 rfl (lv_at hl 0 rfl) ?_
  refine lv_iload_n hx hb dJ9_floorMod_7cf53_1 rfl (lv_at hl 1 rfl) ?_
  refine lv_irem hx hb dJ9_floorMod_7cf53_2 (by decide) ?_
  rw [show ((nI a) - (nI a) / (12) * (12) : Int32) = nI (a % 12) from pk_rem (d := 12) ha (by omega) (by omega)]
  refine lv_istore_n (lv' := [(2, .int (nI (a % 12))), (0, .int (nI a)), (1, .int 12)]) hx hb dJ9_floorMod_7cf53_3 rfl hl (by decide) rfl (fun ls hl => ?_)
  refine lv_iload_n hx hb dJ9_floorMod_7cf53_4 rfl (lv_at hl 1 rfl) ?_
  refine lv_iload_n hx hb dJ9_floorMod_7cf53_5 rfl (lv_at hl 2 rfl) ?_
  refine lv_ixor hx hb dJ9_floorMod_7cf53_6 ?_
  rw [show ((nI a) ^^^ (12) : Int32) = nI (a ^^^ 12) from nx_xor a 12]
  refine lv_if_ge (tgt := 18) hx hb dJ9_floorMod_7cf53_7 (by decide) (fun c_7 => ?_) (fun c9 => absurd (nI_pos' (Nat.xor_lt_two_pow (n := 31) ha (by omega))) c9)
  refine lv_iload_n hx hb dJ9_floorMod_7cf53_18 rfl (lv_at hl 0 rfl) ?_
  exact e_i S hr hk0 g (by first | rfl | (simp only [c_7, ↓reduceIte]; done) | (simp [c_7, ↓reduceIte]; done)) (by first | rfl | (simp only [c_7, ↓reduceIte]; done)) dJ9_floorMod_7cf53_19
set_option maxHeartbeats 4000000 in
set_option maxRecDepth 100000 in
theorem c_hourOfDay (l : Launch) (G : gT) (F : Fs) (o : Int64) (a : Nat) (ha : a < 2 ^ 31) : MI l yX2_hourOfDay cX2_hourOfDay 1 (some .int) 1 22 [.int (nI a)] G (F) o (F) (nI (a % 12)) := by
  refine mk_G (own := "ShadowPool") (Qs := (fun sz => QI G (F) o (nI (a % 12)) sz)) (by decide +kernel) rfl (Nat.le_of_ble_eq_true rfl) ?_
  intro p e s m args below meth c ls hr hk0 hnm S g hl
  have hl : lv_has ls 1 [(0, .int (nI a))] := hl
  have hx := S.1
  have hb := S.2.1
  refine lv_iload_n hx hb dX2_hourOfDay_0 rfl (lv_at hl 0 rfl) ?_
  refine lv_bipush (v := 12) hx hb dX2_hourOfDay_1 (by decide) ?_
  refine g_ci (rest := []) g (g_S (n := 2) (As := [.int (nI a), .int 12]) S g (c_floorMod l G (F) o a ha) (lw_S q183 q184 q11 q185) ⟨by decide +kernel, by decide +kernel, by decide +kernel⟩ rfl ⟨Nat.le_of_ble_eq_true rfl, Nat.le_of_ble_eq_true rfl⟩ hl.1 (Nat.le_of_ble_eq_true rfl) rfl ⟨Nat.zero_le _, Nat.zero_le _⟩ dX2_hourOfDay_3) (fun H locs g => ?_)
  exact e_i S hr hk0 g (by first | rfl | (simp only [↓reduceIte]; done) | (simp [↓reduceIte]; done)) (by first | rfl | (simp only [↓reduceIte]; done)) dX2_hourOfDay_6
set_option maxHeartbeats 4000000 in
set_option maxRecDepth 100000 in
theorem c_within (l : Launch) (G : gT) (F : Fs) (o : Int64) (v : Int32) (lo : Int32) (hi : Int32) : MI l yX2_within cX2_within 3 (some .boolean) 0 0 [.int v, .int lo, .int hi] G (F) o (F) (inR v lo hi) := by
  refine mk_G (own := "ShadowPool") (Qs := (fun sz => QI G (F) o (inR v lo hi) sz)) (by decide +kernel) rfl (Nat.le_of_ble_eq_true rfl) ?_
  intro p e s m args below meth c ls hr hk0 hnm S g hl
  have hl : lv_has ls 3 [(0, .int v), (1, .int lo), (2, .int hi)] := hl
  have hx := S.1
  have hb := S.2.1
  refine lv_iload_n hx hb dX2_within_0 rfl (lv_at hl 0 rfl) ?_
  refine lv_iload_n hx hb dX2_within_1 rfl (lv_at hl 1 rfl) ?_
  refine lv_icmp_lt (tgt := 14) hx hb dX2_within_2 (by decide) (fun c_2 => ?_) (fun c_2 => ?_)
  · refine lv_iconst (v := 0) hx hb dX2_within_14 (by decide) ?_
    exact e_z S hr hk0 g (by first | rfl | decide) (by first | rfl | (simp only [inR, c_2, ↓reduceIte]; done) | (simp [inR, c_2, ↓reduceIte]; done)) (by first | rfl | (simp only [inR, c_2, ↓reduceIte]; done)) dX2_within_15
  · refine lv_iload_n hx hb dX2_within_5 rfl (lv_at hl 0 rfl) ?_
    refine lv_iload_n hx hb dX2_within_6 rfl (lv_at hl 2 rfl) ?_
    refine lv_icmp_gt (tgt := 14) hx hb dX2_within_7 (by decide) (fun c_7 => ?_) (fun c_7 => ?_)
    · refine lv_iconst (v := 0) hx hb dX2_within_14 (by decide) ?_
      exact e_z S hr hk0 g (by first | rfl | decide) (by first | rfl | (simp only [inR, c_2, c_7, ↓reduceIte]; done) | (simp [inR, c_2, c_7, ↓reduceIte]; done)) (by first | rfl | (simp only [inR, c_2, c_7, ↓reduceIte]; done)) dX2_within_15
    · refine lv_iconst (v := 1) hx hb dX2_within_10 (by decide) ?_
      refine lv_goto (tgt := 15) hx hb dX2_within_11 (by decide) ?_
      exact e_z S hr hk0 g (by first | rfl | decide) (by first | rfl | (simp only [inR, c_2, c_7, ↓reduceIte]; done) | (simp [inR, c_2, c_7, ↓reduceIte]; done)) (by first | rfl | (simp only [inR, c_2, c_7, ↓reduceIte]; done)) dX2_within_15
set_option maxHeartbeats 4000000 in
set_option maxRecDepth 100000 in
theorem c_sunAt (l : Launch) (G : gT) (F : Fs) (o : Int64) (d : Int32) : MI l yX2_sunAt cX2_sunAt 1 (some .int) 0 0 [.int d] G (F) o (F) (sunAtI d) := by
  refine mk_G (own := "ShadowPool") (Qs := (fun sz => QI G (F) o (sunAtI d) sz)) (by decide +kernel) rfl (Nat.le_of_ble_eq_true rfl) ?_
  intro p e s m args below meth c ls hr hk0 hnm S g hl
  have hl : lv_has ls 1 [(0, .int d)] := hl
  have hx := S.1
  have hb := S.2.1
  refine lv_iload_n hx hb dX2_sunAt_0 rfl (lv_at hl 0 rfl) ?_
  refine lv_iconst (v := 5) hx hb dX2_sunAt_1 (by decide) ?_
  refine lv_icmp_gt (tgt := 11) hx hb dX2_sunAt_2 (by decide) (fun c_2 => ?_) (fun c_2 => ?_)
  · refine lv_bipush (v := 12) hx hb dX2_sunAt_11 (by decide) ?_
    refine lv_iload_n hx hb dX2_sunAt_13 rfl (lv_at hl 0 rfl) ?_
    refine lv_isub hx hb dX2_sunAt_14 ?_
    exact e_i S hr hk0 g (by first | rfl | (simp only [sunAtI, c_2, ↓reduceIte]; done) | (simp [sunAtI, c_2, ↓reduceIte]; done)) (by first | rfl | (simp only [sunAtI, c_2, ↓reduceIte]; done)) dX2_sunAt_15
  · refine lv_iload_n hx hb dX2_sunAt_5 rfl (lv_at hl 0 rfl) ?_
    refine lv_iconst (v := 1) hx hb dX2_sunAt_6 (by decide) ?_
    refine lv_iadd hx hb dX2_sunAt_7 ?_
    refine lv_goto (tgt := 15) hx hb dX2_sunAt_8 (by decide) ?_
    exact e_i S hr hk0 g (by first | rfl | (simp only [sunAtI, c_2, ↓reduceIte]; done) | (simp [sunAtI, c_2, ↓reduceIte]; done)) (by first | rfl | (simp only [sunAtI, c_2, ↓reduceIte]; done)) dX2_sunAt_15
set_option maxHeartbeats 4000000 in
set_option maxRecDepth 100000 in
theorem c_noonAt (l : Launch) (G : gT) (F : Fs) (o : Int64) (d : Int32) : MI l yX2_noonAt cX2_noonAt 1 (some .boolean) 0 0 [.int d] G (F) o (F) (noonAtI d) := by
  refine mk_G (own := "ShadowPool") (Qs := (fun sz => QI G (F) o (noonAtI d) sz)) (by decide +kernel) rfl (Nat.le_of_ble_eq_true rfl) ?_
  intro p e s m args below meth c ls hr hk0 hnm S g hl
  have hl : lv_has ls 1 [(0, .int d)] := hl
  have hx := S.1
  have hb := S.2.1
  refine lv_iload_n hx hb dX2_noonAt_0 rfl (lv_at hl 0 rfl) ?_
  refine lv_iconst (v := 5) hx hb dX2_noonAt_1 (by decide) ?_
  refine lv_icmp_lt (tgt := 15) hx hb dX2_noonAt_2 (by decide) (fun c_2 => ?_) (fun c_2 => ?_)
  · refine lv_iconst (v := 0) hx hb dX2_noonAt_15 (by decide) ?_
    exact e_z S hr hk0 g (by first | rfl | decide) (by first | rfl | (simp only [noonAtI, c_2, ↓reduceIte]; done) | (simp [noonAtI, c_2, ↓reduceIte]; done)) (by first | rfl | (simp only [noonAtI, c_2, ↓reduceIte]; done)) dX2_noonAt_16
  · refine lv_iload_n hx hb dX2_noonAt_5 rfl (lv_at hl 0 rfl) ?_
    refine lv_bipush (v := 6) hx hb dX2_noonAt_6 (by decide) ?_
    refine lv_icmp_gt (tgt := 15) hx hb dX2_noonAt_8 (by decide) (fun c_8 => ?_) (fun c_8 => ?_)
    · refine lv_iconst (v := 0) hx hb dX2_noonAt_15 (by decide) ?_
      exact e_z S hr hk0 g (by first | rfl | decide) (by first | rfl | (simp only [noonAtI, c_2, c_8, ↓reduceIte]; done) | (simp [noonAtI, c_2, c_8, ↓reduceIte]; done)) (by first | rfl | (simp only [noonAtI, c_2, c_8, ↓reduceIte]; done)) dX2_noonAt_16
    · refine lv_iconst (v := 1) hx hb dX2_noonAt_11 (by decide) ?_
      refine lv_goto (tgt := 16) hx hb dX2_noonAt_12 (by decide) ?_
      exact e_z S hr hk0 g (by first | rfl | decide) (by first | rfl | (simp only [noonAtI, c_2, c_8, ↓reduceIte]; done) | (simp [noonAtI, c_2, c_8, ↓reduceIte]; done)) (by first | rfl | (simp only [noonAtI, c_2, c_8, ↓reduceIte]; done)) dX2_noonAt_16
set_option maxHeartbeats 4000000 in
set_option maxRecDepth 100000 in
theorem c_shadowUnder (l : Launch) (G : gT) (F : Fs) (o : Int64) (k : Nat) (sun : Int32) (h1 : 5 ≤ k) (h2 : k < 21) (hs : 1 ≤ sun) : MI l yX1_shadowUnder cX1_shadowUnder 2 (some .int) 0 0 [.ref (gA G k), .int sun] G (F) o (F) (shI (F k 0) sun) := by
  refine mk_G (own := "ShadowPool$Walker") (Qs := (fun sz => QI G (F) o (shI (F k 0) sun) sz)) (by decide +kernel) rfl (Nat.le_of_ble_eq_true rfl) ?_
  intro p e s m args below meth c ls hr hk0 hnm S g hl
  have hl : lv_has ls 2 [(0, .ref (gA G k)), (1, .int sun)] := hl
  have hx := S.1
  have hb := S.2.1
  refine lv_iload_n hx hb dX1_shadowUnder_0 rfl (lv_at hl 1 rfl) ?_
  refine lv_iconst (v := 1) hx hb dX1_shadowUnder_1 (by decide) ?_
  refine lv_icmp_ge (tgt := 9) hx hb dX1_shadowUnder_2 (by decide) (fun c_2 => ?_) (fun c9 => absurd hs c9)
  refine lv_bipush (v := 6) hx hb dX1_shadowUnder_9 (by decide) ?_
  refine lv_aload_n hx hb dX1_shadowUnder_11 rfl (lv_at hl 0 rfl) ?_
  refine gW (k := k) S g h1 h2 0 (by decide) q33 dX1_shadowUnder_12 ?_
  refine lv_imul hx hb dX1_shadowUnder_15 ?_
  refine lv_iload_n hx hb dX1_shadowUnder_16 rfl (lv_at hl 1 rfl) ?_
  refine lv_idiv hx hb dX1_shadowUnder_17 (ne0_pos hs) ?_
  exact e_i S hr hk0 g (by first | rfl | (simp only [shI, c_2, ↓reduceIte]; done) | (simp [shI, c_2, ↓reduceIte]; done)) (by first | rfl | (simp only [shI, c_2, ↓reduceIte]; done)) dX1_shadowUnder_18
set_option maxHeartbeats 4000000 in
set_option maxRecDepth 100000 in
theorem c_costUnder (l : Launch) (G : gT) (F : Fs) (o : Int64) (k : Nat) (sun : Int32) (h1 : 5 ≤ k) (h2 : k < 21) (hs : 1 ≤ sun) : MI l yX1_costUnder cX1_costUnder 2 (some .int) 1 21 [.ref (gA G k), .int sun] G (F) o (F) (coI (F k 0) (F k 2) sun) := by
  refine mk_G (own := "ShadowPool$Walker") (Qs := (fun sz => QI G (F) o (coI (F k 0) (F k 2) sun) sz)) (by decide +kernel) rfl (Nat.le_of_ble_eq_true rfl) ?_
  intro p e s m args below meth c ls hr hk0 hnm S g hl
  have hl : lv_has ls 2 [(0, .ref (gA G k)), (1, .int sun)] := hl
  have hx := S.1
  have hb := S.2.1
  refine lv_iconst (v := 0) hx hb dX1_costUnder_0 (by decide) ?_
  refine lv_aload_n hx hb dX1_costUnder_1 rfl (lv_at hl 0 rfl) ?_
  refine lv_iload_n hx hb dX1_costUnder_2 rfl (lv_at hl 1 rfl) ?_
  refine g_ci (rest := [.int 0]) g (g_V (n := 1) (As := [.int sun]) S g (c_shadowUnder l G (F) o k sun h1 h2 hs) (Nat.lt_of_lt_of_le h2 (by decide)) (cEw G _ o h1 h2) rfl (lw_V q219 q221 qs9 q3 q222) ⟨rfl, by decide +kernel, by decide +kernel, by decide +kernel⟩ rfl ⟨Nat.le_of_ble_eq_true rfl, Nat.le_of_ble_eq_true rfl⟩ hl.1 (Nat.le_of_ble_eq_true rfl) rfl ⟨Nat.zero_le _, Nat.zero_le _⟩ dX1_costUnder_3) (fun H locs g => ?_)
  refine lv_iconst (v := 2) hx hb dX1_costUnder_6 (by decide) ?_
  refine lv_aload_n hx hb dX1_costUnder_7 rfl (lv_at hl 0 rfl) ?_
  refine gW (k := k) S g h1 h2 2 (by decide) q35 dX1_costUnder_8 ?_
  refine lv_imul hx hb dX1_costUnder_11 ?_
  refine lv_isub hx hb dX1_costUnder_12 ?_
  refine g_max S hl.1 q212 qMaxS q11 qMax (Nat.le_of_ble_eq_true rfl) (Nat.le_of_ble_eq_true rfl) (Nat.zero_le _) (Nat.zero_le _) dX1_costUnder_13 ?_
  exact e_i S hr hk0 g (by first | rfl | (simp only [coI, mx0, ↓reduceIte]; done) | (simp [coI, mx0, ↓reduceIte]; done)) (by first | rfl | (simp only [coI, mx0, ↓reduceIte]; done)) dX1_costUnder_16
set_option maxHeartbeats 4000000 in
set_option maxRecDepth 100000 in
theorem c_ownPart (l : Launch) (G : gT) (F : Fs) (o : Int64) (k : Nat) (cost : Int32) (noon : Int32) (h1 : 5 ≤ k) (h2 : k < 21) : MI l yX1_ownPart cX1_ownPart 3 (some .int) 1 21 [.ref (gA G k), .int cost, .int noon] G (F) o (F) (owI (F k 5) cost noon) := by
  refine mk_G (own := "ShadowPool$Walker") (Qs := (fun sz => QI G (F) o (owI (F k 5) cost noon) sz)) (by decide +kernel) rfl (Nat.le_of_ble_eq_true rfl) ?_
  intro p e s m args below meth c ls hr hk0 hnm S g hl
  have hl : lv_has ls 3 [(0, .ref (gA G k)), (1, .int cost), (2, .int noon)] := hl
  have hx := S.1
  have hb := S.2.1
  refine lv_aload_n hx hb dX1_ownPart_0 rfl (lv_at hl 0 rfl) ?_
  refine gW (k := k) S g h1 h2 5 (by decide) q42 dX1_ownPart_1 ?_
  refine lv_if_ne (tgt := 9) hx hb dX1_ownPart_4 (by decide) (fun c_4 => ?_) (fun c_4 => ?_)
  · refine lv_iload_n hx hb dX1_ownPart_9 rfl (lv_at hl 1 rfl) ?_
    refine lv_iload_n hx hb dX1_ownPart_10 rfl (lv_at hl 2 rfl) ?_
    refine lv_if_eq (tgt := 19) hx hb dX1_ownPart_11 (by decide) (fun c_11 => ?_) (fun c_11 => ?_)
    · refine lv_iconst (v := 3) hx hb dX1_ownPart_19 (by decide) ?_
      refine g_min S hl.1 q227 qMinS q11 qMin (Nat.le_of_ble_eq_true rfl) (Nat.le_of_ble_eq_true rfl) (Nat.zero_le _) (Nat.zero_le _) dX1_ownPart_20 ?_
      exact e_i S hr hk0 g (by first | rfl | (simp only [owI, c_4, c_11, ↓reduceIte]; done) | (simp [owI, c_4, c_11, ↓reduceIte]; done)) (by first | rfl | (simp only [owI, c_4, c_11, ↓reduceIte]; done)) dX1_ownPart_23
    · refine lv_bipush (v := 6) hx hb dX1_ownPart_14 (by decide) ?_
      refine lv_goto (tgt := 20) hx hb dX1_ownPart_16 (by decide) ?_
      refine g_min S hl.1 q227 qMinS q11 qMin (Nat.le_of_ble_eq_true rfl) (Nat.le_of_ble_eq_true rfl) (Nat.zero_le _) (Nat.zero_le _) dX1_ownPart_20 ?_
      exact e_i S hr hk0 g (by first | rfl | (simp only [owI, c_4, c_11, ↓reduceIte]; done) | (simp [owI, c_4, c_11, ↓reduceIte]; done)) (by first | rfl | (simp only [owI, c_4, c_11, ↓reduceIte]; done)) dX1_ownPart_23
  · refine lv_iload_n hx hb dX1_ownPart_7 rfl (lv_at hl 1 rfl) ?_
    exact e_i S hr hk0 g (by first | rfl | (simp only [owI, c_4, ↓reduceIte]; done) | (simp [owI, c_4, ↓reduceIte]; done)) (by first | rfl | (simp only [owI, c_4, ↓reduceIte]; done)) dX1_ownPart_8
set_option maxHeartbeats 4000000 in
set_option maxRecDepth 100000 in
theorem c_wobbleBehind (l : Launch) (G : gT) (F : Fs) (o : Int64) (k : Nat) (before : Int32) (noon : Int32) (h1 : 5 ≤ k) (h2 : k < 21) : MI l yX1_wobbleBehind cX1_wobbleBehind 4 (some .int) 1 21 [.ref (gA G k), .int before, .int noon] G (F) o (F) (woI (F k 0) (F k 1) before noon) := by
  refine mk_G (own := "ShadowPool$Walker") (Qs := (fun sz => QI G (F) o (woI (F k 0) (F k 1) before noon) sz)) (by decide +kernel) rfl (Nat.le_of_ble_eq_true rfl) ?_
  intro p e s m args below meth c ls hr hk0 hnm S g hl
  have hl : lv_has ls 4 [(0, .ref (gA G k)), (1, .int before), (2, .int noon)] := hl
  have hx := S.1
  have hb := S.2.1
  refine lv_aload_n hx hb dX1_wobbleBehind_0 rfl (lv_at hl 0 rfl) ?_
  refine gW (k := k) S g h1 h2 0 (by decide) q33 dX1_wobbleBehind_1 ?_
  refine lv_iconst (v := 5) hx hb dX1_wobbleBehind_4 (by decide) ?_
  refine lv_idiv hx hb dX1_wobbleBehind_5 (by decide) ?_
  refine lv_iload_n hx hb dX1_wobbleBehind_6 rfl (lv_at hl 2 rfl) ?_
  refine lv_if_eq (tgt := 14) hx hb dX1_wobbleBehind_7 (by decide) (fun c_7 => ?_) (fun c_7 => ?_)
  · refine lv_iconst (v := 1) hx hb dX1_wobbleBehind_14 (by decide) ?_
    refine lv_iadd hx hb dX1_wobbleBehind_15 ?_
    refine lv_istore_n (lv' := [(3, .int (((F k 0) / (5)) + (1))), (0, .ref (gA G k)), (1, .int before), (2, .int noon)]) hx hb dX1_wobbleBehind_16 rfl hl (by decide) rfl (fun ls hl => ?_)
    refine lv_iconst (v := 0) hx hb dX1_wobbleBehind_17 (by decide) ?_
    refine lv_iload_n hx hb dX1_wobbleBehind_18 rfl (lv_at hl 2 rfl) ?_
    refine lv_iload_n hx hb dX1_wobbleBehind_19 rfl (lv_at hl 0 rfl) ?_
    refine lv_iadd hx hb dX1_wobbleBehind_20 ?_
    refine lv_aload_n hx hb dX1_wobbleBehind_21 rfl (lv_at hl 1 rfl) ?_
    refine gW (k := k) S g h1 h2 1 (by decide) q34 dX1_wobbleBehind_22 ?_
    refine lv_isub hx hb dX1_wobbleBehind_25 ?_
    refine g_max S hl.1 q212 qMaxS q11 qMax (Nat.le_of_ble_eq_true rfl) (Nat.le_of_ble_eq_true rfl) (Nat.zero_le _) (Nat.zero_le _) dX1_wobbleBehind_26 ?_
    exact e_i S hr hk0 g (by first | rfl | (simp only [woI, mx0, c_7, ↓reduceIte]; done) | (simp [woI, mx0, c_7, ↓reduceIte]; done)) (by first | rfl | (simp only [woI, mx0, c_7, ↓reduceIte]; done)) dX1_wobbleBehind_29
  · refine lv_iconst (v := 2) hx hb dX1_wobbleBehind_10 (by decide) ?_
    refine lv_goto (tgt := 15) hx hb dX1_wobbleBehind_11 (by decide) ?_
    refine lv_iadd hx hb dX1_wobbleBehind_15 ?_
    refine lv_istore_n (lv' := [(3, .int (((F k 0) / (5)) + (2))), (0, .ref (gA G k)), (1, .int before), (2, .int noon)]) hx hb dX1_wobbleBehind_16 rfl hl (by decide) rfl (fun ls hl => ?_)
    refine lv_iconst (v := 0) hx hb dX1_wobbleBehind_17 (by decide) ?_
    refine lv_iload_n hx hb dX1_wobbleBehind_18 rfl (lv_at hl 2 rfl) ?_
    refine lv_iload_n hx hb dX1_wobbleBehind_19 rfl (lv_at hl 0 rfl) ?_
    refine lv_iadd hx hb dX1_wobbleBehind_20 ?_
    refine lv_aload_n hx hb dX1_wobbleBehind_21 rfl (lv_at hl 1 rfl) ?_
    refine gW (k := k) S g h1 h2 1 (by decide) q34 dX1_wobbleBehind_22 ?_
    refine lv_isub hx hb dX1_wobbleBehind_25 ?_
    refine g_max S hl.1 q212 qMaxS q11 qMax (Nat.le_of_ble_eq_true rfl) (Nat.le_of_ble_eq_true rfl) (Nat.zero_le _) (Nat.zero_le _) dX1_wobbleBehind_26 ?_
    exact e_i S hr hk0 g (by first | rfl | (simp only [woI, mx0, c_7, ↓reduceIte]; done) | (simp [woI, mx0, c_7, ↓reduceIte]; done)) (by first | rfl | (simp only [woI, mx0, c_7, ↓reduceIte]; done)) dX1_wobbleBehind_29
set_option maxHeartbeats 4000000 in
set_option maxRecDepth 100000 in
theorem c_fallsBehind (l : Launch) (G : gT) (F : Fs) (o : Int64) (k : Nat) (h : Nat) (h1 : 5 ≤ k) (h2 : k < 21) (hh : h < 2 ^ 30) : MI l yX1_fallsBehind cX1_fallsBehind 4 (some .int) 2 44 [.ref (gA G k), .int (nI h)] G (F) o (F) (faB (F k 0) (F k 1) h 100 0 (F k 3)) := by
  refine mk_G (own := "ShadowPool$Walker") (Qs := (fun sz => QI G (F) o (faB (F k 0) (F k 1) h 100 0 (F k 3)) sz)) (by decide +kernel) rfl (Nat.le_of_ble_eq_true rfl) ?_
  intro p e s m args below meth c ls hr hk0 hnm S g hl
  have hl : lv_has ls 4 [(0, .ref (gA G k)), (1, .int (nI h))] := hl
  have hx := S.1
  have hb := S.2.1
  refine lv_aload_n hx hb dX1_fallsBehind_0 rfl (lv_at hl 0 rfl) ?_
  refine gW (k := k) S g h1 h2 3 (by decide) q37 dX1_fallsBehind_1 ?_
  refine lv_istore_n (lv' := [(2, .int (F k 3)), (0, .ref (gA G k)), (1, .int (nI h))]) hx hb dX1_fallsBehind_4 rfl hl (by decide) rfl (fun ls hl => ?_)
  refine lv_iconst (v := 1) hx hb dX1_fallsBehind_5 (by decide) ?_
  refine lv_istore_n (lv' := [(3, .int 1), (2, .int (F k 3)), (0, .ref (gA G k)), (1, .int (nI h))]) hx hb dX1_fallsBehind_6 rfl hl (by decide) rfl (fun ls hl => ?_)
  have loop7 : ∀ (n_ : Nat) (i : Nat) (r : Int32) (H : Heap) (locs : List Loc) (ls : Array Slot) (hn : i + n_ = 100) (hres : faB (F k 0) (F k 1) h n_ i r = faB (F k 0) (F k 1) h 100 0 (F k 3)), GB G (F) o [] [] s H locs → lv_has ls 4 [(0, .ref (gA G k)), (1, .int (nI h)), (2, .int r), (3, .int (nI (i + 1)))] → W p l e (rmG 2 44) s m args below meth c H locs 0 0 (MQ below (QI G (F) o (faB (F k 0) (F k 1) h 100 0 (F k 3)) s.heap.size) args s 0 0 (GA G s.heap.size)) (F0 m 7 ls []) := by
    intro n_
    induction n_ with
    | zero =>
      intro i r H locs ls hn hres g hl
      refine lv_iload_n hx hb dX1_fallsBehind_7 rfl (lv_at hl 3 rfl) ?_
      refine lv_bipush (v := 100) hx hb dX1_fallsBehind_8 (by decide) ?_
      refine lv_icmp_gt (tgt := 44) hx hb dX1_fallsBehind_10 (by decide) (fun c_10 => ?_) (fun c9 => absurd (nI_lt (a := 100) (by omega) (by omega)) c9)
      refine lv_iconst (v := (-1)) hx hb dX1_fallsBehind_44 (by decide) ?_
      exact e_i S hr hk0 g hres rfl dX1_fallsBehind_45
    | succ n_ ih_7 =>
      intro i r H locs ls hn hres g hl
      refine lv_iload_n hx hb dX1_fallsBehind_7 rfl (lv_at hl 3 rfl) ?_
      refine lv_bipush (v := 100) hx hb dX1_fallsBehind_8 (by decide) ?_
      refine lv_icmp_gt (tgt := 44) hx hb dX1_fallsBehind_10 (by decide) (fun c9 => absurd c9 (nI_nlt (a := 100) (by omega) (by omega))) (fun c_10 => ?_)
      refine lv_aload_n hx hb dX1_fallsBehind_13 rfl (lv_at hl 0 rfl) ?_
      refine lv_iload_n hx hb dX1_fallsBehind_14 rfl (lv_at hl 2 rfl) ?_
      refine lv_iload_n hx hb dX1_fallsBehind_15 rfl (lv_at hl 1 rfl) ?_
      refine lv_iload_n hx hb dX1_fallsBehind_16 rfl (lv_at hl 3 rfl) ?_
      refine lv_iadd hx hb dX1_fallsBehind_17 ?_
      rw [show ((nI h) + (nI (i + 1)) : Int32) = nI (h + (i + 1)) from nI_add h (i + 1)]
      refine lv_iconst (v := 1) hx hb dX1_fallsBehind_18 (by decide) ?_
      refine lv_isub hx hb dX1_fallsBehind_19 ?_
      rw [show ((nI (h + (i + 1))) - (1) : Int32) = nI (h + i) from nI_pred (h + i)]
      refine g_ci (rest := [.int r, .ref (gA G k)]) g (g_SN (n := 1) (As := [.int (nI (h + i))]) S g (c_hourOfDay l G (F) o (h + i) (by omega)) qn363 q181 q1 q182 ⟨by decide +kernel, by decide +kernel, by decide +kernel⟩ rfl ⟨Nat.le_of_ble_eq_true rfl, Nat.le_of_ble_eq_true rfl⟩ hl.1 (Nat.le_of_ble_eq_true rfl) rfl ⟨Nat.zero_le _, Nat.zero_le _⟩ dX1_fallsBehind_20) (fun H locs g => ?_)
      refine g_ci (rest := [.int r, .ref (gA G k)]) g (g_SN (n := 1) (As := [.int (nI ((h + i) % 12))]) S g (c_noonAt l G (F) o (nI ((h + i) % 12))) qn364 q202 q1 q203 ⟨by decide +kernel, by decide +kernel, by decide +kernel⟩ rfl ⟨Nat.le_of_ble_eq_true rfl, Nat.le_of_ble_eq_true rfl⟩ hl.1 (Nat.le_of_ble_eq_true rfl) rfl ⟨Nat.zero_le _, Nat.zero_le _⟩ dX1_fallsBehind_23) (fun H locs g => ?_)
      refine g_ci (rest := []) g (g_V (n := 2) (As := [.int r, .int (noonAtI (nI ((h + i) % 12)))]) S g (c_wobbleBehind l G (F) o k r (noonAtI (nI ((h + i) % 12))) h1 h2) (Nat.lt_of_lt_of_le h2 (by decide)) (cEw G _ o h1 h2) rfl (lw_V q365 q210 qs7 q3 q211) ⟨rfl, by decide +kernel, by decide +kernel, by decide +kernel⟩ rfl ⟨Nat.le_of_ble_eq_true rfl, Nat.le_of_ble_eq_true rfl⟩ hl.1 (Nat.le_of_ble_eq_true rfl) rfl ⟨Nat.zero_le _, Nat.zero_le _⟩ dX1_fallsBehind_26) (fun H locs g => ?_)
      refine lv_istore_n (lv' := [(2, .int (woI (F k 0) (F k 1) r (noonAtI (nI ((h + i) % 12))))), (0, .ref (gA G k)), (1, .int (nI h)), (3, .int (nI (i + 1)))]) hx hb dX1_fallsBehind_29 rfl hl (by decide) rfl (fun ls hl => ?_)
      refine lv_iload_n hx hb dX1_fallsBehind_30 rfl (lv_at hl 0 rfl) ?_
      refine lv_bipush (v := 10) hx hb dX1_fallsBehind_31 (by decide) ?_
      refine lv_icmp_lt (tgt := 38) hx hb dX1_fallsBehind_33 (by decide) (fun c_33 => ?_) (fun c_33 => ?_)
      · refine lv_iinc (v := nI (i + 1 + 1)) (lv' := [(3, .int (nI (i + 1 + 1))), (2, .int (woI (F k 0) (F k 1) r (noonAtI (nI ((h + i) % 12))))), (0, .ref (gA G k)), (1, .int (nI h))]) hx hb dX1_fallsBehind_38 hl (k := 3) rfl (nI_1 (i + 1)) (by decide) rfl (fun ls hl => ?_)
        refine lv_goto (tgt := 7) hx hb dX1_fallsBehind_41 (by decide) ?_
        exact ih_7 (i + 1) _ _ _ _ (by omega) (by simpa only [faB, c_10, c_33, ↓reduceIte] using hres) g (lv_sub hl [2, 3, 1, 0] rfl)
      · refine lv_iload_n hx hb dX1_fallsBehind_36 rfl (lv_at hl 3 rfl) ?_
        exact e_i S hr hk0 g (by simpa only [faB, c_10, c_33, ↓reduceIte] using hres) rfl dX1_fallsBehind_37
  exact loop7 100 0 (F k 3) _ _ _ rfl rfl g (lv_sub hl [2, 3, 1, 0] rfl)
set_option maxHeartbeats 4000000 in
set_option maxRecDepth 100000 in
theorem c_fall (l : Launch) (G : gT) (F : Fs) (o : Int64) (k : Nat) (h1 : 5 ≤ k) (h2 : k < 21) : MV l yX1_fall cX1_fall 1 1 21 [.ref (gA G k)] G (F) o (fallF F k) := by
  refine mk_G (own := "ShadowPool$Walker") (Qs := (fun sz => QV G (fallF F k) o sz)) (by decide +kernel) rfl (Nat.le_of_ble_eq_true rfl) ?_
  intro p e s m args below meth c ls hr hk0 hnm S g hl
  have hl : lv_has ls 1 [(0, .ref (gA G k))] := hl
  have hx := S.1
  have hb := S.2.1
  refine lv_aload_n hx hb dX1_fall_0 rfl (lv_at hl 0 rfl) ?_
  refine lv_dup hx hb dX1_fall_1 rfl ?_
  refine gW (k := k) S g h1 h2 4 (by decide) q40 dX1_fall_2 ?_
  refine lv_iconst (v := 1) hx hb dX1_fall_5 (by decide) ?_
  refine lv_iadd hx hb dX1_fall_6 ?_
  refine gWp (k := k) S g h1 h2 4 (by decide) q40 dX1_fall_7 (fun H locs g => ?_)
  refine lv_aload_n hx hb dX1_fall_10 rfl (lv_at hl 0 rfl) ?_
  refine lv_iconst (v := 0) hx hb dX1_fall_11 (by decide) ?_
  refine lv_aload_n hx hb dX1_fall_12 rfl (lv_at hl 0 rfl) ?_
  refine gW (k := k) S g h1 h2 2 (by decide) q35 dX1_fall_13 ?_
  refine lv_iconst (v := 1) hx hb dX1_fall_16 (by decide) ?_
  refine lv_isub hx hb dX1_fall_17 ?_
  refine g_max S hl.1 q212 qMaxS q11 qMax (Nat.le_of_ble_eq_true rfl) (Nat.le_of_ble_eq_true rfl) (Nat.zero_le _) (Nat.zero_le _) dX1_fall_18 ?_
  refine gWp (k := k) S g h1 h2 2 (by decide) q35 dX1_fall_21 (fun H locs g => ?_)
  refine lv_aload_n hx hb dX1_fall_24 rfl (lv_at hl 0 rfl) ?_
  refine lv_iconst (v := 0) hx hb dX1_fall_25 (by decide) ?_
  refine gWp (k := k) S g h1 h2 3 (by decide) q37 dX1_fall_26 (fun H locs g => ?_)
  exact e_v S hr hk0 g rfl dX1_fall_29
set_option maxHeartbeats 4000000 in
set_option maxRecDepth 100000 in
theorem c_begin (l : Launch) (G : gT) (F : Fs) (o : Int64) (k : Nat) (h : Int32) (sk : Int32) (nt : Int32) (h1 : 5 ≤ k) (h2 : k < 21) : MV l yX1_begin cX1_begin 4 0 0 [.ref (gA G k), .int h, .int sk, .int nt] G (F) o (begF F k h sk nt) := by
  refine mk_G (own := "ShadowPool$Walker") (Qs := (fun sz => QV G (begF F k h sk nt) o sz)) (by decide +kernel) rfl (Nat.le_of_ble_eq_true rfl) ?_
  intro p e s m args below meth c ls hr hk0 hnm S g hl
  have hl : lv_has ls 4 [(0, .ref (gA G k)), (1, .int h), (2, .int sk), (3, .int nt)] := hl
  have hx := S.1
  have hb := S.2.1
  refine lv_aload_n hx hb dX1_begin_0 rfl (lv_at hl 0 rfl) ?_
  refine lv_iload_n hx hb dX1_begin_1 rfl (lv_at hl 1 rfl) ?_
  refine gWp (k := k) S g h1 h2 0 (by decide) q33 dX1_begin_2 (fun H locs g => ?_)
  refine lv_aload_n hx hb dX1_begin_5 rfl (lv_at hl 0 rfl) ?_
  refine lv_iload_n hx hb dX1_begin_6 rfl (lv_at hl 2 rfl) ?_
  refine gWp (k := k) S g h1 h2 1 (by decide) q34 dX1_begin_7 (fun H locs g => ?_)
  refine lv_aload_n hx hb dX1_begin_10 rfl (lv_at hl 0 rfl) ?_
  refine lv_iload_n hx hb dX1_begin_11 rfl (lv_at hl 3 rfl) ?_
  refine gWp (k := k) S g h1 h2 2 (by decide) q35 dX1_begin_12 (fun H locs g => ?_)
  refine lv_aload_n hx hb dX1_begin_15 rfl (lv_at hl 0 rfl) ?_
  refine lv_iconst (v := 0) hx hb dX1_begin_16 (by decide) ?_
  refine gWp (k := k) S g h1 h2 3 (by decide) q37 dX1_begin_17 (fun H locs g => ?_)
  refine lv_aload_n hx hb dX1_begin_20 rfl (lv_at hl 0 rfl) ?_
  refine lv_iconst (v := 0) hx hb dX1_begin_21 (by decide) ?_
  refine gWp (k := k) S g h1 h2 4 (by decide) q40 dX1_begin_22 (fun H locs g => ?_)
  refine lv_aload_n hx hb dX1_begin_25 rfl (lv_at hl 0 rfl) ?_
  refine lv_iconst (v := 1) hx hb dX1_begin_26 (by decide) ?_
  refine gWz (k := k) S g h1 h2 5 rfl (Or.inr rfl) q42 dX1_begin_27 (fun H locs g => ?_)
  exact e_v S hr hk0 g rfl dX1_begin_30
set_option maxHeartbeats 4000000 in
set_option maxRecDepth 100000 in
theorem c_copyWalker (l : Launch) (G : gT) (F : Fs) (o : Int64) (k : Nat) (k2 : Nat) (h1 : 5 ≤ k) (h2 : k < 21) (g1 : 5 ≤ k2) (g2 : k2 < 21) (hm : F k2 5 = 0 ∨ F k2 5 = 1) : MV l yX1_copyWalker cX1_copyWalker 2 0 0 [.ref (gA G k), .ref (gA G k2)] G (F) o (cpwF F k k2) := by
  refine mk_G (own := "ShadowPool$Walker") (Qs := (fun sz => QV G (cpwF F k k2) o sz)) (by decide +kernel) rfl (Nat.le_of_ble_eq_true rfl) ?_
  intro p e s m args below meth c ls hr hk0 hnm S g hl
  have hl : lv_has ls 2 [(0, .ref (gA G k)), (1, .ref (gA G k2))] := hl
  have hx := S.1
  have hb := S.2.1
  refine lv_aload_n hx hb dX1_copyWalker_0 rfl (lv_at hl 0 rfl) ?_
  refine lv_aload_n hx hb dX1_copyWalker_1 rfl (lv_at hl 1 rfl) ?_
  refine gW (k := k2) S g g1 g2 0 (by decide) q33 dX1_copyWalker_2 ?_
  refine gWp (k := k) S g h1 h2 0 (by decide) q33 dX1_copyWalker_5 (fun H locs g => ?_)
  rw [show up2 (F) (k) 0 (F k2 0) = cpw1 F k k2 from rfl] at g
  refine lv_aload_n hx hb dX1_copyWalker_8 rfl (lv_at hl 0 rfl) ?_
  refine lv_aload_n hx hb dX1_copyWalker_9 rfl (lv_at hl 1 rfl) ?_
  refine gW (k := k2) S g g1 g2 1 (by decide) q34 dX1_copyWalker_10 ?_
  refine gWp (k := k) S g h1 h2 1 (by decide) q34 dX1_copyWalker_13 (fun H locs g => ?_)
  rw [show up2 (cpw1 F k k2) (k) 1 ((cpw1 F k k2) k2 1) = cpw2 F k k2 from rfl] at g
  refine lv_aload_n hx hb dX1_copyWalker_16 rfl (lv_at hl 0 rfl) ?_
  refine lv_aload_n hx hb dX1_copyWalker_17 rfl (lv_at hl 1 rfl) ?_
  refine gW (k := k2) S g g1 g2 2 (by decide) q35 dX1_copyWalker_18 ?_
  refine gWp (k := k) S g h1 h2 2 (by decide) q35 dX1_copyWalker_21 (fun H locs g => ?_)
  rw [show up2 (cpw2 F k k2) (k) 2 ((cpw2 F k k2) k2 2) = cpw3 F k k2 from rfl] at g
  refine lv_aload_n hx hb dX1_copyWalker_24 rfl (lv_at hl 0 rfl) ?_
  refine lv_aload_n hx hb dX1_copyWalker_25 rfl (lv_at hl 1 rfl) ?_
  refine gW (k := k2) S g g1 g2 3 (by decide) q37 dX1_copyWalker_26 ?_
  refine gWp (k := k) S g h1 h2 3 (by decide) q37 dX1_copyWalker_29 (fun H locs g => ?_)
  rw [show up2 (cpw3 F k k2) (k) 3 ((cpw3 F k k2) k2 3) = cpw4 F k k2 from rfl] at g
  refine lv_aload_n hx hb dX1_copyWalker_32 rfl (lv_at hl 0 rfl) ?_
  refine lv_aload_n hx hb dX1_copyWalker_33 rfl (lv_at hl 1 rfl) ?_
  refine gW (k := k2) S g g1 g2 4 (by decide) q40 dX1_copyWalker_34 ?_
  refine gWp (k := k) S g h1 h2 4 (by decide) q40 dX1_copyWalker_37 (fun H locs g => ?_)
  rw [show up2 (cpw4 F k k2) (k) 4 ((cpw4 F k k2) k2 4) = cpw5 F k k2 from rfl] at g
  refine lv_aload_n hx hb dX1_copyWalker_40 rfl (lv_at hl 0 rfl) ?_
  refine lv_aload_n hx hb dX1_copyWalker_41 rfl (lv_at hl 1 rfl) ?_
  refine gW (k := k2) S g g1 g2 5 (by decide) q42 dX1_copyWalker_42 ?_
  refine gWz (k := k) S g h1 h2 5 rfl (by rw [cpw5_5]; exact hm) q42 dX1_copyWalker_45 (fun H locs g => ?_)
  exact e_v S hr hk0 g rfl dX1_copyWalker_48
set_option maxHeartbeats 4000000 in
set_option maxRecDepth 100000 in
theorem c_find_ok (l : Launch) (G : gT) (F : Fs) (o : Int64) (b : Nat) (j : Nat) (n : Nat) (hB : b = 1 ∨ b = 2) (hn : F b 6 = nI n) (hj : j < n) (hn8 : n ≤ 8) : MN l yX0_find cX0_find 2 (some (.object "ShadowPool$Walker")) 0 0 [.ref (gA G b), .int (nI j)] G (F) o (F) (some (gA G (wb b j))) := by
  refine mk_G (own := "ShadowPool$Book") (Qs := (fun sz => QN G (F) o (some (gA G (wb b j))) sz)) (by decide +kernel) rfl (Nat.le_of_ble_eq_true rfl) ?_
  intro p e s m args below meth c ls hr hk0 hnm S g hl
  have hl : lv_has ls 2 [(0, .ref (gA G b)), (1, .int (nI j))] := hl
  have hx := S.1
  have hb := S.2.1
  refine lv_iload_n hx hb dX0_find_0 rfl (lv_at hl 1 rfl) ?_
  refine lv_if_lt (tgt := 30) hx hb dX0_find_1 (by decide) (fun c9 => absurd c9 (nI_pos (by omega))) (fun c_1 => ?_)
  refine lv_iload_n hx hb dX0_find_4 rfl (lv_at hl 1 rfl) ?_
  refine lv_aload_n hx hb dX0_find_5 rfl (lv_at hl 0 rfl) ?_
  refine gB (k := b) S g hB 6 (by decide) q70 dX0_find_6 ?_
  rw [show (F b 6 : Int32) = nI n from hn]
  refine lv_icmp_ge (tgt := 30) hx hb dX0_find_9 (by decide) (fun c9 => absurd c9 (nI_ge hj (by omega))) (fun c_9 => ?_)
  refine lv_iload_n hx hb dX0_find_12 rfl (lv_at hl 1 rfl) ?_
  refine lv_aload_n hx hb dX0_find_13 rfl (lv_at hl 0 rfl) ?_
  refine gBr (k := b) S g hB 7 rfl q72 dX0_find_14 ?_
  refine gRowLen S g (b := b) hB dX0_find_17 ?_
  refine lv_icmp_ge (tgt := 30) hx hb dX0_find_18 (by decide) (fun c9 => absurd c9 (nI_ge (a := j) (b := 8) (by omega) (by omega))) (fun c_18 => ?_)
  refine lv_aload_n hx hb dX0_find_21 rfl (lv_at hl 0 rfl) ?_
  refine gBr (k := b) S g hB 7 rfl q72 dX0_find_22 ?_
  refine lv_iload_n hx hb dX0_find_25 rfl (lv_at hl 1 rfl) ?_
  refine gRow S g (b := b) hB (j) rfl (by omega) dX0_find_26 ?_
  refine lv_goto (tgt := 31) hx hb dX0_find_27 (by decide) ?_
  exact e_n S hr hk0 g rfl rfl dX0_find_31
set_option maxHeartbeats 4000000 in
set_option maxRecDepth 100000 in
theorem c_find_no (l : Launch) (G : gT) (F : Fs) (o : Int64) (b : Nat) (x : Int32) (n : Nat) (hB : b = 1 ∨ b = 2) (hn : F b 6 = nI n) (hxx : x < 0 ∨ nI n ≤ x) : MN l yX0_find cX0_find 2 (some (.object "ShadowPool$Walker")) 0 0 [.ref (gA G b), .int x] G (F) o (F) (none) := by
  refine mk_G (own := "ShadowPool$Book") (Qs := (fun sz => QN G (F) o (none) sz)) (by decide +kernel) rfl (Nat.le_of_ble_eq_true rfl) ?_
  intro p e s m args below meth c ls hr hk0 hnm S g hl
  have hl : lv_has ls 2 [(0, .ref (gA G b)), (1, .int x)] := hl
  have hx := S.1
  have hb := S.2.1
  refine lv_iload_n hx hb dX0_find_0 rfl (lv_at hl 1 rfl) ?_
  refine lv_if_lt (tgt := 30) hx hb dX0_find_1 (by decide) (fun c_1 => ?_) (fun c_1 => ?_)
  · refine lv_null hx hb dX0_find_30 ?_
    exact e_n S hr hk0 g rfl rfl dX0_find_31
  · refine lv_iload_n hx hb dX0_find_4 rfl (lv_at hl 1 rfl) ?_
    refine lv_aload_n hx hb dX0_find_5 rfl (lv_at hl 0 rfl) ?_
    refine gB (k := b) S g hB 6 (by decide) q70 dX0_find_6 ?_
    rw [show (F b 6 : Int32) = nI n from hn]
    refine lv_icmp_ge (tgt := 30) hx hb dX0_find_9 (by decide) (fun c_9 => ?_) (fun c9 => absurd (hxx.resolve_left c_1) c9)
    refine lv_null hx hb dX0_find_30 ?_
    exact e_n S hr hk0 g rfl rfl dX0_find_31
set_option maxHeartbeats 4000000 in
set_option maxRecDepth 100000 in
theorem c_enter_ok (l : Launch) (G : gT) (F : Fs) (o : Int64) (b : Nat) (n : Nat) (h : Int32) (sk : Int32) (nt : Int32) (hB : b = 1 ∨ b = 2) (hn : F b 6 = nI n) (hn8 : n < 8) : MI l yX0_enter cX0_enter 5 (some .int) 1 23 [.ref (gA G b), .int h, .int sk, .int nt] G (F) o (entF F b n h sk nt) (nI n) := by
  refine mk_G (own := "ShadowPool$Book") (Qs := (fun sz => QI G (entF F b n h sk nt) o (nI n) sz)) (by decide +kernel) rfl (Nat.le_of_ble_eq_true rfl) ?_
  intro p e s m args below meth c ls hr hk0 hnm S g hl
  have hl : lv_has ls 5 [(0, .ref (gA G b)), (1, .int h), (2, .int sk), (3, .int nt)] := hl
  have hx := S.1
  have hb := S.2.1
  refine lv_aload_n hx hb dX0_enter_0 rfl (lv_at hl 0 rfl) ?_
  refine gB (k := b) S g hB 6 (by decide) q70 dX0_enter_1 ?_
  rw [show (F b 6 : Int32) = nI n from hn]
  refine lv_istore (lv' := [(4, .int (nI n)), (0, .ref (gA G b)), (1, .int h), (2, .int sk), (3, .int nt)]) hx hb dX0_enter_4 hl (by decide) rfl (fun ls hl => ?_)
  refine lv_iload hx hb dX0_enter_6 (lv_at hl 0 rfl) ?_
  refine lv_if_lt (tgt := 31) hx hb dX0_enter_8 (by decide) (fun c9 => absurd c9 (nI_pos (by omega))) (fun c_8 => ?_)
  refine lv_iload hx hb dX0_enter_11 (lv_at hl 0 rfl) ?_
  refine lv_aload_n hx hb dX0_enter_13 rfl (lv_at hl 1 rfl) ?_
  refine gBr (k := b) S g hB 7 rfl q72 dX0_enter_14 ?_
  refine gRowLen S g (b := b) hB dX0_enter_17 ?_
  refine lv_icmp_ge (tgt := 31) hx hb dX0_enter_18 (by decide) (fun c9 => absurd c9 (nI_ge (a := n) (b := 8) (by omega) (by omega))) (fun c_18 => ?_)
  refine lv_aload_n hx hb dX0_enter_21 rfl (lv_at hl 1 rfl) ?_
  refine gBr (k := b) S g hB 7 rfl q72 dX0_enter_22 ?_
  refine lv_iload hx hb dX0_enter_25 (lv_at hl 0 rfl) ?_
  refine gRow S g (b := b) hB (n) rfl (by omega) dX0_enter_27 ?_
  refine lv_ifnonnull (tgt := 33) hx hb dX0_enter_28 (by decide) ?_
  refine lv_aload_n hx hb dX0_enter_33 rfl (lv_at hl 1 rfl) ?_
  refine gBr (k := b) S g hB 7 rfl q72 dX0_enter_34 ?_
  refine lv_iload hx hb dX0_enter_37 (lv_at hl 0 rfl) ?_
  refine gRow S g (b := b) hB (n) rfl (by omega) dX0_enter_39 ?_
  refine lv_iload_n hx hb dX0_enter_40 rfl (lv_at hl 2 rfl) ?_
  refine lv_iload_n hx hb dX0_enter_41 rfl (lv_at hl 3 rfl) ?_
  refine lv_iload_n hx hb dX0_enter_42 rfl (lv_at hl 4 rfl) ?_
  refine g_cv (rest := []) g (g_VN (n := 3) (As := [.int h, .int sk, .int nt]) S g (c_begin l G (F) o (wb b n) h sk nt (wb_lo hB n) (wb_hi hB hn8)) (Nat.lt_of_lt_of_le (wb_hi hB (by omega)) (by decide)) (cEw G _ o (wb_lo hB _) (wb_hi hB (by omega))) rfl qn553 q555 qs20 q3 q556 ⟨by decide +kernel, by decide +kernel, by decide +kernel⟩ rfl ⟨Nat.le_of_ble_eq_true rfl, Nat.le_of_ble_eq_true rfl⟩ hl.1 (Nat.le_of_ble_eq_true rfl) rfl ⟨Nat.zero_le _, Nat.zero_le _⟩ dX0_enter_43) (fun H locs g => ?_)
  refine lv_aload_n hx hb dX0_enter_46 rfl (lv_at hl 1 rfl) ?_
  refine lv_dup hx hb dX0_enter_47 rfl ?_
  refine gB (k := b) S g hB 6 (by decide) q70 dX0_enter_48 ?_
  refine lv_iconst (v := 1) hx hb dX0_enter_51 (by decide) ?_
  refine lv_iadd hx hb dX0_enter_52 ?_
  refine gBp (k := b) S g hB 6 (by decide) q70 dX0_enter_53 (fun H locs g => ?_)
  refine lv_iload hx hb dX0_enter_56 (lv_at hl 0 rfl) ?_
  exact e_i S hr hk0 g rfl rfl dX0_enter_58
set_option maxHeartbeats 4000000 in
set_option maxRecDepth 100000 in
theorem c_enter_no (l : Launch) (G : gT) (F : Fs) (o : Int64) (b : Nat) (h : Int32) (sk : Int32) (nt : Int32) (hB : b = 1 ∨ b = 2) (hn : F b 6 = nI 8) : MI l yX0_enter cX0_enter 5 (some .int) 0 0 [.ref (gA G b), .int h, .int sk, .int nt] G (F) o (F) (-1) := by
  refine mk_G (own := "ShadowPool$Book") (Qs := (fun sz => QI G (F) o (-1) sz)) (by decide +kernel) rfl (Nat.le_of_ble_eq_true rfl) ?_
  intro p e s m args below meth c ls hr hk0 hnm S g hl
  have hl : lv_has ls 5 [(0, .ref (gA G b)), (1, .int h), (2, .int sk), (3, .int nt)] := hl
  have hx := S.1
  have hb := S.2.1
  refine lv_aload_n hx hb dX0_enter_0 rfl (lv_at hl 0 rfl) ?_
  refine gB (k := b) S g hB 6 (by decide) q70 dX0_enter_1 ?_
  rw [show (F b 6 : Int32) = nI 8 from hn]
  refine lv_istore (lv' := [(4, .int (nI 8)), (0, .ref (gA G b)), (1, .int h), (2, .int sk), (3, .int nt)]) hx hb dX0_enter_4 hl (by decide) rfl (fun ls hl => ?_)
  refine lv_iload hx hb dX0_enter_6 (lv_at hl 0 rfl) ?_
  refine lv_if_lt (tgt := 31) hx hb dX0_enter_8 (by decide) (fun c9 => absurd c9 (nI_pos (by omega))) (fun c_8 => ?_)
  refine lv_iload hx hb dX0_enter_11 (lv_at hl 0 rfl) ?_
  refine lv_aload_n hx hb dX0_enter_13 rfl (lv_at hl 1 rfl) ?_
  refine gBr (k := b) S g hB 7 rfl q72 dX0_enter_14 ?_
  refine gRowLen S g (b := b) hB dX0_enter_17 ?_
  refine lv_icmp_ge (tgt := 31) hx hb dX0_enter_18 (by decide) (fun c_18 => ?_) (fun c9 => absurd (by decide) c9)
  refine lv_iconst (v := (-1)) hx hb dX0_enter_31 (by decide) ?_
  exact e_i S hr hk0 g rfl rfl dX0_enter_32
set_option maxHeartbeats 4000000 in
set_option maxRecDepth 100000 in
theorem c_copyFrom (l : Launch) (G : gT) (F : Fs) (o : Int64) (n : Nat) (hn : F 1 6 = nI n) (hn8 : n ≤ 8) (hm : ∀ j, j < 8 → F (wb 1 j) 5 = 0 ∨ F (wb 1 j) 5 = 1) : MV l yX0_copyFrom cX0_copyFrom 5 1 21 [.ref (gA G 2), .ref (gA G 1)] G (F) o (cpyF F n) := by
  refine mk_G (own := "ShadowPool$Book") (Qs := (fun sz => QV G (cpyF F n) o sz)) (by decide +kernel) rfl (Nat.le_of_ble_eq_true rfl) ?_
  intro p e s m args below meth c ls hr hk0 hnm S g hl
  have hl : lv_has ls 5 [(0, .ref (gA G 2)), (1, .ref (gA G 1))] := hl
  have hx := S.1
  have hb := S.2.1
  refine lv_aload_n hx hb dX0_copyFrom_0 rfl (lv_at hl 0 rfl) ?_
  refine lv_aload_n hx hb dX0_copyFrom_1 rfl (lv_at hl 1 rfl) ?_
  refine gB (k := 1) S g (Or.inl rfl) 0 (by decide) q58 dX0_copyFrom_2 ?_
  refine gBp (k := 2) S g (Or.inr rfl) 0 (by decide) q58 dX0_copyFrom_5 (fun H locs g => ?_)
  rw [show up2 (F) (2) 0 (F 1 0) = hdr1 F from rfl] at g
  refine lv_aload_n hx hb dX0_copyFrom_8 rfl (lv_at hl 0 rfl) ?_
  refine lv_aload_n hx hb dX0_copyFrom_9 rfl (lv_at hl 1 rfl) ?_
  refine gB (k := 1) S g (Or.inl rfl) 1 (by decide) q60 dX0_copyFrom_10 ?_
  refine gBp (k := 2) S g (Or.inr rfl) 1 (by decide) q60 dX0_copyFrom_13 (fun H locs g => ?_)
  rw [show up2 (hdr1 F) (2) 1 ((hdr1 F) 1 1) = hdr2 F from rfl] at g
  refine lv_aload_n hx hb dX0_copyFrom_16 rfl (lv_at hl 0 rfl) ?_
  refine lv_aload_n hx hb dX0_copyFrom_17 rfl (lv_at hl 1 rfl) ?_
  refine gB (k := 1) S g (Or.inl rfl) 2 (by decide) q62 dX0_copyFrom_18 ?_
  refine gBp (k := 2) S g (Or.inr rfl) 2 (by decide) q62 dX0_copyFrom_21 (fun H locs g => ?_)
  rw [show up2 (hdr2 F) (2) 2 ((hdr2 F) 1 2) = hdr3 F from rfl] at g
  refine lv_aload_n hx hb dX0_copyFrom_24 rfl (lv_at hl 0 rfl) ?_
  refine lv_aload_n hx hb dX0_copyFrom_25 rfl (lv_at hl 1 rfl) ?_
  refine gB (k := 1) S g (Or.inl rfl) 3 (by decide) q64 dX0_copyFrom_26 ?_
  refine gBp (k := 2) S g (Or.inr rfl) 3 (by decide) q64 dX0_copyFrom_29 (fun H locs g => ?_)
  rw [show up2 (hdr3 F) (2) 3 ((hdr3 F) 1 3) = hdr4 F from rfl] at g
  refine lv_aload_n hx hb dX0_copyFrom_32 rfl (lv_at hl 0 rfl) ?_
  refine lv_aload_n hx hb dX0_copyFrom_33 rfl (lv_at hl 1 rfl) ?_
  refine gB (k := 1) S g (Or.inl rfl) 4 (by decide) q66 dX0_copyFrom_34 ?_
  refine gBp (k := 2) S g (Or.inr rfl) 4 (by decide) q66 dX0_copyFrom_37 (fun H locs g => ?_)
  rw [show up2 (hdr4 F) (2) 4 ((hdr4 F) 1 4) = hdr5 F from rfl] at g
  refine lv_aload_n hx hb dX0_copyFrom_40 rfl (lv_at hl 0 rfl) ?_
  refine lv_aload_n hx hb dX0_copyFrom_41 rfl (lv_at hl 1 rfl) ?_
  refine gB (k := 1) S g (Or.inl rfl) 5 (by decide) q68 dX0_copyFrom_42 ?_
  refine gBp (k := 2) S g (Or.inr rfl) 5 (by decide) q68 dX0_copyFrom_45 (fun H locs g => ?_)
  rw [show up2 (hdr5 F) (2) 5 ((hdr5 F) 1 5) = hdr6 F from rfl] at g
  refine lv_aload_n hx hb dX0_copyFrom_48 rfl (lv_at hl 0 rfl) ?_
  refine lv_aload_n hx hb dX0_copyFrom_49 rfl (lv_at hl 1 rfl) ?_
  refine gB (k := 1) S g (Or.inl rfl) 6 (by decide) q70 dX0_copyFrom_50 ?_
  refine gBp (k := 2) S g (Or.inr rfl) 6 (by decide) q70 dX0_copyFrom_53 (fun H locs g => ?_)
  rw [show up2 (hdr6 F) (2) 6 ((hdr6 F) 1 6) = hdrF F from rfl] at g
  refine lv_iconst (v := 0) hx hb dX0_copyFrom_56 (by decide) ?_
  refine lv_istore_n (lv' := [(2, .int 0), (0, .ref (gA G 2)), (1, .ref (gA G 1))]) hx hb dX0_copyFrom_57 rfl hl (by decide) rfl (fun ls hl => ?_)
  have loop58 : ∀ (n_ : Nat) (i : Nat) (F1 : Fs) (H : Heap) (locs : List Loc) (ls : Array Slot) (hi : i + n_ = n) (hc1 : F1 1 6 = nI n) (hc2 : F1 2 6 = nI n) (hm1 : ∀ j, j < 8 → F1 (wb 1 j) 5 = 0 ∨ F1 (wb 1 j) 5 = 1) (hres : cpyL n_ i F1 = cpyF F n), GB G (F1) o [] [] s H locs → lv_has ls 5 [(0, .ref (gA G 2)), (1, .ref (gA G 1)), (2, .int (nI i))] → W p l e (rmG 1 21) s m args below meth c H locs 0 0 (MQ below (QV G (cpyF F n) o s.heap.size) args s 0 0 (GA G s.heap.size)) (F0 m 58 ls []) := by
    intro n_
    induction n_ with
    | zero =>
      intro i F1 H locs ls hi hc1 hc2 hm1 hres g hl
      refine lv_iload_n hx hb dX0_copyFrom_58 rfl (lv_at hl 2 rfl) ?_
      refine lv_aload_n hx hb dX0_copyFrom_59 rfl (lv_at hl 0 rfl) ?_
      refine gB (k := 2) S g (Or.inr rfl) 6 (by decide) q70 dX0_copyFrom_60 ?_
      rw [show (F1 2 6 : Int32) = nI n from hc2]
      refine lv_icmp_ge (tgt := 100) hx hb dX0_copyFrom_63 (by decide) (fun c_63 => ?_) (fun c9 => absurd (nI_le (by omega) (by omega)) c9)
      exact e_v S hr hk0 g hres dX0_copyFrom_100
    | succ n_ ih_58 =>
      intro i F1 H locs ls hi hc1 hc2 hm1 hres g hl
      refine lv_iload_n hx hb dX0_copyFrom_58 rfl (lv_at hl 2 rfl) ?_
      refine lv_aload_n hx hb dX0_copyFrom_59 rfl (lv_at hl 0 rfl) ?_
      refine gB (k := 2) S g (Or.inr rfl) 6 (by decide) q70 dX0_copyFrom_60 ?_
      rw [show (F1 2 6 : Int32) = nI n from hc2]
      refine lv_icmp_ge (tgt := 100) hx hb dX0_copyFrom_63 (by decide) (fun c9 => absurd c9 (nI_ge (by omega) (by omega))) (fun c_63 => ?_)
      refine lv_aload_n hx hb dX0_copyFrom_66 rfl (lv_at hl 0 rfl) ?_
      refine lv_iload_n hx hb dX0_copyFrom_67 rfl (lv_at hl 2 rfl) ?_
      refine g_cn (rest := []) g rfl (g_V (n := 1) (As := [.int (nI i)]) S g (c_find_ok l G (F1) o 2 i n (Or.inr rfl) hc2 (by omega) hn8) (by decide) (cEb G _ o (Or.inr rfl)) rfl (lw_V q194 q196 qs5 q2 q197) ⟨rfl, by decide +kernel, by decide +kernel, by decide +kernel⟩ rfl ⟨Nat.le_of_ble_eq_true rfl, Nat.le_of_ble_eq_true rfl⟩ hl.1 (Nat.le_of_ble_eq_true rfl) rfl ⟨Nat.zero_le _, Nat.zero_le _⟩ dX0_copyFrom_68) (fun H locs g => ?_)
      refine lv_astore_n (lv' := [(3, .ref (gA G (wb 2 i))), (0, .ref (gA G 2)), (1, .ref (gA G 1)), (2, .int (nI i))]) hx hb dX0_copyFrom_71 rfl hl (by decide) rfl (fun ls hl => ?_)
      refine lv_aload_n hx hb dX0_copyFrom_72 rfl (lv_at hl 2 rfl) ?_
      refine lv_iload_n hx hb dX0_copyFrom_73 rfl (lv_at hl 3 rfl) ?_
      refine g_cn (rest := []) g rfl (g_V (n := 1) (As := [.int (nI i)]) S g (c_find_ok l G (F1) o 1 i n (Or.inl rfl) hc1 (by omega) hn8) (by decide) (cEb G _ o (Or.inl rfl)) rfl (lw_V q194 q196 qs5 q2 q197) ⟨rfl, by decide +kernel, by decide +kernel, by decide +kernel⟩ rfl ⟨Nat.le_of_ble_eq_true rfl, Nat.le_of_ble_eq_true rfl⟩ hl.1 (Nat.le_of_ble_eq_true rfl) rfl ⟨Nat.zero_le _, Nat.zero_le _⟩ dX0_copyFrom_74) (fun H locs g => ?_)
      refine lv_astore (lv' := [(4, .ref (gA G (wb 1 i))), (3, .ref (gA G (wb 2 i))), (0, .ref (gA G 2)), (1, .ref (gA G 1)), (2, .int (nI i))]) hx hb dX0_copyFrom_77 hl (by decide) rfl (fun ls hl => ?_)
      refine lv_aload_n hx hb dX0_copyFrom_79 rfl (lv_at hl 1 rfl) ?_
      refine lv_ifnull hx hb dX0_copyFrom_80 ?_
      refine lv_aload hx hb dX0_copyFrom_83 (lv_at hl 0 rfl) ?_
      refine lv_ifnull hx hb dX0_copyFrom_85 ?_
      refine lv_aload_n hx hb dX0_copyFrom_88 rfl (lv_at hl 1 rfl) ?_
      refine lv_aload hx hb dX0_copyFrom_89 (lv_at hl 0 rfl) ?_
      refine g_cv (rest := []) g (g_VN (n := 1) (As := [.ref (gA G (wb 1 i))]) S g (c_copyWalker l G (F1) o (wb 2 i) (wb 1 i) (wb_lo (Or.inr rfl) _) (wb_hi (Or.inr rfl) (by omega)) (wb_lo (Or.inl rfl) _) (wb_hi (Or.inl rfl) (by omega)) (hm1 i (by omega))) (Nat.lt_of_lt_of_le (wb_hi (Or.inr rfl) (by omega)) (by decide)) (cEw G _ o (wb_lo (Or.inr rfl) _) (wb_hi (Or.inr rfl) (by omega))) rfl qn382 q384 qs17 q3 q385 ⟨by decide +kernel, by decide +kernel, by decide +kernel⟩ rfl ⟨Nat.le_of_ble_eq_true rfl, Nat.le_of_ble_eq_true rfl⟩ hl.1 (Nat.le_of_ble_eq_true rfl) rfl ⟨Nat.zero_le _, Nat.zero_le _⟩ dX0_copyFrom_91) (fun H locs g => ?_)
      refine lv_iinc (v := nI (i + 1)) (lv' := [(2, .int (nI (i + 1))), (4, .ref (gA G (wb 1 i))), (3, .ref (gA G (wb 2 i))), (0, .ref (gA G 2)), (1, .ref (gA G 1))]) hx hb dX0_copyFrom_94 hl (k := 4) rfl (nI_1 i) (by decide) rfl (fun ls hl => ?_)
      refine lv_goto (tgt := 58) hx hb dX0_copyFrom_97 (by decide) ?_
      exact ih_58 (i + 1) _ _ _ _ (by omega) (by rw [cpwF_ne _ _ _ (wb_ne (Or.inr rfl) (by decide))]; exact hc1) (by rw [cpwF_ne _ _ _ (wb_ne (Or.inr rfl) (by decide))]; exact hc2) (fun j hj => by rw [cpwF_ne _ _ _ (wb_ne2 hj)]; exact hm1 j hj) hres g (lv_sub hl [3, 4, 0] rfl)
  exact loop58 n 0 (hdrF F) _ _ _ (by omega) (by rw [hdrF_ne F (by decide)]; exact hn) (by rw [hdrF_eq F (by decide)]; exact hn) (fun j hj => by rw [hdrF_ne F (Ne.symm (wb_ne (Or.inl rfl) (by decide)))]; exact hm j hj) rfl g (lv_sub hl [1, 2, 0] rfl)
set_option maxHeartbeats 4000000 in
set_option maxRecDepth 100000 in
theorem c_countMembers (l : Launch) (G : gT) (F : Fs) (o : Int64) (b : Nat) (n : Nat) (hB : b = 1 ∨ b = 2) (hn : F b 6 = nI n) (hn8 : n ≤ 8) : MI l yX0_countMembers cX0_countMembers 4 (some .int) 1 21 [.ref (gA G b)] G (F) o (F) (cmL F b n 0 0) := by
  refine mk_G (own := "ShadowPool$Book") (Qs := (fun sz => QI G (F) o (cmL F b n 0 0) sz)) (by decide +kernel) rfl (Nat.le_of_ble_eq_true rfl) ?_
  intro p e s m args below meth c ls hr hk0 hnm S g hl
  have hl : lv_has ls 4 [(0, .ref (gA G b))] := hl
  have hx := S.1
  have hb := S.2.1
  refine lv_iconst (v := 0) hx hb dX0_countMembers_0 (by decide) ?_
  refine lv_istore_n (lv' := [(1, .int 0), (0, .ref (gA G b))]) hx hb dX0_countMembers_1 rfl hl (by decide) rfl (fun ls hl => ?_)
  refine lv_iconst (v := 0) hx hb dX0_countMembers_2 (by decide) ?_
  refine lv_istore_n (lv' := [(2, .int 0), (1, .int 0), (0, .ref (gA G b))]) hx hb dX0_countMembers_3 rfl hl (by decide) rfl (fun ls hl => ?_)
  have loop4 : ∀ (n_ : Nat) (i : Nat) (acc : Int32) (H : Heap) (locs : List Loc) (ls : Array Slot) (hi : i + n_ = n) (hres : cmL F b n_ i acc = cmL F b n 0 0), GB G (F) o [] [] s H locs → lv_has ls 4 [(0, .ref (gA G b)), (1, .int acc), (2, .int (nI i))] → W p l e (rmG 1 21) s m args below meth c H locs 0 0 (MQ below (QI G (F) o (cmL F b n 0 0) s.heap.size) args s 0 0 (GA G s.heap.size)) (F0 m 4 ls []) := by
    intro n_
    induction n_ with
    | zero =>
      intro i acc H locs ls hi hres g hl
      refine lv_iload_n hx hb dX0_countMembers_4 rfl (lv_at hl 2 rfl) ?_
      refine lv_aload_n hx hb dX0_countMembers_5 rfl (lv_at hl 0 rfl) ?_
      refine gB (k := b) S g hB 6 (by decide) q70 dX0_countMembers_6 ?_
      rw [show (F b 6 : Int32) = nI n from hn]
      refine lv_icmp_ge (tgt := 43) hx hb dX0_countMembers_9 (by decide) (fun c_9 => ?_) (fun c9 => absurd (nI_le (by omega) (by omega)) c9)
      refine lv_iload_n hx hb dX0_countMembers_43 rfl (lv_at hl 1 rfl) ?_
      exact e_i S hr hk0 g hres rfl dX0_countMembers_44
    | succ n_ ih_4 =>
      intro i acc H locs ls hi hres g hl
      refine lv_iload_n hx hb dX0_countMembers_4 rfl (lv_at hl 2 rfl) ?_
      refine lv_aload_n hx hb dX0_countMembers_5 rfl (lv_at hl 0 rfl) ?_
      refine gB (k := b) S g hB 6 (by decide) q70 dX0_countMembers_6 ?_
      rw [show (F b 6 : Int32) = nI n from hn]
      refine lv_icmp_ge (tgt := 43) hx hb dX0_countMembers_9 (by decide) (fun c9 => absurd c9 (nI_ge (by omega) (by omega))) (fun c_9 => ?_)
      refine lv_aload_n hx hb dX0_countMembers_12 rfl (lv_at hl 0 rfl) ?_
      refine lv_iload_n hx hb dX0_countMembers_13 rfl (lv_at hl 2 rfl) ?_
      refine g_cn (rest := []) g rfl (g_V (n := 1) (As := [.int (nI i)]) S g (c_find_ok l G (F) o b i n hB hn (by omega) hn8) (by rcases hB with h9 | h9 <;> omega) (cEb G _ o hB) rfl (lw_V q194 q196 qs5 q2 q197) ⟨rfl, by decide +kernel, by decide +kernel, by decide +kernel⟩ rfl ⟨Nat.le_of_ble_eq_true rfl, Nat.le_of_ble_eq_true rfl⟩ hl.1 (Nat.le_of_ble_eq_true rfl) rfl ⟨Nat.zero_le _, Nat.zero_le _⟩ dX0_countMembers_14) (fun H locs g => ?_)
      refine lv_astore_n (lv' := [(3, .ref (gA G (wb b i))), (0, .ref (gA G b)), (1, .int acc), (2, .int (nI i))]) hx hb dX0_countMembers_17 rfl hl (by decide) rfl (fun ls hl => ?_)
      refine lv_iload_n hx hb dX0_countMembers_18 rfl (lv_at hl 2 rfl) ?_
      refine lv_aload_n hx hb dX0_countMembers_19 rfl (lv_at hl 0 rfl) ?_
      refine lv_ifnull hx hb dX0_countMembers_20 ?_
      refine lv_aload_n hx hb dX0_countMembers_23 rfl (lv_at hl 0 rfl) ?_
      refine gWN (k := wb b i) S g (wb_lo hB _) (wb_hi hB (by omega)) 5 (by decide) qn44 dX0_countMembers_24 ?_
      refine lv_if_eq (tgt := 34) hx hb dX0_countMembers_27 (by decide) (fun c_27 => ?_) (fun c_27 => ?_)
      · refine lv_iconst (v := 0) hx hb dX0_countMembers_34 (by decide) ?_
        refine lv_iadd hx hb dX0_countMembers_35 ?_
        refine lv_istore_n (lv' := [(1, .int ((acc) + (0))), (3, .ref (gA G (wb b i))), (0, .ref (gA G b)), (2, .int (nI i))]) hx hb dX0_countMembers_36 rfl hl (by decide) rfl (fun ls hl => ?_)
        refine lv_iinc (v := nI (i + 1)) (lv' := [(2, .int (nI (i + 1))), (1, .int ((acc) + (0))), (3, .ref (gA G (wb b i))), (0, .ref (gA G b))]) hx hb dX0_countMembers_37 hl (k := 3) rfl (nI_1 i) (by decide) rfl (fun ls hl => ?_)
        refine lv_goto (tgt := 4) hx hb dX0_countMembers_40 (by decide) ?_
        exact ih_4 (i + 1) _ _ _ _ (by omega) (by simpa only [cmL, c_9, c_27, ↓reduceIte] using hres) g (lv_sub hl [3, 1, 0] rfl)
      · refine lv_iconst (v := 1) hx hb dX0_countMembers_30 (by decide) ?_
        refine lv_goto (tgt := 35) hx hb dX0_countMembers_31 (by decide) ?_
        refine lv_iadd hx hb dX0_countMembers_35 ?_
        refine lv_istore_n (lv' := [(1, .int ((acc) + (1))), (3, .ref (gA G (wb b i))), (0, .ref (gA G b)), (2, .int (nI i))]) hx hb dX0_countMembers_36 rfl hl (by decide) rfl (fun ls hl => ?_)
        refine lv_iinc (v := nI (i + 1)) (lv' := [(2, .int (nI (i + 1))), (1, .int ((acc) + (1))), (3, .ref (gA G (wb b i))), (0, .ref (gA G b))]) hx hb dX0_countMembers_37 hl (k := 3) rfl (nI_1 i) (by decide) rfl (fun ls hl => ?_)
        refine lv_goto (tgt := 4) hx hb dX0_countMembers_40 (by decide) ?_
        exact ih_4 (i + 1) _ _ _ _ (by omega) (by simpa only [cmL, c_9, c_27, ↓reduceIte] using hres) g (lv_sub hl [3, 1, 0] rfl)
  exact loop4 n 0 0 _ _ _ (by omega) rfl g (lv_sub hl [2, 1, 0] rfl)
set_option maxHeartbeats 4000000 in
set_option maxRecDepth 100000 in
theorem c_reinsuredPart (l : Launch) (G : gT) (F : Fs) (o : Int64) (b : Nat) (claim : Int32) (hB : b = 1 ∨ b = 2) : MI l yX0_reinsuredPart cX0_reinsuredPart 2 (some .int) 1 21 [.ref (gA G b), .int claim] G (F) o (F) (reI claim (F b 3) (F b 4)) := by
  refine mk_G (own := "ShadowPool$Book") (Qs := (fun sz => QI G (F) o (reI claim (F b 3) (F b 4)) sz)) (by decide +kernel) rfl (Nat.le_of_ble_eq_true rfl) ?_
  intro p e s m args below meth c ls hr hk0 hnm S g hl
  have hl : lv_has ls 2 [(0, .ref (gA G b)), (1, .int claim)] := hl
  have hx := S.1
  have hb := S.2.1
  refine lv_iconst (v := 0) hx hb dX0_reinsuredPart_0 (by decide) ?_
  refine lv_iload_n hx hb dX0_reinsuredPart_1 rfl (lv_at hl 1 rfl) ?_
  refine lv_aload_n hx hb dX0_reinsuredPart_2 rfl (lv_at hl 0 rfl) ?_
  refine gB (k := b) S g hB 3 (by decide) q64 dX0_reinsuredPart_3 ?_
  refine lv_isub hx hb dX0_reinsuredPart_6 ?_
  refine g_max S hl.1 q234 qMaxS q11 qMax (Nat.le_of_ble_eq_true rfl) (Nat.le_of_ble_eq_true rfl) (Nat.zero_le _) (Nat.zero_le _) dX0_reinsuredPart_7 ?_
  refine lv_aload_n hx hb dX0_reinsuredPart_10 rfl (lv_at hl 0 rfl) ?_
  refine gB (k := b) S g hB 4 (by decide) q66 dX0_reinsuredPart_11 ?_
  refine g_min S hl.1 q235 qMinS q11 qMin (Nat.le_of_ble_eq_true rfl) (Nat.le_of_ble_eq_true rfl) (Nat.zero_le _) (Nat.zero_le _) dX0_reinsuredPart_14 ?_
  exact e_i S hr hk0 g rfl rfl dX0_reinsuredPart_17
set_option maxHeartbeats 4000000 in
set_option maxRecDepth 100000 in
theorem c_payDues (l : Launch) (G : gT) (F : Fs) (o : Int64) (b : Nat) (n : Nat) (hB : b = 1 ∨ b = 2) (hn : F b 6 = nI n) (hn8 : n ≤ 8) : MV l yX0_payDues cX0_payDues 2 2 44 [.ref (gA G b)] G (F) o (payF F b n) := by
  refine mk_G (own := "ShadowPool$Book") (Qs := (fun sz => QV G (payF F b n) o sz)) (by decide +kernel) rfl (Nat.le_of_ble_eq_true rfl) ?_
  intro p e s m args below meth c ls hr hk0 hnm S g hl
  have hl : lv_has ls 2 [(0, .ref (gA G b))] := hl
  have hx := S.1
  have hb := S.2.1
  refine lv_aload_n hx hb dX0_payDues_0 rfl (lv_at hl 0 rfl) ?_
  refine lv_dup hx hb dX0_payDues_1 rfl ?_
  refine gB (k := b) S g hB 1 (by decide) q60 dX0_payDues_2 ?_
  refine lv_aload_n hx hb dX0_payDues_5 rfl (lv_at hl 0 rfl) ?_
  refine gB (k := b) S g hB 2 (by decide) q62 dX0_payDues_6 ?_
  refine lv_aload_n hx hb dX0_payDues_9 rfl (lv_at hl 0 rfl) ?_
  refine g_ci (rest := [.int (F b 2), .int (F b 1), .ref (gA G b)]) g (g_V (n := 0) (As := []) S g (c_countMembers l G (F) o b n hB hn hn8) (by rcases hB with h9 | h9 <;> omega) (cEb G _ o hB) rfl (lw_V q190 q192 qs4 q2 q193) ⟨rfl, by decide +kernel, by decide +kernel, by decide +kernel⟩ rfl ⟨Nat.le_of_ble_eq_true rfl, Nat.le_of_ble_eq_true rfl⟩ hl.1 (Nat.le_of_ble_eq_true rfl) rfl ⟨Nat.zero_le _, Nat.zero_le _⟩ dX0_payDues_10) (fun H locs g => ?_)
  refine lv_imul hx hb dX0_payDues_13 ?_
  refine lv_iadd hx hb dX0_payDues_14 ?_
  refine gBp (k := b) S g hB 1 (by decide) q60 dX0_payDues_15 (fun H locs g => ?_)
  rw [show up2 (F) (b) 1 ((F b 1) + ((F b 2) * (cmL F b n 0 0))) = pay1 F b n from rfl] at g
  refine lv_aload_n hx hb dX0_payDues_18 rfl (lv_at hl 0 rfl) ?_
  refine gB (k := b) S g hB 4 (by decide) q66 dX0_payDues_19 ?_
  refine lv_if_eq (tgt := 55) hx hb dX0_payDues_22 (by decide) (fun c_22 => ?_) (fun c_22 => ?_)
  · exact e_v S hr hk0 g (by first | rfl | (simp only [payF, c_22, ↓reduceIte]; done)) dX0_payDues_55
  · refine lv_aload_n hx hb dX0_payDues_25 rfl (lv_at hl 0 rfl) ?_
    refine gB (k := b) S g hB 4 (by decide) q66 dX0_payDues_26 ?_
    refine lv_bipush (v := 20) hx hb dX0_payDues_29 (by decide) ?_
    refine lv_idiv hx hb dX0_payDues_31 (by decide) ?_
    refine lv_iconst (v := 1) hx hb dX0_payDues_32 (by decide) ?_
    refine lv_iadd hx hb dX0_payDues_33 ?_
    refine lv_istore_n (lv' := [(1, .int ((((pay1 F b n) b 4) / (20)) + (1))), (0, .ref (gA G b))]) hx hb dX0_payDues_34 rfl hl (by decide) rfl (fun ls hl => ?_)
    refine lv_aload_n hx hb dX0_payDues_35 rfl (lv_at hl 1 rfl) ?_
    refine lv_dup hx hb dX0_payDues_36 rfl ?_
    refine gB (k := b) S g hB 1 (by decide) q60 dX0_payDues_37 ?_
    refine lv_iload_n hx hb dX0_payDues_40 rfl (lv_at hl 0 rfl) ?_
    refine lv_isub hx hb dX0_payDues_41 ?_
    refine gBp (k := b) S g hB 1 (by decide) q60 dX0_payDues_42 (fun H locs g => ?_)
    rw [show up2 (pay1 F b n) (b) 1 (((pay1 F b n) b 1) - ((((pay1 F b n) b 4) / (20)) + (1))) = pay2 F b n from rfl] at g
    refine lv_aload_n hx hb dX0_payDues_45 rfl (lv_at hl 1 rfl) ?_
    refine lv_dup hx hb dX0_payDues_46 rfl ?_
    refine gB (k := b) S g hB 5 (by decide) q68 dX0_payDues_47 ?_
    refine lv_iload_n hx hb dX0_payDues_50 rfl (lv_at hl 0 rfl) ?_
    refine lv_isub hx hb dX0_payDues_51 ?_
    refine gBp (k := b) S g hB 5 (by decide) q68 dX0_payDues_52 (fun H locs g => ?_)
    rw [show up2 (pay2 F b n) (b) 5 (((pay2 F b n) b 5) - ((((pay1 F b n) b 4) / (20)) + (1))) = pay3 F b n from rfl] at g
    exact e_v S hr hk0 g (by first | rfl | (simp only [payF, c_22, ↓reduceIte]; done)) dX0_payDues_55
set_option maxHeartbeats 4000000 in
set_option maxRecDepth 100000 in
theorem c_walk (l : Launch) (G : gT) (F : Fs) (o : Int64) (b : Nat) (k : Nat) (sun : Int32) (noon : Int32) (hB : b = 1 ∨ b = 2) (h1 : 5 ≤ k) (h2 : k < 21) (hs : 1 ≤ sun) : MI l yX0_walk cX0_walk 7 (some .boolean) 2 44 [.ref (gA G b), .ref (gA G k), .int sun, .int noon] G (F) o (wkF F b k sun noon) (wkR F k noon) := by
  refine mk_G (own := "ShadowPool$Book") (Qs := (fun sz => QI G (wkF F b k sun noon) o (wkR F k noon) sz)) (by decide +kernel) rfl (Nat.le_of_ble_eq_true rfl) ?_
  intro p e s m args below meth c ls hr hk0 hnm S g hl
  have hl : lv_has ls 7 [(0, .ref (gA G b)), (1, .ref (gA G k)), (2, .int sun), (3, .int noon)] := hl
  have hx := S.1
  have hb := S.2.1
  refine lv_aload_n hx hb dX0_walk_0 rfl (lv_at hl 1 rfl) ?_
  refine lv_aload_n hx hb dX0_walk_1 rfl (lv_at hl 1 rfl) ?_
  refine lv_aload_n hx hb dX0_walk_2 rfl (lv_at hl 1 rfl) ?_
  refine gWN (k := k) S g h1 h2 3 (by decide) qn39 dX0_walk_3 ?_
  refine lv_iload_n hx hb dX0_walk_6 rfl (lv_at hl 3 rfl) ?_
  refine g_ci (rest := [.ref (gA G k)]) g (g_VN (n := 2) (As := [.int (F k 3), .int noon]) S g (c_wobbleBehind l G (F) o k (F k 3) noon h1 h2) (Nat.lt_of_lt_of_le h2 (by decide)) (cEw G _ o h1 h2) rfl qn208 q210 qs7 q3 q211 ⟨by decide +kernel, by decide +kernel, by decide +kernel⟩ rfl ⟨Nat.le_of_ble_eq_true rfl, Nat.le_of_ble_eq_true rfl⟩ hl.1 (Nat.le_of_ble_eq_true rfl) rfl ⟨Nat.zero_le _, Nat.zero_le _⟩ dX0_walk_7) (fun H locs g => ?_)
  refine gWpN (k := k) S g h1 h2 3 (by decide) qn39 dX0_walk_10 (fun H locs g => ?_)
  rw [show up2 (F) (k) 3 (woI (F k 0) (F k 1) (F k 3) noon) = wk1 F k noon from rfl] at g
  refine lv_aload_n hx hb dX0_walk_13 rfl (lv_at hl 1 rfl) ?_
  refine gWN (k := k) S g h1 h2 3 (by decide) qn39 dX0_walk_14 ?_
  refine lv_bipush (v := 10) hx hb dX0_walk_17 (by decide) ?_
  refine lv_icmp_ge (tgt := 24) hx hb dX0_walk_19 (by decide) (fun c_19 => ?_) (fun c_19 => ?_)
  · refine lv_aload_n hx hb dX0_walk_24 rfl (lv_at hl 1 rfl) ?_
    refine lv_iload_n hx hb dX0_walk_25 rfl (lv_at hl 2 rfl) ?_
    refine g_ci (rest := []) g (g_VN (n := 1) (As := [.int sun]) S g (c_costUnder l G (wk1 F k noon) o k sun h1 h2 hs) (Nat.lt_of_lt_of_le h2 (by decide)) (cEw G _ o h1 h2) rfl qn215 q217 qs8 q3 q218 ⟨by decide +kernel, by decide +kernel, by decide +kernel⟩ rfl ⟨Nat.le_of_ble_eq_true rfl, Nat.le_of_ble_eq_true rfl⟩ hl.1 (Nat.le_of_ble_eq_true rfl) rfl ⟨Nat.zero_le _, Nat.zero_le _⟩ dX0_walk_26) (fun H locs g => ?_)
    rw [show (coI ((wk1 F k noon) k 0) ((wk1 F k noon) k 2) sun : Int32) = wkc F k sun noon from rfl]
    refine lv_istore (lv' := [(4, .int (wkc F k sun noon)), (0, .ref (gA G b)), (1, .ref (gA G k)), (2, .int sun), (3, .int noon)]) hx hb dX0_walk_29 hl (by decide) rfl (fun ls hl => ?_)
    refine lv_iload hx hb dX0_walk_31 (lv_at hl 0 rfl) ?_
    refine lv_aload_n hx hb dX0_walk_33 rfl (lv_at hl 2 rfl) ?_
    refine lv_iload hx hb dX0_walk_34 (lv_at hl 0 rfl) ?_
    refine lv_iload_n hx hb dX0_walk_36 rfl (lv_at hl 4 rfl) ?_
    refine g_ci (rest := [.int (wkc F k sun noon)]) g (g_VN (n := 2) (As := [.int (wkc F k sun noon), .int noon]) S g (c_ownPart l G ((wk1 F k noon)) o k (wkc F k sun noon) noon h1 h2) (Nat.lt_of_lt_of_le h2 (by decide)) (cEw G _ o h1 h2) rfl qn223 q225 qs10 q3 q226 ⟨by decide +kernel, by decide +kernel, by decide +kernel⟩ rfl ⟨Nat.le_of_ble_eq_true rfl, Nat.le_of_ble_eq_true rfl⟩ hl.1 (Nat.le_of_ble_eq_true rfl) rfl ⟨Nat.zero_le _, Nat.zero_le _⟩ dX0_walk_37) (fun H locs g => ?_)
    refine lv_isub hx hb dX0_walk_40 ?_
    rw [show ((wkc F k sun noon) - (owI (((wk1 F k noon)) k 5) (wkc F k sun noon) noon) : Int32) = wkl F k sun noon from rfl]
    refine lv_istore (lv' := [(5, .int (wkl F k sun noon)), (4, .int (wkc F k sun noon)), (0, .ref (gA G b)), (1, .ref (gA G k)), (2, .int sun), (3, .int noon)]) hx hb dX0_walk_41 hl (by decide) rfl (fun ls hl => ?_)
    refine lv_aload_n hx hb dX0_walk_43 rfl (lv_at hl 2 rfl) ?_
    refine lv_iload hx hb dX0_walk_44 (lv_at hl 0 rfl) ?_
    refine g_ci (rest := []) g (g_V (n := 1) (As := [.int (wkl F k sun noon)]) S g (c_reinsuredPart l G (((wk1 F k noon))) o b (wkl F k sun noon) hB) (by rcases hB with h9 | h9 <;> omega) (cEb G _ o hB) rfl (lw_V q230 q232 qs11 q2 q233) ⟨rfl, by decide +kernel, by decide +kernel, by decide +kernel⟩ rfl ⟨Nat.le_of_ble_eq_true rfl, Nat.le_of_ble_eq_true rfl⟩ hl.1 (Nat.le_of_ble_eq_true rfl) rfl ⟨Nat.zero_le _, Nat.zero_le _⟩ dX0_walk_46) (fun H locs g => ?_)
    rw [show (reI (wkl F k sun noon) ((((wk1 F k noon))) b 3) ((((wk1 F k noon))) b 4) : Int32) = wkr F b k sun noon from rfl]
    refine lv_istore (lv' := [(6, .int (wkr F b k sun noon)), (5, .int (wkl F k sun noon)), (4, .int (wkc F k sun noon)), (0, .ref (gA G b)), (1, .ref (gA G k)), (2, .int sun), (3, .int noon)]) hx hb dX0_walk_49 hl (by decide) rfl (fun ls hl => ?_)
    refine lv_aload_n hx hb dX0_walk_51 rfl (lv_at hl 3 rfl) ?_
    refine lv_dup hx hb dX0_walk_52 rfl ?_
    refine gB (k := b) S g hB 1 (by decide) q60 dX0_walk_53 ?_
    refine lv_iload hx hb dX0_walk_56 (lv_at hl 1 rfl) ?_
    refine lv_iload hx hb dX0_walk_58 (lv_at hl 0 rfl) ?_
    refine lv_isub hx hb dX0_walk_60 ?_
    refine lv_isub hx hb dX0_walk_61 ?_
    refine gBp (k := b) S g hB 1 (by decide) q60 dX0_walk_62 (fun H locs g => ?_)
    rw [show up2 ((((wk1 F k noon)))) (b) 1 ((((((wk1 F k noon)))) b 1) - ((wkl F k sun noon) - (wkr F b k sun noon))) = wk2 F b k sun noon from rfl] at g
    refine lv_aload_n hx hb dX0_walk_65 rfl (lv_at hl 3 rfl) ?_
    refine lv_dup hx hb dX0_walk_66 rfl ?_
    refine gB (k := b) S g hB 5 (by decide) q68 dX0_walk_67 ?_
    refine lv_iload hx hb dX0_walk_70 (lv_at hl 0 rfl) ?_
    refine lv_iadd hx hb dX0_walk_72 ?_
    refine gBp (k := b) S g hB 5 (by decide) q68 dX0_walk_73 (fun H locs g => ?_)
    rw [show up2 (wk2 F b k sun noon) (b) 5 (((wk2 F b k sun noon) b 5) + (wkr F b k sun noon)) = wk3 F b k sun noon from rfl] at g
    refine lv_aload_n hx hb dX0_walk_76 rfl (lv_at hl 4 rfl) ?_
    refine g_cv (rest := []) g (g_VN (n := 0) (As := []) S g (c_fall l G (wk3 F b k sun noon) o k h1 h2) (Nat.lt_of_lt_of_le h2 (by decide)) (cEw G _ o h1 h2) rfl qn236 q238 qs12 q3 q239 ⟨by decide +kernel, by decide +kernel, by decide +kernel⟩ rfl ⟨Nat.le_of_ble_eq_true rfl, Nat.le_of_ble_eq_true rfl⟩ hl.1 (Nat.le_of_ble_eq_true rfl) rfl ⟨Nat.zero_le _, Nat.zero_le _⟩ dX0_walk_77) (fun H locs g => ?_)
    refine lv_iconst (v := 1) hx hb dX0_walk_80 (by decide) ?_
    exact e_z S hr hk0 g (by first | rfl | decide) (by first | rfl | (simp only [wkR, wkF, c_19, ↓reduceIte]; done) | (simp [wkR, wkF, c_19, ↓reduceIte]; done)) (by first | rfl | (simp only [wkR, wkF, c_19, ↓reduceIte]; done)) dX0_walk_81
  · refine lv_iconst (v := 0) hx hb dX0_walk_22 (by decide) ?_
    exact e_z S hr hk0 g (by first | rfl | decide) (by first | rfl | (simp only [wkR, wkF, c_19, ↓reduceIte]; done) | (simp [wkR, wkF, c_19, ↓reduceIte]; done)) (by first | rfl | (simp only [wkR, wkF, c_19, ↓reduceIte]; done)) dX0_walk_23
set_option maxHeartbeats 4000000 in
set_option maxRecDepth 100000 in
theorem c_letOneHourGoBy (l : Launch) (G : gT) (F : Fs) (o : Int64) (b : Nat) (n : Nat) (h : Nat) (hB : b = 1 ∨ b = 2) (hn : F b 6 = nI n) (hn8 : n ≤ 8) (hh : F b 0 = nI h) (hh2 : h < 2 ^ 30) : MI l yX0_letOneHourGoBy cX0_letOneHourGoBy 5 (some .int) 3 70 [.ref (gA G b)] G (F) o (hrF F b n h) (hrR F b n h) := by
  refine mk_G (own := "ShadowPool$Book") (Qs := (fun sz => QI G (hrF F b n h) o (hrR F b n h) sz)) (by decide +kernel) rfl (Nat.le_of_ble_eq_true rfl) ?_
  intro p e s m args below meth c ls hr hk0 hnm S g hl
  have hl : lv_has ls 5 [(0, .ref (gA G b))] := hl
  have hx := S.1
  have hb := S.2.1
  refine lv_aload_n hx hb dX0_letOneHourGoBy_0 rfl (lv_at hl 0 rfl) ?_
  refine gB (k := b) S g hB 0 (by decide) q58 dX0_letOneHourGoBy_1 ?_
  rw [show (F b 0 : Int32) = nI h from hh]
  refine g_ci (rest := []) g (g_SN (n := 1) (As := [.int (nI h)]) S g (c_hourOfDay l G (F) o h (by omega)) qn180 q181 q1 q182 ⟨by decide +kernel, by decide +kernel, by decide +kernel⟩ rfl ⟨Nat.le_of_ble_eq_true rfl, Nat.le_of_ble_eq_true rfl⟩ hl.1 (Nat.le_of_ble_eq_true rfl) rfl ⟨Nat.zero_le _, Nat.zero_le _⟩ dX0_letOneHourGoBy_4) (fun H locs g => ?_)
  refine lv_istore_n (lv' := [(1, .int (nI (h % 12))), (0, .ref (gA G b))]) hx hb dX0_letOneHourGoBy_7 rfl hl (by decide) rfl (fun ls hl => ?_)
  refine lv_iload_n hx hb dX0_letOneHourGoBy_8 rfl (lv_at hl 0 rfl) ?_
  refine lv_if_ne (tgt := 16) hx hb dX0_letOneHourGoBy_9 (by decide) (fun c_9 => ?_) (fun c_9 => ?_)
  · refine lv_iconst (v := 0) hx hb dX0_letOneHourGoBy_16 (by decide) ?_
    refine lv_istore_n (lv' := [(2, .int 0), (1, .int (nI (h % 12))), (0, .ref (gA G b))]) hx hb dX0_letOneHourGoBy_17 rfl hl (by decide) rfl (fun ls hl => ?_)
    refine lv_iconst (v := 0) hx hb dX0_letOneHourGoBy_18 (by decide) ?_
    refine lv_istore_n (lv' := [(3, .int 0), (2, .int 0), (1, .int (nI (h % 12))), (0, .ref (gA G b))]) hx hb dX0_letOneHourGoBy_19 rfl hl (by decide) rfl (fun ls hl => ?_)
    have loop20 : ∀ (n_ : Nat) (i : Nat) (acc : Int32) (F1 : Fs) (H : Heap) (locs : List Loc) (ls : Array Slot) (hi : i + n_ = n) (hc : F1 b 6 = nI n) (hres : hrL b (sunAtI (nI (h % 12))) (noonAtI (nI (h % 12))) n_ i acc F1 = hr0 F b n h), GB G (F1) o [] [] s H locs → lv_has ls 5 [(0, .ref (gA G b)), (1, .int (nI (h % 12))), (2, .int acc), (3, .int (nI i))] → W p l e (rmG 3 70) s m args below meth c H locs 0 0 (MQ below (QI G (hrF F b n h) o (hrR F b n h) s.heap.size) args s 0 0 (GA G s.heap.size)) (F0 m 20 ls []) := by
      intro n_
      induction n_ with
      | zero =>
        intro i acc F1 H locs ls hi hc hres g hl
        refine lv_iload_n hx hb dX0_letOneHourGoBy_20 rfl (lv_at hl 3 rfl) ?_
        refine lv_aload_n hx hb dX0_letOneHourGoBy_21 rfl (lv_at hl 0 rfl) ?_
        refine gB (k := b) S g hB 6 (by decide) q70 dX0_letOneHourGoBy_22 ?_
        rw [show (F1 b 6 : Int32) = nI n from hc]
        refine lv_icmp_ge (tgt := 71) hx hb dX0_letOneHourGoBy_25 (by decide) (fun c_25 => ?_) (fun c9 => absurd (nI_le (by omega) (by omega)) c9)
        refine lv_aload_n hx hb dX0_letOneHourGoBy_71 rfl (lv_at hl 0 rfl) ?_
        refine lv_dup hx hb dX0_letOneHourGoBy_72 rfl ?_
        refine gB (k := b) S g hB 0 (by decide) q58 dX0_letOneHourGoBy_73 ?_
        refine lv_iconst (v := 1) hx hb dX0_letOneHourGoBy_76 (by decide) ?_
        refine lv_iadd hx hb dX0_letOneHourGoBy_77 ?_
        refine gBp (k := b) S g hB 0 (by decide) q58 dX0_letOneHourGoBy_78 (fun H locs g => ?_)
        refine lv_iload_n hx hb dX0_letOneHourGoBy_81 rfl (lv_at hl 2 rfl) ?_
        exact e_i S hr hk0 g (by rw [show hrR F b n h = (hr0 F b n h).1 from rfl, ← hres]; rfl) (by rw [show hrF F b n h = up2 (hr0 F b n h).2 b 0 ((hr0 F b n h).2 b 0 + 1) from rfl, ← hres]; rfl) dX0_letOneHourGoBy_82
      | succ n_ ih_20 =>
        intro i acc F1 H locs ls hi hc hres g hl
        refine lv_iload_n hx hb dX0_letOneHourGoBy_20 rfl (lv_at hl 3 rfl) ?_
        refine lv_aload_n hx hb dX0_letOneHourGoBy_21 rfl (lv_at hl 0 rfl) ?_
        refine gB (k := b) S g hB 6 (by decide) q70 dX0_letOneHourGoBy_22 ?_
        rw [show (F1 b 6 : Int32) = nI n from hc]
        refine lv_icmp_ge (tgt := 71) hx hb dX0_letOneHourGoBy_25 (by decide) (fun c9 => absurd c9 (nI_ge (by omega) (by omega))) (fun c_25 => ?_)
        refine lv_aload_n hx hb dX0_letOneHourGoBy_28 rfl (lv_at hl 0 rfl) ?_
        refine lv_iload_n hx hb dX0_letOneHourGoBy_29 rfl (lv_at hl 3 rfl) ?_
        refine g_cn (rest := []) g rfl (g_V (n := 1) (As := [.int (nI i)]) S g (c_find_ok l G (F1) o b i n hB hc (by omega) hn8) (by rcases hB with h9 | h9 <;> omega) (cEb G _ o hB) rfl (lw_V q194 q196 qs5 q2 q197) ⟨rfl, by decide +kernel, by decide +kernel, by decide +kernel⟩ rfl ⟨Nat.le_of_ble_eq_true rfl, Nat.le_of_ble_eq_true rfl⟩ hl.1 (Nat.le_of_ble_eq_true rfl) rfl ⟨Nat.zero_le _, Nat.zero_le _⟩ dX0_letOneHourGoBy_30) (fun H locs g => ?_)
        refine lv_astore (lv' := [(4, .ref (gA G (wb b i))), (0, .ref (gA G b)), (1, .int (nI (h % 12))), (2, .int acc), (3, .int (nI i))]) hx hb dX0_letOneHourGoBy_33 hl (by decide) rfl (fun ls hl => ?_)
        refine lv_iload_n hx hb dX0_letOneHourGoBy_35 rfl (lv_at hl 3 rfl) ?_
        refine lv_aload hx hb dX0_letOneHourGoBy_36 (lv_at hl 0 rfl) ?_
        refine lv_ifnull hx hb dX0_letOneHourGoBy_38 ?_
        refine lv_aload_n hx hb dX0_letOneHourGoBy_41 rfl (lv_at hl 1 rfl) ?_
        refine lv_aload hx hb dX0_letOneHourGoBy_42 (lv_at hl 0 rfl) ?_
        refine lv_iload_n hx hb dX0_letOneHourGoBy_44 rfl (lv_at hl 2 rfl) ?_
        refine g_ci (rest := [.ref (gA G (wb b i)), .ref (gA G b), .int acc]) g (g_SN (n := 1) (As := [.int (nI (h % 12))]) S g (c_sunAt l G (F1) o (nI (h % 12))) qn198 q199 q1 q200 ⟨by decide +kernel, by decide +kernel, by decide +kernel⟩ rfl ⟨Nat.le_of_ble_eq_true rfl, Nat.le_of_ble_eq_true rfl⟩ hl.1 (Nat.le_of_ble_eq_true rfl) rfl ⟨Nat.zero_le _, Nat.zero_le _⟩ dX0_letOneHourGoBy_45) (fun H locs g => ?_)
        refine lv_iload_n hx hb dX0_letOneHourGoBy_48 rfl (lv_at hl 2 rfl) ?_
        refine g_ci (rest := [.int (sunAtI (nI (h % 12))), .ref (gA G (wb b i)), .ref (gA G b), .int acc]) g (g_SN (n := 1) (As := [.int (nI (h % 12))]) S g (c_noonAt l G (F1) o (nI (h % 12))) qn201 q202 q1 q203 ⟨by decide +kernel, by decide +kernel, by decide +kernel⟩ rfl ⟨Nat.le_of_ble_eq_true rfl, Nat.le_of_ble_eq_true rfl⟩ hl.1 (Nat.le_of_ble_eq_true rfl) rfl ⟨Nat.zero_le _, Nat.zero_le _⟩ dX0_letOneHourGoBy_49) (fun H locs g => ?_)
        refine g_ci (rest := [.int acc]) g (g_V (n := 3) (As := [.ref (gA G (wb b i)), .int (sunAtI (nI (h % 12))), .int (noonAtI (nI (h % 12)))]) S g (c_walk l G (F1) o b (wb b i) (sunAtI (nI (h % 12))) (noonAtI (nI (h % 12))) hB (wb_lo hB _) (wb_hi hB (by omega)) (sun_pos h)) (by rcases hB with h9 | h9 <;> omega) (cEb G _ o hB) rfl (lw_V q204 q206 qs6 q2 q207) ⟨rfl, by decide +kernel, by decide +kernel, by decide +kernel⟩ rfl ⟨Nat.le_of_ble_eq_true rfl, Nat.le_of_ble_eq_true rfl⟩ hl.1 (Nat.le_of_ble_eq_true rfl) rfl ⟨Nat.zero_le _, Nat.zero_le _⟩ dX0_letOneHourGoBy_52) (fun H locs g => ?_)
        refine lv_if_eq (tgt := 62) hx hb dX0_letOneHourGoBy_55 (by decide) (fun c_55 => ?_) (fun c_55 => ?_)
        · refine lv_iconst (v := 0) hx hb dX0_letOneHourGoBy_62 (by decide) ?_
          refine lv_iadd hx hb dX0_letOneHourGoBy_63 ?_
          refine lv_istore_n (lv' := [(2, .int ((acc) + (0))), (4, .ref (gA G (wb b i))), (0, .ref (gA G b)), (1, .int (nI (h % 12))), (3, .int (nI i))]) hx hb dX0_letOneHourGoBy_64 rfl hl (by decide) rfl (fun ls hl => ?_)
          refine lv_iinc (v := nI (i + 1)) (lv' := [(3, .int (nI (i + 1))), (2, .int ((acc) + (0))), (4, .ref (gA G (wb b i))), (0, .ref (gA G b)), (1, .int (nI (h % 12)))]) hx hb dX0_letOneHourGoBy_65 hl (k := 4) rfl (nI_1 i) (by decide) rfl (fun ls hl => ?_)
          refine lv_goto (tgt := 20) hx hb dX0_letOneHourGoBy_68 (by decide) ?_
          exact ih_20 (i + 1) _ _ _ _ _ (by omega) (by rw [wk_ne _ _ _ _ _ (by omega) (wb_ne hB (by omega))]; exact hc) (by simpa only [hrL, c_25, c_55, ↓reduceIte] using hres) g (lv_sub hl [3, 4, 1, 0] rfl)
        · refine lv_iconst (v := 1) hx hb dX0_letOneHourGoBy_58 (by decide) ?_
          refine lv_goto (tgt := 63) hx hb dX0_letOneHourGoBy_59 (by decide) ?_
          refine lv_iadd hx hb dX0_letOneHourGoBy_63 ?_
          refine lv_istore_n (lv' := [(2, .int ((acc) + (1))), (4, .ref (gA G (wb b i))), (0, .ref (gA G b)), (1, .int (nI (h % 12))), (3, .int (nI i))]) hx hb dX0_letOneHourGoBy_64 rfl hl (by decide) rfl (fun ls hl => ?_)
          refine lv_iinc (v := nI (i + 1)) (lv' := [(3, .int (nI (i + 1))), (2, .int ((acc) + (1))), (4, .ref (gA G (wb b i))), (0, .ref (gA G b)), (1, .int (nI (h % 12)))]) hx hb dX0_letOneHourGoBy_65 hl (k := 4) rfl (nI_1 i) (by decide) rfl (fun ls hl => ?_)
          refine lv_goto (tgt := 20) hx hb dX0_letOneHourGoBy_68 (by decide) ?_
          exact ih_20 (i + 1) _ _ _ _ _ (by omega) (by rw [wk_ne _ _ _ _ _ (by omega) (wb_ne hB (by omega))]; exact hc) (by simpa only [hrL, c_25, c_55, ↓reduceIte] using hres) g (lv_sub hl [3, 4, 1, 0] rfl)
    exact loop20 n 0 0 _ _ _ _ (by omega) (by first | exact hn | (rw [pay_ne F b n (by omega)]; exact hn)) (by simp only [hr0, c_9, ↓reduceIte]) g (lv_sub hl [3, 2, 1, 0] rfl)
  · refine lv_aload_n hx hb dX0_letOneHourGoBy_12 rfl (lv_at hl 1 rfl) ?_
    refine g_cv (rest := []) g (g_V (n := 0) (As := []) S g (c_payDues l G (F) o b n hB hn hn8) (by rcases hB with h9 | h9 <;> omega) (cEb G _ o hB) rfl (lw_V q186 q188 qs3 q2 q189) ⟨rfl, by decide +kernel, by decide +kernel, by decide +kernel⟩ rfl ⟨Nat.le_of_ble_eq_true rfl, Nat.le_of_ble_eq_true rfl⟩ hl.1 (Nat.le_of_ble_eq_true rfl) rfl ⟨Nat.zero_le _, Nat.zero_le _⟩ dX0_letOneHourGoBy_13) (fun H locs g => ?_)
    refine lv_iconst (v := 0) hx hb dX0_letOneHourGoBy_16 (by decide) ?_
    refine lv_istore_n (lv' := [(2, .int 0), (1, .int (nI (h % 12))), (0, .ref (gA G b))]) hx hb dX0_letOneHourGoBy_17 rfl hl (by decide) rfl (fun ls hl => ?_)
    refine lv_iconst (v := 0) hx hb dX0_letOneHourGoBy_18 (by decide) ?_
    refine lv_istore_n (lv' := [(3, .int 0), (2, .int 0), (1, .int (nI (h % 12))), (0, .ref (gA G b))]) hx hb dX0_letOneHourGoBy_19 rfl hl (by decide) rfl (fun ls hl => ?_)
    have loop20 : ∀ (n_ : Nat) (i : Nat) (acc : Int32) (F1 : Fs) (H : Heap) (locs : List Loc) (ls : Array Slot) (hi : i + n_ = n) (hc : F1 b 6 = nI n) (hres : hrL b (sunAtI (nI (h % 12))) (noonAtI (nI (h % 12))) n_ i acc F1 = hr0 F b n h), GB G (F1) o [] [] s H locs → lv_has ls 5 [(0, .ref (gA G b)), (1, .int (nI (h % 12))), (2, .int acc), (3, .int (nI i))] → W p l e (rmG 3 70) s m args below meth c H locs 0 0 (MQ below (QI G (hrF F b n h) o (hrR F b n h) s.heap.size) args s 0 0 (GA G s.heap.size)) (F0 m 20 ls []) := by
      intro n_
      induction n_ with
      | zero =>
        intro i acc F1 H locs ls hi hc hres g hl
        refine lv_iload_n hx hb dX0_letOneHourGoBy_20 rfl (lv_at hl 3 rfl) ?_
        refine lv_aload_n hx hb dX0_letOneHourGoBy_21 rfl (lv_at hl 0 rfl) ?_
        refine gB (k := b) S g hB 6 (by decide) q70 dX0_letOneHourGoBy_22 ?_
        rw [show (F1 b 6 : Int32) = nI n from hc]
        refine lv_icmp_ge (tgt := 71) hx hb dX0_letOneHourGoBy_25 (by decide) (fun c_25 => ?_) (fun c9 => absurd (nI_le (by omega) (by omega)) c9)
        refine lv_aload_n hx hb dX0_letOneHourGoBy_71 rfl (lv_at hl 0 rfl) ?_
        refine lv_dup hx hb dX0_letOneHourGoBy_72 rfl ?_
        refine gB (k := b) S g hB 0 (by decide) q58 dX0_letOneHourGoBy_73 ?_
        refine lv_iconst (v := 1) hx hb dX0_letOneHourGoBy_76 (by decide) ?_
        refine lv_iadd hx hb dX0_letOneHourGoBy_77 ?_
        refine gBp (k := b) S g hB 0 (by decide) q58 dX0_letOneHourGoBy_78 (fun H locs g => ?_)
        refine lv_iload_n hx hb dX0_letOneHourGoBy_81 rfl (lv_at hl 2 rfl) ?_
        exact e_i S hr hk0 g (by rw [show hrR F b n h = (hr0 F b n h).1 from rfl, ← hres]; rfl) (by rw [show hrF F b n h = up2 (hr0 F b n h).2 b 0 ((hr0 F b n h).2 b 0 + 1) from rfl, ← hres]; rfl) dX0_letOneHourGoBy_82
      | succ n_ ih_20 =>
        intro i acc F1 H locs ls hi hc hres g hl
        refine lv_iload_n hx hb dX0_letOneHourGoBy_20 rfl (lv_at hl 3 rfl) ?_
        refine lv_aload_n hx hb dX0_letOneHourGoBy_21 rfl (lv_at hl 0 rfl) ?_
        refine gB (k := b) S g hB 6 (by decide) q70 dX0_letOneHourGoBy_22 ?_
        rw [show (F1 b 6 : Int32) = nI n from hc]
        refine lv_icmp_ge (tgt := 71) hx hb dX0_letOneHourGoBy_25 (by decide) (fun c9 => absurd c9 (nI_ge (by omega) (by omega))) (fun c_25 => ?_)
        refine lv_aload_n hx hb dX0_letOneHourGoBy_28 rfl (lv_at hl 0 rfl) ?_
        refine lv_iload_n hx hb dX0_letOneHourGoBy_29 rfl (lv_at hl 3 rfl) ?_
        refine g_cn (rest := []) g rfl (g_V (n := 1) (As := [.int (nI i)]) S g (c_find_ok l G (F1) o b i n hB hc (by omega) hn8) (by rcases hB with h9 | h9 <;> omega) (cEb G _ o hB) rfl (lw_V q194 q196 qs5 q2 q197) ⟨rfl, by decide +kernel, by decide +kernel, by decide +kernel⟩ rfl ⟨Nat.le_of_ble_eq_true rfl, Nat.le_of_ble_eq_true rfl⟩ hl.1 (Nat.le_of_ble_eq_true rfl) rfl ⟨Nat.zero_le _, Nat.zero_le _⟩ dX0_letOneHourGoBy_30) (fun H locs g => ?_)
        refine lv_astore (lv' := [(4, .ref (gA G (wb b i))), (0, .ref (gA G b)), (1, .int (nI (h % 12))), (2, .int acc), (3, .int (nI i))]) hx hb dX0_letOneHourGoBy_33 hl (by decide) rfl (fun ls hl => ?_)
        refine lv_iload_n hx hb dX0_letOneHourGoBy_35 rfl (lv_at hl 3 rfl) ?_
        refine lv_aload hx hb dX0_letOneHourGoBy_36 (lv_at hl 0 rfl) ?_
        refine lv_ifnull hx hb dX0_letOneHourGoBy_38 ?_
        refine lv_aload_n hx hb dX0_letOneHourGoBy_41 rfl (lv_at hl 1 rfl) ?_
        refine lv_aload hx hb dX0_letOneHourGoBy_42 (lv_at hl 0 rfl) ?_
        refine lv_iload_n hx hb dX0_letOneHourGoBy_44 rfl (lv_at hl 2 rfl) ?_
        refine g_ci (rest := [.ref (gA G (wb b i)), .ref (gA G b), .int acc]) g (g_SN (n := 1) (As := [.int (nI (h % 12))]) S g (c_sunAt l G (F1) o (nI (h % 12))) qn198 q199 q1 q200 ⟨by decide +kernel, by decide +kernel, by decide +kernel⟩ rfl ⟨Nat.le_of_ble_eq_true rfl, Nat.le_of_ble_eq_true rfl⟩ hl.1 (Nat.le_of_ble_eq_true rfl) rfl ⟨Nat.zero_le _, Nat.zero_le _⟩ dX0_letOneHourGoBy_45) (fun H locs g => ?_)
        refine lv_iload_n hx hb dX0_letOneHourGoBy_48 rfl (lv_at hl 2 rfl) ?_
        refine g_ci (rest := [.int (sunAtI (nI (h % 12))), .ref (gA G (wb b i)), .ref (gA G b), .int acc]) g (g_SN (n := 1) (As := [.int (nI (h % 12))]) S g (c_noonAt l G (F1) o (nI (h % 12))) qn201 q202 q1 q203 ⟨by decide +kernel, by decide +kernel, by decide +kernel⟩ rfl ⟨Nat.le_of_ble_eq_true rfl, Nat.le_of_ble_eq_true rfl⟩ hl.1 (Nat.le_of_ble_eq_true rfl) rfl ⟨Nat.zero_le _, Nat.zero_le _⟩ dX0_letOneHourGoBy_49) (fun H locs g => ?_)
        refine g_ci (rest := [.int acc]) g (g_V (n := 3) (As := [.ref (gA G (wb b i)), .int (sunAtI (nI (h % 12))), .int (noonAtI (nI (h % 12)))]) S g (c_walk l G (F1) o b (wb b i) (sunAtI (nI (h % 12))) (noonAtI (nI (h % 12))) hB (wb_lo hB _) (wb_hi hB (by omega)) (sun_pos h)) (by rcases hB with h9 | h9 <;> omega) (cEb G _ o hB) rfl (lw_V q204 q206 qs6 q2 q207) ⟨rfl, by decide +kernel, by decide +kernel, by decide +kernel⟩ rfl ⟨Nat.le_of_ble_eq_true rfl, Nat.le_of_ble_eq_true rfl⟩ hl.1 (Nat.le_of_ble_eq_true rfl) rfl ⟨Nat.zero_le _, Nat.zero_le _⟩ dX0_letOneHourGoBy_52) (fun H locs g => ?_)
        refine lv_if_eq (tgt := 62) hx hb dX0_letOneHourGoBy_55 (by decide) (fun c_55 => ?_) (fun c_55 => ?_)
        · refine lv_iconst (v := 0) hx hb dX0_letOneHourGoBy_62 (by decide) ?_
          refine lv_iadd hx hb dX0_letOneHourGoBy_63 ?_
          refine lv_istore_n (lv' := [(2, .int ((acc) + (0))), (4, .ref (gA G (wb b i))), (0, .ref (gA G b)), (1, .int (nI (h % 12))), (3, .int (nI i))]) hx hb dX0_letOneHourGoBy_64 rfl hl (by decide) rfl (fun ls hl => ?_)
          refine lv_iinc (v := nI (i + 1)) (lv' := [(3, .int (nI (i + 1))), (2, .int ((acc) + (0))), (4, .ref (gA G (wb b i))), (0, .ref (gA G b)), (1, .int (nI (h % 12)))]) hx hb dX0_letOneHourGoBy_65 hl (k := 4) rfl (nI_1 i) (by decide) rfl (fun ls hl => ?_)
          refine lv_goto (tgt := 20) hx hb dX0_letOneHourGoBy_68 (by decide) ?_
          exact ih_20 (i + 1) _ _ _ _ _ (by omega) (by rw [wk_ne _ _ _ _ _ (by omega) (wb_ne hB (by omega))]; exact hc) (by simpa only [hrL, c_25, c_55, ↓reduceIte] using hres) g (lv_sub hl [3, 4, 1, 0] rfl)
        · refine lv_iconst (v := 1) hx hb dX0_letOneHourGoBy_58 (by decide) ?_
          refine lv_goto (tgt := 63) hx hb dX0_letOneHourGoBy_59 (by decide) ?_
          refine lv_iadd hx hb dX0_letOneHourGoBy_63 ?_
          refine lv_istore_n (lv' := [(2, .int ((acc) + (1))), (4, .ref (gA G (wb b i))), (0, .ref (gA G b)), (1, .int (nI (h % 12))), (3, .int (nI i))]) hx hb dX0_letOneHourGoBy_64 rfl hl (by decide) rfl (fun ls hl => ?_)
          refine lv_iinc (v := nI (i + 1)) (lv' := [(3, .int (nI (i + 1))), (2, .int ((acc) + (1))), (4, .ref (gA G (wb b i))), (0, .ref (gA G b)), (1, .int (nI (h % 12)))]) hx hb dX0_letOneHourGoBy_65 hl (k := 4) rfl (nI_1 i) (by decide) rfl (fun ls hl => ?_)
          refine lv_goto (tgt := 20) hx hb dX0_letOneHourGoBy_68 (by decide) ?_
          exact ih_20 (i + 1) _ _ _ _ _ (by omega) (by rw [wk_ne _ _ _ _ _ (by omega) (wb_ne hB (by omega))]; exact hc) (by simpa only [hrL, c_25, c_55, ↓reduceIte] using hres) g (lv_sub hl [3, 4, 1, 0] rfl)
    exact loop20 n 0 0 _ _ _ _ (by omega) (by first | exact hn | (rw [pay_ne F b n (by omega)]; exact hn)) (by simp only [hr0, c_9, ↓reduceIte]) g (lv_sub hl [3, 2, 1, 0] rfl)
set_option maxHeartbeats 4000000 in
set_option maxRecDepth 100000 in
theorem c_letGoBy (l : Launch) (G : gT) (F : Fs) (o : Int64) (b : Nat) (n : Nat) (h : Nat) (t : Nat) (hB : b = 1 ∨ b = 2) (hn : F b 6 = nI n) (hn8 : n ≤ 8) (hh : F b 0 = nI h) (hh2 : h + t < 2 ^ 30) : MI l yX0_letGoBy cX0_letGoBy 4 (some .int) 4 94 [.ref (gA G b), .int (nI t)] G (F) o ((gbL b n t h 0 F).2) ((gbL b n t h 0 F).1) := by
  refine mk_G (own := "ShadowPool$Book") (Qs := (fun sz => QI G ((gbL b n t h 0 F).2) o ((gbL b n t h 0 F).1) sz)) (by decide +kernel) rfl (Nat.le_of_ble_eq_true rfl) ?_
  intro p e s m args below meth c ls hr hk0 hnm S g hl
  have hl : lv_has ls 4 [(0, .ref (gA G b)), (1, .int (nI t))] := hl
  have hx := S.1
  have hb := S.2.1
  refine lv_iconst (v := 0) hx hb dX0_letGoBy_0 (by decide) ?_
  refine lv_istore_n (lv' := [(2, .int 0), (0, .ref (gA G b)), (1, .int (nI t))]) hx hb dX0_letGoBy_1 rfl hl (by decide) rfl (fun ls hl => ?_)
  refine lv_iconst (v := 0) hx hb dX0_letGoBy_2 (by decide) ?_
  refine lv_istore_n (lv' := [(3, .int 0), (2, .int 0), (0, .ref (gA G b)), (1, .int (nI t))]) hx hb dX0_letGoBy_3 rfl hl (by decide) rfl (fun ls hl => ?_)
  have loop4 : ∀ (n_ : Nat) (i : Nat) (acc : Int32) (F1 : Fs) (H : Heap) (locs : List Loc) (ls : Array Slot) (hi : i + n_ = t) (hc : F1 b 6 = nI n) (hd : F1 b 0 = nI (h + i)) (hres : gbL b n n_ (h + i) acc F1 = gbL b n t h 0 F), GB G (F1) o [] [] s H locs → lv_has ls 4 [(0, .ref (gA G b)), (1, .int (nI t)), (2, .int acc), (3, .int (nI i))] → W p l e (rmG 4 94) s m args below meth c H locs 0 0 (MQ below (QI G ((gbL b n t h 0 F).2) o ((gbL b n t h 0 F).1) s.heap.size) args s 0 0 (GA G s.heap.size)) (F0 m 4 ls []) := by
    intro n_
    induction n_ with
    | zero =>
      intro i acc F1 H locs ls hi hc hd hres g hl
      refine lv_iload_n hx hb dX0_letGoBy_4 rfl (lv_at hl 3 rfl) ?_
      refine lv_iload_n hx hb dX0_letGoBy_5 rfl (lv_at hl 1 rfl) ?_
      refine lv_icmp_ge (tgt := 22) hx hb dX0_letGoBy_6 (by decide) (fun c_6 => ?_) (fun c9 => absurd (nI_le (by omega) (by omega)) c9)
      refine lv_iload_n hx hb dX0_letGoBy_22 rfl (lv_at hl 2 rfl) ?_
      exact e_i S hr hk0 g (by rw [← hres]; rfl) (by rw [← hres]; rfl) dX0_letGoBy_23
    | succ n_ ih_4 =>
      intro i acc F1 H locs ls hi hc hd hres g hl
      refine lv_iload_n hx hb dX0_letGoBy_4 rfl (lv_at hl 3 rfl) ?_
      refine lv_iload_n hx hb dX0_letGoBy_5 rfl (lv_at hl 1 rfl) ?_
      refine lv_icmp_ge (tgt := 22) hx hb dX0_letGoBy_6 (by decide) (fun c9 => absurd c9 (nI_ge (by omega) (by omega))) (fun c_6 => ?_)
      refine lv_iload_n hx hb dX0_letGoBy_9 rfl (lv_at hl 2 rfl) ?_
      refine lv_aload_n hx hb dX0_letGoBy_10 rfl (lv_at hl 0 rfl) ?_
      refine g_ci (rest := [.int acc]) g (g_V (n := 0) (As := []) S g (c_letOneHourGoBy l G (F1) o b n (h + i) hB hc hn8 hd (by omega)) (by rcases hB with h9 | h9 <;> omega) (cEb G _ o hB) rfl (lw_V q176 q178 qs2 q2 q179) ⟨rfl, by decide +kernel, by decide +kernel, by decide +kernel⟩ rfl ⟨Nat.le_of_ble_eq_true rfl, Nat.le_of_ble_eq_true rfl⟩ hl.1 (Nat.le_of_ble_eq_true rfl) rfl ⟨Nat.zero_le _, Nat.zero_le _⟩ dX0_letGoBy_11) (fun H locs g => ?_)
      refine lv_iadd hx hb dX0_letGoBy_14 ?_
      refine lv_istore_n (lv' := [(2, .int ((acc) + (hrR F1 b n (h + i)))), (0, .ref (gA G b)), (1, .int (nI t)), (3, .int (nI i))]) hx hb dX0_letGoBy_15 rfl hl (by decide) rfl (fun ls hl => ?_)
      refine lv_iinc (v := nI (i + 1)) (lv' := [(3, .int (nI (i + 1))), (2, .int ((acc) + (hrR F1 b n (h + i)))), (0, .ref (gA G b)), (1, .int (nI t))]) hx hb dX0_letGoBy_16 hl (k := 3) rfl (nI_1 i) (by decide) rfl (fun ls hl => ?_)
      refine lv_goto (tgt := 4) hx hb dX0_letGoBy_19 (by decide) ?_
      exact ih_4 (i + 1) _ _ _ _ _ (by omega) (by rw [hrF_ne _ _ _ _ (by omega) (fun q _ => wb_ne hB (by omega))]; exact hc) (by rw [hrF_hour _ _ _ _ hB, hd]; exact nI_1 (h + i)) hres g (lv_sub hl [2, 3, 1, 0] rfl)
  exact loop4 t 0 0 F _ _ _ (by omega) hn hh rfl g (lv_sub hl [2, 3, 1, 0] rfl)
end
section
/-! what the class's public methods answer, in plain words over F: n walkers, hour h -/
def fmI (x : Int32) : Int32 := if 0 ≤ x ^^^ 12 then x - x / 12 * 12 else if x - x / 12 * 12 = 0 then x - x / 12 * 12 else x - x / 12 * 12 + 12
theorem noon01 (d : Int32) : noonAtI d = 0 ∨ noonAtI d = 1 := by
  unfold noonAtI
  split
  · exact Or.inl rfl
  · split
    · exact Or.inl rfl
    · exact Or.inr rfl
theorem z01 {v : Int32} (h : v = 0 ∨ v = 1) : narrow .boolean (.int v) = .int v := by rcases h with rfl | rfl <;> rfl
theorem inR01 (v lo hi : Int32) : inR v lo hi = 0 ∨ inR v lo hi = 1 := by
  unfold inR
  split
  · exact Or.inl rfl
  · split
    · exact Or.inl rfl
    · exact Or.inr rfl
def suH (h : Nat) : Int32 := sunAtI (nI (h % 12))
def noH (h : Nat) : Int32 := noonAtI (nI (h % 12))
def huN (h : Nat) : Int32 := if noonAtI (nI (h % 12)) = 0 then fmI (5 - nI (h % 12)) else 0
def loL (F : Fs) (sun : Int32) : Nat → Nat → Int32 → Int32 → Int32
  | 0, _, best, _ => best
  | n + 1, i, best, len => if shI (F (wb 1 i) 0) sun ≤ len then loL F sun n (i + 1) best len else loL F sun n (i + 1) (nI i) (shI (F (wb 1 i) 0) sun)
def clI (F : Fs) (k : Nat) (sun noon : Int32) : Int32 := coI (F k 0) (F k 2) sun - owI (F k 5) (coI (F k 0) (F k 2) sun) noon
def fbI (F : Fs) (k h : Nat) : Int32 := faB (F k 0) (F k 1) h 100 0 (F k 3)
def nfL (F : Fs) (h : Nat) : Nat → Nat → Int32 → Int32 → Int32
  | 0, _, nx, _ => nx
  | n + 1, i, nx, so => if fbI F (wb 1 i) h ≤ 0 then nfL F h n (i + 1) nx so else if so ≤ fbI F (wb 1 i) h then nfL F h n (i + 1) nx so else nfL F h n (i + 1) (nI i) (fbI F (wb 1 i) h)
def fb0 (F : Fs) (n : Nat) (rate lim : Int32) : Fs := up2 (up2 (cpyF F n) 2 2 rate) 2 4 lim
def fbF (F : Fs) (n h t : Nat) (rate lim : Int32) : Fs := (gbL 2 n t h 0 (fb0 F n rate lim)).2
def ruL (n : Nat) : Nat → Nat → Nat → Fs → Int32 × Fs
  | 0, _, _, F => (if 0 ≤ F 2 1 then -1 else 100, F)
  | k + 1, i, h, F => if 0 ≤ F 2 1 then ruL n k (i + 1) (h + 1) (gbL 2 n 1 h 0 F).2 else (nI i, F)
def beL (n h : Nat) : Nat → Nat → Int32 → Int32 → Fs → Int32 × Fs
  | 0, _, best, _, F => (best, F)
  | k + 1, i, best, gr, F => if fbF F n h 48 (F 1 2) (nI (20 * (i + 1))) 2 1 ≤ gr then beL n h k (i + 1) best gr (fbF F n h 48 (F 1 2) (nI (20 * (i + 1)))) else beL n h k (i + 1) (nI (20 * (i + 1))) (fbF F n h 48 (F 1 2) (nI (20 * (i + 1))) 2 1) (fbF F n h 48 (F 1 2) (nI (20 * (i + 1))))
def be0 (F : Fs) (n h : Nat) : Fs := fbF F n h 48 (F 1 2) 0
def beF (F : Fs) (n h : Nat) : Int32 × Fs := beL n h 5 0 0 (be0 F n h 2 1) (be0 F n h)
def fiL (n h : Nat) : Nat → Nat → Fs → Int32 × Fs
  | 0, _, F => (-1, F)
  | k + 1, i, F => if fbF F n h 48 (nI i) (F 1 4) 2 1 < fbF F n h 48 (nI i) (F 1 4) 1 1 then fiL n h k (i + 1) (fbF F n h 48 (nI i) (F 1 4)) else (nI i, fbF F n h 48 (nI i) (F 1 4))
def fiF (F : Fs) (n h : Nat) : Int32 × Fs := fiL n h 10 0 F
def msL (F : Fs) (sun : Int32) : Nat → Nat → Int32 → Int32
  | 0, _, acc => acc
  | n + 1, i, acc => msL F sun n (i + 1) (acc + shI (F (wb 1 i) 0) sun)
def msD (F : Fs) (n h : Nat) : UInt64 := if nI n = 0 then FP.dconst0 else FP.ddiv (FP.i2d (msL F (suH h) n 0 0)) (FP.i2d (nI n))
def chI (d : Int64) (x : Int32) : Int64 := d * 31 + x.toInt64
def cw3 (F : Fs) (k : Nat) (d : Int64) : Int64 := chI (chI (chI (chI d (if F k 5 = 0 then 0 else 1)) (F k 2)) (F k 3)) (F k 4)
def cw5 (F : Fs) (k : Nat) (sun : Int32) (d : Int64) : Int64 := chI (chI (cw3 F k d) (shI (F k 0) sun)) (coI (F k 0) (F k 2) sun)
def cwkI (F : Fs) (k : Nat) (sun noon : Int32) (d : Int64) : Int64 := chI (chI (cw5 F k sun d) (clI F k sun noon - reI (clI F k sun noon) (F 1 3) (F 1 4))) (reI (clI F k sun noon) (F 1 3) (F 1 4))
def dgL (F : Fs) (sun noon : Int32) : Nat → Nat → Int64 → Int64
  | 0, _, d => d
  | n + 1, i, d => dgL F sun noon n (i + 1) (cwkI F (wb 1 i) sun noon d)
def dg9 (F : Fs) (n h : Nat) : Int64 := chI (chI (chI (chI (chI (chI (chI (chI (chI 2069 (F 1 0)) (suH h)) (F 1 6)) (cmL F 1 n 0 0)) (F 1 1)) (F 1 2)) (F 1 3)) (F 1 4)) (F 1 5)
def dgF (F : Fs) (n h : Nat) : Fs := (fiF (beF F n h).2 n h).2
def dgH (F : Fs) (n h : Nat) : Int64 := chI (chI (chI (dg9 F n h) (nfL F h n 0 (-1) 101)) (beF F n h).1) (fiF (beF F n h).2 n h).1
def dgI (F : Fs) (n h : Nat) : Int64 := dgL (dgF F n h) (suH h) (noH h) n 0 (dgH F n h)
/-- a place that no hour in the second book touches -/
def offT (n a : Nat) : Prop := a ≠ 2 ∧ ∀ q, q < n → a ≠ wb 2 q
theorem cpyL_ne {a : Nat} : ∀ (n i : Nat) (F : Fs) (b : Nat), (∀ q, i ≤ q → q < i + n → a ≠ wb 2 q) → cpyL n i F a b = F a b := by
  intro n
  induction n with
  | zero => intro i F b _; rfl
  | succ n ih =>
    intro i F b hq
    show cpyL n (i + 1) _ a b = F a b
    rw [ih (i + 1) _ b (fun q h1 h2 => hq q (by omega) (by omega)), cpwF_ne _ _ _ (hq i (Nat.le_refl _) (by omega))]
theorem cpyF_ne (F : Fs) (n : Nat) {a : Nat} (h : offT n a) (b : Nat) : cpyF F n a b = F a b := by
  unfold cpyF
  rw [cpyL_ne n 0 _ b (fun q _ h2 => h.2 q (by omega)), hdrF_ne F h.1]
theorem cpyF_2 (F : Fs) (n : Nat) {j : Nat} (h : j < 7) : cpyF F n 2 j = F 1 j := by
  unfold cpyF
  rw [cpyL_ne n 0 _ j (fun q _ h2 => wb_ne (Or.inr rfl) (by decide)), hdrF_eq F h]
theorem gbL_ne (n : Nat) {a : Nat} (h : offT n a) : ∀ (k t : Nat) (acc : Int32) (F : Fs) (b : Nat), (gbL 2 n k t acc F).2 a b = F a b := by
  intro k
  induction k with
  | zero => intro t acc F b; rfl
  | succ k ih =>
    intro t acc F b
    show (gbL 2 n k (t + 1) _ _).2 a b = F a b
    rw [ih, hrF_ne F 2 n t (fun q => h.1 q.1) h.2]
theorem fbF_ne (F : Fs) (n h t : Nat) (rate lim : Int32) {a : Nat} (ho : offT n a) (b : Nat) : fbF F n h t rate lim a b = F a b := by
  unfold fbF fb0
  rw [gbL_ne n ho, up2_ne _ _ (fun q => ho.1 q.1), up2_ne _ _ (fun q => ho.1 q.1), cpyF_ne F n ho]
theorem off1 (n : Nat) : offT n 1 := ⟨by decide, fun q _ => wb_ne (Or.inr rfl) (by decide)⟩
theorem offw {n j : Nat} (hj : j < 8) : offT n (wb 1 j) := ⟨Ne.symm (wb_ne (Or.inl rfl) (by decide)), fun q _ => wb_ne2 hj⟩
theorem gbL_6 (b n : Nat) (hB : b = 1 ∨ b = 2) : ∀ (k t : Nat) (acc : Int32) (F : Fs), (gbL b n k t acc F).2 b 6 = F b 6 := by
  intro k
  induction k with
  | zero => intro t acc F; rfl
  | succ k ih =>
    intro t acc F
    show (gbL b n k (t + 1) _ _).2 b 6 = F b 6
    rw [ih, hrF_ne F b n t (by omega) (fun q _ => wb_ne hB (by omega))]
theorem gbL_0 (b n : Nat) (hB : b = 1 ∨ b = 2) : ∀ (k t : Nat) (acc : Int32) (F : Fs) (h : Nat), F b 0 = nI h → (gbL b n k t acc F).2 b 0 = nI (h + k) := by
  intro k
  induction k with
  | zero => intro t acc F h h0; exact h0
  | succ k ih =>
    intro t acc F h h0
    show (gbL b n k (t + 1) _ _).2 b 0 = nI (h + (k + 1))
    rw [ih (t + 1) _ _ (h + 1) (by rw [hrF_hour F b n t hB, h0]; exact nI_1 h)]
    congr 1; omega
/-- what the methods over both books ask of F -/
def okP (F : Fs) (n h : Nat) : Prop := F 1 6 = nI n ∧ F 1 0 = nI h ∧ ∀ j, j < 8 → F (wb 1 j) 5 = 0 ∨ F (wb 1 j) 5 = 1
theorem okP_fb {F : Fs} {n h : Nat} (ho : okP F n h) (t : Nat) (rate lim : Int32) : okP (fbF F n h t rate lim) n h := by
  refine ⟨by rw [fbF_ne F n h t rate lim (off1 n)]; exact ho.1, by rw [fbF_ne F n h t rate lim (off1 n)]; exact ho.2.1, fun j hj => ?_⟩
  rw [fbF_ne F n h t rate lim (offw hj)]
  exact ho.2.2 j hj
theorem beL_ok {n h : Nat} : ∀ (k i : Nat) (best gr : Int32) (F : Fs), okP F n h → okP (beL n h k i best gr F).2 n h := by
  intro k
  induction k with
  | zero => intro i best gr F ho; exact ho
  | succ k ih =>
    intro i best gr F ho
    unfold beL
    split
    · exact ih _ _ _ _ (okP_fb ho _ _ _)
    · exact ih _ _ _ _ (okP_fb ho _ _ _)
theorem beF_ok {F : Fs} {n h : Nat} (ho : okP F n h) : okP (beF F n h).2 n h := beL_ok 5 0 _ _ _ (okP_fb ho _ _ _)
theorem fiL_ok {n h : Nat} : ∀ (k i : Nat) (F : Fs), okP F n h → okP (fiL n h k i F).2 n h := by
  intro k
  induction k with
  | zero => intro i F ho; exact ho
  | succ k ih =>
    intro i F ho
    unfold fiL
    split
    · exact ih _ _ (okP_fb ho _ _ _)
    · exact okP_fb ho _ _ _
theorem fiF_ok {F : Fs} {n h : Nat} (ho : okP F n h) : okP (fiF F n h).2 n h := fiL_ok 10 0 _ ho
theorem beL_ne {n h a : Nat} (ho : offT n a) : ∀ (k i : Nat) (best gr : Int32) (F : Fs) (b : Nat), (beL n h k i best gr F).2 a b = F a b := by
  intro k
  induction k with
  | zero => intro i best gr F b; rfl
  | succ k ih =>
    intro i best gr F b
    unfold beL
    split
    · rw [ih, fbF_ne F n h _ _ _ ho]
    · rw [ih, fbF_ne F n h _ _ _ ho]
theorem beF_ne {F : Fs} {n h a : Nat} (ho : offT n a) (b : Nat) : (beF F n h).2 a b = F a b := by
  unfold beF be0
  rw [beL_ne ho, fbF_ne F n h _ _ _ ho]
theorem fiL_ne {n h a : Nat} (ho : offT n a) : ∀ (k i : Nat) (F : Fs) (b : Nat), (fiL n h k i F).2 a b = F a b := by
  intro k
  induction k with
  | zero => intro i F b; rfl
  | succ k ih =>
    intro i F b
    unfold fiL
    split
    · rw [ih, fbF_ne F n h _ _ _ ho]
    · exact fbF_ne F n h 48 (nI i) (F 1 4) ho b
end
section
set_option maxHeartbeats 4000000 in
set_option maxRecDepth 100000 in
theorem c_floorModG (l : Launch) (G : gT) (F : Fs) (o : Int64) (x : Int32) : MI l yJ9_floorMod_7cf53 cJ9_floorMod_7cf53 3 (some .int) 0 0 [.int x, .int 12] G (F) o (F) (fmI x) := by
  refine mk_G (own := "java/lang/Math") (Qs := (fun sz => QI G (F) o (fmI x) sz)) (by decide +kernel) rfl (Nat.le_of_ble_eq_true rfl) ?_
  intro p e s m args below meth c ls hr hk0 hnm S g hl
  have hl : lv_has ls 3 [(0, .int x), (1, .int 12)] := hl
  have hx := S.1
  have hb := S.2.1
  refine lv_iload_n hx hb dJ9_floorMod_7cf53_0 rfl (lv_at hl 0 rfl) ?_
  refine lv_iload_n hx hb dJ9_floorMod_7cf53_1 rfl (lv_at hl 1 rfl) ?_
  refine lv_irem hx hb dJ9_floorMod_7cf53_2 (by decide) ?_
  refine lv_istore_n (lv' := [(2, .int ((x) - (x) / (12) * (12))), (0, .int x), (1, .int 12)]) hx hb dJ9_floorMod_7cf53_3 rfl hl (by decide) rfl (fun ls hl => ?_)
  refine lv_iload_n hx hb dJ9_floorMod_7cf53_4 rfl (lv_at hl 1 rfl) ?_
  refine lv_iload_n hx hb dJ9_floorMod_7cf53_5 rfl (lv_at hl 2 rfl) ?_
  refine lv_ixor hx hb dJ9_floorMod_7cf53_6 ?_
  refine lv_if_ge (tgt := 18) hx hb dJ9_floorMod_7cf53_7 (by decide) (fun c_7 => ?_) (fun c_7 => ?_)
  · refine lv_iload_n hx hb dJ9_floorMod_7cf53_18 rfl (lv_at hl 0 rfl) ?_
    exact e_i S hr hk0 g (by first | rfl | (simp only [fmI, c_7, ↓reduceIte]; done) | (simp [fmI, c_7, ↓reduceIte]; done)) (by first | rfl | (simp only [fmI, c_7, ↓reduceIte]; done)) dJ9_floorMod_7cf53_19
  · refine lv_iload_n hx hb dJ9_floorMod_7cf53_10 rfl (lv_at hl 0 rfl) ?_
    refine lv_if_eq (tgt := 18) hx hb dJ9_floorMod_7cf53_11 (by decide) (fun c_11 => ?_) (fun c_11 => ?_)
    · refine lv_iload_n hx hb dJ9_floorMod_7cf53_18 rfl (lv_at hl 0 rfl) ?_
      exact e_i S hr hk0 g (by first | rfl | (simp only [fmI, c_7, c_11, ↓reduceIte]; done) | (simp [fmI, c_7, c_11, ↓reduceIte]; done)) (by first | rfl | (simp only [fmI, c_7, c_11, ↓reduceIte]; done)) dJ9_floorMod_7cf53_19
    · refine lv_iload_n hx hb dJ9_floorMod_7cf53_14 rfl (lv_at hl 0 rfl) ?_
      refine lv_iload_n hx hb dJ9_floorMod_7cf53_15 rfl (lv_at hl 2 rfl) ?_
      refine lv_iadd hx hb dJ9_floorMod_7cf53_16 ?_
      exact e_i S hr hk0 g (by first | rfl | (simp only [fmI, c_7, c_11, ↓reduceIte]; done) | (simp [fmI, c_7, c_11, ↓reduceIte]; done)) (by first | rfl | (simp only [fmI, c_7, c_11, ↓reduceIte]; done)) dJ9_floorMod_7cf53_17
set_option maxHeartbeats 4000000 in
set_option maxRecDepth 100000 in
theorem c_fund (l : Launch) (G : gT) (F : Fs) (o : Int64) : MI l yX2_fund cX2_fund 1 (some .int) 0 0 [.ref (gA G 0)] G (F) o (F) (F 1 1) := by
  refine mk_G (own := "ShadowPool") (Qs := (fun sz => QI G (F) o (F 1 1) sz)) (by decide +kernel) rfl (Nat.le_of_ble_eq_true rfl) ?_
  intro p e s m args below meth c ls hr hk0 hnm S g hl
  have hl : lv_has ls 1 [(0, .ref (gA G 0))] := hl
  have hx := S.1
  have hb := S.2.1
  refine lv_aload_n hx hb dX2_fund_0 rfl (lv_at hl 0 rfl) ?_
  refine gP (k := 0) S g 0 (by decide) q90 dX2_fund_1 ?_
  refine gBN (k := 1) S g (Or.inl rfl) 1 (by decide) qn61 dX2_fund_4 ?_
  exact e_i S hr hk0 g rfl rfl dX2_fund_7
set_option maxHeartbeats 4000000 in
set_option maxRecDepth 100000 in
theorem c_rate (l : Launch) (G : gT) (F : Fs) (o : Int64) : MI l yX2_rate cX2_rate 1 (some .int) 0 0 [.ref (gA G 0)] G (F) o (F) (F 1 2) := by
  refine mk_G (own := "ShadowPool") (Qs := (fun sz => QI G (F) o (F 1 2) sz)) (by decide +kernel) rfl (Nat.le_of_ble_eq_true rfl) ?_
  intro p e s m args below meth c ls hr hk0 hnm S g hl
  have hl : lv_has ls 1 [(0, .ref (gA G 0))] := hl
  have hx := S.1
  have hb := S.2.1
  refine lv_aload_n hx hb dX2_rate_0 rfl (lv_at hl 0 rfl) ?_
  refine gP (k := 0) S g 0 (by decide) q90 dX2_rate_1 ?_
  refine gBN (k := 1) S g (Or.inl rfl) 2 (by decide) qn63 dX2_rate_4 ?_
  exact e_i S hr hk0 g rfl rfl dX2_rate_7
set_option maxHeartbeats 4000000 in
set_option maxRecDepth 100000 in
theorem c_retention (l : Launch) (G : gT) (F : Fs) (o : Int64) : MI l yX2_retention cX2_retention 1 (some .int) 0 0 [.ref (gA G 0)] G (F) o (F) (F 1 3) := by
  refine mk_G (own := "ShadowPool") (Qs := (fun sz => QI G (F) o (F 1 3) sz)) (by decide +kernel) rfl (Nat.le_of_ble_eq_true rfl) ?_
  intro p e s m args below meth c ls hr hk0 hnm S g hl
  have hl : lv_has ls 1 [(0, .ref (gA G 0))] := hl
  have hx := S.1
  have hb := S.2.1
  refine lv_aload_n hx hb dX2_retention_0 rfl (lv_at hl 0 rfl) ?_
  refine gP (k := 0) S g 0 (by decide) q90 dX2_retention_1 ?_
  refine gBN (k := 1) S g (Or.inl rfl) 3 (by decide) qn65 dX2_retention_4 ?_
  exact e_i S hr hk0 g rfl rfl dX2_retention_7
set_option maxHeartbeats 4000000 in
set_option maxRecDepth 100000 in
theorem c_limit (l : Launch) (G : gT) (F : Fs) (o : Int64) : MI l yX2_limit cX2_limit 1 (some .int) 0 0 [.ref (gA G 0)] G (F) o (F) (F 1 4) := by
  refine mk_G (own := "ShadowPool") (Qs := (fun sz => QI G (F) o (F 1 4) sz)) (by decide +kernel) rfl (Nat.le_of_ble_eq_true rfl) ?_
  intro p e s m args below meth c ls hr hk0 hnm S g hl
  have hl : lv_has ls 1 [(0, .ref (gA G 0))] := hl
  have hx := S.1
  have hb := S.2.1
  refine lv_aload_n hx hb dX2_limit_0 rfl (lv_at hl 0 rfl) ?_
  refine gP (k := 0) S g 0 (by decide) q90 dX2_limit_1 ?_
  refine gBN (k := 1) S g (Or.inl rfl) 4 (by decide) qn67 dX2_limit_4 ?_
  exact e_i S hr hk0 g rfl rfl dX2_limit_7
set_option maxHeartbeats 4000000 in
set_option maxRecDepth 100000 in
theorem c_reinsurersLoss (l : Launch) (G : gT) (F : Fs) (o : Int64) : MI l yX2_reinsurersLoss cX2_reinsurersLoss 1 (some .int) 0 0 [.ref (gA G 0)] G (F) o (F) (F 1 5) := by
  refine mk_G (own := "ShadowPool") (Qs := (fun sz => QI G (F) o (F 1 5) sz)) (by decide +kernel) rfl (Nat.le_of_ble_eq_true rfl) ?_
  intro p e s m args below meth c ls hr hk0 hnm S g hl
  have hl : lv_has ls 1 [(0, .ref (gA G 0))] := hl
  have hx := S.1
  have hb := S.2.1
  refine lv_aload_n hx hb dX2_reinsurersLoss_0 rfl (lv_at hl 0 rfl) ?_
  refine gP (k := 0) S g 0 (by decide) q90 dX2_reinsurersLoss_1 ?_
  refine gBN (k := 1) S g (Or.inl rfl) 5 (by decide) qn69 dX2_reinsurersLoss_4 ?_
  exact e_i S hr hk0 g rfl rfl dX2_reinsurersLoss_7
set_option maxHeartbeats 4000000 in
set_option maxRecDepth 100000 in
theorem c_walkers (l : Launch) (G : gT) (F : Fs) (o : Int64) : MI l yX2_walkers cX2_walkers 1 (some .int) 0 0 [.ref (gA G 0)] G (F) o (F) (F 1 6) := by
  refine mk_G (own := "ShadowPool") (Qs := (fun sz => QI G (F) o (F 1 6) sz)) (by decide +kernel) rfl (Nat.le_of_ble_eq_true rfl) ?_
  intro p e s m args below meth c ls hr hk0 hnm S g hl
  have hl : lv_has ls 1 [(0, .ref (gA G 0))] := hl
  have hx := S.1
  have hb := S.2.1
  refine lv_aload_n hx hb dX2_walkers_0 rfl (lv_at hl 0 rfl) ?_
  refine gP (k := 0) S g 0 (by decide) q90 dX2_walkers_1 ?_
  refine gBN (k := 1) S g (Or.inl rfl) 6 (by decide) qn71 dX2_walkers_4 ?_
  exact e_i S hr hk0 g rfl rfl dX2_walkers_7
set_option maxHeartbeats 4000000 in
set_option maxRecDepth 100000 in
theorem c_hour (l : Launch) (G : gT) (F : Fs) (o : Int64) : MI l yX2_hour cX2_hour 1 (some .int) 0 0 [.ref (gA G 0)] G (F) o (F) (F 1 0) := by
  refine mk_G (own := "ShadowPool") (Qs := (fun sz => QI G (F) o (F 1 0) sz)) (by decide +kernel) rfl (Nat.le_of_ble_eq_true rfl) ?_
  intro p e s m args below meth c ls hr hk0 hnm S g hl
  have hl : lv_has ls 1 [(0, .ref (gA G 0))] := hl
  have hx := S.1
  have hb := S.2.1
  refine lv_aload_n hx hb dX2_hour_0 rfl (lv_at hl 0 rfl) ?_
  refine gP (k := 0) S g 0 (by decide) q90 dX2_hour_1 ?_
  refine gBN (k := 1) S g (Or.inl rfl) 0 (by decide) qn59 dX2_hour_4 ?_
  exact e_i S hr hk0 g rfl rfl dX2_hour_7
set_option maxHeartbeats 4000000 in
set_option maxRecDepth 100000 in
theorem c_sun (l : Launch) (G : gT) (F : Fs) (o : Int64) (h : Nat) (hh : F 1 0 = nI h) (hh2 : h < 2 ^ 29) : MI l yX2_sun cX2_sun 1 (some .int) 2 42 [.ref (gA G 0)] G (F) o (F) (suH h) := by
  refine mk_G (own := "ShadowPool") (Qs := (fun sz => QI G (F) o (suH h) sz)) (by decide +kernel) rfl (Nat.le_of_ble_eq_true rfl) ?_
  intro p e s m args below meth c ls hr hk0 hnm S g hl
  have hl : lv_has ls 1 [(0, .ref (gA G 0))] := hl
  have hx := S.1
  have hb := S.2.1
  refine lv_aload_n hx hb dX2_sun_0 rfl (lv_at hl 0 rfl) ?_
  refine gP (k := 0) S g 0 (by decide) q90 dX2_sun_1 ?_
  refine gBN (k := 1) S g (Or.inl rfl) 0 (by decide) qn59 dX2_sun_4 ?_
  rw [show (F 1 0 : Int32) = nI h from hh]
  refine g_ci (rest := []) g (g_S (n := 1) (As := [.int (nI h)]) S g (c_hourOfDay l G (F) o h (by omega)) (lw_S q248 q181 q1 q182) ⟨by decide +kernel, by decide +kernel, by decide +kernel⟩ rfl ⟨Nat.le_of_ble_eq_true rfl, Nat.le_of_ble_eq_true rfl⟩ hl.1 (Nat.le_of_ble_eq_true rfl) rfl ⟨Nat.zero_le _, Nat.zero_le _⟩ dX2_sun_7) (fun H locs g => ?_)
  refine g_ci (rest := []) g (g_S (n := 1) (As := [.int (nI (h % 12))]) S g (c_sunAt l G (F) o (nI (h % 12))) (lw_S q249 q199 q1 q200) ⟨by decide +kernel, by decide +kernel, by decide +kernel⟩ rfl ⟨Nat.le_of_ble_eq_true rfl, Nat.le_of_ble_eq_true rfl⟩ hl.1 (Nat.le_of_ble_eq_true rfl) rfl ⟨Nat.zero_le _, Nat.zero_le _⟩ dX2_sun_10) (fun H locs g => ?_)
  exact e_i S hr hk0 g rfl rfl dX2_sun_13
set_option maxHeartbeats 4000000 in
set_option maxRecDepth 100000 in
theorem c_isNoon (l : Launch) (G : gT) (F : Fs) (o : Int64) (h : Nat) (hh : F 1 0 = nI h) (hh2 : h < 2 ^ 29) : MI l yX2_isNoon cX2_isNoon 1 (some .boolean) 2 42 [.ref (gA G 0)] G (F) o (F) (noH h) := by
  refine mk_G (own := "ShadowPool") (Qs := (fun sz => QI G (F) o (noH h) sz)) (by decide +kernel) rfl (Nat.le_of_ble_eq_true rfl) ?_
  intro p e s m args below meth c ls hr hk0 hnm S g hl
  have hl : lv_has ls 1 [(0, .ref (gA G 0))] := hl
  have hx := S.1
  have hb := S.2.1
  refine lv_aload_n hx hb dX2_isNoon_0 rfl (lv_at hl 0 rfl) ?_
  refine gP (k := 0) S g 0 (by decide) q90 dX2_isNoon_1 ?_
  refine gBN (k := 1) S g (Or.inl rfl) 0 (by decide) qn59 dX2_isNoon_4 ?_
  rw [show (F 1 0 : Int32) = nI h from hh]
  refine g_ci (rest := []) g (g_S (n := 1) (As := [.int (nI h)]) S g (c_hourOfDay l G (F) o h (by omega)) (lw_S q248 q181 q1 q182) ⟨by decide +kernel, by decide +kernel, by decide +kernel⟩ rfl ⟨Nat.le_of_ble_eq_true rfl, Nat.le_of_ble_eq_true rfl⟩ hl.1 (Nat.le_of_ble_eq_true rfl) rfl ⟨Nat.zero_le _, Nat.zero_le _⟩ dX2_isNoon_7) (fun H locs g => ?_)
  refine g_ci (rest := []) g (g_S (n := 1) (As := [.int (nI (h % 12))]) S g (c_noonAt l G (F) o (nI (h % 12))) (lw_S q254 q202 q1 q203) ⟨by decide +kernel, by decide +kernel, by decide +kernel⟩ rfl ⟨Nat.le_of_ble_eq_true rfl, Nat.le_of_ble_eq_true rfl⟩ hl.1 (Nat.le_of_ble_eq_true rfl) rfl ⟨Nat.zero_le _, Nat.zero_le _⟩ dX2_isNoon_10) (fun H locs g => ?_)
  exact e_z S hr hk0 g (z01 (noon01 _)) rfl rfl dX2_isNoon_13
set_option maxHeartbeats 4000000 in
set_option maxRecDepth 100000 in
theorem c_hoursUntilNoon (l : Launch) (G : gT) (F : Fs) (o : Int64) (h : Nat) (hh : F 1 0 = nI h) (hh2 : h < 2 ^ 29) : MI l yX2_hoursUntilNoon cX2_hoursUntilNoon 2 (some .int) 2 42 [.ref (gA G 0)] G (F) o (F) (huN h) := by
  refine mk_G (own := "ShadowPool") (Qs := (fun sz => QI G (F) o (huN h) sz)) (by decide +kernel) rfl (Nat.le_of_ble_eq_true rfl) ?_
  intro p e s m args below meth c ls hr hk0 hnm S g hl
  have hl : lv_has ls 2 [(0, .ref (gA G 0))] := hl
  have hx := S.1
  have hb := S.2.1
  refine lv_aload_n hx hb dX2_hoursUntilNoon_0 rfl (lv_at hl 0 rfl) ?_
  refine gP (k := 0) S g 0 (by decide) q90 dX2_hoursUntilNoon_1 ?_
  refine gBN (k := 1) S g (Or.inl rfl) 0 (by decide) qn59 dX2_hoursUntilNoon_4 ?_
  rw [show (F 1 0 : Int32) = nI h from hh]
  refine g_ci (rest := []) g (g_S (n := 1) (As := [.int (nI h)]) S g (c_hourOfDay l G (F) o h (by omega)) (lw_S q248 q181 q1 q182) ⟨by decide +kernel, by decide +kernel, by decide +kernel⟩ rfl ⟨Nat.le_of_ble_eq_true rfl, Nat.le_of_ble_eq_true rfl⟩ hl.1 (Nat.le_of_ble_eq_true rfl) rfl ⟨Nat.zero_le _, Nat.zero_le _⟩ dX2_hoursUntilNoon_7) (fun H locs g => ?_)
  refine lv_istore_n (lv' := [(1, .int (nI (h % 12))), (0, .ref (gA G 0))]) hx hb dX2_hoursUntilNoon_10 rfl hl (by decide) rfl (fun ls hl => ?_)
  refine lv_iload_n hx hb dX2_hoursUntilNoon_11 rfl (lv_at hl 0 rfl) ?_
  refine g_ci (rest := []) g (g_S (n := 1) (As := [.int (nI (h % 12))]) S g (c_noonAt l G (F) o (nI (h % 12))) (lw_S q254 q202 q1 q203) ⟨by decide +kernel, by decide +kernel, by decide +kernel⟩ rfl ⟨Nat.le_of_ble_eq_true rfl, Nat.le_of_ble_eq_true rfl⟩ hl.1 (Nat.le_of_ble_eq_true rfl) rfl ⟨Nat.zero_le _, Nat.zero_le _⟩ dX2_hoursUntilNoon_12) (fun H locs g => ?_)
  refine lv_if_eq (tgt := 22) hx hb dX2_hoursUntilNoon_15 (by decide) (fun c_15 => ?_) (fun c_15 => ?_)
  · refine lv_iconst (v := 5) hx hb dX2_hoursUntilNoon_22 (by decide) ?_
    refine lv_iload_n hx hb dX2_hoursUntilNoon_23 rfl (lv_at hl 0 rfl) ?_
    refine lv_isub hx hb dX2_hoursUntilNoon_24 ?_
    refine lv_bipush (v := 12) hx hb dX2_hoursUntilNoon_25 (by decide) ?_
    refine g_ci (rest := []) g (g_S (n := 2) (As := [.int ((5) - (nI (h % 12))), .int 12]) S g (c_floorModG l G (F) o (5 - nI (h % 12))) (lw_S q183 q184 q11 q185) ⟨by decide +kernel, by decide +kernel, by decide +kernel⟩ rfl ⟨Nat.le_of_ble_eq_true rfl, Nat.le_of_ble_eq_true rfl⟩ hl.1 (Nat.le_of_ble_eq_true rfl) rfl ⟨Nat.zero_le _, Nat.zero_le _⟩ dX2_hoursUntilNoon_27) (fun H locs g => ?_)
    exact e_i S hr hk0 g (by first | rfl | (simp only [huN, c_15, ↓reduceIte]; done) | (simp [huN, c_15, ↓reduceIte]; done)) (by first | rfl | (simp only [huN, c_15, ↓reduceIte]; done)) dX2_hoursUntilNoon_30
  · refine lv_iconst (v := 0) hx hb dX2_hoursUntilNoon_18 (by decide) ?_
    refine lv_goto (tgt := 30) hx hb dX2_hoursUntilNoon_19 (by decide) ?_
    exact e_i S hr hk0 g (by first | rfl | (simp only [huN, c_15, ↓reduceIte]; done) | (simp [huN, c_15, ↓reduceIte]; done)) (by first | rfl | (simp only [huN, c_15, ↓reduceIte]; done)) dX2_hoursUntilNoon_30
set_option maxHeartbeats 4000000 in
set_option maxRecDepth 100000 in
theorem c_members (l : Launch) (G : gT) (F : Fs) (o : Int64) (n : Nat) (hn : F 1 6 = nI n) (hn8 : n ≤ 8) : MI l yX2_members cX2_members 1 (some .int) 2 44 [.ref (gA G 0)] G (F) o (F) (cmL F 1 n 0 0) := by
  refine mk_G (own := "ShadowPool") (Qs := (fun sz => QI G (F) o (cmL F 1 n 0 0) sz)) (by decide +kernel) rfl (Nat.le_of_ble_eq_true rfl) ?_
  intro p e s m args below meth c ls hr hk0 hnm S g hl
  have hl : lv_has ls 1 [(0, .ref (gA G 0))] := hl
  have hx := S.1
  have hb := S.2.1
  refine lv_aload_n hx hb dX2_members_0 rfl (lv_at hl 0 rfl) ?_
  refine gP (k := 0) S g 0 (by decide) q90 dX2_members_1 ?_
  refine g_ci (rest := []) g (g_VN (n := 0) (As := []) S g (c_countMembers l G (F) o 1 n (Or.inl rfl) hn hn8) (by decide) (cEb G _ o (Or.inl rfl)) rfl qn267 q192 qs4 q2 q193 ⟨by decide +kernel, by decide +kernel, by decide +kernel⟩ rfl ⟨Nat.le_of_ble_eq_true rfl, Nat.le_of_ble_eq_true rfl⟩ hl.1 (Nat.le_of_ble_eq_true rfl) rfl ⟨Nat.zero_le _, Nat.zero_le _⟩ dX2_members_4) (fun H locs g => ?_)
  exact e_i S hr hk0 g rfl rfl dX2_members_7
set_option maxHeartbeats 4000000 in
set_option maxRecDepth 100000 in
theorem c_longestShadow (l : Launch) (G : gT) (F : Fs) (o : Int64) (n : Nat) (h : Nat) (hok : okP F n h) (hn8 : n ≤ 8) (hh2 : h < 2 ^ 29) : MI l yX2_longestShadow cX2_longestShadow 6 (some .int) 3 62 [.ref (gA G 0)] G (F) o (F) (loL F (suH h) n 0 (-1) (-1)) := by
  refine mk_G (own := "ShadowPool") (Qs := (fun sz => QI G (F) o (loL F (suH h) n 0 (-1) (-1)) sz)) (by decide +kernel) rfl (Nat.le_of_ble_eq_true rfl) ?_
  intro p e s m args below meth c ls hr hk0 hnm S g hl
  have hl : lv_has ls 6 [(0, .ref (gA G 0))] := hl
  have hx := S.1
  have hb := S.2.1
  refine lv_iconst (v := (-1)) hx hb dX2_longestShadow_0 (by decide) ?_
  refine lv_istore_n (lv' := [(1, .int (-1)), (0, .ref (gA G 0))]) hx hb dX2_longestShadow_1 rfl hl (by decide) rfl (fun ls hl => ?_)
  refine lv_iconst (v := (-1)) hx hb dX2_longestShadow_2 (by decide) ?_
  refine lv_istore_n (lv' := [(2, .int (-1)), (1, .int (-1)), (0, .ref (gA G 0))]) hx hb dX2_longestShadow_3 rfl hl (by decide) rfl (fun ls hl => ?_)
  refine lv_iconst (v := 0) hx hb dX2_longestShadow_4 (by decide) ?_
  refine lv_istore_n (lv' := [(3, .int 0), (2, .int (-1)), (1, .int (-1)), (0, .ref (gA G 0))]) hx hb dX2_longestShadow_5 rfl hl (by decide) rfl (fun ls hl => ?_)
  have loop6 : ∀ (n_ : Nat) (i : Nat) (best : Int32) (len : Int32) (H : Heap) (locs : List Loc) (ls : Array Slot) (hi : i + n_ = n) (hres : loL F (suH h) n_ i best len = loL F (suH h) n 0 (-1) (-1)), GB G (F) o [] [] s H locs → lv_has ls 6 [(0, .ref (gA G 0)), (1, .int best), (2, .int len), (3, .int (nI i))] → W p l e (rmG 3 62) s m args below meth c H locs 0 0 (MQ below (QI G (F) o (loL F (suH h) n 0 (-1) (-1)) s.heap.size) args s 0 0 (GA G s.heap.size)) (F0 m 6 ls []) := by
    intro n_
    induction n_ with
    | zero =>
      intro i best len H locs ls hi hres g hl
      refine lv_iload_n hx hb dX2_longestShadow_6 rfl (lv_at hl 3 rfl) ?_
      refine lv_aload_n hx hb dX2_longestShadow_7 rfl (lv_at hl 0 rfl) ?_
      refine gP (k := 0) S g 0 (by decide) q90 dX2_longestShadow_8 ?_
      refine gBN (k := 1) S g (Or.inl rfl) 6 (by decide) qn71 dX2_longestShadow_11 ?_
      rw [show (F 1 6 : Int32) = nI n from hok.1]
      refine lv_icmp_ge (tgt := 64) hx hb dX2_longestShadow_14 (by decide) (fun c_14 => ?_) (fun c9 => absurd (nI_le (by omega) (by omega)) c9)
      refine lv_iload_n hx hb dX2_longestShadow_64 rfl (lv_at hl 1 rfl) ?_
      exact e_i S hr hk0 g hres rfl dX2_longestShadow_65
    | succ n_ ih_6 =>
      intro i best len H locs ls hi hres g hl
      refine lv_iload_n hx hb dX2_longestShadow_6 rfl (lv_at hl 3 rfl) ?_
      refine lv_aload_n hx hb dX2_longestShadow_7 rfl (lv_at hl 0 rfl) ?_
      refine gP (k := 0) S g 0 (by decide) q90 dX2_longestShadow_8 ?_
      refine gBN (k := 1) S g (Or.inl rfl) 6 (by decide) qn71 dX2_longestShadow_11 ?_
      rw [show (F 1 6 : Int32) = nI n from hok.1]
      refine lv_icmp_ge (tgt := 64) hx hb dX2_longestShadow_14 (by decide) (fun c9 => absurd c9 (nI_ge (by omega) (by omega))) (fun c_14 => ?_)
      refine lv_aload_n hx hb dX2_longestShadow_17 rfl (lv_at hl 0 rfl) ?_
      refine gP (k := 0) S g 0 (by decide) q90 dX2_longestShadow_18 ?_
      refine lv_iload_n hx hb dX2_longestShadow_21 rfl (lv_at hl 3 rfl) ?_
      refine g_cn (rest := []) g rfl (g_VN (n := 1) (As := [.int (nI i)]) S g (c_find_ok l G (F) o 1 i n (Or.inl rfl) hok.1 (by omega) hn8) (by decide) (cEb G _ o (Or.inl rfl)) rfl qn272 q196 qs5 q2 q197 ⟨by decide +kernel, by decide +kernel, by decide +kernel⟩ rfl ⟨Nat.le_of_ble_eq_true rfl, Nat.le_of_ble_eq_true rfl⟩ hl.1 (Nat.le_of_ble_eq_true rfl) rfl ⟨Nat.zero_le _, Nat.zero_le _⟩ dX2_longestShadow_22) (fun H locs g => ?_)
      refine lv_astore (lv' := [(4, .ref (gA G (wb 1 i))), (0, .ref (gA G 0)), (1, .int best), (2, .int len), (3, .int (nI i))]) hx hb dX2_longestShadow_25 hl (by decide) rfl (fun ls hl => ?_)
      refine lv_aload hx hb dX2_longestShadow_27 (lv_at hl 0 rfl) ?_
      refine lv_ifnonnull (tgt := 36) hx hb dX2_longestShadow_29 (by decide) ?_
      refine lv_aload hx hb dX2_longestShadow_36 (lv_at hl 0 rfl) ?_
      refine lv_aload_n hx hb dX2_longestShadow_38 rfl (lv_at hl 1 rfl) ?_
      refine g_ci (rest := [.ref (gA G (wb 1 i))]) g (g_V (n := 0) (As := []) S g (c_sun l G (F) o h hok.2.1 hh2) (by decide) (cE0 G _ o) rfl (lw_V q305 q245 q246 q1 q247) ⟨rfl, by decide +kernel, by decide +kernel, by decide +kernel⟩ rfl ⟨Nat.le_of_ble_eq_true rfl, Nat.le_of_ble_eq_true rfl⟩ hl.1 (Nat.le_of_ble_eq_true rfl) rfl ⟨Nat.zero_le _, Nat.zero_le _⟩ dX2_longestShadow_39) (fun H locs g => ?_)
      refine g_ci (rest := []) g (g_VN (n := 1) (As := [.int (suH h)]) S g (c_shadowUnder l G (F) o (wb 1 i) (suH h) (wb_lo (Or.inl rfl) _) (wb_hi (Or.inl rfl) (by omega)) (sun_pos h)) (Nat.lt_of_lt_of_le (wb_hi (Or.inl rfl) (by omega)) (by decide)) (cEw G _ o (wb_lo (Or.inl rfl) _) (wb_hi (Or.inl rfl) (by omega))) rfl qn306 q221 qs9 q3 q222 ⟨by decide +kernel, by decide +kernel, by decide +kernel⟩ rfl ⟨Nat.le_of_ble_eq_true rfl, Nat.le_of_ble_eq_true rfl⟩ hl.1 (Nat.le_of_ble_eq_true rfl) rfl ⟨Nat.zero_le _, Nat.zero_le _⟩ dX2_longestShadow_42) (fun H locs g => ?_)
      refine lv_istore (lv' := [(5, .int (shI (F (wb 1 i) 0) (suH h))), (4, .ref (gA G (wb 1 i))), (0, .ref (gA G 0)), (1, .int best), (2, .int len), (3, .int (nI i))]) hx hb dX2_longestShadow_45 hl (by decide) rfl (fun ls hl => ?_)
      refine lv_iload hx hb dX2_longestShadow_47 (lv_at hl 0 rfl) ?_
      refine lv_iload_n hx hb dX2_longestShadow_49 rfl (lv_at hl 4 rfl) ?_
      refine lv_icmp_le (tgt := 58) hx hb dX2_longestShadow_50 (by decide) (fun c_50 => ?_) (fun c_50 => ?_)
      · refine lv_iinc (v := nI (i + 1)) (lv' := [(3, .int (nI (i + 1))), (5, .int (shI (F (wb 1 i) 0) (suH h))), (4, .ref (gA G (wb 1 i))), (0, .ref (gA G 0)), (1, .int best), (2, .int len)]) hx hb dX2_longestShadow_58 hl (k := 5) rfl (nI_1 i) (by decide) rfl (fun ls hl => ?_)
        refine lv_goto (tgt := 6) hx hb dX2_longestShadow_61 (by decide) ?_
        exact ih_6 (i + 1) _ _ _ _ _ (by omega) (by simpa only [loL, c_14, c_50, ↓reduceIte] using hres) g (lv_sub hl [3, 4, 5, 0] rfl)
      · refine lv_iload_n hx hb dX2_longestShadow_53 rfl (lv_at hl 5 rfl) ?_
        refine lv_istore_n (lv' := [(1, .int (nI i)), (5, .int (shI (F (wb 1 i) 0) (suH h))), (4, .ref (gA G (wb 1 i))), (0, .ref (gA G 0)), (2, .int len), (3, .int (nI i))]) hx hb dX2_longestShadow_54 rfl hl (by decide) rfl (fun ls hl => ?_)
        refine lv_iload hx hb dX2_longestShadow_55 (lv_at hl 1 rfl) ?_
        refine lv_istore_n (lv' := [(2, .int (shI (F (wb 1 i) 0) (suH h))), (1, .int (nI i)), (5, .int (shI (F (wb 1 i) 0) (suH h))), (4, .ref (gA G (wb 1 i))), (0, .ref (gA G 0)), (3, .int (nI i))]) hx hb dX2_longestShadow_57 rfl hl (by decide) rfl (fun ls hl => ?_)
        refine lv_iinc (v := nI (i + 1)) (lv' := [(3, .int (nI (i + 1))), (2, .int (shI (F (wb 1 i) 0) (suH h))), (1, .int (nI i)), (5, .int (shI (F (wb 1 i) 0) (suH h))), (4, .ref (gA G (wb 1 i))), (0, .ref (gA G 0))]) hx hb dX2_longestShadow_58 hl (k := 5) rfl (nI_1 i) (by decide) rfl (fun ls hl => ?_)
        refine lv_goto (tgt := 6) hx hb dX2_longestShadow_61 (by decide) ?_
        exact ih_6 (i + 1) _ _ _ _ _ (by omega) (by simpa only [loL, c_14, c_50, ↓reduceIte] using hres) g (lv_sub hl [5, 2, 1, 0] rfl)
  exact loop6 n 0 (-1) (-1) _ _ _ (by omega) rfl g (lv_sub hl [3, 2, 1, 0] rfl)
set_option maxHeartbeats 4000000 in
set_option maxRecDepth 100000 in
theorem c_claimNow (l : Launch) (G : gT) (F : Fs) (o : Int64) (k : Nat) (h : Nat) (h1 : 5 ≤ k) (h2 : k < 21) (hh : F 1 0 = nI h) (hh2 : h < 2 ^ 29) : MI l yX2_claimNow cX2_claimNow 3 (some .int) 3 62 [.ref (gA G 0), .ref (gA G k)] G (F) o (F) (clI F k (suH h) (noH h)) := by
  refine mk_G (own := "ShadowPool") (Qs := (fun sz => QI G (F) o (clI F k (suH h) (noH h)) sz)) (by decide +kernel) rfl (Nat.le_of_ble_eq_true rfl) ?_
  intro p e s m args below meth c ls hr hk0 hnm S g hl
  have hl : lv_has ls 3 [(0, .ref (gA G 0)), (1, .ref (gA G k))] := hl
  have hx := S.1
  have hb := S.2.1
  refine lv_aload_n hx hb dX2_claimNow_0 rfl (lv_at hl 1 rfl) ?_
  refine lv_aload_n hx hb dX2_claimNow_1 rfl (lv_at hl 0 rfl) ?_
  refine g_ci (rest := [.ref (gA G k)]) g (g_V (n := 0) (As := []) S g (c_sun l G (F) o h hh hh2) (by decide) (cE0 G _ o) rfl (lw_V q305 q245 q246 q1 q247) ⟨rfl, by decide +kernel, by decide +kernel, by decide +kernel⟩ rfl ⟨Nat.le_of_ble_eq_true rfl, Nat.le_of_ble_eq_true rfl⟩ hl.1 (Nat.le_of_ble_eq_true rfl) rfl ⟨Nat.zero_le _, Nat.zero_le _⟩ dX2_claimNow_2) (fun H locs g => ?_)
  refine g_ci (rest := []) g (g_VN (n := 1) (As := [.int (suH h)]) S g (c_costUnder l G (F) o k (suH h) h1 h2 (sun_pos h)) (Nat.lt_of_lt_of_le h2 (by decide)) (cEw G _ o h1 h2) rfl qn315 q217 qs8 q3 q218 ⟨by decide +kernel, by decide +kernel, by decide +kernel⟩ rfl ⟨Nat.le_of_ble_eq_true rfl, Nat.le_of_ble_eq_true rfl⟩ hl.1 (Nat.le_of_ble_eq_true rfl) rfl ⟨Nat.zero_le _, Nat.zero_le _⟩ dX2_claimNow_5) (fun H locs g => ?_)
  refine lv_istore_n (lv' := [(2, .int (coI (F k 0) (F k 2) (suH h))), (0, .ref (gA G 0)), (1, .ref (gA G k))]) hx hb dX2_claimNow_8 rfl hl (by decide) rfl (fun ls hl => ?_)
  refine lv_iload_n hx hb dX2_claimNow_9 rfl (lv_at hl 0 rfl) ?_
  refine lv_aload_n hx hb dX2_claimNow_10 rfl (lv_at hl 2 rfl) ?_
  refine lv_iload_n hx hb dX2_claimNow_11 rfl (lv_at hl 0 rfl) ?_
  refine lv_aload_n hx hb dX2_claimNow_12 rfl (lv_at hl 1 rfl) ?_
  refine g_ci (rest := [.int (coI (F k 0) (F k 2) (suH h)), .ref (gA G k), .int (coI (F k 0) (F k 2) (suH h))]) g (g_V (n := 0) (As := []) S g (c_isNoon l G (F) o h hh hh2) (by decide) (cE0 G _ o) rfl (lw_V q320 q251 q252 q1 q253) ⟨rfl, by decide +kernel, by decide +kernel, by decide +kernel⟩ rfl ⟨Nat.le_of_ble_eq_true rfl, Nat.le_of_ble_eq_true rfl⟩ hl.1 (Nat.le_of_ble_eq_true rfl) rfl ⟨Nat.zero_le _, Nat.zero_le _⟩ dX2_claimNow_13) (fun H locs g => ?_)
  refine g_ci (rest := [.int (coI (F k 0) (F k 2) (suH h))]) g (g_VN (n := 2) (As := [.int (coI (F k 0) (F k 2) (suH h)), .int (noH h)]) S g (c_ownPart l G (F) o k (coI (F k 0) (F k 2) (suH h)) (noH h) h1 h2) (Nat.lt_of_lt_of_le h2 (by decide)) (cEw G _ o h1 h2) rfl qn321 q225 qs10 q3 q226 ⟨by decide +kernel, by decide +kernel, by decide +kernel⟩ rfl ⟨Nat.le_of_ble_eq_true rfl, Nat.le_of_ble_eq_true rfl⟩ hl.1 (Nat.le_of_ble_eq_true rfl) rfl ⟨Nat.zero_le _, Nat.zero_le _⟩ dX2_claimNow_16) (fun H locs g => ?_)
  refine lv_isub hx hb dX2_claimNow_19 ?_
  exact e_i S hr hk0 g rfl rfl dX2_claimNow_20
set_option maxHeartbeats 4000000 in
set_option maxRecDepth 100000 in
theorem c_fundBehind (l : Launch) (G : gT) (F : Fs) (o : Int64) (n : Nat) (h : Nat) (t : Nat) (rate : Int32) (lim : Int32) (hok : okP F n h) (hn8 : n ≤ 8) (hh2 : h < 2 ^ 29) (ht : t ≤ 100) : MI l yX2_fundBehind cX2_fundBehind 4 (some .int) 5 117 [.ref (gA G 0), .int (nI t), .int rate, .int lim] G (F) o (fbF F n h t rate lim) (fbF F n h t rate lim 2 1) := by
  refine mk_G (own := "ShadowPool") (Qs := (fun sz => QI G (fbF F n h t rate lim) o (fbF F n h t rate lim 2 1) sz)) (by decide +kernel) rfl (Nat.le_of_ble_eq_true rfl) ?_
  intro p e s m args below meth c ls hr hk0 hnm S g hl
  have hl : lv_has ls 4 [(0, .ref (gA G 0)), (1, .int (nI t)), (2, .int rate), (3, .int lim)] := hl
  have hx := S.1
  have hb := S.2.1
  refine lv_aload_n hx hb dX2_fundBehind_0 rfl (lv_at hl 0 rfl) ?_
  refine gP (k := 0) S g 1 (by decide) q91 dX2_fundBehind_1 ?_
  refine lv_aload_n hx hb dX2_fundBehind_4 rfl (lv_at hl 0 rfl) ?_
  refine gP (k := 0) S g 0 (by decide) q90 dX2_fundBehind_5 ?_
  refine g_cv (rest := []) g (g_VN (n := 1) (As := [.ref (gA G 1)]) S g (c_copyFrom l G (F) o n hok.1 hn8 hok.2.2) (by decide) (cEb G _ o (Or.inr rfl)) rfl qn378 q380 qs16 q2 q381 ⟨by decide +kernel, by decide +kernel, by decide +kernel⟩ rfl ⟨Nat.le_of_ble_eq_true rfl, Nat.le_of_ble_eq_true rfl⟩ hl.1 (Nat.le_of_ble_eq_true rfl) rfl ⟨Nat.zero_le _, Nat.zero_le _⟩ dX2_fundBehind_8) (fun H locs g => ?_)
  refine lv_aload_n hx hb dX2_fundBehind_11 rfl (lv_at hl 0 rfl) ?_
  refine gP (k := 0) S g 1 (by decide) q91 dX2_fundBehind_12 ?_
  refine lv_iload_n hx hb dX2_fundBehind_15 rfl (lv_at hl 2 rfl) ?_
  refine gBpN (k := 2) S g (Or.inr rfl) 2 (by decide) qn63 dX2_fundBehind_16 (fun H locs g => ?_)
  refine lv_aload_n hx hb dX2_fundBehind_19 rfl (lv_at hl 0 rfl) ?_
  refine gP (k := 0) S g 1 (by decide) q91 dX2_fundBehind_20 ?_
  refine lv_iload_n hx hb dX2_fundBehind_23 rfl (lv_at hl 3 rfl) ?_
  refine gBpN (k := 2) S g (Or.inr rfl) 4 (by decide) qn67 dX2_fundBehind_24 (fun H locs g => ?_)
  rw [show up2 (up2 (cpyF F n) (2) 2 (rate)) (2) 4 (lim) = fb0 F n rate lim from rfl] at g
  refine lv_aload_n hx hb dX2_fundBehind_27 rfl (lv_at hl 0 rfl) ?_
  refine gP (k := 0) S g 1 (by decide) q91 dX2_fundBehind_28 ?_
  refine lv_iload_n hx hb dX2_fundBehind_31 rfl (lv_at hl 1 rfl) ?_
  refine g_ci (rest := []) g (g_VN (n := 1) (As := [.int (nI t)]) S g (c_letGoBy l G (fb0 F n rate lim) o 2 n h t (Or.inr rfl) (by rw [fb0, up2_ne _ _ (by decide), up2_ne _ _ (by decide), cpyF_2 F n (by decide)]; exact hok.1) hn8 (by rw [fb0, up2_ne _ _ (by decide), up2_ne _ _ (by decide), cpyF_2 F n (by decide)]; exact hok.2.1) (by omega)) (by decide) (cEb G _ o (Or.inr rfl)) rfl qn172 q174 qs1 q2 q175 ⟨by decide +kernel, by decide +kernel, by decide +kernel⟩ rfl ⟨Nat.le_of_ble_eq_true rfl, Nat.le_of_ble_eq_true rfl⟩ hl.1 (Nat.le_of_ble_eq_true rfl) rfl ⟨Nat.zero_le _, Nat.zero_le _⟩ dX2_fundBehind_32) (fun H locs g => ?_)
  rw [show (gbL 2 n t h 0 (fb0 F n rate lim)).2 = fbF F n h t rate lim from rfl] at g
  refine lv_pop hx hb dX2_fundBehind_35 rfl ?_
  refine lv_aload_n hx hb dX2_fundBehind_36 rfl (lv_at hl 0 rfl) ?_
  refine gP (k := 0) S g 1 (by decide) q91 dX2_fundBehind_37 ?_
  refine gBN (k := 2) S g (Or.inr rfl) 1 (by decide) qn61 dX2_fundBehind_40 ?_
  exact e_i S hr hk0 g rfl rfl dX2_fundBehind_43
set_option maxHeartbeats 4000000 in
set_option maxRecDepth 100000 in
theorem c_nextToFall (l : Launch) (G : gT) (F : Fs) (o : Int64) (n : Nat) (h : Nat) (hok : okP F n h) (hn8 : n ≤ 8) (hh2 : h < 2 ^ 29) : MI l yX2_nextToFall cX2_nextToFall 6 (some .int) 3 67 [.ref (gA G 0)] G (F) o (F) (nfL F h n 0 (-1) 101) := by
  refine mk_G (own := "ShadowPool") (Qs := (fun sz => QI G (F) o (nfL F h n 0 (-1) 101) sz)) (by decide +kernel) rfl (Nat.le_of_ble_eq_true rfl) ?_
  intro p e s m args below meth c ls hr hk0 hnm S g hl
  have hl : lv_has ls 6 [(0, .ref (gA G 0))] := hl
  have hx := S.1
  have hb := S.2.1
  refine lv_iconst (v := (-1)) hx hb dX2_nextToFall_0 (by decide) ?_
  refine lv_istore_n (lv' := [(1, .int (-1)), (0, .ref (gA G 0))]) hx hb dX2_nextToFall_1 rfl hl (by decide) rfl (fun ls hl => ?_)
  refine lv_bipush (v := 101) hx hb dX2_nextToFall_2 (by decide) ?_
  refine lv_istore_n (lv' := [(2, .int 101), (1, .int (-1)), (0, .ref (gA G 0))]) hx hb dX2_nextToFall_4 rfl hl (by decide) rfl (fun ls hl => ?_)
  refine lv_iconst (v := 0) hx hb dX2_nextToFall_5 (by decide) ?_
  refine lv_istore_n (lv' := [(3, .int 0), (2, .int 101), (1, .int (-1)), (0, .ref (gA G 0))]) hx hb dX2_nextToFall_6 rfl hl (by decide) rfl (fun ls hl => ?_)
  have loop7 : ∀ (n_ : Nat) (i : Nat) (nx : Int32) (so : Int32) (H : Heap) (locs : List Loc) (ls : Array Slot) (hi : i + n_ = n) (hres : nfL F h n_ i nx so = nfL F h n 0 (-1) 101), GB G (F) o [] [] s H locs → lv_has ls 6 [(0, .ref (gA G 0)), (1, .int nx), (2, .int so), (3, .int (nI i))] → W p l e (rmG 3 67) s m args below meth c H locs 0 0 (MQ below (QI G (F) o (nfL F h n 0 (-1) 101) s.heap.size) args s 0 0 (GA G s.heap.size)) (F0 m 7 ls []) := by
    intro n_
    induction n_ with
    | zero =>
      intro i nx so H locs ls hi hres g hl
      refine lv_iload_n hx hb dX2_nextToFall_7 rfl (lv_at hl 3 rfl) ?_
      refine lv_aload_n hx hb dX2_nextToFall_8 rfl (lv_at hl 0 rfl) ?_
      refine gP (k := 0) S g 0 (by decide) q90 dX2_nextToFall_9 ?_
      refine gBN (k := 1) S g (Or.inl rfl) 6 (by decide) qn71 dX2_nextToFall_12 ?_
      rw [show (F 1 6 : Int32) = nI n from hok.1]
      refine lv_icmp_ge (tgt := 73) hx hb dX2_nextToFall_15 (by decide) (fun c_15 => ?_) (fun c9 => absurd (nI_le (by omega) (by omega)) c9)
      refine lv_iload_n hx hb dX2_nextToFall_73 rfl (lv_at hl 1 rfl) ?_
      exact e_i S hr hk0 g hres rfl dX2_nextToFall_74
    | succ n_ ih_7 =>
      intro i nx so H locs ls hi hres g hl
      refine lv_iload_n hx hb dX2_nextToFall_7 rfl (lv_at hl 3 rfl) ?_
      refine lv_aload_n hx hb dX2_nextToFall_8 rfl (lv_at hl 0 rfl) ?_
      refine gP (k := 0) S g 0 (by decide) q90 dX2_nextToFall_9 ?_
      refine gBN (k := 1) S g (Or.inl rfl) 6 (by decide) qn71 dX2_nextToFall_12 ?_
      rw [show (F 1 6 : Int32) = nI n from hok.1]
      refine lv_icmp_ge (tgt := 73) hx hb dX2_nextToFall_15 (by decide) (fun c9 => absurd c9 (nI_ge (by omega) (by omega))) (fun c_15 => ?_)
      refine lv_aload_n hx hb dX2_nextToFall_18 rfl (lv_at hl 0 rfl) ?_
      refine gP (k := 0) S g 0 (by decide) q90 dX2_nextToFall_19 ?_
      refine lv_iload_n hx hb dX2_nextToFall_22 rfl (lv_at hl 3 rfl) ?_
      refine g_cn (rest := []) g rfl (g_VN (n := 1) (As := [.int (nI i)]) S g (c_find_ok l G (F) o 1 i n (Or.inl rfl) hok.1 (by omega) hn8) (by decide) (cEb G _ o (Or.inl rfl)) rfl qn272 q196 qs5 q2 q197 ⟨by decide +kernel, by decide +kernel, by decide +kernel⟩ rfl ⟨Nat.le_of_ble_eq_true rfl, Nat.le_of_ble_eq_true rfl⟩ hl.1 (Nat.le_of_ble_eq_true rfl) rfl ⟨Nat.zero_le _, Nat.zero_le _⟩ dX2_nextToFall_23) (fun H locs g => ?_)
      refine lv_astore (lv' := [(4, .ref (gA G (wb 1 i))), (0, .ref (gA G 0)), (1, .int nx), (2, .int so), (3, .int (nI i))]) hx hb dX2_nextToFall_26 hl (by decide) rfl (fun ls hl => ?_)
      refine lv_aload hx hb dX2_nextToFall_28 (lv_at hl 0 rfl) ?_
      refine lv_ifnonnull (tgt := 37) hx hb dX2_nextToFall_30 (by decide) ?_
      refine lv_aload hx hb dX2_nextToFall_37 (lv_at hl 0 rfl) ?_
      refine lv_aload_n hx hb dX2_nextToFall_39 rfl (lv_at hl 1 rfl) ?_
      refine gP (k := 0) S g 0 (by decide) q90 dX2_nextToFall_40 ?_
      refine gBN (k := 1) S g (Or.inl rfl) 0 (by decide) qn59 dX2_nextToFall_43 ?_
      rw [show (F 1 0 : Int32) = nI h from hok.2.1]
      refine g_ci (rest := []) g (g_VN (n := 1) (As := [.int (nI h)]) S g (c_fallsBehind l G (F) o (wb 1 i) h (wb_lo (Or.inl rfl) _) (wb_hi (Or.inl rfl) (by omega)) (by omega)) (Nat.lt_of_lt_of_le (wb_hi (Or.inl rfl) (by omega)) (by decide)) (cEw G _ o (wb_lo (Or.inl rfl) _) (wb_hi (Or.inl rfl) (by omega))) rfl qn359 q361 qs14 q3 q362 ⟨by decide +kernel, by decide +kernel, by decide +kernel⟩ rfl ⟨Nat.le_of_ble_eq_true rfl, Nat.le_of_ble_eq_true rfl⟩ hl.1 (Nat.le_of_ble_eq_true rfl) rfl ⟨Nat.zero_le _, Nat.zero_le _⟩ dX2_nextToFall_46) (fun H locs g => ?_)
      refine lv_istore (lv' := [(5, .int (faB (F (wb 1 i) 0) (F (wb 1 i) 1) h 100 0 (F (wb 1 i) 3))), (4, .ref (gA G (wb 1 i))), (0, .ref (gA G 0)), (1, .int nx), (2, .int so), (3, .int (nI i))]) hx hb dX2_nextToFall_49 hl (by decide) rfl (fun ls hl => ?_)
      refine lv_iload hx hb dX2_nextToFall_51 (lv_at hl 0 rfl) ?_
      refine lv_if_le (tgt := 67) hx hb dX2_nextToFall_53 (by decide) (fun c_53 => ?_) (fun c_53 => ?_)
      · refine lv_iinc (v := nI (i + 1)) (lv' := [(3, .int (nI (i + 1))), (5, .int (faB (F (wb 1 i) 0) (F (wb 1 i) 1) h 100 0 (F (wb 1 i) 3))), (4, .ref (gA G (wb 1 i))), (0, .ref (gA G 0)), (1, .int nx), (2, .int so)]) hx hb dX2_nextToFall_67 hl (k := 5) rfl (nI_1 i) (by decide) rfl (fun ls hl => ?_)
        refine lv_goto (tgt := 7) hx hb dX2_nextToFall_70 (by decide) ?_
        exact ih_7 (i + 1) _ _ _ _ _ (by omega) (by rw [← hres]; simp only [nfL, fbI, c_15, c_53, ↓reduceIte]) g (lv_sub hl [3, 4, 5, 0] rfl)
      · refine lv_iload hx hb dX2_nextToFall_56 (lv_at hl 0 rfl) ?_
        refine lv_iload_n hx hb dX2_nextToFall_58 rfl (lv_at hl 4 rfl) ?_
        refine lv_icmp_ge (tgt := 67) hx hb dX2_nextToFall_59 (by decide) (fun c_59 => ?_) (fun c_59 => ?_)
        · refine lv_iinc (v := nI (i + 1)) (lv' := [(3, .int (nI (i + 1))), (5, .int (faB (F (wb 1 i) 0) (F (wb 1 i) 1) h 100 0 (F (wb 1 i) 3))), (4, .ref (gA G (wb 1 i))), (0, .ref (gA G 0)), (1, .int nx), (2, .int so)]) hx hb dX2_nextToFall_67 hl (k := 5) rfl (nI_1 i) (by decide) rfl (fun ls hl => ?_)
          refine lv_goto (tgt := 7) hx hb dX2_nextToFall_70 (by decide) ?_
          exact ih_7 (i + 1) _ _ _ _ _ (by omega) (by rw [← hres]; simp only [nfL, fbI, c_15, c_53, c_59, ↓reduceIte]) g (lv_sub hl [3, 4, 5, 0] rfl)
        · refine lv_iload_n hx hb dX2_nextToFall_62 rfl (lv_at hl 5 rfl) ?_
          refine lv_istore_n (lv' := [(1, .int (nI i)), (5, .int (faB (F (wb 1 i) 0) (F (wb 1 i) 1) h 100 0 (F (wb 1 i) 3))), (4, .ref (gA G (wb 1 i))), (0, .ref (gA G 0)), (2, .int so), (3, .int (nI i))]) hx hb dX2_nextToFall_63 rfl hl (by decide) rfl (fun ls hl => ?_)
          refine lv_iload hx hb dX2_nextToFall_64 (lv_at hl 1 rfl) ?_
          refine lv_istore_n (lv' := [(2, .int (faB (F (wb 1 i) 0) (F (wb 1 i) 1) h 100 0 (F (wb 1 i) 3))), (1, .int (nI i)), (5, .int (faB (F (wb 1 i) 0) (F (wb 1 i) 1) h 100 0 (F (wb 1 i) 3))), (4, .ref (gA G (wb 1 i))), (0, .ref (gA G 0)), (3, .int (nI i))]) hx hb dX2_nextToFall_66 rfl hl (by decide) rfl (fun ls hl => ?_)
          refine lv_iinc (v := nI (i + 1)) (lv' := [(3, .int (nI (i + 1))), (2, .int (faB (F (wb 1 i) 0) (F (wb 1 i) 1) h 100 0 (F (wb 1 i) 3))), (1, .int (nI i)), (5, .int (faB (F (wb 1 i) 0) (F (wb 1 i) 1) h 100 0 (F (wb 1 i) 3))), (4, .ref (gA G (wb 1 i))), (0, .ref (gA G 0))]) hx hb dX2_nextToFall_67 hl (k := 5) rfl (nI_1 i) (by decide) rfl (fun ls hl => ?_)
          refine lv_goto (tgt := 7) hx hb dX2_nextToFall_70 (by decide) ?_
          exact ih_7 (i + 1) _ _ _ _ _ (by omega) (by rw [← hres]; simp only [nfL, fbI, c_15, c_53, c_59, ↓reduceIte]) g (lv_sub hl [5, 2, 1, 0] rfl)
  exact loop7 n 0 (-1) 101 _ _ _ (by omega) rfl g (lv_sub hl [3, 2, 1, 0] rfl)
set_option maxHeartbeats 4000000 in
set_option maxRecDepth 100000 in
theorem c_hoursUntilRuin (l : Launch) (G : gT) (F : Fs) (o : Int64) (n : Nat) (h : Nat) (hok : okP F n h) (hn8 : n ≤ 8) (hh2 : h < 2 ^ 29) : MI l yX2_hoursUntilRuin cX2_hoursUntilRuin 2 (some .int) 5 117 [.ref (gA G 0)] G (F) o ((ruL n 100 0 h (cpyF F n)).2) ((ruL n 100 0 h (cpyF F n)).1) := by
  refine mk_G (own := "ShadowPool") (Qs := (fun sz => QI G ((ruL n 100 0 h (cpyF F n)).2) o ((ruL n 100 0 h (cpyF F n)).1) sz)) (by decide +kernel) rfl (Nat.le_of_ble_eq_true rfl) ?_
  intro p e s m args below meth c ls hr hk0 hnm S g hl
  have hl : lv_has ls 2 [(0, .ref (gA G 0))] := hl
  have hx := S.1
  have hb := S.2.1
  refine lv_aload_n hx hb dX2_hoursUntilRuin_0 rfl (lv_at hl 0 rfl) ?_
  refine gP (k := 0) S g 1 (by decide) q91 dX2_hoursUntilRuin_1 ?_
  refine lv_aload_n hx hb dX2_hoursUntilRuin_4 rfl (lv_at hl 0 rfl) ?_
  refine gP (k := 0) S g 0 (by decide) q90 dX2_hoursUntilRuin_5 ?_
  refine g_cv (rest := []) g (g_VN (n := 1) (As := [.ref (gA G 1)]) S g (c_copyFrom l G (F) o n hok.1 hn8 hok.2.2) (by decide) (cEb G _ o (Or.inr rfl)) rfl qn378 q380 qs16 q2 q381 ⟨by decide +kernel, by decide +kernel, by decide +kernel⟩ rfl ⟨Nat.le_of_ble_eq_true rfl, Nat.le_of_ble_eq_true rfl⟩ hl.1 (Nat.le_of_ble_eq_true rfl) rfl ⟨Nat.zero_le _, Nat.zero_le _⟩ dX2_hoursUntilRuin_8) (fun H locs g => ?_)
  refine lv_iconst (v := 0) hx hb dX2_hoursUntilRuin_11 (by decide) ?_
  refine lv_istore_n (lv' := [(1, .int 0), (0, .ref (gA G 0))]) hx hb dX2_hoursUntilRuin_12 rfl hl (by decide) rfl (fun ls hl => ?_)
  have loop13 : ∀ (n_ : Nat) (i : Nat) (F1 : Fs) (H : Heap) (locs : List Loc) (ls : Array Slot) (hi : i + n_ = 100) (hc : F1 2 6 = nI n) (hd : F1 2 0 = nI (h + i)) (hres : ruL n n_ i (h + i) F1 = ruL n 100 0 h (cpyF F n)), GB G (F1) o [] [] s H locs → lv_has ls 2 [(0, .ref (gA G 0)), (1, .int (nI i))] → W p l e (rmG 5 117) s m args below meth c H locs 0 0 (MQ below (QI G ((ruL n 100 0 h (cpyF F n)).2) o ((ruL n 100 0 h (cpyF F n)).1) s.heap.size) args s 0 0 (GA G s.heap.size)) (F0 m 13 ls []) := by
    intro n_
    induction n_ with
    | zero =>
      intro i F1 H locs ls hi hc hd hres g hl
      refine lv_iload_n hx hb dX2_hoursUntilRuin_13 rfl (lv_at hl 1 rfl) ?_
      refine lv_bipush (v := 100) hx hb dX2_hoursUntilRuin_14 (by decide) ?_
      refine lv_icmp_ge (tgt := 46) hx hb dX2_hoursUntilRuin_16 (by decide) (fun c_16 => ?_) (fun c9 => absurd (nI_le (a := 100) (by omega) (by omega)) c9)
      refine lv_aload_n hx hb dX2_hoursUntilRuin_46 rfl (lv_at hl 0 rfl) ?_
      refine gP (k := 0) S g 1 (by decide) q91 dX2_hoursUntilRuin_47 ?_
      refine gBN (k := 2) S g (Or.inr rfl) 1 (by decide) qn61 dX2_hoursUntilRuin_50 ?_
      refine lv_if_ge (tgt := 61) hx hb dX2_hoursUntilRuin_53 (by decide) (fun c_53 => ?_) (fun c_53 => ?_)
      · refine lv_iconst (v := (-1)) hx hb dX2_hoursUntilRuin_61 (by decide) ?_
        exact e_i S hr hk0 g (by rw [← hres]; simp only [ruL, c_16, c_53, ↓reduceIte]) (by rw [← hres]; simp only [ruL, c_16, c_53, ↓reduceIte]) dX2_hoursUntilRuin_62
      · refine lv_bipush (v := 100) hx hb dX2_hoursUntilRuin_56 (by decide) ?_
        refine lv_goto (tgt := 62) hx hb dX2_hoursUntilRuin_58 (by decide) ?_
        exact e_i S hr hk0 g (by rw [← hres]; simp only [ruL, c_16, c_53, ↓reduceIte]) (by rw [← hres]; simp only [ruL, c_16, c_53, ↓reduceIte]) dX2_hoursUntilRuin_62
    | succ n_ ih_13 =>
      intro i F1 H locs ls hi hc hd hres g hl
      refine lv_iload_n hx hb dX2_hoursUntilRuin_13 rfl (lv_at hl 1 rfl) ?_
      refine lv_bipush (v := 100) hx hb dX2_hoursUntilRuin_14 (by decide) ?_
      refine lv_icmp_ge (tgt := 46) hx hb dX2_hoursUntilRuin_16 (by decide) (fun c9 => absurd c9 (nI_ge (b := 100) (by omega) (by omega))) (fun c_16 => ?_)
      refine lv_aload_n hx hb dX2_hoursUntilRuin_19 rfl (lv_at hl 0 rfl) ?_
      refine gP (k := 0) S g 1 (by decide) q91 dX2_hoursUntilRuin_20 ?_
      refine gBN (k := 2) S g (Or.inr rfl) 1 (by decide) qn61 dX2_hoursUntilRuin_23 ?_
      refine lv_if_ge (tgt := 31) hx hb dX2_hoursUntilRuin_26 (by decide) (fun c_26 => ?_) (fun c_26 => ?_)
      · refine lv_aload_n hx hb dX2_hoursUntilRuin_31 rfl (lv_at hl 0 rfl) ?_
        refine gP (k := 0) S g 1 (by decide) q91 dX2_hoursUntilRuin_32 ?_
        refine lv_iconst (v := 1) hx hb dX2_hoursUntilRuin_35 (by decide) ?_
        refine g_ci (rest := []) g (g_VN (n := 1) (As := [.int 1]) S g (c_letGoBy l G (F1) o 2 n (h + i) 1 (Or.inr rfl) hc hn8 hd (by omega)) (by decide) (cEb G _ o (Or.inr rfl)) rfl qn172 q174 qs1 q2 q175 ⟨by decide +kernel, by decide +kernel, by decide +kernel⟩ rfl ⟨Nat.le_of_ble_eq_true rfl, Nat.le_of_ble_eq_true rfl⟩ hl.1 (Nat.le_of_ble_eq_true rfl) rfl ⟨Nat.zero_le _, Nat.zero_le _⟩ dX2_hoursUntilRuin_36) (fun H locs g => ?_)
        refine lv_pop hx hb dX2_hoursUntilRuin_39 rfl ?_
        refine lv_iinc (v := nI (i + 1)) (lv' := [(1, .int (nI (i + 1))), (0, .ref (gA G 0))]) hx hb dX2_hoursUntilRuin_40 hl (k := 1) rfl (nI_1 i) (by decide) rfl (fun ls hl => ?_)
        refine lv_goto (tgt := 13) hx hb dX2_hoursUntilRuin_43 (by decide) ?_
        exact ih_13 (i + 1) _ _ _ _ (by omega) (by rw [gbL_6 2 n (Or.inr rfl)]; exact hc) (by rw [gbL_0 2 n (Or.inr rfl) _ _ _ _ _ hd]; rfl) (by rw [← hres]; simp only [ruL, c_16, c_26, ↓reduceIte]; rfl) g (lv_sub hl [1, 0] rfl)
      · refine lv_iload_n hx hb dX2_hoursUntilRuin_29 rfl (lv_at hl 1 rfl) ?_
        exact e_i S hr hk0 g (by rw [← hres]; simp only [ruL, c_16, c_26, ↓reduceIte]) (by rw [← hres]; simp only [ruL, c_16, c_26, ↓reduceIte]) dX2_hoursUntilRuin_30
  exact loop13 100 0 _ _ _ _ rfl (by rw [cpyF_2 F n (by decide)]; exact hok.1) (by rw [cpyF_2 F n (by decide)]; exact hok.2.1) rfl g (lv_sub hl [1, 0] rfl)
set_option maxHeartbeats 4000000 in
set_option maxRecDepth 100000 in
theorem c_bestLimit (l : Launch) (G : gT) (F : Fs) (o : Int64) (n : Nat) (h : Nat) (hok : okP F n h) (hn8 : n ≤ 8) (hh2 : h < 2 ^ 29) : MI l yX2_bestLimit cX2_bestLimit 5 (some .int) 6 140 [.ref (gA G 0)] G (F) o ((beF F n h).2) ((beF F n h).1) := by
  refine mk_G (own := "ShadowPool") (Qs := (fun sz => QI G ((beF F n h).2) o ((beF F n h).1) sz)) (by decide +kernel) rfl (Nat.le_of_ble_eq_true rfl) ?_
  intro p e s m args below meth c ls hr hk0 hnm S g hl
  have hl : lv_has ls 5 [(0, .ref (gA G 0))] := hl
  have hx := S.1
  have hb := S.2.1
  refine lv_iconst (v := 0) hx hb dX2_bestLimit_0 (by decide) ?_
  refine lv_istore_n (lv' := [(1, .int 0), (0, .ref (gA G 0))]) hx hb dX2_bestLimit_1 rfl hl (by decide) rfl (fun ls hl => ?_)
  refine lv_aload_n hx hb dX2_bestLimit_2 rfl (lv_at hl 1 rfl) ?_
  refine lv_bipush (v := 48) hx hb dX2_bestLimit_3 (by decide) ?_
  refine lv_aload_n hx hb dX2_bestLimit_5 rfl (lv_at hl 1 rfl) ?_
  refine gP (k := 0) S g 0 (by decide) q90 dX2_bestLimit_6 ?_
  refine gBN (k := 1) S g (Or.inl rfl) 2 (by decide) qn63 dX2_bestLimit_9 ?_
  refine lv_iconst (v := 0) hx hb dX2_bestLimit_12 (by decide) ?_
  refine g_ci (rest := []) g (g_V (n := 3) (As := [.int 48, .int (F 1 2), .int 0]) S g (c_fundBehind l G (F) o n h 48 (F 1 2) 0 hok hn8 hh2 (by omega)) (by decide) (cE0 G _ o) rfl (lw_V q374 q376 qs15 q1 q377) ⟨rfl, by decide +kernel, by decide +kernel, by decide +kernel⟩ rfl ⟨Nat.le_of_ble_eq_true rfl, Nat.le_of_ble_eq_true rfl⟩ hl.1 (Nat.le_of_ble_eq_true rfl) rfl ⟨Nat.zero_le _, Nat.zero_le _⟩ dX2_bestLimit_13) (fun H locs g => ?_)
  refine lv_istore_n (lv' := [(2, .int (fbF F n h 48 (F 1 2) 0 2 1)), (1, .int 0), (0, .ref (gA G 0))]) hx hb dX2_bestLimit_16 rfl hl (by decide) rfl (fun ls hl => ?_)
  refine lv_bipush (v := 20) hx hb dX2_bestLimit_17 (by decide) ?_
  refine lv_istore_n (lv' := [(3, .int 20), (2, .int (fbF F n h 48 (F 1 2) 0 2 1)), (1, .int 0), (0, .ref (gA G 0))]) hx hb dX2_bestLimit_19 rfl hl (by decide) rfl (fun ls hl => ?_)
  have loop20 : ∀ (n_ : Nat) (i : Nat) (best : Int32) (gr : Int32) (F1 : Fs) (H : Heap) (locs : List Loc) (ls : Array Slot) (hi : i + n_ = 5) (hok1 : okP F1 n h) (hres : beL n h n_ i best gr F1 = beF F n h), GB G (F1) o [] [] s H locs → lv_has ls 5 [(0, .ref (gA G 0)), (1, .int best), (2, .int gr), (3, .int (nI (20 * (i + 1))))] → W p l e (rmG 6 140) s m args below meth c H locs 0 0 (MQ below (QI G ((beF F n h).2) o ((beF F n h).1) s.heap.size) args s 0 0 (GA G s.heap.size)) (F0 m 20 ls []) := by
    intro n_
    induction n_ with
    | zero =>
      intro i best gr F1 H locs ls hi hok1 hres g hl
      refine lv_iload_n hx hb dX2_bestLimit_20 rfl (lv_at hl 3 rfl) ?_
      refine lv_bipush (v := 100) hx hb dX2_bestLimit_21 (by decide) ?_
      refine lv_icmp_gt (tgt := 59) hx hb dX2_bestLimit_23 (by decide) (fun c_23 => ?_) (fun c9 => absurd (nI_lt (a := 100) (by omega) (by omega)) c9)
      refine lv_iload_n hx hb dX2_bestLimit_59 rfl (lv_at hl 1 rfl) ?_
      exact e_i S hr hk0 g (by rw [← hres]; rfl) (by rw [← hres]; rfl) dX2_bestLimit_60
    | succ n_ ih_20 =>
      intro i best gr F1 H locs ls hi hok1 hres g hl
      refine lv_iload_n hx hb dX2_bestLimit_20 rfl (lv_at hl 3 rfl) ?_
      refine lv_bipush (v := 100) hx hb dX2_bestLimit_21 (by decide) ?_
      refine lv_icmp_gt (tgt := 59) hx hb dX2_bestLimit_23 (by decide) (fun c9 => absurd c9 (nI_nlt (a := 100) (by omega) (by omega))) (fun c_23 => ?_)
      refine lv_aload_n hx hb dX2_bestLimit_26 rfl (lv_at hl 0 rfl) ?_
      refine lv_bipush (v := 48) hx hb dX2_bestLimit_27 (by decide) ?_
      refine lv_aload_n hx hb dX2_bestLimit_29 rfl (lv_at hl 0 rfl) ?_
      refine gP (k := 0) S g 0 (by decide) q90 dX2_bestLimit_30 ?_
      refine gBN (k := 1) S g (Or.inl rfl) 2 (by decide) qn63 dX2_bestLimit_33 ?_
      refine lv_iload_n hx hb dX2_bestLimit_36 rfl (lv_at hl 3 rfl) ?_
      refine g_ci (rest := []) g (g_V (n := 3) (As := [.int 48, .int (F1 1 2), .int (nI (20 * (i + 1)))]) S g (c_fundBehind l G (F1) o n h 48 (F1 1 2) (nI (20 * (i + 1))) hok1 hn8 hh2 (by omega)) (by decide) (cE0 G _ o) rfl (lw_V q374 q376 qs15 q1 q377) ⟨rfl, by decide +kernel, by decide +kernel, by decide +kernel⟩ rfl ⟨Nat.le_of_ble_eq_true rfl, Nat.le_of_ble_eq_true rfl⟩ hl.1 (Nat.le_of_ble_eq_true rfl) rfl ⟨Nat.zero_le _, Nat.zero_le _⟩ dX2_bestLimit_37) (fun H locs g => ?_)
      refine lv_istore (lv' := [(4, .int (fbF F1 n h 48 (F1 1 2) (nI (20 * (i + 1))) 2 1)), (0, .ref (gA G 0)), (1, .int best), (2, .int gr), (3, .int (nI (20 * (i + 1))))]) hx hb dX2_bestLimit_40 hl (by decide) rfl (fun ls hl => ?_)
      refine lv_iload hx hb dX2_bestLimit_42 (lv_at hl 0 rfl) ?_
      refine lv_iload_n hx hb dX2_bestLimit_44 rfl (lv_at hl 3 rfl) ?_
      refine lv_icmp_le (tgt := 53) hx hb dX2_bestLimit_45 (by decide) (fun c_45 => ?_) (fun c_45 => ?_)
      · refine lv_iinc (v := nI (20 * (i + 1 + 1))) (lv' := [(3, .int (nI (20 * (i + 1 + 1)))), (4, .int (fbF F1 n h 48 (F1 1 2) (nI (20 * (i + 1))) 2 1)), (0, .ref (gA G 0)), (1, .int best), (2, .int gr)]) hx hb dX2_bestLimit_53 hl (k := 4) rfl (nI_add (20 * (i + 1)) 20) (by decide) rfl (fun ls hl => ?_)
        refine lv_goto (tgt := 20) hx hb dX2_bestLimit_56 (by decide) ?_
        exact ih_20 (i + 1) _ _ _ _ _ _ (by omega) (okP_fb hok1 _ _ _) (by rw [← hres]; simp only [beL, c_23, c_45, ↓reduceIte]) g (lv_sub hl [2, 3, 4, 0] rfl)
      · refine lv_iload_n hx hb dX2_bestLimit_48 rfl (lv_at hl 4 rfl) ?_
        refine lv_istore_n (lv' := [(1, .int (nI (20 * (i + 1)))), (4, .int (fbF F1 n h 48 (F1 1 2) (nI (20 * (i + 1))) 2 1)), (0, .ref (gA G 0)), (2, .int gr), (3, .int (nI (20 * (i + 1))))]) hx hb dX2_bestLimit_49 rfl hl (by decide) rfl (fun ls hl => ?_)
        refine lv_iload hx hb dX2_bestLimit_50 (lv_at hl 1 rfl) ?_
        refine lv_istore_n (lv' := [(2, .int (fbF F1 n h 48 (F1 1 2) (nI (20 * (i + 1))) 2 1)), (1, .int (nI (20 * (i + 1)))), (4, .int (fbF F1 n h 48 (F1 1 2) (nI (20 * (i + 1))) 2 1)), (0, .ref (gA G 0)), (3, .int (nI (20 * (i + 1))))]) hx hb dX2_bestLimit_52 rfl hl (by decide) rfl (fun ls hl => ?_)
        refine lv_iinc (v := nI (20 * (i + 1 + 1))) (lv' := [(3, .int (nI (20 * (i + 1 + 1)))), (2, .int (fbF F1 n h 48 (F1 1 2) (nI (20 * (i + 1))) 2 1)), (1, .int (nI (20 * (i + 1)))), (4, .int (fbF F1 n h 48 (F1 1 2) (nI (20 * (i + 1))) 2 1)), (0, .ref (gA G 0))]) hx hb dX2_bestLimit_53 hl (k := 4) rfl (nI_add (20 * (i + 1)) 20) (by decide) rfl (fun ls hl => ?_)
        refine lv_goto (tgt := 20) hx hb dX2_bestLimit_56 (by decide) ?_
        exact ih_20 (i + 1) _ _ _ _ _ _ (by omega) (okP_fb hok1 _ _ _) (by rw [← hres]; simp only [beL, c_23, c_45, ↓reduceIte]) g (lv_sub hl [4, 2, 1, 0] rfl)
  exact loop20 5 0 0 _ _ _ _ _ rfl (okP_fb hok _ _ _) rfl g (lv_sub hl [3, 2, 1, 0] rfl)
set_option maxHeartbeats 4000000 in
set_option maxRecDepth 100000 in
theorem c_fairRate (l : Launch) (G : gT) (F : Fs) (o : Int64) (n : Nat) (h : Nat) (hok : okP F n h) (hn8 : n ≤ 8) (hh2 : h < 2 ^ 29) : MI l yX2_fairRate cX2_fairRate 2 (some .int) 6 140 [.ref (gA G 0)] G (F) o ((fiF F n h).2) ((fiF F n h).1) := by
  refine mk_G (own := "ShadowPool") (Qs := (fun sz => QI G ((fiF F n h).2) o ((fiF F n h).1) sz)) (by decide +kernel) rfl (Nat.le_of_ble_eq_true rfl) ?_
  intro p e s m args below meth c ls hr hk0 hnm S g hl
  have hl : lv_has ls 2 [(0, .ref (gA G 0))] := hl
  have hx := S.1
  have hb := S.2.1
  refine lv_iconst (v := 0) hx hb dX2_fairRate_0 (by decide) ?_
  refine lv_istore_n (lv' := [(1, .int 0), (0, .ref (gA G 0))]) hx hb dX2_fairRate_1 rfl hl (by decide) rfl (fun ls hl => ?_)
  have loop2 : ∀ (n_ : Nat) (i : Nat) (F1 : Fs) (H : Heap) (locs : List Loc) (ls : Array Slot) (hi : i + n_ = 10) (hok1 : okP F1 n h) (hres : fiL n h n_ i F1 = fiF F n h), GB G (F1) o [] [] s H locs → lv_has ls 2 [(0, .ref (gA G 0)), (1, .int (nI i))] → W p l e (rmG 6 140) s m args below meth c H locs 0 0 (MQ below (QI G ((fiF F n h).2) o ((fiF F n h).1) s.heap.size) args s 0 0 (GA G s.heap.size)) (F0 m 2 ls []) := by
    intro n_
    induction n_ with
    | zero =>
      intro i F1 H locs ls hi hok1 hres g hl
      refine lv_iload_n hx hb dX2_fairRate_2 rfl (lv_at hl 1 rfl) ?_
      refine lv_bipush (v := 9) hx hb dX2_fairRate_3 (by decide) ?_
      refine lv_icmp_gt (tgt := 40) hx hb dX2_fairRate_5 (by decide) (fun c_5 => ?_) (fun c9 => absurd (nI_lt (a := 9) (by omega) (by omega)) c9)
      refine lv_iconst (v := (-1)) hx hb dX2_fairRate_40 (by decide) ?_
      exact e_i S hr hk0 g (by rw [← hres]; rfl) (by rw [← hres]; rfl) dX2_fairRate_41
    | succ n_ ih_2 =>
      intro i F1 H locs ls hi hok1 hres g hl
      refine lv_iload_n hx hb dX2_fairRate_2 rfl (lv_at hl 1 rfl) ?_
      refine lv_bipush (v := 9) hx hb dX2_fairRate_3 (by decide) ?_
      refine lv_icmp_gt (tgt := 40) hx hb dX2_fairRate_5 (by decide) (fun c9 => absurd c9 (nI_nlt (a := 9) (by omega) (by omega))) (fun c_5 => ?_)
      refine lv_aload_n hx hb dX2_fairRate_8 rfl (lv_at hl 0 rfl) ?_
      refine lv_bipush (v := 48) hx hb dX2_fairRate_9 (by decide) ?_
      refine lv_iload_n hx hb dX2_fairRate_11 rfl (lv_at hl 1 rfl) ?_
      refine lv_aload_n hx hb dX2_fairRate_12 rfl (lv_at hl 0 rfl) ?_
      refine gP (k := 0) S g 0 (by decide) q90 dX2_fairRate_13 ?_
      refine gBN (k := 1) S g (Or.inl rfl) 4 (by decide) qn67 dX2_fairRate_16 ?_
      refine g_ci (rest := []) g (g_V (n := 3) (As := [.int 48, .int (nI i), .int (F1 1 4)]) S g (c_fundBehind l G (F1) o n h 48 (nI i) (F1 1 4) hok1 hn8 hh2 (by omega)) (by decide) (cE0 G _ o) rfl (lw_V q374 q376 qs15 q1 q377) ⟨rfl, by decide +kernel, by decide +kernel, by decide +kernel⟩ rfl ⟨Nat.le_of_ble_eq_true rfl, Nat.le_of_ble_eq_true rfl⟩ hl.1 (Nat.le_of_ble_eq_true rfl) rfl ⟨Nat.zero_le _, Nat.zero_le _⟩ dX2_fairRate_19) (fun H locs g => ?_)
      refine lv_aload_n hx hb dX2_fairRate_22 rfl (lv_at hl 0 rfl) ?_
      refine gP (k := 0) S g 0 (by decide) q90 dX2_fairRate_23 ?_
      refine gBN (k := 1) S g (Or.inl rfl) 1 (by decide) qn61 dX2_fairRate_26 ?_
      refine lv_icmp_lt (tgt := 34) hx hb dX2_fairRate_29 (by decide) (fun c_29 => ?_) (fun c_29 => ?_)
      · refine lv_iinc (v := nI (i + 1)) (lv' := [(1, .int (nI (i + 1))), (0, .ref (gA G 0))]) hx hb dX2_fairRate_34 hl (k := 1) rfl (nI_1 i) (by decide) rfl (fun ls hl => ?_)
        refine lv_goto (tgt := 2) hx hb dX2_fairRate_37 (by decide) ?_
        exact ih_2 (i + 1) _ _ _ _ (by omega) (okP_fb hok1 _ _ _) (by rw [← hres]; simp only [fiL, c_5, c_29, ↓reduceIte]) g (lv_sub hl [1, 0] rfl)
      · refine lv_iload_n hx hb dX2_fairRate_32 rfl (lv_at hl 1 rfl) ?_
        exact e_i S hr hk0 g (by rw [← hres]; simp only [fiL, c_5, c_29, ↓reduceIte]) (by rw [← hres]; simp only [fiL, c_5, c_29, ↓reduceIte]) dX2_fairRate_33
  exact loop2 10 0 F _ _ _ rfl hok rfl g (lv_sub hl [1, 0] rfl)
set_option maxHeartbeats 4000000 in
set_option maxRecDepth 100000 in
theorem c_meanShadow (l : Launch) (G : gT) (F : Fs) (o : Int64) (n : Nat) (h : Nat) (hok : okP F n h) (hn8 : n ≤ 8) (hh2 : h < 2 ^ 29) (hnan : ¬ nI n = 0 → vf_n64 (FP.ddiv (FP.i2d (msL F (suH h) n 0 0)) (FP.i2d (nI n)))) : MD l yX2_meanShadow cX2_meanShadow 4 3 62 [.ref (gA G 0)] G (F) o (F) (msD F n h) := by
  refine mk_G (own := "ShadowPool") (Qs := (fun sz => QD G (F) o (msD F n h) sz)) (by decide +kernel) rfl (Nat.le_of_ble_eq_true rfl) ?_
  intro p e s m args below meth c ls hr hk0 hnm S g hl
  have hl : lv_has ls 4 [(0, .ref (gA G 0))] := hl
  have hx := S.1
  have hb := S.2.1
  refine lv_iconst (v := 0) hx hb dX2_meanShadow_0 (by decide) ?_
  refine lv_istore_n (lv' := [(1, .int 0), (0, .ref (gA G 0))]) hx hb dX2_meanShadow_1 rfl hl (by decide) rfl (fun ls hl => ?_)
  refine lv_iconst (v := 0) hx hb dX2_meanShadow_2 (by decide) ?_
  refine lv_istore_n (lv' := [(2, .int 0), (1, .int 0), (0, .ref (gA G 0))]) hx hb dX2_meanShadow_3 rfl hl (by decide) rfl (fun ls hl => ?_)
  have loop4 : ∀ (n_ : Nat) (i : Nat) (acc : Int32) (H : Heap) (locs : List Loc) (ls : Array Slot) (hi : i + n_ = n) (hres : msL F (suH h) n_ i acc = msL F (suH h) n 0 0), GB G (F) o [] [] s H locs → lv_has ls 4 [(0, .ref (gA G 0)), (1, .int acc), (2, .int (nI i))] → W p l e (rmG 3 62) s m args below meth c H locs 0 0 (MQ below (QD G (F) o (msD F n h) s.heap.size) args s 0 0 (GA G s.heap.size)) (F0 m 4 ls []) := by
    intro n_
    induction n_ with
    | zero =>
      intro i acc H locs ls hi hres g hl
      have hres : acc = msL F (suH h) n 0 0 := hres
      refine lv_iload_n hx hb dX2_meanShadow_4 rfl (lv_at hl 2 rfl) ?_
      refine lv_aload_n hx hb dX2_meanShadow_5 rfl (lv_at hl 0 rfl) ?_
      refine gP (k := 0) S g 0 (by decide) q90 dX2_meanShadow_6 ?_
      refine gBN (k := 1) S g (Or.inl rfl) 6 (by decide) qn71 dX2_meanShadow_9 ?_
      rw [show (F 1 6 : Int32) = nI n from hok.1]
      refine lv_icmp_ge (tgt := 49) hx hb dX2_meanShadow_12 (by decide) (fun c_12 => ?_) (fun c9 => absurd (nI_le (by omega) (by omega)) c9)
      refine lv_aload_n hx hb dX2_meanShadow_49 rfl (lv_at hl 0 rfl) ?_
      refine gP (k := 0) S g 0 (by decide) q90 dX2_meanShadow_50 ?_
      refine gBN (k := 1) S g (Or.inl rfl) 6 (by decide) qn71 dX2_meanShadow_53 ?_
      rw [show (F 1 6 : Int32) = nI n from hok.1]
      refine lv_if_ne (tgt := 63) hx hb dX2_meanShadow_56 (by decide) (fun c_56 => ?_) (fun c_56 => ?_)
      · refine lv_iload_n hx hb dX2_meanShadow_63 rfl (lv_at hl 1 rfl) ?_
        refine lv_i2d hx hb dX2_meanShadow_64 ?_
        refine lv_aload_n hx hb dX2_meanShadow_65 rfl (lv_at hl 0 rfl) ?_
        refine gP (k := 0) S g 0 (by decide) q90 dX2_meanShadow_66 ?_
        refine gBN (k := 1) S g (Or.inl rfl) 6 (by decide) qn71 dX2_meanShadow_69 ?_
        rw [show (F 1 6 : Int32) = nI n from hok.1]
        refine lv_i2d hx hb dX2_meanShadow_72 ?_
        refine lv_ddiv hx hb dX2_meanShadow_73 (by rw [hres]; exact hnan c_56) ?_
        exact e_d S hr hk0 g (by simp only [msD, ← hres, c_12, c_56, ↓reduceIte]) rfl dX2_meanShadow_74
      · refine lv_dconst0 hx hb dX2_meanShadow_59 ?_
        refine lv_goto (tgt := 74) hx hb dX2_meanShadow_60 (by decide) ?_
        exact e_d S hr hk0 g (by simp only [msD, ← hres, c_12, c_56, ↓reduceIte]) rfl dX2_meanShadow_74
    | succ n_ ih_4 =>
      intro i acc H locs ls hi hres g hl
      refine lv_iload_n hx hb dX2_meanShadow_4 rfl (lv_at hl 2 rfl) ?_
      refine lv_aload_n hx hb dX2_meanShadow_5 rfl (lv_at hl 0 rfl) ?_
      refine gP (k := 0) S g 0 (by decide) q90 dX2_meanShadow_6 ?_
      refine gBN (k := 1) S g (Or.inl rfl) 6 (by decide) qn71 dX2_meanShadow_9 ?_
      rw [show (F 1 6 : Int32) = nI n from hok.1]
      refine lv_icmp_ge (tgt := 49) hx hb dX2_meanShadow_12 (by decide) (fun c9 => absurd c9 (nI_ge (by omega) (by omega))) (fun c_12 => ?_)
      refine lv_aload_n hx hb dX2_meanShadow_15 rfl (lv_at hl 0 rfl) ?_
      refine gP (k := 0) S g 0 (by decide) q90 dX2_meanShadow_16 ?_
      refine lv_iload_n hx hb dX2_meanShadow_19 rfl (lv_at hl 2 rfl) ?_
      refine g_cn (rest := []) g rfl (g_VN (n := 1) (As := [.int (nI i)]) S g (c_find_ok l G (F) o 1 i n (Or.inl rfl) hok.1 (by omega) hn8) (by decide) (cEb G _ o (Or.inl rfl)) rfl qn272 q196 qs5 q2 q197 ⟨by decide +kernel, by decide +kernel, by decide +kernel⟩ rfl ⟨Nat.le_of_ble_eq_true rfl, Nat.le_of_ble_eq_true rfl⟩ hl.1 (Nat.le_of_ble_eq_true rfl) rfl ⟨Nat.zero_le _, Nat.zero_le _⟩ dX2_meanShadow_20) (fun H locs g => ?_)
      refine lv_astore_n (lv' := [(3, .ref (gA G (wb 1 i))), (0, .ref (gA G 0)), (1, .int acc), (2, .int (nI i))]) hx hb dX2_meanShadow_23 rfl hl (by decide) rfl (fun ls hl => ?_)
      refine lv_iload_n hx hb dX2_meanShadow_24 rfl (lv_at hl 2 rfl) ?_
      refine lv_aload_n hx hb dX2_meanShadow_25 rfl (lv_at hl 0 rfl) ?_
      refine lv_ifnonnull (tgt := 33) hx hb dX2_meanShadow_26 (by decide) ?_
      refine lv_aload_n hx hb dX2_meanShadow_33 rfl (lv_at hl 0 rfl) ?_
      refine lv_aload_n hx hb dX2_meanShadow_34 rfl (lv_at hl 1 rfl) ?_
      refine g_ci (rest := [.ref (gA G (wb 1 i)), .int acc]) g (g_V (n := 0) (As := []) S g (c_sun l G (F) o h hok.2.1 hh2) (by decide) (cE0 G _ o) rfl (lw_V q305 q245 q246 q1 q247) ⟨rfl, by decide +kernel, by decide +kernel, by decide +kernel⟩ rfl ⟨Nat.le_of_ble_eq_true rfl, Nat.le_of_ble_eq_true rfl⟩ hl.1 (Nat.le_of_ble_eq_true rfl) rfl ⟨Nat.zero_le _, Nat.zero_le _⟩ dX2_meanShadow_35) (fun H locs g => ?_)
      refine g_ci (rest := [.int acc]) g (g_VN (n := 1) (As := [.int (suH h)]) S g (c_shadowUnder l G (F) o (wb 1 i) (suH h) (wb_lo (Or.inl rfl) _) (wb_hi (Or.inl rfl) (by omega)) (sun_pos h)) (Nat.lt_of_lt_of_le (wb_hi (Or.inl rfl) (by omega)) (by decide)) (cEw G _ o (wb_lo (Or.inl rfl) _) (wb_hi (Or.inl rfl) (by omega))) rfl qn306 q221 qs9 q3 q222 ⟨by decide +kernel, by decide +kernel, by decide +kernel⟩ rfl ⟨Nat.le_of_ble_eq_true rfl, Nat.le_of_ble_eq_true rfl⟩ hl.1 (Nat.le_of_ble_eq_true rfl) rfl ⟨Nat.zero_le _, Nat.zero_le _⟩ dX2_meanShadow_38) (fun H locs g => ?_)
      refine lv_iadd hx hb dX2_meanShadow_41 ?_
      refine lv_istore_n (lv' := [(1, .int ((acc) + (shI (F (wb 1 i) 0) (suH h)))), (3, .ref (gA G (wb 1 i))), (0, .ref (gA G 0)), (2, .int (nI i))]) hx hb dX2_meanShadow_42 rfl hl (by decide) rfl (fun ls hl => ?_)
      refine lv_iinc (v := nI (i + 1)) (lv' := [(2, .int (nI (i + 1))), (1, .int ((acc) + (shI (F (wb 1 i) 0) (suH h)))), (3, .ref (gA G (wb 1 i))), (0, .ref (gA G 0))]) hx hb dX2_meanShadow_43 hl (k := 3) rfl (nI_1 i) (by decide) rfl (fun ls hl => ?_)
      refine lv_goto (tgt := 4) hx hb dX2_meanShadow_46 (by decide) ?_
      exact ih_4 (i + 1) _ _ _ _ (by omega) (by simpa only [msL, c_12, ↓reduceIte] using hres) g (lv_sub hl [3, 1, 0] rfl)
  exact loop4 n 0 0 _ _ _ (by omega) rfl g (lv_sub hl [2, 1, 0] rfl)
set_option maxHeartbeats 4000000 in
set_option maxRecDepth 100000 in
theorem c_chain (l : Launch) (G : gT) (F : Fs) (o : Int64) (d : Int64) (x : Int32) : ML l yX2_chain cX2_chain 3 0 0 [.long (d), .int x] G (F) o (F) (chI d x) := by
  refine mk_G (own := "ShadowPool") (Qs := (fun sz => QL G (F) o (chI d x) sz)) (by decide +kernel) rfl (Nat.le_of_ble_eq_true rfl) ?_
  intro p e s m args below meth c ls hr hk0 hnm S g hl
  have hl : lv_has ls 3 [(0, .long (d)), (2, .int x)] := hl
  have hx := S.1
  have hb := S.2.1
  refine lv_lload_n hx hb dX2_chain_0 rfl (lv_at hl 0 rfl) ?_
  refine lv_ldc2 (v := 31) hx hb S.2.2.2.1 (S.2.2.2.2 _ q407) dX2_chain_1 ?_
  refine lv_lmul hx hb dX2_chain_4 ?_
  refine lv_iload_n hx hb dX2_chain_5 rfl (lv_at hl 1 rfl) ?_
  refine lv_i2l (v := (x).toInt64) hx hb dX2_chain_6 rfl ?_
  refine lv_ladd hx hb dX2_chain_7 ?_
  exact e_l S hr hk0 g rfl rfl dX2_chain_8
set_option maxHeartbeats 4000000 in
set_option maxRecDepth 100000 in
theorem c_chainWalker (l : Launch) (G : gT) (F : Fs) (o : Int64) (k : Nat) (h : Nat) (d : Int64) (h1 : 5 ≤ k) (h2 : k < 21) (hh : F 1 0 = nI h) (hh2 : h < 2 ^ 29) : ML l yX2_chainWalker cX2_chainWalker 8 4 84 [.ref (gA G 0), .long (d), .ref (gA G k)] G (F) o (F) (cwkI F k (suH h) (noH h) d) := by
  refine mk_G (own := "ShadowPool") (Qs := (fun sz => QL G (F) o (cwkI F k (suH h) (noH h) d) sz)) (by decide +kernel) rfl (Nat.le_of_ble_eq_true rfl) ?_
  intro p e s m args below meth c ls hr hk0 hnm S g hl
  have hl : lv_has ls 8 [(0, .ref (gA G 0)), (1, .long (d)), (3, .ref (gA G k))] := hl
  have hx := S.1
  have hb := S.2.1
  refine lv_lload_n hx hb dX2_chainWalker_0 rfl (lv_at hl 1 rfl) ?_
  refine lv_aload_n hx hb dX2_chainWalker_1 rfl (lv_at hl 2 rfl) ?_
  refine gWN (k := k) S g h1 h2 5 (by decide) qn43 dX2_chainWalker_2 ?_
  refine lv_if_eq (tgt := 12) hx hb dX2_chainWalker_5 (by decide) (fun c_5 => ?_) (fun c_5 => ?_)
  · refine lv_iconst (v := 0) hx hb dX2_chainWalker_12 (by decide) ?_
    refine g_cl (rest := []) g (g_S (n := 2) (As := [.long (d), .int 0]) S g (c_chain l G (F) o d 0) (lw_S q404 q405 q1 q406) ⟨by decide +kernel, by decide +kernel, by decide +kernel⟩ rfl ⟨Nat.le_of_ble_eq_true rfl, Nat.le_of_ble_eq_true rfl⟩ hl.1 (Nat.le_of_ble_eq_true rfl) rfl ⟨Nat.zero_le _, Nat.zero_le _⟩ dX2_chainWalker_13) (fun H locs g => ?_)
    refine lv_lstore (lv' := [(4, .long (chI d 0)), (0, .ref (gA G 0)), (1, .long (d)), (3, .ref (gA G k))]) hx hb dX2_chainWalker_16 hl (by decide) rfl (fun ls hl => ?_)
    refine lv_lload hx hb dX2_chainWalker_18 (lv_at hl 0 rfl) ?_
    refine lv_aload_n hx hb dX2_chainWalker_20 rfl (lv_at hl 3 rfl) ?_
    refine gWN (k := k) S g h1 h2 2 (by decide) qn36 dX2_chainWalker_21 ?_
    refine g_cl (rest := []) g (g_S (n := 2) (As := [.long (chI d 0), .int (F k 2)]) S g (c_chain l G (F) o (chI d 0) (F k 2)) (lw_S q404 q405 q1 q406) ⟨by decide +kernel, by decide +kernel, by decide +kernel⟩ rfl ⟨Nat.le_of_ble_eq_true rfl, Nat.le_of_ble_eq_true rfl⟩ hl.1 (Nat.le_of_ble_eq_true rfl) rfl ⟨Nat.zero_le _, Nat.zero_le _⟩ dX2_chainWalker_24) (fun H locs g => ?_)
    refine lv_lstore (lv' := [(4, .long (chI (chI d 0) (F k 2))), (0, .ref (gA G 0)), (1, .long (d)), (3, .ref (gA G k))]) hx hb dX2_chainWalker_27 hl (by decide) rfl (fun ls hl => ?_)
    refine lv_lload hx hb dX2_chainWalker_29 (lv_at hl 0 rfl) ?_
    refine lv_aload_n hx hb dX2_chainWalker_31 rfl (lv_at hl 3 rfl) ?_
    refine gWN (k := k) S g h1 h2 3 (by decide) qn38 dX2_chainWalker_32 ?_
    refine g_cl (rest := []) g (g_S (n := 2) (As := [.long (chI (chI d 0) (F k 2)), .int (F k 3)]) S g (c_chain l G (F) o (chI (chI d 0) (F k 2)) (F k 3)) (lw_S q404 q405 q1 q406) ⟨by decide +kernel, by decide +kernel, by decide +kernel⟩ rfl ⟨Nat.le_of_ble_eq_true rfl, Nat.le_of_ble_eq_true rfl⟩ hl.1 (Nat.le_of_ble_eq_true rfl) rfl ⟨Nat.zero_le _, Nat.zero_le _⟩ dX2_chainWalker_35) (fun H locs g => ?_)
    refine lv_lstore (lv' := [(4, .long (chI (chI (chI d 0) (F k 2)) (F k 3))), (0, .ref (gA G 0)), (1, .long (d)), (3, .ref (gA G k))]) hx hb dX2_chainWalker_38 hl (by decide) rfl (fun ls hl => ?_)
    refine lv_lload hx hb dX2_chainWalker_40 (lv_at hl 0 rfl) ?_
    refine lv_aload_n hx hb dX2_chainWalker_42 rfl (lv_at hl 3 rfl) ?_
    refine gWN (k := k) S g h1 h2 4 (by decide) qn41 dX2_chainWalker_43 ?_
    refine g_cl (rest := []) g (g_S (n := 2) (As := [.long (chI (chI (chI d 0) (F k 2)) (F k 3)), .int (F k 4)]) S g (c_chain l G (F) o (chI (chI (chI d 0) (F k 2)) (F k 3)) (F k 4)) (lw_S q404 q405 q1 q406) ⟨by decide +kernel, by decide +kernel, by decide +kernel⟩ rfl ⟨Nat.le_of_ble_eq_true rfl, Nat.le_of_ble_eq_true rfl⟩ hl.1 (Nat.le_of_ble_eq_true rfl) rfl ⟨Nat.zero_le _, Nat.zero_le _⟩ dX2_chainWalker_46) (fun H locs g => ?_)
    refine lv_lstore (lv' := [(4, .long (chI (chI (chI (chI d 0) (F k 2)) (F k 3)) (F k 4))), (0, .ref (gA G 0)), (1, .long (d)), (3, .ref (gA G k))]) hx hb dX2_chainWalker_49 hl (by decide) rfl (fun ls hl => ?_)
    refine lv_lload hx hb dX2_chainWalker_51 (lv_at hl 0 rfl) ?_
    refine lv_aload_n hx hb dX2_chainWalker_53 rfl (lv_at hl 3 rfl) ?_
    refine lv_aload_n hx hb dX2_chainWalker_54 rfl (lv_at hl 1 rfl) ?_
    refine g_ci (rest := [.ref (gA G k), .long (chI (chI (chI (chI d 0) (F k 2)) (F k 3)) (F k 4))]) g (g_V (n := 0) (As := []) S g (c_sun l G (F) o h hh hh2) (by decide) (cE0 G _ o) rfl (lw_V q305 q245 q246 q1 q247) ⟨rfl, by decide +kernel, by decide +kernel, by decide +kernel⟩ rfl ⟨Nat.le_of_ble_eq_true rfl, Nat.le_of_ble_eq_true rfl⟩ hl.1 (Nat.le_of_ble_eq_true rfl) rfl ⟨Nat.zero_le _, Nat.zero_le _⟩ dX2_chainWalker_55) (fun H locs g => ?_)
    refine g_ci (rest := [.long (chI (chI (chI (chI d 0) (F k 2)) (F k 3)) (F k 4))]) g (g_VN (n := 1) (As := [.int (suH h)]) S g (c_shadowUnder l G (F) o k (suH h) h1 h2 (sun_pos h)) (Nat.lt_of_lt_of_le h2 (by decide)) (cEw G _ o h1 h2) rfl qn306 q221 qs9 q3 q222 ⟨by decide +kernel, by decide +kernel, by decide +kernel⟩ rfl ⟨Nat.le_of_ble_eq_true rfl, Nat.le_of_ble_eq_true rfl⟩ hl.1 (Nat.le_of_ble_eq_true rfl) rfl ⟨Nat.zero_le _, Nat.zero_le _⟩ dX2_chainWalker_58) (fun H locs g => ?_)
    refine g_cl (rest := []) g (g_S (n := 2) (As := [.long (chI (chI (chI (chI d 0) (F k 2)) (F k 3)) (F k 4)), .int (shI (F k 0) (suH h))]) S g (c_chain l G (F) o (chI (chI (chI (chI d 0) (F k 2)) (F k 3)) (F k 4)) (shI (F k 0) (suH h))) (lw_S q404 q405 q1 q406) ⟨by decide +kernel, by decide +kernel, by decide +kernel⟩ rfl ⟨Nat.le_of_ble_eq_true rfl, Nat.le_of_ble_eq_true rfl⟩ hl.1 (Nat.le_of_ble_eq_true rfl) rfl ⟨Nat.zero_le _, Nat.zero_le _⟩ dX2_chainWalker_61) (fun H locs g => ?_)
    refine lv_lstore (lv' := [(4, .long (chI (chI (chI (chI (chI d 0) (F k 2)) (F k 3)) (F k 4)) (shI (F k 0) (suH h)))), (0, .ref (gA G 0)), (1, .long (d)), (3, .ref (gA G k))]) hx hb dX2_chainWalker_64 hl (by decide) rfl (fun ls hl => ?_)
    refine lv_lload hx hb dX2_chainWalker_66 (lv_at hl 0 rfl) ?_
    refine lv_aload_n hx hb dX2_chainWalker_68 rfl (lv_at hl 3 rfl) ?_
    refine lv_aload_n hx hb dX2_chainWalker_69 rfl (lv_at hl 1 rfl) ?_
    refine g_ci (rest := [.ref (gA G k), .long (chI (chI (chI (chI (chI d 0) (F k 2)) (F k 3)) (F k 4)) (shI (F k 0) (suH h)))]) g (g_V (n := 0) (As := []) S g (c_sun l G (F) o h hh hh2) (by decide) (cE0 G _ o) rfl (lw_V q305 q245 q246 q1 q247) ⟨rfl, by decide +kernel, by decide +kernel, by decide +kernel⟩ rfl ⟨Nat.le_of_ble_eq_true rfl, Nat.le_of_ble_eq_true rfl⟩ hl.1 (Nat.le_of_ble_eq_true rfl) rfl ⟨Nat.zero_le _, Nat.zero_le _⟩ dX2_chainWalker_70) (fun H locs g => ?_)
    refine g_ci (rest := [.long (chI (chI (chI (chI (chI d 0) (F k 2)) (F k 3)) (F k 4)) (shI (F k 0) (suH h)))]) g (g_VN (n := 1) (As := [.int (suH h)]) S g (c_costUnder l G (F) o k (suH h) h1 h2 (sun_pos h)) (Nat.lt_of_lt_of_le h2 (by decide)) (cEw G _ o h1 h2) rfl qn315 q217 qs8 q3 q218 ⟨by decide +kernel, by decide +kernel, by decide +kernel⟩ rfl ⟨Nat.le_of_ble_eq_true rfl, Nat.le_of_ble_eq_true rfl⟩ hl.1 (Nat.le_of_ble_eq_true rfl) rfl ⟨Nat.zero_le _, Nat.zero_le _⟩ dX2_chainWalker_73) (fun H locs g => ?_)
    refine g_cl (rest := []) g (g_S (n := 2) (As := [.long (chI (chI (chI (chI (chI d 0) (F k 2)) (F k 3)) (F k 4)) (shI (F k 0) (suH h))), .int (coI (F k 0) (F k 2) (suH h))]) S g (c_chain l G (F) o (chI (chI (chI (chI (chI d 0) (F k 2)) (F k 3)) (F k 4)) (shI (F k 0) (suH h))) (coI (F k 0) (F k 2) (suH h))) (lw_S q404 q405 q1 q406) ⟨by decide +kernel, by decide +kernel, by decide +kernel⟩ rfl ⟨Nat.le_of_ble_eq_true rfl, Nat.le_of_ble_eq_true rfl⟩ hl.1 (Nat.le_of_ble_eq_true rfl) rfl ⟨Nat.zero_le _, Nat.zero_le _⟩ dX2_chainWalker_76) (fun H locs g => ?_)
    refine lv_lstore (lv' := [(4, .long (chI (chI (chI (chI (chI (chI d 0) (F k 2)) (F k 3)) (F k 4)) (shI (F k 0) (suH h))) (coI (F k 0) (F k 2) (suH h)))), (0, .ref (gA G 0)), (1, .long (d)), (3, .ref (gA G k))]) hx hb dX2_chainWalker_79 hl (by decide) rfl (fun ls hl => ?_)
    refine lv_aload_n hx hb dX2_chainWalker_81 rfl (lv_at hl 1 rfl) ?_
    refine lv_aload_n hx hb dX2_chainWalker_82 rfl (lv_at hl 3 rfl) ?_
    refine g_ci (rest := []) g (g_V (n := 1) (As := [.ref (gA G k)]) S g (c_claimNow l G (F) o k h h1 h2 hh hh2) (by decide) (cE0 G _ o) rfl (lw_V q326 q328 qs13 q1 q329) ⟨rfl, by decide +kernel, by decide +kernel, by decide +kernel⟩ rfl ⟨Nat.le_of_ble_eq_true rfl, Nat.le_of_ble_eq_true rfl⟩ hl.1 (Nat.le_of_ble_eq_true rfl) rfl ⟨Nat.zero_le _, Nat.zero_le _⟩ dX2_chainWalker_83) (fun H locs g => ?_)
    refine lv_istore (lv' := [(6, .int (clI F k (suH h) (noH h))), (4, .long (chI (chI (chI (chI (chI (chI d 0) (F k 2)) (F k 3)) (F k 4)) (shI (F k 0) (suH h))) (coI (F k 0) (F k 2) (suH h)))), (0, .ref (gA G 0)), (1, .long (d)), (3, .ref (gA G k))]) hx hb dX2_chainWalker_86 hl (by decide) rfl (fun ls hl => ?_)
    refine lv_aload_n hx hb dX2_chainWalker_88 rfl (lv_at hl 2 rfl) ?_
    refine gP (k := 0) S g 0 (by decide) q90 dX2_chainWalker_89 ?_
    refine lv_iload hx hb dX2_chainWalker_92 (lv_at hl 0 rfl) ?_
    refine g_ci (rest := []) g (g_VN (n := 1) (As := [.int (clI F k (suH h) (noH h))]) S g (c_reinsuredPart l G (F) o 1 (clI F k (suH h) (noH h)) (Or.inl rfl)) (by decide) (cEb G _ o (Or.inl rfl)) rfl qn330 q232 qs11 q2 q233 ⟨by decide +kernel, by decide +kernel, by decide +kernel⟩ rfl ⟨Nat.le_of_ble_eq_true rfl, Nat.le_of_ble_eq_true rfl⟩ hl.1 (Nat.le_of_ble_eq_true rfl) rfl ⟨Nat.zero_le _, Nat.zero_le _⟩ dX2_chainWalker_94) (fun H locs g => ?_)
    refine lv_istore (lv' := [(7, .int (reI (clI F k (suH h) (noH h)) (F 1 3) (F 1 4))), (6, .int (clI F k (suH h) (noH h))), (4, .long (chI (chI (chI (chI (chI (chI d 0) (F k 2)) (F k 3)) (F k 4)) (shI (F k 0) (suH h))) (coI (F k 0) (F k 2) (suH h)))), (0, .ref (gA G 0)), (1, .long (d)), (3, .ref (gA G k))]) hx hb dX2_chainWalker_97 hl (by decide) rfl (fun ls hl => ?_)
    refine lv_lload hx hb dX2_chainWalker_99 (lv_at hl 2 rfl) ?_
    refine lv_iload hx hb dX2_chainWalker_101 (lv_at hl 1 rfl) ?_
    refine lv_iload hx hb dX2_chainWalker_103 (lv_at hl 0 rfl) ?_
    refine lv_isub hx hb dX2_chainWalker_105 ?_
    refine g_cl (rest := []) g (g_S (n := 2) (As := [.long (chI (chI (chI (chI (chI (chI d 0) (F k 2)) (F k 3)) (F k 4)) (shI (F k 0) (suH h))) (coI (F k 0) (F k 2) (suH h))), .int ((clI F k (suH h) (noH h)) - (reI (clI F k (suH h) (noH h)) (F 1 3) (F 1 4)))]) S g (c_chain l G (F) o (chI (chI (chI (chI (chI (chI d 0) (F k 2)) (F k 3)) (F k 4)) (shI (F k 0) (suH h))) (coI (F k 0) (F k 2) (suH h))) ((clI F k (suH h) (noH h)) - (reI (clI F k (suH h) (noH h)) (F 1 3) (F 1 4)))) (lw_S q404 q405 q1 q406) ⟨by decide +kernel, by decide +kernel, by decide +kernel⟩ rfl ⟨Nat.le_of_ble_eq_true rfl, Nat.le_of_ble_eq_true rfl⟩ hl.1 (Nat.le_of_ble_eq_true rfl) rfl ⟨Nat.zero_le _, Nat.zero_le _⟩ dX2_chainWalker_106) (fun H locs g => ?_)
    refine lv_lstore (lv' := [(4, .long (chI (chI (chI (chI (chI (chI (chI d 0) (F k 2)) (F k 3)) (F k 4)) (shI (F k 0) (suH h))) (coI (F k 0) (F k 2) (suH h))) ((clI F k (suH h) (noH h)) - (reI (clI F k (suH h) (noH h)) (F 1 3) (F 1 4))))), (7, .int (reI (clI F k (suH h) (noH h)) (F 1 3) (F 1 4))), (6, .int (clI F k (suH h) (noH h))), (0, .ref (gA G 0)), (1, .long (d)), (3, .ref (gA G k))]) hx hb dX2_chainWalker_109 hl (by decide) rfl (fun ls hl => ?_)
    refine lv_lload hx hb dX2_chainWalker_111 (lv_at hl 0 rfl) ?_
    refine lv_iload hx hb dX2_chainWalker_113 (lv_at hl 1 rfl) ?_
    refine g_cl (rest := []) g (g_S (n := 2) (As := [.long (chI (chI (chI (chI (chI (chI (chI d 0) (F k 2)) (F k 3)) (F k 4)) (shI (F k 0) (suH h))) (coI (F k 0) (F k 2) (suH h))) ((clI F k (suH h) (noH h)) - (reI (clI F k (suH h) (noH h)) (F 1 3) (F 1 4)))), .int (reI (clI F k (suH h) (noH h)) (F 1 3) (F 1 4))]) S g (c_chain l G (F) o (chI (chI (chI (chI (chI (chI (chI d 0) (F k 2)) (F k 3)) (F k 4)) (shI (F k 0) (suH h))) (coI (F k 0) (F k 2) (suH h))) ((clI F k (suH h) (noH h)) - (reI (clI F k (suH h) (noH h)) (F 1 3) (F 1 4)))) (reI (clI F k (suH h) (noH h)) (F 1 3) (F 1 4))) (lw_S q404 q405 q1 q406) ⟨by decide +kernel, by decide +kernel, by decide +kernel⟩ rfl ⟨Nat.le_of_ble_eq_true rfl, Nat.le_of_ble_eq_true rfl⟩ hl.1 (Nat.le_of_ble_eq_true rfl) rfl ⟨Nat.zero_le _, Nat.zero_le _⟩ dX2_chainWalker_115) (fun H locs g => ?_)
    exact e_l S hr hk0 g (by simp only [cwkI, cw5, cw3, c_5, ↓reduceIte]) rfl dX2_chainWalker_118
  · refine lv_iconst (v := 1) hx hb dX2_chainWalker_8 (by decide) ?_
    refine lv_goto (tgt := 13) hx hb dX2_chainWalker_9 (by decide) ?_
    refine g_cl (rest := []) g (g_S (n := 2) (As := [.long (d), .int 1]) S g (c_chain l G (F) o d 1) (lw_S q404 q405 q1 q406) ⟨by decide +kernel, by decide +kernel, by decide +kernel⟩ rfl ⟨Nat.le_of_ble_eq_true rfl, Nat.le_of_ble_eq_true rfl⟩ hl.1 (Nat.le_of_ble_eq_true rfl) rfl ⟨Nat.zero_le _, Nat.zero_le _⟩ dX2_chainWalker_13) (fun H locs g => ?_)
    refine lv_lstore (lv' := [(4, .long (chI d 1)), (0, .ref (gA G 0)), (1, .long (d)), (3, .ref (gA G k))]) hx hb dX2_chainWalker_16 hl (by decide) rfl (fun ls hl => ?_)
    refine lv_lload hx hb dX2_chainWalker_18 (lv_at hl 0 rfl) ?_
    refine lv_aload_n hx hb dX2_chainWalker_20 rfl (lv_at hl 3 rfl) ?_
    refine gWN (k := k) S g h1 h2 2 (by decide) qn36 dX2_chainWalker_21 ?_
    refine g_cl (rest := []) g (g_S (n := 2) (As := [.long (chI d 1), .int (F k 2)]) S g (c_chain l G (F) o (chI d 1) (F k 2)) (lw_S q404 q405 q1 q406) ⟨by decide +kernel, by decide +kernel, by decide +kernel⟩ rfl ⟨Nat.le_of_ble_eq_true rfl, Nat.le_of_ble_eq_true rfl⟩ hl.1 (Nat.le_of_ble_eq_true rfl) rfl ⟨Nat.zero_le _, Nat.zero_le _⟩ dX2_chainWalker_24) (fun H locs g => ?_)
    refine lv_lstore (lv' := [(4, .long (chI (chI d 1) (F k 2))), (0, .ref (gA G 0)), (1, .long (d)), (3, .ref (gA G k))]) hx hb dX2_chainWalker_27 hl (by decide) rfl (fun ls hl => ?_)
    refine lv_lload hx hb dX2_chainWalker_29 (lv_at hl 0 rfl) ?_
    refine lv_aload_n hx hb dX2_chainWalker_31 rfl (lv_at hl 3 rfl) ?_
    refine gWN (k := k) S g h1 h2 3 (by decide) qn38 dX2_chainWalker_32 ?_
    refine g_cl (rest := []) g (g_S (n := 2) (As := [.long (chI (chI d 1) (F k 2)), .int (F k 3)]) S g (c_chain l G (F) o (chI (chI d 1) (F k 2)) (F k 3)) (lw_S q404 q405 q1 q406) ⟨by decide +kernel, by decide +kernel, by decide +kernel⟩ rfl ⟨Nat.le_of_ble_eq_true rfl, Nat.le_of_ble_eq_true rfl⟩ hl.1 (Nat.le_of_ble_eq_true rfl) rfl ⟨Nat.zero_le _, Nat.zero_le _⟩ dX2_chainWalker_35) (fun H locs g => ?_)
    refine lv_lstore (lv' := [(4, .long (chI (chI (chI d 1) (F k 2)) (F k 3))), (0, .ref (gA G 0)), (1, .long (d)), (3, .ref (gA G k))]) hx hb dX2_chainWalker_38 hl (by decide) rfl (fun ls hl => ?_)
    refine lv_lload hx hb dX2_chainWalker_40 (lv_at hl 0 rfl) ?_
    refine lv_aload_n hx hb dX2_chainWalker_42 rfl (lv_at hl 3 rfl) ?_
    refine gWN (k := k) S g h1 h2 4 (by decide) qn41 dX2_chainWalker_43 ?_
    refine g_cl (rest := []) g (g_S (n := 2) (As := [.long (chI (chI (chI d 1) (F k 2)) (F k 3)), .int (F k 4)]) S g (c_chain l G (F) o (chI (chI (chI d 1) (F k 2)) (F k 3)) (F k 4)) (lw_S q404 q405 q1 q406) ⟨by decide +kernel, by decide +kernel, by decide +kernel⟩ rfl ⟨Nat.le_of_ble_eq_true rfl, Nat.le_of_ble_eq_true rfl⟩ hl.1 (Nat.le_of_ble_eq_true rfl) rfl ⟨Nat.zero_le _, Nat.zero_le _⟩ dX2_chainWalker_46) (fun H locs g => ?_)
    refine lv_lstore (lv' := [(4, .long (chI (chI (chI (chI d 1) (F k 2)) (F k 3)) (F k 4))), (0, .ref (gA G 0)), (1, .long (d)), (3, .ref (gA G k))]) hx hb dX2_chainWalker_49 hl (by decide) rfl (fun ls hl => ?_)
    refine lv_lload hx hb dX2_chainWalker_51 (lv_at hl 0 rfl) ?_
    refine lv_aload_n hx hb dX2_chainWalker_53 rfl (lv_at hl 3 rfl) ?_
    refine lv_aload_n hx hb dX2_chainWalker_54 rfl (lv_at hl 1 rfl) ?_
    refine g_ci (rest := [.ref (gA G k), .long (chI (chI (chI (chI d 1) (F k 2)) (F k 3)) (F k 4))]) g (g_V (n := 0) (As := []) S g (c_sun l G (F) o h hh hh2) (by decide) (cE0 G _ o) rfl (lw_V q305 q245 q246 q1 q247) ⟨rfl, by decide +kernel, by decide +kernel, by decide +kernel⟩ rfl ⟨Nat.le_of_ble_eq_true rfl, Nat.le_of_ble_eq_true rfl⟩ hl.1 (Nat.le_of_ble_eq_true rfl) rfl ⟨Nat.zero_le _, Nat.zero_le _⟩ dX2_chainWalker_55) (fun H locs g => ?_)
    refine g_ci (rest := [.long (chI (chI (chI (chI d 1) (F k 2)) (F k 3)) (F k 4))]) g (g_VN (n := 1) (As := [.int (suH h)]) S g (c_shadowUnder l G (F) o k (suH h) h1 h2 (sun_pos h)) (Nat.lt_of_lt_of_le h2 (by decide)) (cEw G _ o h1 h2) rfl qn306 q221 qs9 q3 q222 ⟨by decide +kernel, by decide +kernel, by decide +kernel⟩ rfl ⟨Nat.le_of_ble_eq_true rfl, Nat.le_of_ble_eq_true rfl⟩ hl.1 (Nat.le_of_ble_eq_true rfl) rfl ⟨Nat.zero_le _, Nat.zero_le _⟩ dX2_chainWalker_58) (fun H locs g => ?_)
    refine g_cl (rest := []) g (g_S (n := 2) (As := [.long (chI (chI (chI (chI d 1) (F k 2)) (F k 3)) (F k 4)), .int (shI (F k 0) (suH h))]) S g (c_chain l G (F) o (chI (chI (chI (chI d 1) (F k 2)) (F k 3)) (F k 4)) (shI (F k 0) (suH h))) (lw_S q404 q405 q1 q406) ⟨by decide +kernel, by decide +kernel, by decide +kernel⟩ rfl ⟨Nat.le_of_ble_eq_true rfl, Nat.le_of_ble_eq_true rfl⟩ hl.1 (Nat.le_of_ble_eq_true rfl) rfl ⟨Nat.zero_le _, Nat.zero_le _⟩ dX2_chainWalker_61) (fun H locs g => ?_)
    refine lv_lstore (lv' := [(4, .long (chI (chI (chI (chI (chI d 1) (F k 2)) (F k 3)) (F k 4)) (shI (F k 0) (suH h)))), (0, .ref (gA G 0)), (1, .long (d)), (3, .ref (gA G k))]) hx hb dX2_chainWalker_64 hl (by decide) rfl (fun ls hl => ?_)
    refine lv_lload hx hb dX2_chainWalker_66 (lv_at hl 0 rfl) ?_
    refine lv_aload_n hx hb dX2_chainWalker_68 rfl (lv_at hl 3 rfl) ?_
    refine lv_aload_n hx hb dX2_chainWalker_69 rfl (lv_at hl 1 rfl) ?_
    refine g_ci (rest := [.ref (gA G k), .long (chI (chI (chI (chI (chI d 1) (F k 2)) (F k 3)) (F k 4)) (shI (F k 0) (suH h)))]) g (g_V (n := 0) (As := []) S g (c_sun l G (F) o h hh hh2) (by decide) (cE0 G _ o) rfl (lw_V q305 q245 q246 q1 q247) ⟨rfl, by decide +kernel, by decide +kernel, by decide +kernel⟩ rfl ⟨Nat.le_of_ble_eq_true rfl, Nat.le_of_ble_eq_true rfl⟩ hl.1 (Nat.le_of_ble_eq_true rfl) rfl ⟨Nat.zero_le _, Nat.zero_le _⟩ dX2_chainWalker_70) (fun H locs g => ?_)
    refine g_ci (rest := [.long (chI (chI (chI (chI (chI d 1) (F k 2)) (F k 3)) (F k 4)) (shI (F k 0) (suH h)))]) g (g_VN (n := 1) (As := [.int (suH h)]) S g (c_costUnder l G (F) o k (suH h) h1 h2 (sun_pos h)) (Nat.lt_of_lt_of_le h2 (by decide)) (cEw G _ o h1 h2) rfl qn315 q217 qs8 q3 q218 ⟨by decide +kernel, by decide +kernel, by decide +kernel⟩ rfl ⟨Nat.le_of_ble_eq_true rfl, Nat.le_of_ble_eq_true rfl⟩ hl.1 (Nat.le_of_ble_eq_true rfl) rfl ⟨Nat.zero_le _, Nat.zero_le _⟩ dX2_chainWalker_73) (fun H locs g => ?_)
    refine g_cl (rest := []) g (g_S (n := 2) (As := [.long (chI (chI (chI (chI (chI d 1) (F k 2)) (F k 3)) (F k 4)) (shI (F k 0) (suH h))), .int (coI (F k 0) (F k 2) (suH h))]) S g (c_chain l G (F) o (chI (chI (chI (chI (chI d 1) (F k 2)) (F k 3)) (F k 4)) (shI (F k 0) (suH h))) (coI (F k 0) (F k 2) (suH h))) (lw_S q404 q405 q1 q406) ⟨by decide +kernel, by decide +kernel, by decide +kernel⟩ rfl ⟨Nat.le_of_ble_eq_true rfl, Nat.le_of_ble_eq_true rfl⟩ hl.1 (Nat.le_of_ble_eq_true rfl) rfl ⟨Nat.zero_le _, Nat.zero_le _⟩ dX2_chainWalker_76) (fun H locs g => ?_)
    refine lv_lstore (lv' := [(4, .long (chI (chI (chI (chI (chI (chI d 1) (F k 2)) (F k 3)) (F k 4)) (shI (F k 0) (suH h))) (coI (F k 0) (F k 2) (suH h)))), (0, .ref (gA G 0)), (1, .long (d)), (3, .ref (gA G k))]) hx hb dX2_chainWalker_79 hl (by decide) rfl (fun ls hl => ?_)
    refine lv_aload_n hx hb dX2_chainWalker_81 rfl (lv_at hl 1 rfl) ?_
    refine lv_aload_n hx hb dX2_chainWalker_82 rfl (lv_at hl 3 rfl) ?_
    refine g_ci (rest := []) g (g_V (n := 1) (As := [.ref (gA G k)]) S g (c_claimNow l G (F) o k h h1 h2 hh hh2) (by decide) (cE0 G _ o) rfl (lw_V q326 q328 qs13 q1 q329) ⟨rfl, by decide +kernel, by decide +kernel, by decide +kernel⟩ rfl ⟨Nat.le_of_ble_eq_true rfl, Nat.le_of_ble_eq_true rfl⟩ hl.1 (Nat.le_of_ble_eq_true rfl) rfl ⟨Nat.zero_le _, Nat.zero_le _⟩ dX2_chainWalker_83) (fun H locs g => ?_)
    refine lv_istore (lv' := [(6, .int (clI F k (suH h) (noH h))), (4, .long (chI (chI (chI (chI (chI (chI d 1) (F k 2)) (F k 3)) (F k 4)) (shI (F k 0) (suH h))) (coI (F k 0) (F k 2) (suH h)))), (0, .ref (gA G 0)), (1, .long (d)), (3, .ref (gA G k))]) hx hb dX2_chainWalker_86 hl (by decide) rfl (fun ls hl => ?_)
    refine lv_aload_n hx hb dX2_chainWalker_88 rfl (lv_at hl 2 rfl) ?_
    refine gP (k := 0) S g 0 (by decide) q90 dX2_chainWalker_89 ?_
    refine lv_iload hx hb dX2_chainWalker_92 (lv_at hl 0 rfl) ?_
    refine g_ci (rest := []) g (g_VN (n := 1) (As := [.int (clI F k (suH h) (noH h))]) S g (c_reinsuredPart l G (F) o 1 (clI F k (suH h) (noH h)) (Or.inl rfl)) (by decide) (cEb G _ o (Or.inl rfl)) rfl qn330 q232 qs11 q2 q233 ⟨by decide +kernel, by decide +kernel, by decide +kernel⟩ rfl ⟨Nat.le_of_ble_eq_true rfl, Nat.le_of_ble_eq_true rfl⟩ hl.1 (Nat.le_of_ble_eq_true rfl) rfl ⟨Nat.zero_le _, Nat.zero_le _⟩ dX2_chainWalker_94) (fun H locs g => ?_)
    refine lv_istore (lv' := [(7, .int (reI (clI F k (suH h) (noH h)) (F 1 3) (F 1 4))), (6, .int (clI F k (suH h) (noH h))), (4, .long (chI (chI (chI (chI (chI (chI d 1) (F k 2)) (F k 3)) (F k 4)) (shI (F k 0) (suH h))) (coI (F k 0) (F k 2) (suH h)))), (0, .ref (gA G 0)), (1, .long (d)), (3, .ref (gA G k))]) hx hb dX2_chainWalker_97 hl (by decide) rfl (fun ls hl => ?_)
    refine lv_lload hx hb dX2_chainWalker_99 (lv_at hl 2 rfl) ?_
    refine lv_iload hx hb dX2_chainWalker_101 (lv_at hl 1 rfl) ?_
    refine lv_iload hx hb dX2_chainWalker_103 (lv_at hl 0 rfl) ?_
    refine lv_isub hx hb dX2_chainWalker_105 ?_
    refine g_cl (rest := []) g (g_S (n := 2) (As := [.long (chI (chI (chI (chI (chI (chI d 1) (F k 2)) (F k 3)) (F k 4)) (shI (F k 0) (suH h))) (coI (F k 0) (F k 2) (suH h))), .int ((clI F k (suH h) (noH h)) - (reI (clI F k (suH h) (noH h)) (F 1 3) (F 1 4)))]) S g (c_chain l G (F) o (chI (chI (chI (chI (chI (chI d 1) (F k 2)) (F k 3)) (F k 4)) (shI (F k 0) (suH h))) (coI (F k 0) (F k 2) (suH h))) ((clI F k (suH h) (noH h)) - (reI (clI F k (suH h) (noH h)) (F 1 3) (F 1 4)))) (lw_S q404 q405 q1 q406) ⟨by decide +kernel, by decide +kernel, by decide +kernel⟩ rfl ⟨Nat.le_of_ble_eq_true rfl, Nat.le_of_ble_eq_true rfl⟩ hl.1 (Nat.le_of_ble_eq_true rfl) rfl ⟨Nat.zero_le _, Nat.zero_le _⟩ dX2_chainWalker_106) (fun H locs g => ?_)
    refine lv_lstore (lv' := [(4, .long (chI (chI (chI (chI (chI (chI (chI d 1) (F k 2)) (F k 3)) (F k 4)) (shI (F k 0) (suH h))) (coI (F k 0) (F k 2) (suH h))) ((clI F k (suH h) (noH h)) - (reI (clI F k (suH h) (noH h)) (F 1 3) (F 1 4))))), (7, .int (reI (clI F k (suH h) (noH h)) (F 1 3) (F 1 4))), (6, .int (clI F k (suH h) (noH h))), (0, .ref (gA G 0)), (1, .long (d)), (3, .ref (gA G k))]) hx hb dX2_chainWalker_109 hl (by decide) rfl (fun ls hl => ?_)
    refine lv_lload hx hb dX2_chainWalker_111 (lv_at hl 0 rfl) ?_
    refine lv_iload hx hb dX2_chainWalker_113 (lv_at hl 1 rfl) ?_
    refine g_cl (rest := []) g (g_S (n := 2) (As := [.long (chI (chI (chI (chI (chI (chI (chI d 1) (F k 2)) (F k 3)) (F k 4)) (shI (F k 0) (suH h))) (coI (F k 0) (F k 2) (suH h))) ((clI F k (suH h) (noH h)) - (reI (clI F k (suH h) (noH h)) (F 1 3) (F 1 4)))), .int (reI (clI F k (suH h) (noH h)) (F 1 3) (F 1 4))]) S g (c_chain l G (F) o (chI (chI (chI (chI (chI (chI (chI d 1) (F k 2)) (F k 3)) (F k 4)) (shI (F k 0) (suH h))) (coI (F k 0) (F k 2) (suH h))) ((clI F k (suH h) (noH h)) - (reI (clI F k (suH h) (noH h)) (F 1 3) (F 1 4)))) (reI (clI F k (suH h) (noH h)) (F 1 3) (F 1 4))) (lw_S q404 q405 q1 q406) ⟨by decide +kernel, by decide +kernel, by decide +kernel⟩ rfl ⟨Nat.le_of_ble_eq_true rfl, Nat.le_of_ble_eq_true rfl⟩ hl.1 (Nat.le_of_ble_eq_true rfl) rfl ⟨Nat.zero_le _, Nat.zero_le _⟩ dX2_chainWalker_115) (fun H locs g => ?_)
    exact e_l S hr hk0 g (by simp only [cwkI, cw5, cw3, c_5, ↓reduceIte]) rfl dX2_chainWalker_118
set_option maxHeartbeats 4000000 in
set_option maxRecDepth 100000 in
theorem c_digest (l : Launch) (G : gT) (F : Fs) (o : Int64) (n : Nat) (h : Nat) (hok : okP F n h) (hn8 : n ≤ 8) (hh2 : h < 2 ^ 29) : ML l yX2_digest cX2_digest 5 7 164 [.ref (gA G 0)] G (F) o (dgF F n h) (dgI F n h) := by
  refine mk_G (own := "ShadowPool") (Qs := (fun sz => QL G (dgF F n h) o (dgI F n h) sz)) (by decide +kernel) rfl (Nat.le_of_ble_eq_true rfl) ?_
  intro p e s m args below meth c ls hr hk0 hnm S g hl
  have hl : lv_has ls 5 [(0, .ref (gA G 0))] := hl
  have hx := S.1
  have hb := S.2.1
  refine lv_ldc2 (v := 2069) hx hb S.2.2.2.1 (S.2.2.2.2 _ q402) dX2_digest_0 ?_
  refine lv_lstore_n (lv' := [(1, .long (2069)), (0, .ref (gA G 0))]) hx hb dX2_digest_3 rfl hl (by decide) rfl (fun ls hl => ?_)
  refine lv_lload_n hx hb dX2_digest_4 rfl (lv_at hl 0 rfl) ?_
  refine lv_aload_n hx hb dX2_digest_5 rfl (lv_at hl 1 rfl) ?_
  refine g_ci (rest := [.long (2069)]) g (g_V (n := 0) (As := []) S g (c_hour l G (F) o ) (by decide) (cE0 G _ o) rfl (lw_V q403 q241 q242 q1 q243) ⟨rfl, by decide +kernel, by decide +kernel, by decide +kernel⟩ rfl ⟨Nat.le_of_ble_eq_true rfl, Nat.le_of_ble_eq_true rfl⟩ hl.1 (Nat.le_of_ble_eq_true rfl) rfl ⟨Nat.zero_le _, Nat.zero_le _⟩ dX2_digest_6) (fun H locs g => ?_)
  refine g_cl (rest := []) g (g_S (n := 2) (As := [.long (2069), .int (F 1 0)]) S g (c_chain l G (F) o 2069 (F 1 0)) (lw_S q404 q405 q1 q406) ⟨by decide +kernel, by decide +kernel, by decide +kernel⟩ rfl ⟨Nat.le_of_ble_eq_true rfl, Nat.le_of_ble_eq_true rfl⟩ hl.1 (Nat.le_of_ble_eq_true rfl) rfl ⟨Nat.zero_le _, Nat.zero_le _⟩ dX2_digest_9) (fun H locs g => ?_)
  refine lv_lstore_n (lv' := [(1, .long (chI 2069 (F 1 0))), (0, .ref (gA G 0))]) hx hb dX2_digest_12 rfl hl (by decide) rfl (fun ls hl => ?_)
  refine lv_lload_n hx hb dX2_digest_13 rfl (lv_at hl 0 rfl) ?_
  refine lv_aload_n hx hb dX2_digest_14 rfl (lv_at hl 1 rfl) ?_
  refine g_ci (rest := [.long (chI 2069 (F 1 0))]) g (g_V (n := 0) (As := []) S g (c_sun l G (F) o h hok.2.1 hh2) (by decide) (cE0 G _ o) rfl (lw_V q305 q245 q246 q1 q247) ⟨rfl, by decide +kernel, by decide +kernel, by decide +kernel⟩ rfl ⟨Nat.le_of_ble_eq_true rfl, Nat.le_of_ble_eq_true rfl⟩ hl.1 (Nat.le_of_ble_eq_true rfl) rfl ⟨Nat.zero_le _, Nat.zero_le _⟩ dX2_digest_15) (fun H locs g => ?_)
  refine g_cl (rest := []) g (g_S (n := 2) (As := [.long (chI 2069 (F 1 0)), .int (suH h)]) S g (c_chain l G (F) o (chI 2069 (F 1 0)) (suH h)) (lw_S q404 q405 q1 q406) ⟨by decide +kernel, by decide +kernel, by decide +kernel⟩ rfl ⟨Nat.le_of_ble_eq_true rfl, Nat.le_of_ble_eq_true rfl⟩ hl.1 (Nat.le_of_ble_eq_true rfl) rfl ⟨Nat.zero_le _, Nat.zero_le _⟩ dX2_digest_18) (fun H locs g => ?_)
  refine lv_lstore_n (lv' := [(1, .long (chI (chI 2069 (F 1 0)) (suH h))), (0, .ref (gA G 0))]) hx hb dX2_digest_21 rfl hl (by decide) rfl (fun ls hl => ?_)
  refine lv_lload_n hx hb dX2_digest_22 rfl (lv_at hl 0 rfl) ?_
  refine lv_aload_n hx hb dX2_digest_23 rfl (lv_at hl 1 rfl) ?_
  refine g_ci (rest := [.long (chI (chI 2069 (F 1 0)) (suH h))]) g (g_V (n := 0) (As := []) S g (c_walkers l G (F) o ) (by decide) (cE0 G _ o) rfl (lw_V q408 q260 q261 q1 q262) ⟨rfl, by decide +kernel, by decide +kernel, by decide +kernel⟩ rfl ⟨Nat.le_of_ble_eq_true rfl, Nat.le_of_ble_eq_true rfl⟩ hl.1 (Nat.le_of_ble_eq_true rfl) rfl ⟨Nat.zero_le _, Nat.zero_le _⟩ dX2_digest_24) (fun H locs g => ?_)
  refine g_cl (rest := []) g (g_S (n := 2) (As := [.long (chI (chI 2069 (F 1 0)) (suH h)), .int (F 1 6)]) S g (c_chain l G (F) o (chI (chI 2069 (F 1 0)) (suH h)) (F 1 6)) (lw_S q404 q405 q1 q406) ⟨by decide +kernel, by decide +kernel, by decide +kernel⟩ rfl ⟨Nat.le_of_ble_eq_true rfl, Nat.le_of_ble_eq_true rfl⟩ hl.1 (Nat.le_of_ble_eq_true rfl) rfl ⟨Nat.zero_le _, Nat.zero_le _⟩ dX2_digest_27) (fun H locs g => ?_)
  refine lv_lstore_n (lv' := [(1, .long (chI (chI (chI 2069 (F 1 0)) (suH h)) (F 1 6))), (0, .ref (gA G 0))]) hx hb dX2_digest_30 rfl hl (by decide) rfl (fun ls hl => ?_)
  refine lv_lload_n hx hb dX2_digest_31 rfl (lv_at hl 0 rfl) ?_
  refine lv_aload_n hx hb dX2_digest_32 rfl (lv_at hl 1 rfl) ?_
  refine g_ci (rest := [.long (chI (chI (chI 2069 (F 1 0)) (suH h)) (F 1 6))]) g (g_V (n := 0) (As := []) S g (c_members l G (F) o n hok.1 hn8) (by decide) (cE0 G _ o) rfl (lw_V q409 q264 q265 q1 q266) ⟨rfl, by decide +kernel, by decide +kernel, by decide +kernel⟩ rfl ⟨Nat.le_of_ble_eq_true rfl, Nat.le_of_ble_eq_true rfl⟩ hl.1 (Nat.le_of_ble_eq_true rfl) rfl ⟨Nat.zero_le _, Nat.zero_le _⟩ dX2_digest_33) (fun H locs g => ?_)
  refine g_cl (rest := []) g (g_S (n := 2) (As := [.long (chI (chI (chI 2069 (F 1 0)) (suH h)) (F 1 6)), .int (cmL F 1 n 0 0)]) S g (c_chain l G (F) o (chI (chI (chI 2069 (F 1 0)) (suH h)) (F 1 6)) (cmL F 1 n 0 0)) (lw_S q404 q405 q1 q406) ⟨by decide +kernel, by decide +kernel, by decide +kernel⟩ rfl ⟨Nat.le_of_ble_eq_true rfl, Nat.le_of_ble_eq_true rfl⟩ hl.1 (Nat.le_of_ble_eq_true rfl) rfl ⟨Nat.zero_le _, Nat.zero_le _⟩ dX2_digest_36) (fun H locs g => ?_)
  refine lv_lstore_n (lv' := [(1, .long (chI (chI (chI (chI 2069 (F 1 0)) (suH h)) (F 1 6)) (cmL F 1 n 0 0))), (0, .ref (gA G 0))]) hx hb dX2_digest_39 rfl hl (by decide) rfl (fun ls hl => ?_)
  refine lv_lload_n hx hb dX2_digest_40 rfl (lv_at hl 0 rfl) ?_
  refine lv_aload_n hx hb dX2_digest_41 rfl (lv_at hl 1 rfl) ?_
  refine g_ci (rest := [.long (chI (chI (chI (chI 2069 (F 1 0)) (suH h)) (F 1 6)) (cmL F 1 n 0 0))]) g (g_V (n := 0) (As := []) S g (c_fund l G (F) o ) (by decide) (cE0 G _ o) rfl (lw_V q410 q336 q337 q1 q338) ⟨rfl, by decide +kernel, by decide +kernel, by decide +kernel⟩ rfl ⟨Nat.le_of_ble_eq_true rfl, Nat.le_of_ble_eq_true rfl⟩ hl.1 (Nat.le_of_ble_eq_true rfl) rfl ⟨Nat.zero_le _, Nat.zero_le _⟩ dX2_digest_42) (fun H locs g => ?_)
  refine g_cl (rest := []) g (g_S (n := 2) (As := [.long (chI (chI (chI (chI 2069 (F 1 0)) (suH h)) (F 1 6)) (cmL F 1 n 0 0)), .int (F 1 1)]) S g (c_chain l G (F) o (chI (chI (chI (chI 2069 (F 1 0)) (suH h)) (F 1 6)) (cmL F 1 n 0 0)) (F 1 1)) (lw_S q404 q405 q1 q406) ⟨by decide +kernel, by decide +kernel, by decide +kernel⟩ rfl ⟨Nat.le_of_ble_eq_true rfl, Nat.le_of_ble_eq_true rfl⟩ hl.1 (Nat.le_of_ble_eq_true rfl) rfl ⟨Nat.zero_le _, Nat.zero_le _⟩ dX2_digest_45) (fun H locs g => ?_)
  refine lv_lstore_n (lv' := [(1, .long (chI (chI (chI (chI (chI 2069 (F 1 0)) (suH h)) (F 1 6)) (cmL F 1 n 0 0)) (F 1 1))), (0, .ref (gA G 0))]) hx hb dX2_digest_48 rfl hl (by decide) rfl (fun ls hl => ?_)
  refine lv_lload_n hx hb dX2_digest_49 rfl (lv_at hl 0 rfl) ?_
  refine lv_aload_n hx hb dX2_digest_50 rfl (lv_at hl 1 rfl) ?_
  refine g_ci (rest := [.long (chI (chI (chI (chI (chI 2069 (F 1 0)) (suH h)) (F 1 6)) (cmL F 1 n 0 0)) (F 1 1))]) g (g_V (n := 0) (As := []) S g (c_rate l G (F) o ) (by decide) (cE0 G _ o) rfl (lw_V q411 q340 q341 q1 q342) ⟨rfl, by decide +kernel, by decide +kernel, by decide +kernel⟩ rfl ⟨Nat.le_of_ble_eq_true rfl, Nat.le_of_ble_eq_true rfl⟩ hl.1 (Nat.le_of_ble_eq_true rfl) rfl ⟨Nat.zero_le _, Nat.zero_le _⟩ dX2_digest_51) (fun H locs g => ?_)
  refine g_cl (rest := []) g (g_S (n := 2) (As := [.long (chI (chI (chI (chI (chI 2069 (F 1 0)) (suH h)) (F 1 6)) (cmL F 1 n 0 0)) (F 1 1)), .int (F 1 2)]) S g (c_chain l G (F) o (chI (chI (chI (chI (chI 2069 (F 1 0)) (suH h)) (F 1 6)) (cmL F 1 n 0 0)) (F 1 1)) (F 1 2)) (lw_S q404 q405 q1 q406) ⟨by decide +kernel, by decide +kernel, by decide +kernel⟩ rfl ⟨Nat.le_of_ble_eq_true rfl, Nat.le_of_ble_eq_true rfl⟩ hl.1 (Nat.le_of_ble_eq_true rfl) rfl ⟨Nat.zero_le _, Nat.zero_le _⟩ dX2_digest_54) (fun H locs g => ?_)
  refine lv_lstore_n (lv' := [(1, .long (chI (chI (chI (chI (chI (chI 2069 (F 1 0)) (suH h)) (F 1 6)) (cmL F 1 n 0 0)) (F 1 1)) (F 1 2))), (0, .ref (gA G 0))]) hx hb dX2_digest_57 rfl hl (by decide) rfl (fun ls hl => ?_)
  refine lv_lload_n hx hb dX2_digest_58 rfl (lv_at hl 0 rfl) ?_
  refine lv_aload_n hx hb dX2_digest_59 rfl (lv_at hl 1 rfl) ?_
  refine g_ci (rest := [.long (chI (chI (chI (chI (chI (chI 2069 (F 1 0)) (suH h)) (F 1 6)) (cmL F 1 n 0 0)) (F 1 1)) (F 1 2))]) g (g_V (n := 0) (As := []) S g (c_retention l G (F) o ) (by decide) (cE0 G _ o) rfl (lw_V q412 q344 q345 q1 q346) ⟨rfl, by decide +kernel, by decide +kernel, by decide +kernel⟩ rfl ⟨Nat.le_of_ble_eq_true rfl, Nat.le_of_ble_eq_true rfl⟩ hl.1 (Nat.le_of_ble_eq_true rfl) rfl ⟨Nat.zero_le _, Nat.zero_le _⟩ dX2_digest_60) (fun H locs g => ?_)
  refine g_cl (rest := []) g (g_S (n := 2) (As := [.long (chI (chI (chI (chI (chI (chI 2069 (F 1 0)) (suH h)) (F 1 6)) (cmL F 1 n 0 0)) (F 1 1)) (F 1 2)), .int (F 1 3)]) S g (c_chain l G (F) o (chI (chI (chI (chI (chI (chI 2069 (F 1 0)) (suH h)) (F 1 6)) (cmL F 1 n 0 0)) (F 1 1)) (F 1 2)) (F 1 3)) (lw_S q404 q405 q1 q406) ⟨by decide +kernel, by decide +kernel, by decide +kernel⟩ rfl ⟨Nat.le_of_ble_eq_true rfl, Nat.le_of_ble_eq_true rfl⟩ hl.1 (Nat.le_of_ble_eq_true rfl) rfl ⟨Nat.zero_le _, Nat.zero_le _⟩ dX2_digest_63) (fun H locs g => ?_)
  refine lv_lstore_n (lv' := [(1, .long (chI (chI (chI (chI (chI (chI (chI 2069 (F 1 0)) (suH h)) (F 1 6)) (cmL F 1 n 0 0)) (F 1 1)) (F 1 2)) (F 1 3))), (0, .ref (gA G 0))]) hx hb dX2_digest_66 rfl hl (by decide) rfl (fun ls hl => ?_)
  refine lv_lload_n hx hb dX2_digest_67 rfl (lv_at hl 0 rfl) ?_
  refine lv_aload_n hx hb dX2_digest_68 rfl (lv_at hl 1 rfl) ?_
  refine g_ci (rest := [.long (chI (chI (chI (chI (chI (chI (chI 2069 (F 1 0)) (suH h)) (F 1 6)) (cmL F 1 n 0 0)) (F 1 1)) (F 1 2)) (F 1 3))]) g (g_V (n := 0) (As := []) S g (c_limit l G (F) o ) (by decide) (cE0 G _ o) rfl (lw_V q413 q348 q349 q1 q350) ⟨rfl, by decide +kernel, by decide +kernel, by decide +kernel⟩ rfl ⟨Nat.le_of_ble_eq_true rfl, Nat.le_of_ble_eq_true rfl⟩ hl.1 (Nat.le_of_ble_eq_true rfl) rfl ⟨Nat.zero_le _, Nat.zero_le _⟩ dX2_digest_69) (fun H locs g => ?_)
  refine g_cl (rest := []) g (g_S (n := 2) (As := [.long (chI (chI (chI (chI (chI (chI (chI 2069 (F 1 0)) (suH h)) (F 1 6)) (cmL F 1 n 0 0)) (F 1 1)) (F 1 2)) (F 1 3)), .int (F 1 4)]) S g (c_chain l G (F) o (chI (chI (chI (chI (chI (chI (chI 2069 (F 1 0)) (suH h)) (F 1 6)) (cmL F 1 n 0 0)) (F 1 1)) (F 1 2)) (F 1 3)) (F 1 4)) (lw_S q404 q405 q1 q406) ⟨by decide +kernel, by decide +kernel, by decide +kernel⟩ rfl ⟨Nat.le_of_ble_eq_true rfl, Nat.le_of_ble_eq_true rfl⟩ hl.1 (Nat.le_of_ble_eq_true rfl) rfl ⟨Nat.zero_le _, Nat.zero_le _⟩ dX2_digest_72) (fun H locs g => ?_)
  refine lv_lstore_n (lv' := [(1, .long (chI (chI (chI (chI (chI (chI (chI (chI 2069 (F 1 0)) (suH h)) (F 1 6)) (cmL F 1 n 0 0)) (F 1 1)) (F 1 2)) (F 1 3)) (F 1 4))), (0, .ref (gA G 0))]) hx hb dX2_digest_75 rfl hl (by decide) rfl (fun ls hl => ?_)
  refine lv_lload_n hx hb dX2_digest_76 rfl (lv_at hl 0 rfl) ?_
  refine lv_aload_n hx hb dX2_digest_77 rfl (lv_at hl 1 rfl) ?_
  refine g_ci (rest := [.long (chI (chI (chI (chI (chI (chI (chI (chI 2069 (F 1 0)) (suH h)) (F 1 6)) (cmL F 1 n 0 0)) (F 1 1)) (F 1 2)) (F 1 3)) (F 1 4))]) g (g_V (n := 0) (As := []) S g (c_reinsurersLoss l G (F) o ) (by decide) (cE0 G _ o) rfl (lw_V q414 q352 q353 q1 q354) ⟨rfl, by decide +kernel, by decide +kernel, by decide +kernel⟩ rfl ⟨Nat.le_of_ble_eq_true rfl, Nat.le_of_ble_eq_true rfl⟩ hl.1 (Nat.le_of_ble_eq_true rfl) rfl ⟨Nat.zero_le _, Nat.zero_le _⟩ dX2_digest_78) (fun H locs g => ?_)
  refine g_cl (rest := []) g (g_S (n := 2) (As := [.long (chI (chI (chI (chI (chI (chI (chI (chI 2069 (F 1 0)) (suH h)) (F 1 6)) (cmL F 1 n 0 0)) (F 1 1)) (F 1 2)) (F 1 3)) (F 1 4)), .int (F 1 5)]) S g (c_chain l G (F) o (chI (chI (chI (chI (chI (chI (chI (chI 2069 (F 1 0)) (suH h)) (F 1 6)) (cmL F 1 n 0 0)) (F 1 1)) (F 1 2)) (F 1 3)) (F 1 4)) (F 1 5)) (lw_S q404 q405 q1 q406) ⟨by decide +kernel, by decide +kernel, by decide +kernel⟩ rfl ⟨Nat.le_of_ble_eq_true rfl, Nat.le_of_ble_eq_true rfl⟩ hl.1 (Nat.le_of_ble_eq_true rfl) rfl ⟨Nat.zero_le _, Nat.zero_le _⟩ dX2_digest_81) (fun H locs g => ?_)
  refine lv_lstore_n (lv' := [(1, .long (chI (chI (chI (chI (chI (chI (chI (chI (chI 2069 (F 1 0)) (suH h)) (F 1 6)) (cmL F 1 n 0 0)) (F 1 1)) (F 1 2)) (F 1 3)) (F 1 4)) (F 1 5))), (0, .ref (gA G 0))]) hx hb dX2_digest_84 rfl hl (by decide) rfl (fun ls hl => ?_)
  refine lv_lload_n hx hb dX2_digest_85 rfl (lv_at hl 0 rfl) ?_
  refine lv_aload_n hx hb dX2_digest_86 rfl (lv_at hl 1 rfl) ?_
  refine g_ci (rest := [.long (chI (chI (chI (chI (chI (chI (chI (chI (chI 2069 (F 1 0)) (suH h)) (F 1 6)) (cmL F 1 n 0 0)) (F 1 1)) (F 1 2)) (F 1 3)) (F 1 4)) (F 1 5))]) g (g_V (n := 0) (As := []) S g (c_nextToFall l G (F) o n h hok hn8 hh2) (by decide) (cE0 G _ o) rfl (lw_V q415 q367 q368 q1 q369) ⟨rfl, by decide +kernel, by decide +kernel, by decide +kernel⟩ rfl ⟨Nat.le_of_ble_eq_true rfl, Nat.le_of_ble_eq_true rfl⟩ hl.1 (Nat.le_of_ble_eq_true rfl) rfl ⟨Nat.zero_le _, Nat.zero_le _⟩ dX2_digest_87) (fun H locs g => ?_)
  refine g_cl (rest := []) g (g_S (n := 2) (As := [.long (chI (chI (chI (chI (chI (chI (chI (chI (chI 2069 (F 1 0)) (suH h)) (F 1 6)) (cmL F 1 n 0 0)) (F 1 1)) (F 1 2)) (F 1 3)) (F 1 4)) (F 1 5)), .int (nfL F h n 0 (-1) 101)]) S g (c_chain l G (F) o (chI (chI (chI (chI (chI (chI (chI (chI (chI 2069 (F 1 0)) (suH h)) (F 1 6)) (cmL F 1 n 0 0)) (F 1 1)) (F 1 2)) (F 1 3)) (F 1 4)) (F 1 5)) (nfL F h n 0 (-1) 101)) (lw_S q404 q405 q1 q406) ⟨by decide +kernel, by decide +kernel, by decide +kernel⟩ rfl ⟨Nat.le_of_ble_eq_true rfl, Nat.le_of_ble_eq_true rfl⟩ hl.1 (Nat.le_of_ble_eq_true rfl) rfl ⟨Nat.zero_le _, Nat.zero_le _⟩ dX2_digest_90) (fun H locs g => ?_)
  refine lv_lstore_n (lv' := [(1, .long (chI (chI (chI (chI (chI (chI (chI (chI (chI (chI 2069 (F 1 0)) (suH h)) (F 1 6)) (cmL F 1 n 0 0)) (F 1 1)) (F 1 2)) (F 1 3)) (F 1 4)) (F 1 5)) (nfL F h n 0 (-1) 101))), (0, .ref (gA G 0))]) hx hb dX2_digest_93 rfl hl (by decide) rfl (fun ls hl => ?_)
  refine lv_lload_n hx hb dX2_digest_94 rfl (lv_at hl 0 rfl) ?_
  refine lv_aload_n hx hb dX2_digest_95 rfl (lv_at hl 1 rfl) ?_
  refine g_ci (rest := [.long (chI (chI (chI (chI (chI (chI (chI (chI (chI (chI 2069 (F 1 0)) (suH h)) (F 1 6)) (cmL F 1 n 0 0)) (F 1 1)) (F 1 2)) (F 1 3)) (F 1 4)) (F 1 5)) (nfL F h n 0 (-1) 101))]) g (g_V (n := 0) (As := []) S g (c_bestLimit l G (F) o n h hok hn8 hh2) (by decide) (cE0 G _ o) rfl (lw_V q416 q391 q392 q1 q393) ⟨rfl, by decide +kernel, by decide +kernel, by decide +kernel⟩ rfl ⟨Nat.le_of_ble_eq_true rfl, Nat.le_of_ble_eq_true rfl⟩ hl.1 (Nat.le_of_ble_eq_true rfl) rfl ⟨Nat.zero_le _, Nat.zero_le _⟩ dX2_digest_96) (fun H locs g => ?_)
  refine g_cl (rest := []) g (g_S (n := 2) (As := [.long (chI (chI (chI (chI (chI (chI (chI (chI (chI (chI 2069 (F 1 0)) (suH h)) (F 1 6)) (cmL F 1 n 0 0)) (F 1 1)) (F 1 2)) (F 1 3)) (F 1 4)) (F 1 5)) (nfL F h n 0 (-1) 101)), .int ((beF F n h).1)]) S g (c_chain l G ((beF F n h).2) o (chI (chI (chI (chI (chI (chI (chI (chI (chI (chI 2069 (F 1 0)) (suH h)) (F 1 6)) (cmL F 1 n 0 0)) (F 1 1)) (F 1 2)) (F 1 3)) (F 1 4)) (F 1 5)) (nfL F h n 0 (-1) 101)) ((beF F n h).1)) (lw_S q404 q405 q1 q406) ⟨by decide +kernel, by decide +kernel, by decide +kernel⟩ rfl ⟨Nat.le_of_ble_eq_true rfl, Nat.le_of_ble_eq_true rfl⟩ hl.1 (Nat.le_of_ble_eq_true rfl) rfl ⟨Nat.zero_le _, Nat.zero_le _⟩ dX2_digest_99) (fun H locs g => ?_)
  refine lv_lstore_n (lv' := [(1, .long (chI (chI (chI (chI (chI (chI (chI (chI (chI (chI (chI 2069 (F 1 0)) (suH h)) (F 1 6)) (cmL F 1 n 0 0)) (F 1 1)) (F 1 2)) (F 1 3)) (F 1 4)) (F 1 5)) (nfL F h n 0 (-1) 101)) ((beF F n h).1))), (0, .ref (gA G 0))]) hx hb dX2_digest_102 rfl hl (by decide) rfl (fun ls hl => ?_)
  refine lv_lload_n hx hb dX2_digest_103 rfl (lv_at hl 0 rfl) ?_
  refine lv_aload_n hx hb dX2_digest_104 rfl (lv_at hl 1 rfl) ?_
  refine g_ci (rest := [.long (chI (chI (chI (chI (chI (chI (chI (chI (chI (chI (chI 2069 (F 1 0)) (suH h)) (F 1 6)) (cmL F 1 n 0 0)) (F 1 1)) (F 1 2)) (F 1 3)) (F 1 4)) (F 1 5)) (nfL F h n 0 (-1) 101)) ((beF F n h).1))]) g (g_V (n := 0) (As := []) S g (c_fairRate l G (((beF F n h).2)) o n h (beF_ok hok) hn8 hh2) (by decide) (cE0 G _ o) rfl (lw_V q417 q395 q396 q1 q397) ⟨rfl, by decide +kernel, by decide +kernel, by decide +kernel⟩ rfl ⟨Nat.le_of_ble_eq_true rfl, Nat.le_of_ble_eq_true rfl⟩ hl.1 (Nat.le_of_ble_eq_true rfl) rfl ⟨Nat.zero_le _, Nat.zero_le _⟩ dX2_digest_105) (fun H locs g => ?_)
  rw [show (fiF (((beF F n h).2)) n h).2 = dgF F n h from rfl] at g
  refine g_cl (rest := []) g (g_S (n := 2) (As := [.long (chI (chI (chI (chI (chI (chI (chI (chI (chI (chI (chI 2069 (F 1 0)) (suH h)) (F 1 6)) (cmL F 1 n 0 0)) (F 1 1)) (F 1 2)) (F 1 3)) (F 1 4)) (F 1 5)) (nfL F h n 0 (-1) 101)) ((beF F n h).1)), .int ((fiF (((beF F n h).2)) n h).1)]) S g (c_chain l G (dgF F n h) o (chI (chI (chI (chI (chI (chI (chI (chI (chI (chI (chI 2069 (F 1 0)) (suH h)) (F 1 6)) (cmL F 1 n 0 0)) (F 1 1)) (F 1 2)) (F 1 3)) (F 1 4)) (F 1 5)) (nfL F h n 0 (-1) 101)) ((beF F n h).1)) ((fiF (((beF F n h).2)) n h).1)) (lw_S q404 q405 q1 q406) ⟨by decide +kernel, by decide +kernel, by decide +kernel⟩ rfl ⟨Nat.le_of_ble_eq_true rfl, Nat.le_of_ble_eq_true rfl⟩ hl.1 (Nat.le_of_ble_eq_true rfl) rfl ⟨Nat.zero_le _, Nat.zero_le _⟩ dX2_digest_108) (fun H locs g => ?_)
  refine lv_lstore_n (lv' := [(1, .long (chI (chI (chI (chI (chI (chI (chI (chI (chI (chI (chI (chI 2069 (F 1 0)) (suH h)) (F 1 6)) (cmL F 1 n 0 0)) (F 1 1)) (F 1 2)) (F 1 3)) (F 1 4)) (F 1 5)) (nfL F h n 0 (-1) 101)) ((beF F n h).1)) ((fiF (((beF F n h).2)) n h).1))), (0, .ref (gA G 0))]) hx hb dX2_digest_111 rfl hl (by decide) rfl (fun ls hl => ?_)
  refine lv_iconst (v := 0) hx hb dX2_digest_112 (by decide) ?_
  refine lv_istore_n (lv' := [(3, .int 0), (1, .long (chI (chI (chI (chI (chI (chI (chI (chI (chI (chI (chI (chI 2069 (F 1 0)) (suH h)) (F 1 6)) (cmL F 1 n 0 0)) (F 1 1)) (F 1 2)) (F 1 3)) (F 1 4)) (F 1 5)) (nfL F h n 0 (-1) 101)) ((beF F n h).1)) ((fiF (((beF F n h).2)) n h).1))), (0, .ref (gA G 0))]) hx hb dX2_digest_113 rfl hl (by decide) rfl (fun ls hl => ?_)
  have loop114 : ∀ (n_ : Nat) (i : Nat) (d : Int64) (H : Heap) (locs : List Loc) (ls : Array Slot) (hi : i + n_ = n) (hok1 : okP (dgF F n h) n h) (hres : dgL (dgF F n h) (suH h) (noH h) n_ i d = dgI F n h), GB G (dgF F n h) o [] [] s H locs → lv_has ls 5 [(0, .ref (gA G 0)), (1, .long (d)), (3, .int (nI i))] → W p l e (rmG 7 164) s m args below meth c H locs 0 0 (MQ below (QL G (dgF F n h) o (dgI F n h) s.heap.size) args s 0 0 (GA G s.heap.size)) (F0 m 114 ls []) := by
    intro n_
    induction n_ with
    | zero =>
      intro i d H locs ls hi hok1 hres g hl
      refine lv_iload_n hx hb dX2_digest_114 rfl (lv_at hl 2 rfl) ?_
      refine lv_aload_n hx hb dX2_digest_115 rfl (lv_at hl 0 rfl) ?_
      refine gP (k := 0) S g 0 (by decide) q90 dX2_digest_116 ?_
      refine gBN (k := 1) S g (Or.inl rfl) 6 (by decide) qn71 dX2_digest_119 ?_
      rw [show ((dgF F n h) 1 6 : Int32) = nI n from hok1.1]
      refine lv_icmp_ge (tgt := 158) hx hb dX2_digest_122 (by decide) (fun c_122 => ?_) (fun c9 => absurd (nI_le (by omega) (by omega)) c9)
      refine lv_lload_n hx hb dX2_digest_158 rfl (lv_at hl 1 rfl) ?_
      exact e_l S hr hk0 g hres rfl dX2_digest_159
    | succ n_ ih_114 =>
      intro i d H locs ls hi hok1 hres g hl
      refine lv_iload_n hx hb dX2_digest_114 rfl (lv_at hl 2 rfl) ?_
      refine lv_aload_n hx hb dX2_digest_115 rfl (lv_at hl 0 rfl) ?_
      refine gP (k := 0) S g 0 (by decide) q90 dX2_digest_116 ?_
      refine gBN (k := 1) S g (Or.inl rfl) 6 (by decide) qn71 dX2_digest_119 ?_
      rw [show ((dgF F n h) 1 6 : Int32) = nI n from hok1.1]
      refine lv_icmp_ge (tgt := 158) hx hb dX2_digest_122 (by decide) (fun c9 => absurd c9 (nI_ge (by omega) (by omega))) (fun c_122 => ?_)
      refine lv_aload_n hx hb dX2_digest_125 rfl (lv_at hl 0 rfl) ?_
      refine gP (k := 0) S g 0 (by decide) q90 dX2_digest_126 ?_
      refine lv_iload_n hx hb dX2_digest_129 rfl (lv_at hl 2 rfl) ?_
      refine g_cn (rest := []) g rfl (g_VN (n := 1) (As := [.int (nI i)]) S g (c_find_ok l G (dgF F n h) o 1 i n (Or.inl rfl) hok1.1 (by omega) hn8) (by decide) (cEb G _ o (Or.inl rfl)) rfl qn272 q196 qs5 q2 q197 ⟨by decide +kernel, by decide +kernel, by decide +kernel⟩ rfl ⟨Nat.le_of_ble_eq_true rfl, Nat.le_of_ble_eq_true rfl⟩ hl.1 (Nat.le_of_ble_eq_true rfl) rfl ⟨Nat.zero_le _, Nat.zero_le _⟩ dX2_digest_130) (fun H locs g => ?_)
      refine lv_astore (lv' := [(4, .ref (gA G (wb 1 i))), (0, .ref (gA G 0)), (1, .long (d)), (3, .int (nI i))]) hx hb dX2_digest_133 hl (by decide) rfl (fun ls hl => ?_)
      refine lv_aload hx hb dX2_digest_135 (lv_at hl 0 rfl) ?_
      refine lv_ifnonnull (tgt := 144) hx hb dX2_digest_137 (by decide) ?_
      refine lv_aload_n hx hb dX2_digest_144 rfl (lv_at hl 1 rfl) ?_
      refine lv_lload_n hx hb dX2_digest_145 rfl (lv_at hl 2 rfl) ?_
      refine lv_aload hx hb dX2_digest_146 (lv_at hl 0 rfl) ?_
      refine g_cl (rest := []) g (g_V (n := 2) (As := [.long (d), .ref (gA G (wb 1 i))]) S g (c_chainWalker l G ((dgF F n h)) o (wb 1 i) h d (wb_lo (Or.inl rfl) _) (wb_hi (Or.inl rfl) (by omega)) hok1.2.1 hh2) (by decide) (cE0 G _ o) rfl (lw_V q418 q420 qs18 q1 q421) ⟨rfl, by decide +kernel, by decide +kernel, by decide +kernel⟩ rfl ⟨Nat.le_of_ble_eq_true rfl, Nat.le_of_ble_eq_true rfl⟩ hl.1 (Nat.le_of_ble_eq_true rfl) rfl ⟨Nat.zero_le _, Nat.zero_le _⟩ dX2_digest_148) (fun H locs g => ?_)
      refine lv_lstore_n (lv' := [(1, .long (cwkI ((dgF F n h)) (wb 1 i) (suH h) (noH h) d)), (4, .ref (gA G (wb 1 i))), (0, .ref (gA G 0)), (3, .int (nI i))]) hx hb dX2_digest_151 rfl hl (by decide) rfl (fun ls hl => ?_)
      refine lv_iinc (v := nI (i + 1)) (lv' := [(3, .int (nI (i + 1))), (1, .long (cwkI ((dgF F n h)) (wb 1 i) (suH h) (noH h) d)), (4, .ref (gA G (wb 1 i))), (0, .ref (gA G 0))]) hx hb dX2_digest_152 hl (k := 3) rfl (nI_1 i) (by decide) rfl (fun ls hl => ?_)
      refine lv_goto (tgt := 114) hx hb dX2_digest_155 (by decide) ?_
      exact ih_114 (i + 1) _ _ _ _ (by omega) hok1 hres g (lv_sub hl [3, 1, 0] rfl)
  exact loop114 n 0 _ _ _ _ (by omega) (fiF_ok (beF_ok hok)) rfl g (lv_sub hl [2, 1, 0] rfl)
end
section
/-! calls that throw, and the law's helpers that catch -/
theorem inR_N {t lo hi : Nat} (h1 : lo ≤ t) (h2 : t ≤ hi) (h3 : hi < 2 ^ 31) : ¬ inR (nI t) (nI lo) (nI hi) = 0 := by
  unfold inR
  rw [if_neg (nI_nlt h1 (by omega)), if_neg (nI_nlt h2 h3)]
  decide
abbrev xNs : List String := ["java/lang/RuntimeException", "java/lang/Exception"]
theorem atIA : ∀ w ∈ (vx_atS "ShadowPool" 27 xIA xNs).filter goodWord, w ∈ tables_1 := by decide +kernel
theorem atIS : ∀ w ∈ (vx_atS "ShadowPool" 42 xIS xNs).filter goodWord, w ∈ tables_1 := by decide +kernel
theorem atIB : ∀ w ∈ (vx_atS "ShadowPool" 51 xIB xNs).filter goodWord, w ∈ tables_1 := by decide +kernel
theorem ngIA : ∀ w ∈ (vx_atS "ShadowPool" 27 xIA xNs).filter (fun w => !goodWord w), w ∈ [Cond.castable xIA xIA, Cond.declares yRE, Cond.declares yEE, Cond.declares yTE] := by decide +kernel
theorem ngIS : ∀ w ∈ (vx_atS "ShadowPool" 42 xIS xNs).filter (fun w => !goodWord w), w ∈ [Cond.castable xIS xIS, Cond.declares yRE, Cond.declares yEE, Cond.declares yTE] := by decide +kernel
theorem ngIB : ∀ w ∈ (vx_atS "ShadowPool" 51 xIB xNs).filter (fun w => !goodWord w), w ∈ [Cond.castable xIB xIB, Cond.declares yRE, Cond.declares yEE, Cond.declares yTE] := by decide +kernel
theorem otIA : ∀ w ∈ Cond.classLink "ShadowPool" 23 xIA :: Cond.initialized xIA :: vx_atS "ShadowPool" 27 xIA xNs, vx_ot w = true := by decide +kernel
theorem otIS : ∀ w ∈ Cond.classLink "ShadowPool" 38 xIS :: Cond.initialized xIS :: vx_atS "ShadowPool" 42 xIS xNs, vx_ot w = true := by decide +kernel
theorem otIB : ∀ w ∈ Cond.classLink "ShadowPool" 47 xIB :: Cond.initialized xIB :: vx_atS "ShadowPool" 51 xIB xNs, vx_ot w = true := by decide +kernel
abbrev rmX (f n : Nat) : Room := { frames := f, cells := 1, slots := 6, locals := n }
abbrev QX (G : gT) (sz : Nat) : Array Value → State → Outcome → State → Prop := va_Qi (fun (_ : Int32) (_ : Unit) => False) (fun _ _ => True) (GA G sz)
abbrev XE (G : gT) (F : Fs) (o : Int64) (EX : String) (sz : Nat) : String → State → State → Prop := vx_X (fun (_ : Unit) => True) (fun E _ t => E = EX ∧ va_P G.1 vwCl (wld G F o) t.heap) (GA G sz)
/-- a method that throws EX here and leaves the world as it was -/
abbrev MX (l : Launch) (y : MethodName) (b : ByteArray) (n : Nat) (ret : Option FieldType) (f k : Nat) (vs : List Value) (G : gT) (F : Fs) (o : Int64) (EX : String) : Prop := ∀ sz : Nat, vx_Met l y (wsG y b n ret) (rmX f k) (va_Pc vs (preG G F o sz)) (QX G sz) (XE G F o EX sz) 1 6 (GA G sz)
theorem mk_X {l : Launch} {y : MethodName} {b : ByteArray} {n : Nat} {ret : Option FieldType} {f k : Nat} {vs : List Value} {G : gT} {F : Fs} {o : Int64} {own EX : String}
    (hy : plainName y.cls = true) (ho : y.cls = own) (hn : (lg_sl vs).length ≤ n)
    (body : ∀ (p : Program) (e : Env) (s : State) (m : MethodId) (args : Array Value) (below : List Frame) (meth : Method) (c : Code) (ls : Array Slot), (∀ x ∈ c.exceptionTable.toList, False) → meth.locks = false → CallFix p m c b n s args lw_all own → GB G F o [] [] s s.heap [] → lv_has ls n (lv_args 0 vs) →
      W p l e (rmX f k) s m args below meth c s.heap [] 0 0 (vx_MQ below (QX G s.heap.size) (XE G F o EX s.heap.size) args s 1 6 (GA G s.heap.size)) (F0 m 0 ls [])) : MX l y b n ret f k vs G F o EX := by
  intro sz
  refine vx_ofW (cc := b) (maxL := n) (ret := ret) hy rfl ?_
  intro p e s m args below meth c s₁ B hml hno hv
  obtain ⟨rfl, hsz, hP, hD, hK, hE⟩ := hv
  have hx := B.exec
  have hb := B.bytes
  have hts := atoms_spec (ws := wsG y b n ret) B.pre
  have hts : ∀ w ∈ lw_all, w.before vs.toArray s = true := fun w h => hts w (List.mem_cons_of_mem _ h)
  have hown : s.vm.findClass y.cls = some m.cls := findClass_of_methodNamed B.named
  have hlocks := B.notSynchronized
  subst hsz
  have hl := lv_entry vs (n := n) hn
  rw [lg_entry_eq]
  generalize (lg_sl vs ++ List.replicate (n - (lg_sl vs).length) Slot.unset).toArray = ls at hl ⊢
  refine body p e s m _ below meth c ls hno hlocks ⟨hx, hb, hml, by rw [← ho]; exact hown, hts⟩ ⟨by rw [List.append_nil]; exact hP, ?_, by rw [List.append_nil]; exact hK, va_S.rf, hE⟩ hl
  rw [List.append_nil]
  refine hD.weaken (fun i q hq _ => ?_)
  have hi : i < 21 := by
    have := (List.getElem?_eq_some_iff.mp hq).1
    rw [wld_len] at this; exact this
  rw [wld_at0 G F o hi] at hq
  cases hq
  exact GA_in G _ hi
/-- a helper's own list of words: its code with its table, and the rest -/
abbrev wsH (y : MethodName) (b : ByteArray) (n : Nat) (hh : List (Nat × Nat × Nat × Nat)) : List Cond := .codeWith y b n (some .int) hh :: lw_all
abbrev rmC (f n c s : Nat) : Room := { frames := f, cells := c, slots := s, locals := n }
abbrev MH (l : Launch) (y : MethodName) (b : ByteArray) (n : Nat) (hh : List (Nat × Nat × Nat × Nat)) (f k cs ss : Nat) (vs : List Value) (G : gT) (F : Fs) (o : Int64) (F' : Fs) (o' : Int64) (R : Int32) : Prop := ∀ sz : Nat, Met l y (wsH y b n hh) (rmC f k cs ss) (va_Pc vs (preG G F o sz)) (QI G F' o' R sz) cs ss (GA G sz)
theorem mk_H {l : Launch} {y : MethodName} {b : ByteArray} {n : Nat} {hh : List (Nat × Nat × Nat × Nat)} {f k cs ss : Nat} {vs : List Value} {G : gT} {F F' : Fs} {o o' : Int64} {RR : Int32} {own : String}
    (hy : plainName y.cls = true) (ho : y.cls = own) (hn : (lg_sl vs).length ≤ n)
    (body : ∀ (p : Program) (e : Env) (s : State) (m : MethodId) (args : Array Value) (below : List Frame) (meth : Method) (c : Code) (ls : Array Slot), meth.sig.returnType = some .int → meth.locks = false → c.exceptionTable.toList = tableOf hh → CallFix p m c b n s args lw_all own → GB G F o [] [] s s.heap [] → lv_has ls n (lv_args 0 vs) →
      W p l e (rmC f k cs ss) s m args below meth c s.heap [] 0 0 (MQ below (QI G F' o' RR s.heap.size) args s cs ss (GA G s.heap.size)) (F0 m 0 ls [])) : MH l y b n hh f k cs ss vs G F o F' o' RR := by
  intro sz
  refine va_MetW (cc := b) (maxL := n) (ret := some .int) (hh := hh) hy rfl ?_
  intro p e s m args below meth c s₁ B hml hv
  obtain ⟨rfl, hsz, hP, hD, hK, hE⟩ := hv
  have hx := B.exec
  have hb := B.bytes
  have hts0 := atoms_spec (ws := wsH y b n hh) B.pre
  have htab := vx_table (x := y) B (hts0 _ List.mem_cons_self)
  have hts : ∀ w ∈ lw_all, w.before vs.toArray s = true := fun w h => hts0 w (List.mem_cons_of_mem _ h)
  have hown : s.vm.findClass y.cls = some m.cls := findClass_of_methodNamed B.named
  have hlocks := B.notSynchronized
  have hr := B.returns
  subst hsz
  have hl := lv_entry vs (n := n) hn
  rw [lg_entry_eq]
  generalize (lg_sl vs ++ List.replicate (n - (lg_sl vs).length) Slot.unset).toArray = ls at hl ⊢
  refine body p e s m _ below meth c ls hr hlocks htab ⟨hx, hb, hml, by rw [← ho]; exact hown, hts⟩ ⟨by rw [List.append_nil]; exact hP, ?_, by rw [List.append_nil]; exact hK, va_S.rf, hE⟩ hl
  rw [List.append_nil]
  refine hD.weaken (fun i q hq _ => ?_)
  have hi : i < 21 := by
    have := (List.getElem?_eq_some_iff.mp hq).1
    rw [wld_len] at this; exact this
  rw [wld_at0 G F o hi] at hq
  cases hq
  exact GA_in G _ hi
section GX
variable {p : Program} {l : Launch} {e : Env} {R : Room} {s : State} {m : MethodId} {args : Array Value} {below : List Frame} {meth : Method} {c : Code} {H : Heap} {locs : List Loc} {cells slots : Nat} {Q : State → Prop}
variable {cc : ByteArray} {pc nL : Nat} {ls : Array Slot} {rest st0 : List Value} {own : String} {G : gT} {F F' : Fs} {o : Int64} {X : va_W} {Y : List (ClassId × FieldType)}
/-- throw new cls(text) -/
theorem e_x {cls text : String} {ik is ic : Nat} {Qc : Array Value → State → Outcome → State → Prop} (hfl : l.stackTraces = false) (S : CallFix p m c cc nL s args lw_all "ShadowPool") (hno : ∀ x ∈ c.exceptionTable.toList, False) (hk : meth.locks = false) (g : GB G F o X Y s H locs) (hsz : ls.size = nL) (hyc : va_Yc cls cls s) (hcls : Bundle.fit cls = true)
    (h1 : Cond.classLink "ShadowPool" ik cls ∈ lw_all) (h2 : Cond.initialized cls ∈ lw_all) (hstr : (is, text) ∈ lw_strs) (hat : ∀ w ∈ (vx_atS "ShadowPool" ic cls xNs).filter goodWord, w ∈ tables_1) (hng : ∀ w ∈ (vx_atS "ShadowPool" ic cls xNs).filter (fun w => !goodWord w), w ∈ [Cond.castable cls cls, Cond.declares yRE, Cond.declares yEE, Cond.declares yTE]) (hot : ∀ w ∈ Cond.classLink "ShadowPool" ik cls :: Cond.initialized cls :: vx_atS "ShadowPool" ic cls xNs, vx_ot w = true)
    (d0 : decode cc pc = .ok (.new ik, 3)) (d3 : decode cc (pc + 3) = .ok (.dup, 1)) (d4 : decode cc (pc + 4) = .ok (.ldc is, 2)) (d6 : decode cc (pc + 6) = .ok (.invokespecial ic, 3)) (d9 : decode cc (pc + 9) = .ok (.athrow, 1))
    (hRf : 5 < R.frames) (hRl : (rest.map fun v => v.category).sum + 82 ≤ R.locals) (hRc : 1 ≤ R.cells) (hRs : 6 ≤ R.slots) : W p l e R s m args below meth c H locs 0 0 (vx_MQ below Qc (XE G F o cls s.heap.size) args s 1 6 (GA G s.heap.size)) (F0 m pc ls rest) := by
  obtain ⟨hx, hb, hml, ho, hts⟩ := S
  obtain ⟨hP, hD, hK, hS, hE⟩ := g
  obtain ⟨sa, hsa⟩ := hE.2.2.2.2.1 _ hstr
  have hat2 : ∀ w ∈ vx_atS "ShadowPool" ic cls xNs, w.before args s = true := vx_hat (fun w hw => hts w (lw_in (hat w hw) (List.mem_filter.mp hw).2)) hng (vx_c hyc.word (vx_c hE.2.2.2.2.2.2.2.2.2.2.1.use (vx_c hE.2.2.2.2.2.2.2.2.2.2.2.1.use (vx_c hE.2.2.2.2.2.2.2.2.2.2.2.2.use vx_n))))
  refine vx_throwS (names := xNs) (A := GA G s.heap.size) hx hb hfl ho hcls (by decide +kernel) (hts _ h1) (hts _ h2) hsa hat2 hot hE.2.2.1 hE.2.2.2.1 hS (hsz.trans hml.symm) d0 d3 d4 d6 d9 (fun x hx => (hno x hx).elim) hRf hRl hRc hRs hk ?_ hS.2.2 (Nat.le_refl _) (Nat.le_refl _)
  intro t hal hz hq
  refine ⟨(), trivial, ⟨rfl, ?_⟩, Nat.le_trans hS.1 hz, fun q h3 h4 => (hq q (Nat.lt_of_lt_of_le h3 hS.1)).trans (hS.2.1 q h3 h4)⟩
  intro k q hk9
  have h9 := hP k q (by rw [List.getElem?_append_left (List.getElem?_eq_some_iff.mp hk9).1]; exact hk9)
  exact h9.kept (hq _ h9.lt)
/-- a call that throws, caught here -/
theorem g_xc {EX name : String} {y : MethodName} {b : ByteArray} {mL n f k1 index : Nat} {ret : Option FieldType} {As : List Value} (S : CallFix p m c cc nL s args lw_all own) (g : GB G F o X Y s H locs) (hM : MX l y b mL ret f k1 (.ref (gA G 0) :: As) G F o EX)
    (hq : GoodIn lw_all (wsV own index "ShadowPool" y (wsG y b mL ret))) (hd : y.cls = "ShadowPool" ∧ y.cls ≠ "java/lang/invoke/MethodHandle" ∧ y.cls ≠ "java/lang/invoke/VarHandle" ∧ (parseMethodDescriptor y.desc).map (fun d => d.parameters.length) = some n) (hn : As.length = n) (hR : f + 1 ≤ R.frames ∧ 8 + (mL + 11) + k1 ≤ R.locals) (hsz : ls.size = nL) (hW : (rest.map fun v => v.category).sum ≤ 8) (hst : st0 = As.reverse ++ .ref (gA G 0) :: rest) (hcs : cells + 1 ≤ R.cells ∧ slots + 6 ≤ R.slots) (hdg : decode cc pc = .ok (.invokevirtual index, 3))
    (pre : List ExceptionTableEntry) (x : ExceptionTableEntry) (suf : List ExceptionTableEntry) (hsplit : c.exceptionTable.toList = pre ++ x :: suf) (hpass : ∀ z ∈ pre, covers z pc = false ∨ (z.catchType ≠ 0 ∧ ∃ nm : String, Cond.classLink own z.catchType nm ∈ lw_all ∧ va_Nc EX nm s)) (hcov : covers x pc = true) (h0 : x.catchType ≠ 0) (hlink : Cond.classLink own x.catchType name ∈ lw_all) (hcast : va_Yc EX name s)
    (kk : ∀ (H : Heap) (locs : List Loc) (q : Nat), GB G F o X Y s H locs → W p l e R s m args below meth c H locs (cells + 1) (slots + 6) Q (F0 m x.handlerPc ls [.ref q])) : W p l e R s m args below meth c H locs cells slots Q (F0 m pc ls st0) := by
  have hts := S.2.2.2.2
  refine vx_calli (vx_runV (As := As) (rest := rest) S (hM H.size) (cwV n hts hq rfl rfl rfl hd hR) ⟨preG_blind, va_recv g.2.2.1 g.1 (q := (RX2, TX2, 2)) rfl (wld_at G F o X (by decide) (cE0 G F o)), fun U hU hW => ⟨rfl, g.pre hU hW⟩⟩ rfl hn hsz hst (lv_room (m := m) (pc := pc) (ls := ls) (rest := st0) hW) hdg hcs) g.2.2.2.1 (fun q _ h => GA_up g.2.2.2.1.1 h) (fun q h => GA_up g.2.2.2.1.1 h) (fun q _ h => GA_up g.2.2.2.1.1 h) (fun E ce q9 u t H1 l1 ht hvm hp hB hz hk1 hS hce hcv hcl => ?_) (fun r u t H1 l1 ht hvm hw hB hz hk1 hS => hw.elim)
  obtain ⟨rfl, hP1⟩ := hB
  exact vx_catch (name := name) S.2.2.2.1 pre x suf hsplit (fun z hz => (hpass z hz).imp id (fun ⟨a1, nm, a2, a3⟩ => ⟨a1, nm, hts _ a2, a3⟩)) hcov h0 (hts _ hlink) hcast.word hce hcv hcl (kk H1 l1 q9 (g.after (by rw [← ht]; exact hP1) hk1 hS))
end GX
end
section
set_option maxHeartbeats 4000000 in
set_option maxRecDepth 100000 in
theorem c_netOf_ok (l : Launch) (G : gT) (F : Fs) (o : Int64) (j : Nat) (n : Nat) (hn : F 1 6 = nI n) (hj : j < n) (hn8 : n ≤ 8) : MI l yX2_netOf cX2_netOf 3 (some .int) 1 21 [.ref (gA G 0), .int (nI j)] G (F) o (F) (F (wb 1 j) 2) := by
  refine mk_G (own := "ShadowPool") (Qs := (fun sz => QI G (F) o (F (wb 1 j) 2) sz)) (by decide +kernel) rfl (Nat.le_of_ble_eq_true rfl) ?_
  intro p e s m args below meth c ls hr hk0 hnm S g hl
  have hl : lv_has ls 3 [(0, .ref (gA G 0)), (1, .int (nI j))] := hl
  have hx := S.1
  have hb := S.2.1
  refine lv_aload_n hx hb dX2_netOf_0 rfl (lv_at hl 0 rfl) ?_
  refine gP (k := 0) S g 0 (by decide) q90 dX2_netOf_1 ?_
  refine lv_iload_n hx hb dX2_netOf_4 rfl (lv_at hl 1 rfl) ?_
  refine g_cn (rest := []) g rfl (g_VN (n := 1) (As := [.int (nI j)]) S g (c_find_ok l G (F) o 1 j n (Or.inl rfl) hn hj hn8) (by decide) (cEb G _ o (Or.inl rfl)) rfl qn272 q196 qs5 q2 q197 ⟨by decide +kernel, by decide +kernel, by decide +kernel⟩ rfl ⟨Nat.le_of_ble_eq_true rfl, Nat.le_of_ble_eq_true rfl⟩ hl.1 (Nat.le_of_ble_eq_true rfl) rfl ⟨Nat.zero_le _, Nat.zero_le _⟩ dX2_netOf_5) (fun H locs g => ?_)
  refine lv_astore_n (lv' := [(2, .ref (gA G (wb 1 j))), (0, .ref (gA G 0)), (1, .int (nI j))]) hx hb dX2_netOf_8 rfl hl (by decide) rfl (fun ls hl => ?_)
  refine lv_aload_n hx hb dX2_netOf_9 rfl (lv_at hl 0 rfl) ?_
  refine lv_ifnonnull (tgt := 23) hx hb dX2_netOf_10 (by decide) ?_
  refine lv_aload_n hx hb dX2_netOf_23 rfl (lv_at hl 0 rfl) ?_
  refine gWN (k := wb 1 j) S g (wb_lo (Or.inl rfl) _) (wb_hi (Or.inl rfl) (by omega)) 2 (by decide) qn36 dX2_netOf_24 ?_
  exact e_i S hr hk0 g rfl rfl dX2_netOf_27
set_option maxHeartbeats 4000000 in
set_option maxRecDepth 100000 in
theorem x_netOf (l : Launch) (hfl : l.stackTraces = false) (G : gT) (F : Fs) (o : Int64) (x : Int32) (n : Nat) (hn : F 1 6 = nI n) (hxx : x < 0 ∨ nI n ≤ x) : MX l yX2_netOf cX2_netOf 3 (some .int) 6 90 [.ref (gA G 0), .int x] G (F) o xIB := by
  refine mk_X (own := "ShadowPool") (by decide +kernel) rfl (Nat.le_of_ble_eq_true rfl) ?_
  intro p e s m args below meth c ls hno hk0 S g hl
  have hl : lv_has ls 3 [(0, .ref (gA G 0)), (1, .int x)] := hl
  have hx := S.1
  have hb := S.2.1
  refine lv_aload_n hx hb dX2_netOf_0 rfl (lv_at hl 0 rfl) ?_
  refine gP (k := 0) S g 0 (by decide) q90 dX2_netOf_1 ?_
  refine lv_iload_n hx hb dX2_netOf_4 rfl (lv_at hl 1 rfl) ?_
  refine g_cn (rest := []) g rfl (g_VN (n := 1) (As := [.int x]) S g (c_find_no l G (F) o 1 x n (Or.inl rfl) hn hxx) (by decide) (cEb G _ o (Or.inl rfl)) rfl qn272 q196 qs5 q2 q197 ⟨by decide +kernel, by decide +kernel, by decide +kernel⟩ rfl ⟨Nat.le_of_ble_eq_true rfl, Nat.le_of_ble_eq_true rfl⟩ hl.1 (Nat.le_of_ble_eq_true rfl) rfl ⟨Nat.zero_le _, Nat.zero_le _⟩ dX2_netOf_5) (fun H locs g => ?_)
  refine lv_astore_nN (lv' := [(2, .null), (0, .ref (gA G 0)), (1, .int x)]) hx hb dX2_netOf_8 rfl hl (by decide) rfl (fun ls hl => ?_)
  refine lv_aload_nN hx hb dX2_netOf_9 rfl (lv_at hl 0 rfl) ?_
  refine lv_ifnonnullN hx hb dX2_netOf_10 ?_
  exact e_x (text := "no such walker") hfl S hno hk0 g hl.1 g.2.2.2.2.2.2.2.2.2.2.2.1 (by decide +kernel) q273 q10 (by decide +kernel) atIB ngIB otIB dX2_netOf_13 dX2_netOf_16 dX2_netOf_17 dX2_netOf_19 dX2_netOf_22 (Nat.le_of_ble_eq_true rfl) (Nat.le_of_ble_eq_true rfl) (Nat.le_refl _) (Nat.le_refl _)
set_option maxHeartbeats 4000000 in
set_option maxRecDepth 100000 in
theorem c_wobbleOf_ok (l : Launch) (G : gT) (F : Fs) (o : Int64) (j : Nat) (n : Nat) (hn : F 1 6 = nI n) (hj : j < n) (hn8 : n ≤ 8) : MI l yX2_wobbleOf cX2_wobbleOf 3 (some .int) 1 21 [.ref (gA G 0), .int (nI j)] G (F) o (F) (F (wb 1 j) 3) := by
  refine mk_G (own := "ShadowPool") (Qs := (fun sz => QI G (F) o (F (wb 1 j) 3) sz)) (by decide +kernel) rfl (Nat.le_of_ble_eq_true rfl) ?_
  intro p e s m args below meth c ls hr hk0 hnm S g hl
  have hl : lv_has ls 3 [(0, .ref (gA G 0)), (1, .int (nI j))] := hl
  have hx := S.1
  have hb := S.2.1
  refine lv_aload_n hx hb dX2_wobbleOf_0 rfl (lv_at hl 0 rfl) ?_
  refine gP (k := 0) S g 0 (by decide) q90 dX2_wobbleOf_1 ?_
  refine lv_iload_n hx hb dX2_wobbleOf_4 rfl (lv_at hl 1 rfl) ?_
  refine g_cn (rest := []) g rfl (g_VN (n := 1) (As := [.int (nI j)]) S g (c_find_ok l G (F) o 1 j n (Or.inl rfl) hn hj hn8) (by decide) (cEb G _ o (Or.inl rfl)) rfl qn272 q196 qs5 q2 q197 ⟨by decide +kernel, by decide +kernel, by decide +kernel⟩ rfl ⟨Nat.le_of_ble_eq_true rfl, Nat.le_of_ble_eq_true rfl⟩ hl.1 (Nat.le_of_ble_eq_true rfl) rfl ⟨Nat.zero_le _, Nat.zero_le _⟩ dX2_wobbleOf_5) (fun H locs g => ?_)
  refine lv_astore_n (lv' := [(2, .ref (gA G (wb 1 j))), (0, .ref (gA G 0)), (1, .int (nI j))]) hx hb dX2_wobbleOf_8 rfl hl (by decide) rfl (fun ls hl => ?_)
  refine lv_aload_n hx hb dX2_wobbleOf_9 rfl (lv_at hl 0 rfl) ?_
  refine lv_ifnonnull (tgt := 23) hx hb dX2_wobbleOf_10 (by decide) ?_
  refine lv_aload_n hx hb dX2_wobbleOf_23 rfl (lv_at hl 0 rfl) ?_
  refine gWN (k := wb 1 j) S g (wb_lo (Or.inl rfl) _) (wb_hi (Or.inl rfl) (by omega)) 3 (by decide) qn38 dX2_wobbleOf_24 ?_
  exact e_i S hr hk0 g rfl rfl dX2_wobbleOf_27
set_option maxHeartbeats 4000000 in
set_option maxRecDepth 100000 in
theorem x_wobbleOf (l : Launch) (hfl : l.stackTraces = false) (G : gT) (F : Fs) (o : Int64) (x : Int32) (n : Nat) (hn : F 1 6 = nI n) (hxx : x < 0 ∨ nI n ≤ x) : MX l yX2_wobbleOf cX2_wobbleOf 3 (some .int) 6 90 [.ref (gA G 0), .int x] G (F) o xIB := by
  refine mk_X (own := "ShadowPool") (by decide +kernel) rfl (Nat.le_of_ble_eq_true rfl) ?_
  intro p e s m args below meth c ls hno hk0 S g hl
  have hl : lv_has ls 3 [(0, .ref (gA G 0)), (1, .int x)] := hl
  have hx := S.1
  have hb := S.2.1
  refine lv_aload_n hx hb dX2_wobbleOf_0 rfl (lv_at hl 0 rfl) ?_
  refine gP (k := 0) S g 0 (by decide) q90 dX2_wobbleOf_1 ?_
  refine lv_iload_n hx hb dX2_wobbleOf_4 rfl (lv_at hl 1 rfl) ?_
  refine g_cn (rest := []) g rfl (g_VN (n := 1) (As := [.int x]) S g (c_find_no l G (F) o 1 x n (Or.inl rfl) hn hxx) (by decide) (cEb G _ o (Or.inl rfl)) rfl qn272 q196 qs5 q2 q197 ⟨by decide +kernel, by decide +kernel, by decide +kernel⟩ rfl ⟨Nat.le_of_ble_eq_true rfl, Nat.le_of_ble_eq_true rfl⟩ hl.1 (Nat.le_of_ble_eq_true rfl) rfl ⟨Nat.zero_le _, Nat.zero_le _⟩ dX2_wobbleOf_5) (fun H locs g => ?_)
  refine lv_astore_nN (lv' := [(2, .null), (0, .ref (gA G 0)), (1, .int x)]) hx hb dX2_wobbleOf_8 rfl hl (by decide) rfl (fun ls hl => ?_)
  refine lv_aload_nN hx hb dX2_wobbleOf_9 rfl (lv_at hl 0 rfl) ?_
  refine lv_ifnonnullN hx hb dX2_wobbleOf_10 ?_
  exact e_x (text := "no such walker") hfl S hno hk0 g hl.1 g.2.2.2.2.2.2.2.2.2.2.2.1 (by decide +kernel) q273 q10 (by decide +kernel) atIB ngIB otIB dX2_wobbleOf_13 dX2_wobbleOf_16 dX2_wobbleOf_17 dX2_wobbleOf_19 dX2_wobbleOf_22 (Nat.le_of_ble_eq_true rfl) (Nat.le_of_ble_eq_true rfl) (Nat.le_refl _) (Nat.le_refl _)
set_option maxHeartbeats 4000000 in
set_option maxRecDepth 100000 in
theorem c_fallsOf_ok (l : Launch) (G : gT) (F : Fs) (o : Int64) (j : Nat) (n : Nat) (hn : F 1 6 = nI n) (hj : j < n) (hn8 : n ≤ 8) : MI l yX2_fallsOf cX2_fallsOf 3 (some .int) 1 21 [.ref (gA G 0), .int (nI j)] G (F) o (F) (F (wb 1 j) 4) := by
  refine mk_G (own := "ShadowPool") (Qs := (fun sz => QI G (F) o (F (wb 1 j) 4) sz)) (by decide +kernel) rfl (Nat.le_of_ble_eq_true rfl) ?_
  intro p e s m args below meth c ls hr hk0 hnm S g hl
  have hl : lv_has ls 3 [(0, .ref (gA G 0)), (1, .int (nI j))] := hl
  have hx := S.1
  have hb := S.2.1
  refine lv_aload_n hx hb dX2_fallsOf_0 rfl (lv_at hl 0 rfl) ?_
  refine gP (k := 0) S g 0 (by decide) q90 dX2_fallsOf_1 ?_
  refine lv_iload_n hx hb dX2_fallsOf_4 rfl (lv_at hl 1 rfl) ?_
  refine g_cn (rest := []) g rfl (g_VN (n := 1) (As := [.int (nI j)]) S g (c_find_ok l G (F) o 1 j n (Or.inl rfl) hn hj hn8) (by decide) (cEb G _ o (Or.inl rfl)) rfl qn272 q196 qs5 q2 q197 ⟨by decide +kernel, by decide +kernel, by decide +kernel⟩ rfl ⟨Nat.le_of_ble_eq_true rfl, Nat.le_of_ble_eq_true rfl⟩ hl.1 (Nat.le_of_ble_eq_true rfl) rfl ⟨Nat.zero_le _, Nat.zero_le _⟩ dX2_fallsOf_5) (fun H locs g => ?_)
  refine lv_astore_n (lv' := [(2, .ref (gA G (wb 1 j))), (0, .ref (gA G 0)), (1, .int (nI j))]) hx hb dX2_fallsOf_8 rfl hl (by decide) rfl (fun ls hl => ?_)
  refine lv_aload_n hx hb dX2_fallsOf_9 rfl (lv_at hl 0 rfl) ?_
  refine lv_ifnonnull (tgt := 23) hx hb dX2_fallsOf_10 (by decide) ?_
  refine lv_aload_n hx hb dX2_fallsOf_23 rfl (lv_at hl 0 rfl) ?_
  refine gWN (k := wb 1 j) S g (wb_lo (Or.inl rfl) _) (wb_hi (Or.inl rfl) (by omega)) 4 (by decide) qn41 dX2_fallsOf_24 ?_
  exact e_i S hr hk0 g rfl rfl dX2_fallsOf_27
set_option maxHeartbeats 4000000 in
set_option maxRecDepth 100000 in
theorem x_fallsOf (l : Launch) (hfl : l.stackTraces = false) (G : gT) (F : Fs) (o : Int64) (x : Int32) (n : Nat) (hn : F 1 6 = nI n) (hxx : x < 0 ∨ nI n ≤ x) : MX l yX2_fallsOf cX2_fallsOf 3 (some .int) 6 90 [.ref (gA G 0), .int x] G (F) o xIB := by
  refine mk_X (own := "ShadowPool") (by decide +kernel) rfl (Nat.le_of_ble_eq_true rfl) ?_
  intro p e s m args below meth c ls hno hk0 S g hl
  have hl : lv_has ls 3 [(0, .ref (gA G 0)), (1, .int x)] := hl
  have hx := S.1
  have hb := S.2.1
  refine lv_aload_n hx hb dX2_fallsOf_0 rfl (lv_at hl 0 rfl) ?_
  refine gP (k := 0) S g 0 (by decide) q90 dX2_fallsOf_1 ?_
  refine lv_iload_n hx hb dX2_fallsOf_4 rfl (lv_at hl 1 rfl) ?_
  refine g_cn (rest := []) g rfl (g_VN (n := 1) (As := [.int x]) S g (c_find_no l G (F) o 1 x n (Or.inl rfl) hn hxx) (by decide) (cEb G _ o (Or.inl rfl)) rfl qn272 q196 qs5 q2 q197 ⟨by decide +kernel, by decide +kernel, by decide +kernel⟩ rfl ⟨Nat.le_of_ble_eq_true rfl, Nat.le_of_ble_eq_true rfl⟩ hl.1 (Nat.le_of_ble_eq_true rfl) rfl ⟨Nat.zero_le _, Nat.zero_le _⟩ dX2_fallsOf_5) (fun H locs g => ?_)
  refine lv_astore_nN (lv' := [(2, .null), (0, .ref (gA G 0)), (1, .int x)]) hx hb dX2_fallsOf_8 rfl hl (by decide) rfl (fun ls hl => ?_)
  refine lv_aload_nN hx hb dX2_fallsOf_9 rfl (lv_at hl 0 rfl) ?_
  refine lv_ifnonnullN hx hb dX2_fallsOf_10 ?_
  exact e_x (text := "no such walker") hfl S hno hk0 g hl.1 g.2.2.2.2.2.2.2.2.2.2.2.1 (by decide +kernel) q273 q10 (by decide +kernel) atIB ngIB otIB dX2_fallsOf_13 dX2_fallsOf_16 dX2_fallsOf_17 dX2_fallsOf_19 dX2_fallsOf_22 (Nat.le_of_ble_eq_true rfl) (Nat.le_of_ble_eq_true rfl) (Nat.le_refl _) (Nat.le_refl _)
set_option maxHeartbeats 4000000 in
set_option maxRecDepth 100000 in
theorem c_isMember_ok (l : Launch) (G : gT) (F : Fs) (o : Int64) (j : Nat) (n : Nat) (hn : F 1 6 = nI n) (hj : j < n) (hn8 : n ≤ 8) (hm : F (wb 1 j) 5 = 0 ∨ F (wb 1 j) 5 = 1) : MI l yX2_isMember cX2_isMember 3 (some .boolean) 1 21 [.ref (gA G 0), .int (nI j)] G (F) o (F) (F (wb 1 j) 5) := by
  refine mk_G (own := "ShadowPool") (Qs := (fun sz => QI G (F) o (F (wb 1 j) 5) sz)) (by decide +kernel) rfl (Nat.le_of_ble_eq_true rfl) ?_
  intro p e s m args below meth c ls hr hk0 hnm S g hl
  have hl : lv_has ls 3 [(0, .ref (gA G 0)), (1, .int (nI j))] := hl
  have hx := S.1
  have hb := S.2.1
  refine lv_aload_n hx hb dX2_isMember_0 rfl (lv_at hl 0 rfl) ?_
  refine gP (k := 0) S g 0 (by decide) q90 dX2_isMember_1 ?_
  refine lv_iload_n hx hb dX2_isMember_4 rfl (lv_at hl 1 rfl) ?_
  refine g_cn (rest := []) g rfl (g_VN (n := 1) (As := [.int (nI j)]) S g (c_find_ok l G (F) o 1 j n (Or.inl rfl) hn hj hn8) (by decide) (cEb G _ o (Or.inl rfl)) rfl qn272 q196 qs5 q2 q197 ⟨by decide +kernel, by decide +kernel, by decide +kernel⟩ rfl ⟨Nat.le_of_ble_eq_true rfl, Nat.le_of_ble_eq_true rfl⟩ hl.1 (Nat.le_of_ble_eq_true rfl) rfl ⟨Nat.zero_le _, Nat.zero_le _⟩ dX2_isMember_5) (fun H locs g => ?_)
  refine lv_astore_n (lv' := [(2, .ref (gA G (wb 1 j))), (0, .ref (gA G 0)), (1, .int (nI j))]) hx hb dX2_isMember_8 rfl hl (by decide) rfl (fun ls hl => ?_)
  refine lv_aload_n hx hb dX2_isMember_9 rfl (lv_at hl 0 rfl) ?_
  refine lv_ifnonnull (tgt := 23) hx hb dX2_isMember_10 (by decide) ?_
  refine lv_aload_n hx hb dX2_isMember_23 rfl (lv_at hl 0 rfl) ?_
  refine gWN (k := wb 1 j) S g (wb_lo (Or.inl rfl) _) (wb_hi (Or.inl rfl) (by omega)) 5 (by decide) qn43 dX2_isMember_24 ?_
  exact e_z S hr hk0 g (z01 hm) rfl rfl dX2_isMember_27
set_option maxHeartbeats 4000000 in
set_option maxRecDepth 100000 in
theorem x_isMember (l : Launch) (hfl : l.stackTraces = false) (G : gT) (F : Fs) (o : Int64) (x : Int32) (n : Nat) (hn : F 1 6 = nI n) (hxx : x < 0 ∨ nI n ≤ x) : MX l yX2_isMember cX2_isMember 3 (some .boolean) 6 90 [.ref (gA G 0), .int x] G (F) o xIB := by
  refine mk_X (own := "ShadowPool") (by decide +kernel) rfl (Nat.le_of_ble_eq_true rfl) ?_
  intro p e s m args below meth c ls hno hk0 S g hl
  have hl : lv_has ls 3 [(0, .ref (gA G 0)), (1, .int x)] := hl
  have hx := S.1
  have hb := S.2.1
  refine lv_aload_n hx hb dX2_isMember_0 rfl (lv_at hl 0 rfl) ?_
  refine gP (k := 0) S g 0 (by decide) q90 dX2_isMember_1 ?_
  refine lv_iload_n hx hb dX2_isMember_4 rfl (lv_at hl 1 rfl) ?_
  refine g_cn (rest := []) g rfl (g_VN (n := 1) (As := [.int x]) S g (c_find_no l G (F) o 1 x n (Or.inl rfl) hn hxx) (by decide) (cEb G _ o (Or.inl rfl)) rfl qn272 q196 qs5 q2 q197 ⟨by decide +kernel, by decide +kernel, by decide +kernel⟩ rfl ⟨Nat.le_of_ble_eq_true rfl, Nat.le_of_ble_eq_true rfl⟩ hl.1 (Nat.le_of_ble_eq_true rfl) rfl ⟨Nat.zero_le _, Nat.zero_le _⟩ dX2_isMember_5) (fun H locs g => ?_)
  refine lv_astore_nN (lv' := [(2, .null), (0, .ref (gA G 0)), (1, .int x)]) hx hb dX2_isMember_8 rfl hl (by decide) rfl (fun ls hl => ?_)
  refine lv_aload_nN hx hb dX2_isMember_9 rfl (lv_at hl 0 rfl) ?_
  refine lv_ifnonnullN hx hb dX2_isMember_10 ?_
  exact e_x (text := "no such walker") hfl S hno hk0 g hl.1 g.2.2.2.2.2.2.2.2.2.2.2.1 (by decide +kernel) q273 q10 (by decide +kernel) atIB ngIB otIB dX2_isMember_13 dX2_isMember_16 dX2_isMember_17 dX2_isMember_19 dX2_isMember_22 (Nat.le_of_ble_eq_true rfl) (Nat.le_of_ble_eq_true rfl) (Nat.le_refl _) (Nat.le_refl _)
set_option maxHeartbeats 4000000 in
set_option maxRecDepth 100000 in
theorem c_shadowOf_ok (l : Launch) (G : gT) (F : Fs) (o : Int64) (j : Nat) (n : Nat) (h : Nat) (hn : F 1 6 = nI n) (hj : j < n) (hn8 : n ≤ 8) (hh : F 1 0 = nI h) (hh2 : h < 2 ^ 29) : MI l yX2_shadowOf cX2_shadowOf 3 (some .int) 3 62 [.ref (gA G 0), .int (nI j)] G (F) o (F) (shI (F (wb 1 j) 0) (suH h)) := by
  refine mk_G (own := "ShadowPool") (Qs := (fun sz => QI G (F) o (shI (F (wb 1 j) 0) (suH h)) sz)) (by decide +kernel) rfl (Nat.le_of_ble_eq_true rfl) ?_
  intro p e s m args below meth c ls hr hk0 hnm S g hl
  have hl : lv_has ls 3 [(0, .ref (gA G 0)), (1, .int (nI j))] := hl
  have hx := S.1
  have hb := S.2.1
  refine lv_aload_n hx hb dX2_shadowOf_0 rfl (lv_at hl 0 rfl) ?_
  refine gP (k := 0) S g 0 (by decide) q90 dX2_shadowOf_1 ?_
  refine lv_iload_n hx hb dX2_shadowOf_4 rfl (lv_at hl 1 rfl) ?_
  refine g_cn (rest := []) g rfl (g_VN (n := 1) (As := [.int (nI j)]) S g (c_find_ok l G (F) o 1 j n (Or.inl rfl) hn hj hn8) (by decide) (cEb G _ o (Or.inl rfl)) rfl qn272 q196 qs5 q2 q197 ⟨by decide +kernel, by decide +kernel, by decide +kernel⟩ rfl ⟨Nat.le_of_ble_eq_true rfl, Nat.le_of_ble_eq_true rfl⟩ hl.1 (Nat.le_of_ble_eq_true rfl) rfl ⟨Nat.zero_le _, Nat.zero_le _⟩ dX2_shadowOf_5) (fun H locs g => ?_)
  refine lv_astore_n (lv' := [(2, .ref (gA G (wb 1 j))), (0, .ref (gA G 0)), (1, .int (nI j))]) hx hb dX2_shadowOf_8 rfl hl (by decide) rfl (fun ls hl => ?_)
  refine lv_aload_n hx hb dX2_shadowOf_9 rfl (lv_at hl 0 rfl) ?_
  refine lv_ifnonnull (tgt := 23) hx hb dX2_shadowOf_10 (by decide) ?_
  refine lv_aload_n hx hb dX2_shadowOf_23 rfl (lv_at hl 0 rfl) ?_
  refine lv_aload_n hx hb dX2_shadowOf_24 rfl (lv_at hl 1 rfl) ?_
  refine g_ci (rest := [.ref (gA G (wb 1 j))]) g (g_V (n := 0) (As := []) S g (c_sun l G (F) o h hh hh2) (by decide) (cE0 G _ o) rfl (lw_V q305 q245 q246 q1 q247) ⟨rfl, by decide +kernel, by decide +kernel, by decide +kernel⟩ rfl ⟨Nat.le_of_ble_eq_true rfl, Nat.le_of_ble_eq_true rfl⟩ hl.1 (Nat.le_of_ble_eq_true rfl) rfl ⟨Nat.zero_le _, Nat.zero_le _⟩ dX2_shadowOf_25) (fun H locs g => ?_)
  refine g_ci (rest := []) g (g_VN (n := 1) (As := [.int (suH h)]) S g (c_shadowUnder l G (F) o (wb 1 j) (suH h) (wb_lo (Or.inl rfl) _) (wb_hi (Or.inl rfl) (by omega)) (sun_pos h)) (Nat.lt_of_lt_of_le (wb_hi (Or.inl rfl) (by omega)) (by decide)) (cEw G _ o (wb_lo (Or.inl rfl) _) (wb_hi (Or.inl rfl) (by omega))) rfl qn306 q221 qs9 q3 q222 ⟨by decide +kernel, by decide +kernel, by decide +kernel⟩ rfl ⟨Nat.le_of_ble_eq_true rfl, Nat.le_of_ble_eq_true rfl⟩ hl.1 (Nat.le_of_ble_eq_true rfl) rfl ⟨Nat.zero_le _, Nat.zero_le _⟩ dX2_shadowOf_28) (fun H locs g => ?_)
  exact e_i S hr hk0 g rfl rfl dX2_shadowOf_31
set_option maxHeartbeats 4000000 in
set_option maxRecDepth 100000 in
theorem x_shadowOf (l : Launch) (hfl : l.stackTraces = false) (G : gT) (F : Fs) (o : Int64) (x : Int32) (n : Nat) (hn : F 1 6 = nI n) (hxx : x < 0 ∨ nI n ≤ x) : MX l yX2_shadowOf cX2_shadowOf 3 (some .int) 6 90 [.ref (gA G 0), .int x] G (F) o xIB := by
  refine mk_X (own := "ShadowPool") (by decide +kernel) rfl (Nat.le_of_ble_eq_true rfl) ?_
  intro p e s m args below meth c ls hno hk0 S g hl
  have hl : lv_has ls 3 [(0, .ref (gA G 0)), (1, .int x)] := hl
  have hx := S.1
  have hb := S.2.1
  refine lv_aload_n hx hb dX2_shadowOf_0 rfl (lv_at hl 0 rfl) ?_
  refine gP (k := 0) S g 0 (by decide) q90 dX2_shadowOf_1 ?_
  refine lv_iload_n hx hb dX2_shadowOf_4 rfl (lv_at hl 1 rfl) ?_
  refine g_cn (rest := []) g rfl (g_VN (n := 1) (As := [.int x]) S g (c_find_no l G (F) o 1 x n (Or.inl rfl) hn hxx) (by decide) (cEb G _ o (Or.inl rfl)) rfl qn272 q196 qs5 q2 q197 ⟨by decide +kernel, by decide +kernel, by decide +kernel⟩ rfl ⟨Nat.le_of_ble_eq_true rfl, Nat.le_of_ble_eq_true rfl⟩ hl.1 (Nat.le_of_ble_eq_true rfl) rfl ⟨Nat.zero_le _, Nat.zero_le _⟩ dX2_shadowOf_5) (fun H locs g => ?_)
  refine lv_astore_nN (lv' := [(2, .null), (0, .ref (gA G 0)), (1, .int x)]) hx hb dX2_shadowOf_8 rfl hl (by decide) rfl (fun ls hl => ?_)
  refine lv_aload_nN hx hb dX2_shadowOf_9 rfl (lv_at hl 0 rfl) ?_
  refine lv_ifnonnullN hx hb dX2_shadowOf_10 ?_
  exact e_x (text := "no such walker") hfl S hno hk0 g hl.1 g.2.2.2.2.2.2.2.2.2.2.2.1 (by decide +kernel) q273 q10 (by decide +kernel) atIB ngIB otIB dX2_shadowOf_13 dX2_shadowOf_16 dX2_shadowOf_17 dX2_shadowOf_19 dX2_shadowOf_22 (Nat.le_of_ble_eq_true rfl) (Nat.le_of_ble_eq_true rfl) (Nat.le_refl _) (Nat.le_refl _)
set_option maxHeartbeats 4000000 in
set_option maxRecDepth 100000 in
theorem c_costOf_ok (l : Launch) (G : gT) (F : Fs) (o : Int64) (j : Nat) (n : Nat) (h : Nat) (hn : F 1 6 = nI n) (hj : j < n) (hn8 : n ≤ 8) (hh : F 1 0 = nI h) (hh2 : h < 2 ^ 29) : MI l yX2_costOf cX2_costOf 3 (some .int) 3 62 [.ref (gA G 0), .int (nI j)] G (F) o (F) (coI (F (wb 1 j) 0) (F (wb 1 j) 2) (suH h)) := by
  refine mk_G (own := "ShadowPool") (Qs := (fun sz => QI G (F) o (coI (F (wb 1 j) 0) (F (wb 1 j) 2) (suH h)) sz)) (by decide +kernel) rfl (Nat.le_of_ble_eq_true rfl) ?_
  intro p e s m args below meth c ls hr hk0 hnm S g hl
  have hl : lv_has ls 3 [(0, .ref (gA G 0)), (1, .int (nI j))] := hl
  have hx := S.1
  have hb := S.2.1
  refine lv_aload_n hx hb dX2_costOf_0 rfl (lv_at hl 0 rfl) ?_
  refine gP (k := 0) S g 0 (by decide) q90 dX2_costOf_1 ?_
  refine lv_iload_n hx hb dX2_costOf_4 rfl (lv_at hl 1 rfl) ?_
  refine g_cn (rest := []) g rfl (g_VN (n := 1) (As := [.int (nI j)]) S g (c_find_ok l G (F) o 1 j n (Or.inl rfl) hn hj hn8) (by decide) (cEb G _ o (Or.inl rfl)) rfl qn272 q196 qs5 q2 q197 ⟨by decide +kernel, by decide +kernel, by decide +kernel⟩ rfl ⟨Nat.le_of_ble_eq_true rfl, Nat.le_of_ble_eq_true rfl⟩ hl.1 (Nat.le_of_ble_eq_true rfl) rfl ⟨Nat.zero_le _, Nat.zero_le _⟩ dX2_costOf_5) (fun H locs g => ?_)
  refine lv_astore_n (lv' := [(2, .ref (gA G (wb 1 j))), (0, .ref (gA G 0)), (1, .int (nI j))]) hx hb dX2_costOf_8 rfl hl (by decide) rfl (fun ls hl => ?_)
  refine lv_aload_n hx hb dX2_costOf_9 rfl (lv_at hl 0 rfl) ?_
  refine lv_ifnonnull (tgt := 23) hx hb dX2_costOf_10 (by decide) ?_
  refine lv_aload_n hx hb dX2_costOf_23 rfl (lv_at hl 0 rfl) ?_
  refine lv_aload_n hx hb dX2_costOf_24 rfl (lv_at hl 1 rfl) ?_
  refine g_ci (rest := [.ref (gA G (wb 1 j))]) g (g_V (n := 0) (As := []) S g (c_sun l G (F) o h hh hh2) (by decide) (cE0 G _ o) rfl (lw_V q305 q245 q246 q1 q247) ⟨rfl, by decide +kernel, by decide +kernel, by decide +kernel⟩ rfl ⟨Nat.le_of_ble_eq_true rfl, Nat.le_of_ble_eq_true rfl⟩ hl.1 (Nat.le_of_ble_eq_true rfl) rfl ⟨Nat.zero_le _, Nat.zero_le _⟩ dX2_costOf_25) (fun H locs g => ?_)
  refine g_ci (rest := []) g (g_VN (n := 1) (As := [.int (suH h)]) S g (c_costUnder l G (F) o (wb 1 j) (suH h) (wb_lo (Or.inl rfl) _) (wb_hi (Or.inl rfl) (by omega)) (sun_pos h)) (Nat.lt_of_lt_of_le (wb_hi (Or.inl rfl) (by omega)) (by decide)) (cEw G _ o (wb_lo (Or.inl rfl) _) (wb_hi (Or.inl rfl) (by omega))) rfl qn315 q217 qs8 q3 q218 ⟨by decide +kernel, by decide +kernel, by decide +kernel⟩ rfl ⟨Nat.le_of_ble_eq_true rfl, Nat.le_of_ble_eq_true rfl⟩ hl.1 (Nat.le_of_ble_eq_true rfl) rfl ⟨Nat.zero_le _, Nat.zero_le _⟩ dX2_costOf_28) (fun H locs g => ?_)
  exact e_i S hr hk0 g rfl rfl dX2_costOf_31
set_option maxHeartbeats 4000000 in
set_option maxRecDepth 100000 in
theorem x_costOf (l : Launch) (hfl : l.stackTraces = false) (G : gT) (F : Fs) (o : Int64) (x : Int32) (n : Nat) (hn : F 1 6 = nI n) (hxx : x < 0 ∨ nI n ≤ x) : MX l yX2_costOf cX2_costOf 3 (some .int) 6 90 [.ref (gA G 0), .int x] G (F) o xIB := by
  refine mk_X (own := "ShadowPool") (by decide +kernel) rfl (Nat.le_of_ble_eq_true rfl) ?_
  intro p e s m args below meth c ls hno hk0 S g hl
  have hl : lv_has ls 3 [(0, .ref (gA G 0)), (1, .int x)] := hl
  have hx := S.1
  have hb := S.2.1
  refine lv_aload_n hx hb dX2_costOf_0 rfl (lv_at hl 0 rfl) ?_
  refine gP (k := 0) S g 0 (by decide) q90 dX2_costOf_1 ?_
  refine lv_iload_n hx hb dX2_costOf_4 rfl (lv_at hl 1 rfl) ?_
  refine g_cn (rest := []) g rfl (g_VN (n := 1) (As := [.int x]) S g (c_find_no l G (F) o 1 x n (Or.inl rfl) hn hxx) (by decide) (cEb G _ o (Or.inl rfl)) rfl qn272 q196 qs5 q2 q197 ⟨by decide +kernel, by decide +kernel, by decide +kernel⟩ rfl ⟨Nat.le_of_ble_eq_true rfl, Nat.le_of_ble_eq_true rfl⟩ hl.1 (Nat.le_of_ble_eq_true rfl) rfl ⟨Nat.zero_le _, Nat.zero_le _⟩ dX2_costOf_5) (fun H locs g => ?_)
  refine lv_astore_nN (lv' := [(2, .null), (0, .ref (gA G 0)), (1, .int x)]) hx hb dX2_costOf_8 rfl hl (by decide) rfl (fun ls hl => ?_)
  refine lv_aload_nN hx hb dX2_costOf_9 rfl (lv_at hl 0 rfl) ?_
  refine lv_ifnonnullN hx hb dX2_costOf_10 ?_
  exact e_x (text := "no such walker") hfl S hno hk0 g hl.1 g.2.2.2.2.2.2.2.2.2.2.2.1 (by decide +kernel) q273 q10 (by decide +kernel) atIB ngIB otIB dX2_costOf_13 dX2_costOf_16 dX2_costOf_17 dX2_costOf_19 dX2_costOf_22 (Nat.le_of_ble_eq_true rfl) (Nat.le_of_ble_eq_true rfl) (Nat.le_refl _) (Nat.le_refl _)
set_option maxHeartbeats 4000000 in
set_option maxRecDepth 100000 in
theorem c_ownPartOf_ok (l : Launch) (G : gT) (F : Fs) (o : Int64) (j : Nat) (n : Nat) (h : Nat) (hn : F 1 6 = nI n) (hj : j < n) (hn8 : n ≤ 8) (hh : F 1 0 = nI h) (hh2 : h < 2 ^ 29) : MI l yX2_ownPartOf cX2_ownPartOf 3 (some .int) 3 62 [.ref (gA G 0), .int (nI j)] G (F) o (F) (owI (F (wb 1 j) 5) (coI (F (wb 1 j) 0) (F (wb 1 j) 2) (suH h)) (noH h)) := by
  refine mk_G (own := "ShadowPool") (Qs := (fun sz => QI G (F) o (owI (F (wb 1 j) 5) (coI (F (wb 1 j) 0) (F (wb 1 j) 2) (suH h)) (noH h)) sz)) (by decide +kernel) rfl (Nat.le_of_ble_eq_true rfl) ?_
  intro p e s m args below meth c ls hr hk0 hnm S g hl
  have hl : lv_has ls 3 [(0, .ref (gA G 0)), (1, .int (nI j))] := hl
  have hx := S.1
  have hb := S.2.1
  refine lv_aload_n hx hb dX2_ownPartOf_0 rfl (lv_at hl 0 rfl) ?_
  refine gP (k := 0) S g 0 (by decide) q90 dX2_ownPartOf_1 ?_
  refine lv_iload_n hx hb dX2_ownPartOf_4 rfl (lv_at hl 1 rfl) ?_
  refine g_cn (rest := []) g rfl (g_VN (n := 1) (As := [.int (nI j)]) S g (c_find_ok l G (F) o 1 j n (Or.inl rfl) hn hj hn8) (by decide) (cEb G _ o (Or.inl rfl)) rfl qn272 q196 qs5 q2 q197 ⟨by decide +kernel, by decide +kernel, by decide +kernel⟩ rfl ⟨Nat.le_of_ble_eq_true rfl, Nat.le_of_ble_eq_true rfl⟩ hl.1 (Nat.le_of_ble_eq_true rfl) rfl ⟨Nat.zero_le _, Nat.zero_le _⟩ dX2_ownPartOf_5) (fun H locs g => ?_)
  refine lv_astore_n (lv' := [(2, .ref (gA G (wb 1 j))), (0, .ref (gA G 0)), (1, .int (nI j))]) hx hb dX2_ownPartOf_8 rfl hl (by decide) rfl (fun ls hl => ?_)
  refine lv_aload_n hx hb dX2_ownPartOf_9 rfl (lv_at hl 0 rfl) ?_
  refine lv_ifnonnull (tgt := 23) hx hb dX2_ownPartOf_10 (by decide) ?_
  refine lv_aload_n hx hb dX2_ownPartOf_23 rfl (lv_at hl 0 rfl) ?_
  refine lv_aload_n hx hb dX2_ownPartOf_24 rfl (lv_at hl 0 rfl) ?_
  refine lv_aload_n hx hb dX2_ownPartOf_25 rfl (lv_at hl 1 rfl) ?_
  refine g_ci (rest := [.ref (gA G (wb 1 j)), .ref (gA G (wb 1 j))]) g (g_V (n := 0) (As := []) S g (c_sun l G (F) o h hh hh2) (by decide) (cE0 G _ o) rfl (lw_V q305 q245 q246 q1 q247) ⟨rfl, by decide +kernel, by decide +kernel, by decide +kernel⟩ rfl ⟨Nat.le_of_ble_eq_true rfl, Nat.le_of_ble_eq_true rfl⟩ hl.1 (Nat.le_of_ble_eq_true rfl) rfl ⟨Nat.zero_le _, Nat.zero_le _⟩ dX2_ownPartOf_26) (fun H locs g => ?_)
  refine g_ci (rest := [.ref (gA G (wb 1 j))]) g (g_VN (n := 1) (As := [.int (suH h)]) S g (c_costUnder l G (F) o (wb 1 j) (suH h) (wb_lo (Or.inl rfl) _) (wb_hi (Or.inl rfl) (by omega)) (sun_pos h)) (Nat.lt_of_lt_of_le (wb_hi (Or.inl rfl) (by omega)) (by decide)) (cEw G _ o (wb_lo (Or.inl rfl) _) (wb_hi (Or.inl rfl) (by omega))) rfl qn315 q217 qs8 q3 q218 ⟨by decide +kernel, by decide +kernel, by decide +kernel⟩ rfl ⟨Nat.le_of_ble_eq_true rfl, Nat.le_of_ble_eq_true rfl⟩ hl.1 (Nat.le_of_ble_eq_true rfl) rfl ⟨Nat.zero_le _, Nat.zero_le _⟩ dX2_ownPartOf_29) (fun H locs g => ?_)
  refine lv_aload_n hx hb dX2_ownPartOf_32 rfl (lv_at hl 1 rfl) ?_
  refine g_ci (rest := [.int (coI (F (wb 1 j) 0) (F (wb 1 j) 2) (suH h)), .ref (gA G (wb 1 j))]) g (g_V (n := 0) (As := []) S g (c_isNoon l G (F) o h hh hh2) (by decide) (cE0 G _ o) rfl (lw_V q320 q251 q252 q1 q253) ⟨rfl, by decide +kernel, by decide +kernel, by decide +kernel⟩ rfl ⟨Nat.le_of_ble_eq_true rfl, Nat.le_of_ble_eq_true rfl⟩ hl.1 (Nat.le_of_ble_eq_true rfl) rfl ⟨Nat.zero_le _, Nat.zero_le _⟩ dX2_ownPartOf_33) (fun H locs g => ?_)
  refine g_ci (rest := []) g (g_VN (n := 2) (As := [.int (coI (F (wb 1 j) 0) (F (wb 1 j) 2) (suH h)), .int (noH h)]) S g (c_ownPart l G (F) o (wb 1 j) (coI (F (wb 1 j) 0) (F (wb 1 j) 2) (suH h)) (noH h) (wb_lo (Or.inl rfl) _) (wb_hi (Or.inl rfl) (by omega))) (Nat.lt_of_lt_of_le (wb_hi (Or.inl rfl) (by omega)) (by decide)) (cEw G _ o (wb_lo (Or.inl rfl) _) (wb_hi (Or.inl rfl) (by omega))) rfl qn321 q225 qs10 q3 q226 ⟨by decide +kernel, by decide +kernel, by decide +kernel⟩ rfl ⟨Nat.le_of_ble_eq_true rfl, Nat.le_of_ble_eq_true rfl⟩ hl.1 (Nat.le_of_ble_eq_true rfl) rfl ⟨Nat.zero_le _, Nat.zero_le _⟩ dX2_ownPartOf_36) (fun H locs g => ?_)
  exact e_i S hr hk0 g rfl rfl dX2_ownPartOf_39
set_option maxHeartbeats 4000000 in
set_option maxRecDepth 100000 in
theorem x_ownPartOf (l : Launch) (hfl : l.stackTraces = false) (G : gT) (F : Fs) (o : Int64) (x : Int32) (n : Nat) (hn : F 1 6 = nI n) (hxx : x < 0 ∨ nI n ≤ x) : MX l yX2_ownPartOf cX2_ownPartOf 3 (some .int) 6 90 [.ref (gA G 0), .int x] G (F) o xIB := by
  refine mk_X (own := "ShadowPool") (by decide +kernel) rfl (Nat.le_of_ble_eq_true rfl) ?_
  intro p e s m args below meth c ls hno hk0 S g hl
  have hl : lv_has ls 3 [(0, .ref (gA G 0)), (1, .int x)] := hl
  have hx := S.1
  have hb := S.2.1
  refine lv_aload_n hx hb dX2_ownPartOf_0 rfl (lv_at hl 0 rfl) ?_
  refine gP (k := 0) S g 0 (by decide) q90 dX2_ownPartOf_1 ?_
  refine lv_iload_n hx hb dX2_ownPartOf_4 rfl (lv_at hl 1 rfl) ?_
  refine g_cn (rest := []) g rfl (g_VN (n := 1) (As := [.int x]) S g (c_find_no l G (F) o 1 x n (Or.inl rfl) hn hxx) (by decide) (cEb G _ o (Or.inl rfl)) rfl qn272 q196 qs5 q2 q197 ⟨by decide +kernel, by decide +kernel, by decide +kernel⟩ rfl ⟨Nat.le_of_ble_eq_true rfl, Nat.le_of_ble_eq_true rfl⟩ hl.1 (Nat.le_of_ble_eq_true rfl) rfl ⟨Nat.zero_le _, Nat.zero_le _⟩ dX2_ownPartOf_5) (fun H locs g => ?_)
  refine lv_astore_nN (lv' := [(2, .null), (0, .ref (gA G 0)), (1, .int x)]) hx hb dX2_ownPartOf_8 rfl hl (by decide) rfl (fun ls hl => ?_)
  refine lv_aload_nN hx hb dX2_ownPartOf_9 rfl (lv_at hl 0 rfl) ?_
  refine lv_ifnonnullN hx hb dX2_ownPartOf_10 ?_
  exact e_x (text := "no such walker") hfl S hno hk0 g hl.1 g.2.2.2.2.2.2.2.2.2.2.2.1 (by decide +kernel) q273 q10 (by decide +kernel) atIB ngIB otIB dX2_ownPartOf_13 dX2_ownPartOf_16 dX2_ownPartOf_17 dX2_ownPartOf_19 dX2_ownPartOf_22 (Nat.le_of_ble_eq_true rfl) (Nat.le_of_ble_eq_true rfl) (Nat.le_refl _) (Nat.le_refl _)
set_option maxHeartbeats 4000000 in
set_option maxRecDepth 100000 in
theorem c_poolPartOf_ok (l : Launch) (G : gT) (F : Fs) (o : Int64) (j : Nat) (n : Nat) (h : Nat) (hn : F 1 6 = nI n) (hj : j < n) (hn8 : n ≤ 8) (hh : F 1 0 = nI h) (hh2 : h < 2 ^ 29) : MI l yX2_poolPartOf cX2_poolPartOf 4 (some .int) 4 84 [.ref (gA G 0), .int (nI j)] G (F) o (F) (clI F (wb 1 j) (suH h) (noH h) - reI (clI F (wb 1 j) (suH h) (noH h)) (F 1 3) (F 1 4)) := by
  refine mk_G (own := "ShadowPool") (Qs := (fun sz => QI G (F) o (clI F (wb 1 j) (suH h) (noH h) - reI (clI F (wb 1 j) (suH h) (noH h)) (F 1 3) (F 1 4)) sz)) (by decide +kernel) rfl (Nat.le_of_ble_eq_true rfl) ?_
  intro p e s m args below meth c ls hr hk0 hnm S g hl
  have hl : lv_has ls 4 [(0, .ref (gA G 0)), (1, .int (nI j))] := hl
  have hx := S.1
  have hb := S.2.1
  refine lv_aload_n hx hb dX2_poolPartOf_0 rfl (lv_at hl 0 rfl) ?_
  refine gP (k := 0) S g 0 (by decide) q90 dX2_poolPartOf_1 ?_
  refine lv_iload_n hx hb dX2_poolPartOf_4 rfl (lv_at hl 1 rfl) ?_
  refine g_cn (rest := []) g rfl (g_VN (n := 1) (As := [.int (nI j)]) S g (c_find_ok l G (F) o 1 j n (Or.inl rfl) hn hj hn8) (by decide) (cEb G _ o (Or.inl rfl)) rfl qn272 q196 qs5 q2 q197 ⟨by decide +kernel, by decide +kernel, by decide +kernel⟩ rfl ⟨Nat.le_of_ble_eq_true rfl, Nat.le_of_ble_eq_true rfl⟩ hl.1 (Nat.le_of_ble_eq_true rfl) rfl ⟨Nat.zero_le _, Nat.zero_le _⟩ dX2_poolPartOf_5) (fun H locs g => ?_)
  refine lv_astore_n (lv' := [(2, .ref (gA G (wb 1 j))), (0, .ref (gA G 0)), (1, .int (nI j))]) hx hb dX2_poolPartOf_8 rfl hl (by decide) rfl (fun ls hl => ?_)
  refine lv_aload_n hx hb dX2_poolPartOf_9 rfl (lv_at hl 0 rfl) ?_
  refine lv_ifnonnull (tgt := 23) hx hb dX2_poolPartOf_10 (by decide) ?_
  refine lv_aload_n hx hb dX2_poolPartOf_23 rfl (lv_at hl 1 rfl) ?_
  refine lv_aload_n hx hb dX2_poolPartOf_24 rfl (lv_at hl 0 rfl) ?_
  refine g_ci (rest := []) g (g_V (n := 1) (As := [.ref (gA G (wb 1 j))]) S g (c_claimNow l G (F) o (wb 1 j) h (wb_lo (Or.inl rfl) _) (wb_hi (Or.inl rfl) (by omega)) hh hh2) (by decide) (cE0 G _ o) rfl (lw_V q326 q328 qs13 q1 q329) ⟨rfl, by decide +kernel, by decide +kernel, by decide +kernel⟩ rfl ⟨Nat.le_of_ble_eq_true rfl, Nat.le_of_ble_eq_true rfl⟩ hl.1 (Nat.le_of_ble_eq_true rfl) rfl ⟨Nat.zero_le _, Nat.zero_le _⟩ dX2_poolPartOf_25) (fun H locs g => ?_)
  refine lv_istore_n (lv' := [(3, .int (clI F (wb 1 j) (suH h) (noH h))), (2, .ref (gA G (wb 1 j))), (0, .ref (gA G 0)), (1, .int (nI j))]) hx hb dX2_poolPartOf_28 rfl hl (by decide) rfl (fun ls hl => ?_)
  refine lv_iload_n hx hb dX2_poolPartOf_29 rfl (lv_at hl 0 rfl) ?_
  refine lv_aload_n hx hb dX2_poolPartOf_30 rfl (lv_at hl 2 rfl) ?_
  refine gP (k := 0) S g 0 (by decide) q90 dX2_poolPartOf_31 ?_
  refine lv_iload_n hx hb dX2_poolPartOf_34 rfl (lv_at hl 0 rfl) ?_
  refine g_ci (rest := [.int (clI F (wb 1 j) (suH h) (noH h))]) g (g_VN (n := 1) (As := [.int (clI F (wb 1 j) (suH h) (noH h))]) S g (c_reinsuredPart l G (F) o 1 (clI F (wb 1 j) (suH h) (noH h)) (Or.inl rfl)) (by decide) (cEb G _ o (Or.inl rfl)) rfl qn330 q232 qs11 q2 q233 ⟨by decide +kernel, by decide +kernel, by decide +kernel⟩ rfl ⟨Nat.le_of_ble_eq_true rfl, Nat.le_of_ble_eq_true rfl⟩ hl.1 (Nat.le_of_ble_eq_true rfl) rfl ⟨Nat.zero_le _, Nat.zero_le _⟩ dX2_poolPartOf_35) (fun H locs g => ?_)
  refine lv_isub hx hb dX2_poolPartOf_38 ?_
  exact e_i S hr hk0 g rfl rfl dX2_poolPartOf_39
set_option maxHeartbeats 4000000 in
set_option maxRecDepth 100000 in
theorem x_poolPartOf (l : Launch) (hfl : l.stackTraces = false) (G : gT) (F : Fs) (o : Int64) (x : Int32) (n : Nat) (hn : F 1 6 = nI n) (hxx : x < 0 ∨ nI n ≤ x) : MX l yX2_poolPartOf cX2_poolPartOf 4 (some .int) 6 90 [.ref (gA G 0), .int x] G (F) o xIB := by
  refine mk_X (own := "ShadowPool") (by decide +kernel) rfl (Nat.le_of_ble_eq_true rfl) ?_
  intro p e s m args below meth c ls hno hk0 S g hl
  have hl : lv_has ls 4 [(0, .ref (gA G 0)), (1, .int x)] := hl
  have hx := S.1
  have hb := S.2.1
  refine lv_aload_n hx hb dX2_poolPartOf_0 rfl (lv_at hl 0 rfl) ?_
  refine gP (k := 0) S g 0 (by decide) q90 dX2_poolPartOf_1 ?_
  refine lv_iload_n hx hb dX2_poolPartOf_4 rfl (lv_at hl 1 rfl) ?_
  refine g_cn (rest := []) g rfl (g_VN (n := 1) (As := [.int x]) S g (c_find_no l G (F) o 1 x n (Or.inl rfl) hn hxx) (by decide) (cEb G _ o (Or.inl rfl)) rfl qn272 q196 qs5 q2 q197 ⟨by decide +kernel, by decide +kernel, by decide +kernel⟩ rfl ⟨Nat.le_of_ble_eq_true rfl, Nat.le_of_ble_eq_true rfl⟩ hl.1 (Nat.le_of_ble_eq_true rfl) rfl ⟨Nat.zero_le _, Nat.zero_le _⟩ dX2_poolPartOf_5) (fun H locs g => ?_)
  refine lv_astore_nN (lv' := [(2, .null), (0, .ref (gA G 0)), (1, .int x)]) hx hb dX2_poolPartOf_8 rfl hl (by decide) rfl (fun ls hl => ?_)
  refine lv_aload_nN hx hb dX2_poolPartOf_9 rfl (lv_at hl 0 rfl) ?_
  refine lv_ifnonnullN hx hb dX2_poolPartOf_10 ?_
  exact e_x (text := "no such walker") hfl S hno hk0 g hl.1 g.2.2.2.2.2.2.2.2.2.2.2.1 (by decide +kernel) q273 q10 (by decide +kernel) atIB ngIB otIB dX2_poolPartOf_13 dX2_poolPartOf_16 dX2_poolPartOf_17 dX2_poolPartOf_19 dX2_poolPartOf_22 (Nat.le_of_ble_eq_true rfl) (Nat.le_of_ble_eq_true rfl) (Nat.le_refl _) (Nat.le_refl _)
set_option maxHeartbeats 4000000 in
set_option maxRecDepth 100000 in
theorem c_reinsuredPartOf_ok (l : Launch) (G : gT) (F : Fs) (o : Int64) (j : Nat) (n : Nat) (h : Nat) (hn : F 1 6 = nI n) (hj : j < n) (hn8 : n ≤ 8) (hh : F 1 0 = nI h) (hh2 : h < 2 ^ 29) : MI l yX2_reinsuredPartOf cX2_reinsuredPartOf 3 (some .int) 4 84 [.ref (gA G 0), .int (nI j)] G (F) o (F) (reI (clI F (wb 1 j) (suH h) (noH h)) (F 1 3) (F 1 4)) := by
  refine mk_G (own := "ShadowPool") (Qs := (fun sz => QI G (F) o (reI (clI F (wb 1 j) (suH h) (noH h)) (F 1 3) (F 1 4)) sz)) (by decide +kernel) rfl (Nat.le_of_ble_eq_true rfl) ?_
  intro p e s m args below meth c ls hr hk0 hnm S g hl
  have hl : lv_has ls 3 [(0, .ref (gA G 0)), (1, .int (nI j))] := hl
  have hx := S.1
  have hb := S.2.1
  refine lv_aload_n hx hb dX2_reinsuredPartOf_0 rfl (lv_at hl 0 rfl) ?_
  refine gP (k := 0) S g 0 (by decide) q90 dX2_reinsuredPartOf_1 ?_
  refine lv_iload_n hx hb dX2_reinsuredPartOf_4 rfl (lv_at hl 1 rfl) ?_
  refine g_cn (rest := []) g rfl (g_VN (n := 1) (As := [.int (nI j)]) S g (c_find_ok l G (F) o 1 j n (Or.inl rfl) hn hj hn8) (by decide) (cEb G _ o (Or.inl rfl)) rfl qn272 q196 qs5 q2 q197 ⟨by decide +kernel, by decide +kernel, by decide +kernel⟩ rfl ⟨Nat.le_of_ble_eq_true rfl, Nat.le_of_ble_eq_true rfl⟩ hl.1 (Nat.le_of_ble_eq_true rfl) rfl ⟨Nat.zero_le _, Nat.zero_le _⟩ dX2_reinsuredPartOf_5) (fun H locs g => ?_)
  refine lv_astore_n (lv' := [(2, .ref (gA G (wb 1 j))), (0, .ref (gA G 0)), (1, .int (nI j))]) hx hb dX2_reinsuredPartOf_8 rfl hl (by decide) rfl (fun ls hl => ?_)
  refine lv_aload_n hx hb dX2_reinsuredPartOf_9 rfl (lv_at hl 0 rfl) ?_
  refine lv_ifnonnull (tgt := 23) hx hb dX2_reinsuredPartOf_10 (by decide) ?_
  refine lv_aload_n hx hb dX2_reinsuredPartOf_23 rfl (lv_at hl 1 rfl) ?_
  refine gP (k := 0) S g 0 (by decide) q90 dX2_reinsuredPartOf_24 ?_
  refine lv_aload_n hx hb dX2_reinsuredPartOf_27 rfl (lv_at hl 1 rfl) ?_
  refine lv_aload_n hx hb dX2_reinsuredPartOf_28 rfl (lv_at hl 0 rfl) ?_
  refine g_ci (rest := [.ref (gA G 1)]) g (g_V (n := 1) (As := [.ref (gA G (wb 1 j))]) S g (c_claimNow l G (F) o (wb 1 j) h (wb_lo (Or.inl rfl) _) (wb_hi (Or.inl rfl) (by omega)) hh hh2) (by decide) (cE0 G _ o) rfl (lw_V q326 q328 qs13 q1 q329) ⟨rfl, by decide +kernel, by decide +kernel, by decide +kernel⟩ rfl ⟨Nat.le_of_ble_eq_true rfl, Nat.le_of_ble_eq_true rfl⟩ hl.1 (Nat.le_of_ble_eq_true rfl) rfl ⟨Nat.zero_le _, Nat.zero_le _⟩ dX2_reinsuredPartOf_29) (fun H locs g => ?_)
  refine g_ci (rest := []) g (g_VN (n := 1) (As := [.int (clI F (wb 1 j) (suH h) (noH h))]) S g (c_reinsuredPart l G (F) o 1 (clI F (wb 1 j) (suH h) (noH h)) (Or.inl rfl)) (by decide) (cEb G _ o (Or.inl rfl)) rfl qn330 q232 qs11 q2 q233 ⟨by decide +kernel, by decide +kernel, by decide +kernel⟩ rfl ⟨Nat.le_of_ble_eq_true rfl, Nat.le_of_ble_eq_true rfl⟩ hl.1 (Nat.le_of_ble_eq_true rfl) rfl ⟨Nat.zero_le _, Nat.zero_le _⟩ dX2_reinsuredPartOf_32) (fun H locs g => ?_)
  exact e_i S hr hk0 g rfl rfl dX2_reinsuredPartOf_35
set_option maxHeartbeats 4000000 in
set_option maxRecDepth 100000 in
theorem x_reinsuredPartOf (l : Launch) (hfl : l.stackTraces = false) (G : gT) (F : Fs) (o : Int64) (x : Int32) (n : Nat) (hn : F 1 6 = nI n) (hxx : x < 0 ∨ nI n ≤ x) : MX l yX2_reinsuredPartOf cX2_reinsuredPartOf 3 (some .int) 6 90 [.ref (gA G 0), .int x] G (F) o xIB := by
  refine mk_X (own := "ShadowPool") (by decide +kernel) rfl (Nat.le_of_ble_eq_true rfl) ?_
  intro p e s m args below meth c ls hno hk0 S g hl
  have hl : lv_has ls 3 [(0, .ref (gA G 0)), (1, .int x)] := hl
  have hx := S.1
  have hb := S.2.1
  refine lv_aload_n hx hb dX2_reinsuredPartOf_0 rfl (lv_at hl 0 rfl) ?_
  refine gP (k := 0) S g 0 (by decide) q90 dX2_reinsuredPartOf_1 ?_
  refine lv_iload_n hx hb dX2_reinsuredPartOf_4 rfl (lv_at hl 1 rfl) ?_
  refine g_cn (rest := []) g rfl (g_VN (n := 1) (As := [.int x]) S g (c_find_no l G (F) o 1 x n (Or.inl rfl) hn hxx) (by decide) (cEb G _ o (Or.inl rfl)) rfl qn272 q196 qs5 q2 q197 ⟨by decide +kernel, by decide +kernel, by decide +kernel⟩ rfl ⟨Nat.le_of_ble_eq_true rfl, Nat.le_of_ble_eq_true rfl⟩ hl.1 (Nat.le_of_ble_eq_true rfl) rfl ⟨Nat.zero_le _, Nat.zero_le _⟩ dX2_reinsuredPartOf_5) (fun H locs g => ?_)
  refine lv_astore_nN (lv' := [(2, .null), (0, .ref (gA G 0)), (1, .int x)]) hx hb dX2_reinsuredPartOf_8 rfl hl (by decide) rfl (fun ls hl => ?_)
  refine lv_aload_nN hx hb dX2_reinsuredPartOf_9 rfl (lv_at hl 0 rfl) ?_
  refine lv_ifnonnullN hx hb dX2_reinsuredPartOf_10 ?_
  exact e_x (text := "no such walker") hfl S hno hk0 g hl.1 g.2.2.2.2.2.2.2.2.2.2.2.1 (by decide +kernel) q273 q10 (by decide +kernel) atIB ngIB otIB dX2_reinsuredPartOf_13 dX2_reinsuredPartOf_16 dX2_reinsuredPartOf_17 dX2_reinsuredPartOf_19 dX2_reinsuredPartOf_22 (Nat.le_of_ble_eq_true rfl) (Nat.le_of_ble_eq_true rfl) (Nat.le_refl _) (Nat.le_refl _)
set_option maxHeartbeats 4000000 in
set_option maxRecDepth 100000 in
theorem c_hoursUntilFall_ok (l : Launch) (G : gT) (F : Fs) (o : Int64) (j : Nat) (n : Nat) (h : Nat) (hn : F 1 6 = nI n) (hj : j < n) (hn8 : n ≤ 8) (hh : F 1 0 = nI h) (hh2 : h < 2 ^ 29) : MI l yX2_hoursUntilFall cX2_hoursUntilFall 3 (some .int) 3 67 [.ref (gA G 0), .int (nI j)] G (F) o (F) (fbI F (wb 1 j) h) := by
  refine mk_G (own := "ShadowPool") (Qs := (fun sz => QI G (F) o (fbI F (wb 1 j) h) sz)) (by decide +kernel) rfl (Nat.le_of_ble_eq_true rfl) ?_
  intro p e s m args below meth c ls hr hk0 hnm S g hl
  have hl : lv_has ls 3 [(0, .ref (gA G 0)), (1, .int (nI j))] := hl
  have hx := S.1
  have hb := S.2.1
  refine lv_aload_n hx hb dX2_hoursUntilFall_0 rfl (lv_at hl 0 rfl) ?_
  refine gP (k := 0) S g 0 (by decide) q90 dX2_hoursUntilFall_1 ?_
  refine lv_iload_n hx hb dX2_hoursUntilFall_4 rfl (lv_at hl 1 rfl) ?_
  refine g_cn (rest := []) g rfl (g_VN (n := 1) (As := [.int (nI j)]) S g (c_find_ok l G (F) o 1 j n (Or.inl rfl) hn hj hn8) (by decide) (cEb G _ o (Or.inl rfl)) rfl qn272 q196 qs5 q2 q197 ⟨by decide +kernel, by decide +kernel, by decide +kernel⟩ rfl ⟨Nat.le_of_ble_eq_true rfl, Nat.le_of_ble_eq_true rfl⟩ hl.1 (Nat.le_of_ble_eq_true rfl) rfl ⟨Nat.zero_le _, Nat.zero_le _⟩ dX2_hoursUntilFall_5) (fun H locs g => ?_)
  refine lv_astore_n (lv' := [(2, .ref (gA G (wb 1 j))), (0, .ref (gA G 0)), (1, .int (nI j))]) hx hb dX2_hoursUntilFall_8 rfl hl (by decide) rfl (fun ls hl => ?_)
  refine lv_aload_n hx hb dX2_hoursUntilFall_9 rfl (lv_at hl 0 rfl) ?_
  refine lv_ifnonnull (tgt := 23) hx hb dX2_hoursUntilFall_10 (by decide) ?_
  refine lv_aload_n hx hb dX2_hoursUntilFall_23 rfl (lv_at hl 0 rfl) ?_
  refine lv_aload_n hx hb dX2_hoursUntilFall_24 rfl (lv_at hl 1 rfl) ?_
  refine gP (k := 0) S g 0 (by decide) q90 dX2_hoursUntilFall_25 ?_
  refine gBN (k := 1) S g (Or.inl rfl) 0 (by decide) qn59 dX2_hoursUntilFall_28 ?_
  rw [show (F 1 0 : Int32) = nI h from hh]
  refine g_ci (rest := []) g (g_VN (n := 1) (As := [.int (nI h)]) S g (c_fallsBehind l G (F) o (wb 1 j) h (wb_lo (Or.inl rfl) _) (wb_hi (Or.inl rfl) (by omega)) (by omega)) (Nat.lt_of_lt_of_le (wb_hi (Or.inl rfl) (by omega)) (by decide)) (cEw G _ o (wb_lo (Or.inl rfl) _) (wb_hi (Or.inl rfl) (by omega))) rfl qn359 q361 qs14 q3 q362 ⟨by decide +kernel, by decide +kernel, by decide +kernel⟩ rfl ⟨Nat.le_of_ble_eq_true rfl, Nat.le_of_ble_eq_true rfl⟩ hl.1 (Nat.le_of_ble_eq_true rfl) rfl ⟨Nat.zero_le _, Nat.zero_le _⟩ dX2_hoursUntilFall_31) (fun H locs g => ?_)
  exact e_i S hr hk0 g rfl rfl dX2_hoursUntilFall_34
set_option maxHeartbeats 4000000 in
set_option maxRecDepth 100000 in
theorem x_hoursUntilFall (l : Launch) (hfl : l.stackTraces = false) (G : gT) (F : Fs) (o : Int64) (x : Int32) (n : Nat) (hn : F 1 6 = nI n) (hxx : x < 0 ∨ nI n ≤ x) : MX l yX2_hoursUntilFall cX2_hoursUntilFall 3 (some .int) 6 90 [.ref (gA G 0), .int x] G (F) o xIB := by
  refine mk_X (own := "ShadowPool") (by decide +kernel) rfl (Nat.le_of_ble_eq_true rfl) ?_
  intro p e s m args below meth c ls hno hk0 S g hl
  have hl : lv_has ls 3 [(0, .ref (gA G 0)), (1, .int x)] := hl
  have hx := S.1
  have hb := S.2.1
  refine lv_aload_n hx hb dX2_hoursUntilFall_0 rfl (lv_at hl 0 rfl) ?_
  refine gP (k := 0) S g 0 (by decide) q90 dX2_hoursUntilFall_1 ?_
  refine lv_iload_n hx hb dX2_hoursUntilFall_4 rfl (lv_at hl 1 rfl) ?_
  refine g_cn (rest := []) g rfl (g_VN (n := 1) (As := [.int x]) S g (c_find_no l G (F) o 1 x n (Or.inl rfl) hn hxx) (by decide) (cEb G _ o (Or.inl rfl)) rfl qn272 q196 qs5 q2 q197 ⟨by decide +kernel, by decide +kernel, by decide +kernel⟩ rfl ⟨Nat.le_of_ble_eq_true rfl, Nat.le_of_ble_eq_true rfl⟩ hl.1 (Nat.le_of_ble_eq_true rfl) rfl ⟨Nat.zero_le _, Nat.zero_le _⟩ dX2_hoursUntilFall_5) (fun H locs g => ?_)
  refine lv_astore_nN (lv' := [(2, .null), (0, .ref (gA G 0)), (1, .int x)]) hx hb dX2_hoursUntilFall_8 rfl hl (by decide) rfl (fun ls hl => ?_)
  refine lv_aload_nN hx hb dX2_hoursUntilFall_9 rfl (lv_at hl 0 rfl) ?_
  refine lv_ifnonnullN hx hb dX2_hoursUntilFall_10 ?_
  exact e_x (text := "no such walker") hfl S hno hk0 g hl.1 g.2.2.2.2.2.2.2.2.2.2.2.1 (by decide +kernel) q273 q10 (by decide +kernel) atIB ngIB otIB dX2_hoursUntilFall_13 dX2_hoursUntilFall_16 dX2_hoursUntilFall_17 dX2_hoursUntilFall_19 dX2_hoursUntilFall_22 (Nat.le_of_ble_eq_true rfl) (Nat.le_of_ble_eq_true rfl) (Nat.le_refl _) (Nat.le_refl _)
set_option maxHeartbeats 4000000 in
set_option maxRecDepth 100000 in
theorem c_rest_ok (l : Launch) (G : gT) (F : Fs) (o : Int64) (j : Nat) (n : Nat) (hn : F 1 6 = nI n) (hj : j < n) (hn8 : n ≤ 8) : MI l yX2_rest cX2_rest 4 (some .int) 1 21 [.ref (gA G 0), .int (nI j)] G (F) o (up2 F (wb 1 j) 3 0) (F (wb 1 j) 3) := by
  refine mk_G (own := "ShadowPool") (Qs := (fun sz => QI G (up2 F (wb 1 j) 3 0) o (F (wb 1 j) 3) sz)) (by decide +kernel) rfl (Nat.le_of_ble_eq_true rfl) ?_
  intro p e s m args below meth c ls hr hk0 hnm S g hl
  have hl : lv_has ls 4 [(0, .ref (gA G 0)), (1, .int (nI j))] := hl
  have hx := S.1
  have hb := S.2.1
  refine lv_aload_n hx hb dX2_rest_0 rfl (lv_at hl 0 rfl) ?_
  refine gP (k := 0) S g 0 (by decide) q90 dX2_rest_1 ?_
  refine lv_iload_n hx hb dX2_rest_4 rfl (lv_at hl 1 rfl) ?_
  refine g_cn (rest := []) g rfl (g_VN (n := 1) (As := [.int (nI j)]) S g (c_find_ok l G (F) o 1 j n (Or.inl rfl) hn hj hn8) (by decide) (cEb G _ o (Or.inl rfl)) rfl qn272 q196 qs5 q2 q197 ⟨by decide +kernel, by decide +kernel, by decide +kernel⟩ rfl ⟨Nat.le_of_ble_eq_true rfl, Nat.le_of_ble_eq_true rfl⟩ hl.1 (Nat.le_of_ble_eq_true rfl) rfl ⟨Nat.zero_le _, Nat.zero_le _⟩ dX2_rest_5) (fun H locs g => ?_)
  refine lv_astore_n (lv' := [(2, .ref (gA G (wb 1 j))), (0, .ref (gA G 0)), (1, .int (nI j))]) hx hb dX2_rest_8 rfl hl (by decide) rfl (fun ls hl => ?_)
  refine lv_aload_n hx hb dX2_rest_9 rfl (lv_at hl 0 rfl) ?_
  refine lv_ifnonnull (tgt := 23) hx hb dX2_rest_10 (by decide) ?_
  refine lv_aload_n hx hb dX2_rest_23 rfl (lv_at hl 0 rfl) ?_
  refine gWN (k := wb 1 j) S g (wb_lo (Or.inl rfl) _) (wb_hi (Or.inl rfl) (by omega)) 3 (by decide) qn38 dX2_rest_24 ?_
  refine lv_istore_n (lv' := [(3, .int (F (wb 1 j) 3)), (2, .ref (gA G (wb 1 j))), (0, .ref (gA G 0)), (1, .int (nI j))]) hx hb dX2_rest_27 rfl hl (by decide) rfl (fun ls hl => ?_)
  refine lv_aload_n hx hb dX2_rest_28 rfl (lv_at hl 1 rfl) ?_
  refine lv_iconst (v := 0) hx hb dX2_rest_29 (by decide) ?_
  refine gWpN (k := wb 1 j) S g (wb_lo (Or.inl rfl) _) (wb_hi (Or.inl rfl) (by omega)) 3 (by decide) qn38 dX2_rest_30 (fun H locs g => ?_)
  refine lv_iload_n hx hb dX2_rest_33 rfl (lv_at hl 0 rfl) ?_
  exact e_i S hr hk0 g rfl rfl dX2_rest_34
set_option maxHeartbeats 4000000 in
set_option maxRecDepth 100000 in
theorem x_rest (l : Launch) (hfl : l.stackTraces = false) (G : gT) (F : Fs) (o : Int64) (x : Int32) (n : Nat) (hn : F 1 6 = nI n) (hxx : x < 0 ∨ nI n ≤ x) : MX l yX2_rest cX2_rest 4 (some .int) 6 90 [.ref (gA G 0), .int x] G (F) o xIB := by
  refine mk_X (own := "ShadowPool") (by decide +kernel) rfl (Nat.le_of_ble_eq_true rfl) ?_
  intro p e s m args below meth c ls hno hk0 S g hl
  have hl : lv_has ls 4 [(0, .ref (gA G 0)), (1, .int x)] := hl
  have hx := S.1
  have hb := S.2.1
  refine lv_aload_n hx hb dX2_rest_0 rfl (lv_at hl 0 rfl) ?_
  refine gP (k := 0) S g 0 (by decide) q90 dX2_rest_1 ?_
  refine lv_iload_n hx hb dX2_rest_4 rfl (lv_at hl 1 rfl) ?_
  refine g_cn (rest := []) g rfl (g_VN (n := 1) (As := [.int x]) S g (c_find_no l G (F) o 1 x n (Or.inl rfl) hn hxx) (by decide) (cEb G _ o (Or.inl rfl)) rfl qn272 q196 qs5 q2 q197 ⟨by decide +kernel, by decide +kernel, by decide +kernel⟩ rfl ⟨Nat.le_of_ble_eq_true rfl, Nat.le_of_ble_eq_true rfl⟩ hl.1 (Nat.le_of_ble_eq_true rfl) rfl ⟨Nat.zero_le _, Nat.zero_le _⟩ dX2_rest_5) (fun H locs g => ?_)
  refine lv_astore_nN (lv' := [(2, .null), (0, .ref (gA G 0)), (1, .int x)]) hx hb dX2_rest_8 rfl hl (by decide) rfl (fun ls hl => ?_)
  refine lv_aload_nN hx hb dX2_rest_9 rfl (lv_at hl 0 rfl) ?_
  refine lv_ifnonnullN hx hb dX2_rest_10 ?_
  exact e_x (text := "no such walker") hfl S hno hk0 g hl.1 g.2.2.2.2.2.2.2.2.2.2.2.1 (by decide +kernel) q273 q10 (by decide +kernel) atIB ngIB otIB dX2_rest_13 dX2_rest_16 dX2_rest_17 dX2_rest_19 dX2_rest_22 (Nat.le_of_ble_eq_true rfl) (Nat.le_of_ble_eq_true rfl) (Nat.le_refl _) (Nat.le_refl _)
set_option maxHeartbeats 4000000 in
set_option maxRecDepth 100000 in
theorem c_turnMember_ok (l : Launch) (G : gT) (F : Fs) (o : Int64) (j : Nat) (n : Nat) (hn : F 1 6 = nI n) (hj : j < n) (hn8 : n ≤ 8) : MI l yX2_turnMember cX2_turnMember 3 (some .boolean) 1 21 [.ref (gA G 0), .int (nI j)] G (F) o (up2 F (wb 1 j) 5 (if F (wb 1 j) 5 = 0 then 1 else 0)) (if F (wb 1 j) 5 = 0 then 1 else 0) := by
  refine mk_G (own := "ShadowPool") (Qs := (fun sz => QI G (up2 F (wb 1 j) 5 (if F (wb 1 j) 5 = 0 then 1 else 0)) o (if F (wb 1 j) 5 = 0 then 1 else 0) sz)) (by decide +kernel) rfl (Nat.le_of_ble_eq_true rfl) ?_
  intro p e s m args below meth c ls hr hk0 hnm S g hl
  have hl : lv_has ls 3 [(0, .ref (gA G 0)), (1, .int (nI j))] := hl
  have hx := S.1
  have hb := S.2.1
  refine lv_aload_n hx hb dX2_turnMember_0 rfl (lv_at hl 0 rfl) ?_
  refine gP (k := 0) S g 0 (by decide) q90 dX2_turnMember_1 ?_
  refine lv_iload_n hx hb dX2_turnMember_4 rfl (lv_at hl 1 rfl) ?_
  refine g_cn (rest := []) g rfl (g_VN (n := 1) (As := [.int (nI j)]) S g (c_find_ok l G (F) o 1 j n (Or.inl rfl) hn hj hn8) (by decide) (cEb G _ o (Or.inl rfl)) rfl qn272 q196 qs5 q2 q197 ⟨by decide +kernel, by decide +kernel, by decide +kernel⟩ rfl ⟨Nat.le_of_ble_eq_true rfl, Nat.le_of_ble_eq_true rfl⟩ hl.1 (Nat.le_of_ble_eq_true rfl) rfl ⟨Nat.zero_le _, Nat.zero_le _⟩ dX2_turnMember_5) (fun H locs g => ?_)
  refine lv_astore_n (lv' := [(2, .ref (gA G (wb 1 j))), (0, .ref (gA G 0)), (1, .int (nI j))]) hx hb dX2_turnMember_8 rfl hl (by decide) rfl (fun ls hl => ?_)
  refine lv_aload_n hx hb dX2_turnMember_9 rfl (lv_at hl 0 rfl) ?_
  refine lv_ifnonnull (tgt := 23) hx hb dX2_turnMember_10 (by decide) ?_
  refine lv_aload_n hx hb dX2_turnMember_23 rfl (lv_at hl 0 rfl) ?_
  refine lv_aload_n hx hb dX2_turnMember_24 rfl (lv_at hl 0 rfl) ?_
  refine gWN (k := wb 1 j) S g (wb_lo (Or.inl rfl) _) (wb_hi (Or.inl rfl) (by omega)) 5 (by decide) qn43 dX2_turnMember_25 ?_
  refine lv_if_ne (tgt := 35) hx hb dX2_turnMember_28 (by decide) (fun c_28 => ?_) (fun c_28 => ?_)
  · refine lv_iconst (v := 0) hx hb dX2_turnMember_35 (by decide) ?_
    refine gWzN (k := wb 1 j) S g (wb_lo (Or.inl rfl) _) (wb_hi (Or.inl rfl) (by omega)) 5 rfl (by first | exact Or.inl rfl | exact Or.inr rfl) qn43 dX2_turnMember_36 (fun H locs g => ?_)
    refine lv_aload_n hx hb dX2_turnMember_39 rfl (lv_at hl 0 rfl) ?_
    refine gWN (k := wb 1 j) S g (wb_lo (Or.inl rfl) _) (wb_hi (Or.inl rfl) (by omega)) 5 (by decide) qn43 dX2_turnMember_40 ?_
    exact e_z S hr hk0 g (by simp only [up2_s]; rfl) (by rw [up2_s]; simp only [c_28, ↓reduceIte]) (by simp only [c_28, ↓reduceIte]) dX2_turnMember_43
  · refine lv_iconst (v := 1) hx hb dX2_turnMember_31 (by decide) ?_
    refine lv_goto (tgt := 36) hx hb dX2_turnMember_32 (by decide) ?_
    refine gWzN (k := wb 1 j) S g (wb_lo (Or.inl rfl) _) (wb_hi (Or.inl rfl) (by omega)) 5 rfl (by first | exact Or.inl rfl | exact Or.inr rfl) qn43 dX2_turnMember_36 (fun H locs g => ?_)
    refine lv_aload_n hx hb dX2_turnMember_39 rfl (lv_at hl 0 rfl) ?_
    refine gWN (k := wb 1 j) S g (wb_lo (Or.inl rfl) _) (wb_hi (Or.inl rfl) (by omega)) 5 (by decide) qn43 dX2_turnMember_40 ?_
    exact e_z S hr hk0 g (by simp only [up2_s]; rfl) (by rw [up2_s]; simp only [c_28, ↓reduceIte]) (by simp only [c_28, ↓reduceIte]) dX2_turnMember_43
set_option maxHeartbeats 4000000 in
set_option maxRecDepth 100000 in
theorem x_turnMember (l : Launch) (hfl : l.stackTraces = false) (G : gT) (F : Fs) (o : Int64) (x : Int32) (n : Nat) (hn : F 1 6 = nI n) (hxx : x < 0 ∨ nI n ≤ x) : MX l yX2_turnMember cX2_turnMember 3 (some .boolean) 6 90 [.ref (gA G 0), .int x] G (F) o xIB := by
  refine mk_X (own := "ShadowPool") (by decide +kernel) rfl (Nat.le_of_ble_eq_true rfl) ?_
  intro p e s m args below meth c ls hno hk0 S g hl
  have hl : lv_has ls 3 [(0, .ref (gA G 0)), (1, .int x)] := hl
  have hx := S.1
  have hb := S.2.1
  refine lv_aload_n hx hb dX2_turnMember_0 rfl (lv_at hl 0 rfl) ?_
  refine gP (k := 0) S g 0 (by decide) q90 dX2_turnMember_1 ?_
  refine lv_iload_n hx hb dX2_turnMember_4 rfl (lv_at hl 1 rfl) ?_
  refine g_cn (rest := []) g rfl (g_VN (n := 1) (As := [.int x]) S g (c_find_no l G (F) o 1 x n (Or.inl rfl) hn hxx) (by decide) (cEb G _ o (Or.inl rfl)) rfl qn272 q196 qs5 q2 q197 ⟨by decide +kernel, by decide +kernel, by decide +kernel⟩ rfl ⟨Nat.le_of_ble_eq_true rfl, Nat.le_of_ble_eq_true rfl⟩ hl.1 (Nat.le_of_ble_eq_true rfl) rfl ⟨Nat.zero_le _, Nat.zero_le _⟩ dX2_turnMember_5) (fun H locs g => ?_)
  refine lv_astore_nN (lv' := [(2, .null), (0, .ref (gA G 0)), (1, .int x)]) hx hb dX2_turnMember_8 rfl hl (by decide) rfl (fun ls hl => ?_)
  refine lv_aload_nN hx hb dX2_turnMember_9 rfl (lv_at hl 0 rfl) ?_
  refine lv_ifnonnullN hx hb dX2_turnMember_10 ?_
  exact e_x (text := "no such walker") hfl S hno hk0 g hl.1 g.2.2.2.2.2.2.2.2.2.2.2.1 (by decide +kernel) q273 q10 (by decide +kernel) atIB ngIB otIB dX2_turnMember_13 dX2_turnMember_16 dX2_turnMember_17 dX2_turnMember_19 dX2_turnMember_22 (Nat.le_of_ble_eq_true rfl) (Nat.le_of_ble_eq_true rfl) (Nat.le_refl _) (Nat.le_refl _)
set_option maxHeartbeats 4000000 in
set_option maxRecDepth 100000 in
theorem c_setNet_ok (l : Launch) (G : gT) (F : Fs) (o : Int64) (j : Nat) (n : Nat) (y : Int32) (hn : F 1 6 = nI n) (hj : j < n) (hn8 : n ≤ 8) (hy9 : ¬ inR y 0 9 = 0) : MI l yX2_setNet cX2_setNet 5 (some .int) 1 22 [.ref (gA G 0), .int (nI j), .int y] G (F) o (up2 F (wb 1 j) 2 y) (F (wb 1 j) 2) := by
  refine mk_G (own := "ShadowPool") (Qs := (fun sz => QI G (up2 F (wb 1 j) 2 y) o (F (wb 1 j) 2) sz)) (by decide +kernel) rfl (Nat.le_of_ble_eq_true rfl) ?_
  intro p e s m args below meth c ls hr hk0 hnm S g hl
  have hl : lv_has ls 5 [(0, .ref (gA G 0)), (1, .int (nI j)), (2, .int y)] := hl
  have hx := S.1
  have hb := S.2.1
  refine lv_aload_n hx hb dX2_setNet_0 rfl (lv_at hl 0 rfl) ?_
  refine gP (k := 0) S g 0 (by decide) q90 dX2_setNet_1 ?_
  refine lv_iload_n hx hb dX2_setNet_4 rfl (lv_at hl 1 rfl) ?_
  refine g_cn (rest := []) g rfl (g_VN (n := 1) (As := [.int (nI j)]) S g (c_find_ok l G (F) o 1 j n (Or.inl rfl) hn hj hn8) (by decide) (cEb G _ o (Or.inl rfl)) rfl qn272 q196 qs5 q2 q197 ⟨by decide +kernel, by decide +kernel, by decide +kernel⟩ rfl ⟨Nat.le_of_ble_eq_true rfl, Nat.le_of_ble_eq_true rfl⟩ hl.1 (Nat.le_of_ble_eq_true rfl) rfl ⟨Nat.zero_le _, Nat.zero_le _⟩ dX2_setNet_5) (fun H locs g => ?_)
  refine lv_astore_n (lv' := [(3, .ref (gA G (wb 1 j))), (0, .ref (gA G 0)), (1, .int (nI j)), (2, .int y)]) hx hb dX2_setNet_8 rfl hl (by decide) rfl (fun ls hl => ?_)
  refine lv_aload_n hx hb dX2_setNet_9 rfl (lv_at hl 0 rfl) ?_
  refine lv_ifnonnull (tgt := 23) hx hb dX2_setNet_10 (by decide) ?_
  refine lv_iload_n hx hb dX2_setNet_23 rfl (lv_at hl 3 rfl) ?_
  refine lv_iconst (v := 0) hx hb dX2_setNet_24 (by decide) ?_
  refine lv_bipush (v := 9) hx hb dX2_setNet_25 (by decide) ?_
  refine g_ci (rest := []) g (g_S (n := 3) (As := [.int y, .int 0, .int 9]) S g (c_within l G (F) o y 0 9) (lw_S q101 q102 q1 q103) ⟨by decide +kernel, by decide +kernel, by decide +kernel⟩ rfl ⟨Nat.le_of_ble_eq_true rfl, Nat.le_of_ble_eq_true rfl⟩ hl.1 (Nat.le_of_ble_eq_true rfl) rfl ⟨Nat.zero_le _, Nat.zero_le _⟩ dX2_setNet_27) (fun H locs g => ?_)
  refine lv_if_ne (tgt := 43) hx hb dX2_setNet_30 (by decide) (fun c_30 => ?_) (fun c9 => absurd c9 hy9)
  refine lv_aload_n hx hb dX2_setNet_43 rfl (lv_at hl 0 rfl) ?_
  refine gWN (k := wb 1 j) S g (wb_lo (Or.inl rfl) _) (wb_hi (Or.inl rfl) (by omega)) 2 (by decide) qn36 dX2_setNet_44 ?_
  refine lv_istore (lv' := [(4, .int (F (wb 1 j) 2)), (3, .ref (gA G (wb 1 j))), (0, .ref (gA G 0)), (1, .int (nI j)), (2, .int y)]) hx hb dX2_setNet_47 hl (by decide) rfl (fun ls hl => ?_)
  refine lv_aload_n hx hb dX2_setNet_49 rfl (lv_at hl 1 rfl) ?_
  refine lv_iload_n hx hb dX2_setNet_50 rfl (lv_at hl 4 rfl) ?_
  refine gWpN (k := wb 1 j) S g (wb_lo (Or.inl rfl) _) (wb_hi (Or.inl rfl) (by omega)) 2 (by decide) qn36 dX2_setNet_51 (fun H locs g => ?_)
  refine lv_iload hx hb dX2_setNet_54 (lv_at hl 0 rfl) ?_
  exact e_i S hr hk0 g rfl rfl dX2_setNet_56
set_option maxHeartbeats 4000000 in
set_option maxRecDepth 100000 in
theorem x_setNet (l : Launch) (hfl : l.stackTraces = false) (G : gT) (F : Fs) (o : Int64) (x : Int32) (n : Nat) (y : Int32) (hn : F 1 6 = nI n) (hxx : x < 0 ∨ nI n ≤ x) : MX l yX2_setNet cX2_setNet 5 (some .int) 6 90 [.ref (gA G 0), .int x, .int y] G (F) o xIB := by
  refine mk_X (own := "ShadowPool") (by decide +kernel) rfl (Nat.le_of_ble_eq_true rfl) ?_
  intro p e s m args below meth c ls hno hk0 S g hl
  have hl : lv_has ls 5 [(0, .ref (gA G 0)), (1, .int x), (2, .int y)] := hl
  have hx := S.1
  have hb := S.2.1
  refine lv_aload_n hx hb dX2_setNet_0 rfl (lv_at hl 0 rfl) ?_
  refine gP (k := 0) S g 0 (by decide) q90 dX2_setNet_1 ?_
  refine lv_iload_n hx hb dX2_setNet_4 rfl (lv_at hl 1 rfl) ?_
  refine g_cn (rest := []) g rfl (g_VN (n := 1) (As := [.int x]) S g (c_find_no l G (F) o 1 x n (Or.inl rfl) hn hxx) (by decide) (cEb G _ o (Or.inl rfl)) rfl qn272 q196 qs5 q2 q197 ⟨by decide +kernel, by decide +kernel, by decide +kernel⟩ rfl ⟨Nat.le_of_ble_eq_true rfl, Nat.le_of_ble_eq_true rfl⟩ hl.1 (Nat.le_of_ble_eq_true rfl) rfl ⟨Nat.zero_le _, Nat.zero_le _⟩ dX2_setNet_5) (fun H locs g => ?_)
  refine lv_astore_nN (lv' := [(3, .null), (0, .ref (gA G 0)), (1, .int x), (2, .int y)]) hx hb dX2_setNet_8 rfl hl (by decide) rfl (fun ls hl => ?_)
  refine lv_aload_nN hx hb dX2_setNet_9 rfl (lv_at hl 0 rfl) ?_
  refine lv_ifnonnullN hx hb dX2_setNet_10 ?_
  exact e_x (text := "no such walker") hfl S hno hk0 g hl.1 g.2.2.2.2.2.2.2.2.2.2.2.1 (by decide +kernel) q273 q10 (by decide +kernel) atIB ngIB otIB dX2_setNet_13 dX2_setNet_16 dX2_setNet_17 dX2_setNet_19 dX2_setNet_22 (Nat.le_of_ble_eq_true rfl) (Nat.le_of_ble_eq_true rfl) (Nat.le_refl _) (Nat.le_refl _)
set_option maxHeartbeats 4000000 in
set_option maxRecDepth 100000 in
theorem x_setNet_net (l : Launch) (hfl : l.stackTraces = false) (G : gT) (F : Fs) (o : Int64) (j : Nat) (n : Nat) (y : Int32) (hn : F 1 6 = nI n) (hj : j < n) (hn8 : n ≤ 8) (hy9 : inR y 0 9 = 0) : MX l yX2_setNet cX2_setNet 5 (some .int) 6 90 [.ref (gA G 0), .int (nI j), .int y] G (F) o xIA := by
  refine mk_X (own := "ShadowPool") (by decide +kernel) rfl (Nat.le_of_ble_eq_true rfl) ?_
  intro p e s m args below meth c ls hno hk0 S g hl
  have hl : lv_has ls 5 [(0, .ref (gA G 0)), (1, .int (nI j)), (2, .int y)] := hl
  have hx := S.1
  have hb := S.2.1
  refine lv_aload_n hx hb dX2_setNet_0 rfl (lv_at hl 0 rfl) ?_
  refine gP (k := 0) S g 0 (by decide) q90 dX2_setNet_1 ?_
  refine lv_iload_n hx hb dX2_setNet_4 rfl (lv_at hl 1 rfl) ?_
  refine g_cn (rest := []) g rfl (g_VN (n := 1) (As := [.int (nI j)]) S g (c_find_ok l G (F) o 1 j n (Or.inl rfl) hn hj hn8) (by decide) (cEb G _ o (Or.inl rfl)) rfl qn272 q196 qs5 q2 q197 ⟨by decide +kernel, by decide +kernel, by decide +kernel⟩ rfl ⟨Nat.le_of_ble_eq_true rfl, Nat.le_of_ble_eq_true rfl⟩ hl.1 (Nat.le_of_ble_eq_true rfl) rfl ⟨Nat.zero_le _, Nat.zero_le _⟩ dX2_setNet_5) (fun H locs g => ?_)
  refine lv_astore_n (lv' := [(3, .ref (gA G (wb 1 j))), (0, .ref (gA G 0)), (1, .int (nI j)), (2, .int y)]) hx hb dX2_setNet_8 rfl hl (by decide) rfl (fun ls hl => ?_)
  refine lv_aload_n hx hb dX2_setNet_9 rfl (lv_at hl 0 rfl) ?_
  refine lv_ifnonnull (tgt := 23) hx hb dX2_setNet_10 (by decide) ?_
  refine lv_iload_n hx hb dX2_setNet_23 rfl (lv_at hl 3 rfl) ?_
  refine lv_iconst (v := 0) hx hb dX2_setNet_24 (by decide) ?_
  refine lv_bipush (v := 9) hx hb dX2_setNet_25 (by decide) ?_
  refine g_ci (rest := []) g (g_S (n := 3) (As := [.int y, .int 0, .int 9]) S g (c_within l G (F) o y 0 9) (lw_S q101 q102 q1 q103) ⟨by decide +kernel, by decide +kernel, by decide +kernel⟩ rfl ⟨Nat.le_of_ble_eq_true rfl, Nat.le_of_ble_eq_true rfl⟩ hl.1 (Nat.le_of_ble_eq_true rfl) rfl ⟨Nat.zero_le _, Nat.zero_le _⟩ dX2_setNet_27) (fun H locs g => ?_)
  refine lv_if_ne (tgt := 43) hx hb dX2_setNet_30 (by decide) (fun c9 => absurd hy9 c9) (fun c_30 => ?_)
  exact e_x (text := "net is not 0 to 9") hfl S hno hk0 g hl.1 g.2.2.2.2.2.2.2.2.2.1 (by decide +kernel) q104 q8 (by decide +kernel) atIA ngIA otIA dX2_setNet_33 dX2_setNet_36 dX2_setNet_37 dX2_setNet_39 dX2_setNet_42 (Nat.le_of_ble_eq_true rfl) (Nat.le_of_ble_eq_true rfl) (Nat.le_refl _) (Nat.le_refl _)
set_option maxHeartbeats 4000000 in
set_option maxRecDepth 100000 in
theorem c_setRate_ok (l : Launch) (G : gT) (F : Fs) (o : Int64) (x : Int32) (hx9 : ¬ inR x 0 9 = 0) : MI l yX2_setRate cX2_setRate 3 (some .int) 1 22 [.ref (gA G 0), .int x] G (F) o (up2 F 1 2 x) (F 1 2) := by
  refine mk_G (own := "ShadowPool") (Qs := (fun sz => QI G (up2 F 1 2 x) o (F 1 2) sz)) (by decide +kernel) rfl (Nat.le_of_ble_eq_true rfl) ?_
  intro p e s m args below meth c ls hr hk0 hnm S g hl
  have hl : lv_has ls 3 [(0, .ref (gA G 0)), (1, .int x)] := hl
  have hx := S.1
  have hb := S.2.1
  refine lv_iload_n hx hb dX2_setRate_0 rfl (lv_at hl 1 rfl) ?_
  refine lv_iconst (v := 0) hx hb dX2_setRate_1 (by decide) ?_
  refine lv_bipush (v := 9) hx hb dX2_setRate_2 (by decide) ?_
  refine g_ci (rest := []) g (g_S (n := 3) (As := [.int x, .int 0, .int 9]) S g (c_within l G (F) o x 0 9) (lw_S q101 q102 q1 q103) ⟨by decide +kernel, by decide +kernel, by decide +kernel⟩ rfl ⟨Nat.le_of_ble_eq_true rfl, Nat.le_of_ble_eq_true rfl⟩ hl.1 (Nat.le_of_ble_eq_true rfl) rfl ⟨Nat.zero_le _, Nat.zero_le _⟩ dX2_setRate_4) (fun H locs g => ?_)
  refine lv_if_ne (tgt := 20) hx hb dX2_setRate_7 (by decide) (fun c_7 => ?_) (fun c9 => absurd c9 hx9)
  refine lv_aload_n hx hb dX2_setRate_20 rfl (lv_at hl 0 rfl) ?_
  refine gP (k := 0) S g 0 (by decide) q90 dX2_setRate_21 ?_
  refine gBN (k := 1) S g (Or.inl rfl) 2 (by decide) qn63 dX2_setRate_24 ?_
  refine lv_istore_n (lv' := [(2, .int (F 1 2)), (0, .ref (gA G 0)), (1, .int x)]) hx hb dX2_setRate_27 rfl hl (by decide) rfl (fun ls hl => ?_)
  refine lv_aload_n hx hb dX2_setRate_28 rfl (lv_at hl 1 rfl) ?_
  refine gP (k := 0) S g 0 (by decide) q90 dX2_setRate_29 ?_
  refine lv_iload_n hx hb dX2_setRate_32 rfl (lv_at hl 2 rfl) ?_
  refine gBpN (k := 1) S g (Or.inl rfl) 2 (by decide) qn63 dX2_setRate_33 (fun H locs g => ?_)
  refine lv_iload_n hx hb dX2_setRate_36 rfl (lv_at hl 0 rfl) ?_
  exact e_i S hr hk0 g rfl rfl dX2_setRate_37
set_option maxHeartbeats 4000000 in
set_option maxRecDepth 100000 in
theorem x_setRate (l : Launch) (hfl : l.stackTraces = false) (G : gT) (F : Fs) (o : Int64) (x : Int32) (hx9 : inR x 0 9 = 0) : MX l yX2_setRate cX2_setRate 3 (some .int) 6 90 [.ref (gA G 0), .int x] G (F) o xIA := by
  refine mk_X (own := "ShadowPool") (by decide +kernel) rfl (Nat.le_of_ble_eq_true rfl) ?_
  intro p e s m args below meth c ls hno hk0 S g hl
  have hl : lv_has ls 3 [(0, .ref (gA G 0)), (1, .int x)] := hl
  have hx := S.1
  have hb := S.2.1
  refine lv_iload_n hx hb dX2_setRate_0 rfl (lv_at hl 1 rfl) ?_
  refine lv_iconst (v := 0) hx hb dX2_setRate_1 (by decide) ?_
  refine lv_bipush (v := 9) hx hb dX2_setRate_2 (by decide) ?_
  refine g_ci (rest := []) g (g_S (n := 3) (As := [.int x, .int 0, .int 9]) S g (c_within l G (F) o x 0 9) (lw_S q101 q102 q1 q103) ⟨by decide +kernel, by decide +kernel, by decide +kernel⟩ rfl ⟨Nat.le_of_ble_eq_true rfl, Nat.le_of_ble_eq_true rfl⟩ hl.1 (Nat.le_of_ble_eq_true rfl) rfl ⟨Nat.zero_le _, Nat.zero_le _⟩ dX2_setRate_4) (fun H locs g => ?_)
  refine lv_if_ne (tgt := 20) hx hb dX2_setRate_7 (by decide) (fun c9 => absurd hx9 c9) (fun c_7 => ?_)
  exact e_x (text := "rate is not 0 to 9") hfl S hno hk0 g hl.1 g.2.2.2.2.2.2.2.2.2.1 (by decide +kernel) q104 q8 (by decide +kernel) atIA ngIA otIA dX2_setRate_10 dX2_setRate_13 dX2_setRate_14 dX2_setRate_16 dX2_setRate_19 (Nat.le_of_ble_eq_true rfl) (Nat.le_of_ble_eq_true rfl) (Nat.le_refl _) (Nat.le_refl _)
set_option maxHeartbeats 4000000 in
set_option maxRecDepth 100000 in
theorem c_reinsure_ok (l : Launch) (G : gT) (F : Fs) (o : Int64) (x : Int32) (y : Int32) (hx9 : ¬ inR x 0 200 = 0) (hy9 : ¬ inR y 0 400 = 0) : MI l yX2_reinsure cX2_reinsure 4 (some .int) 1 22 [.ref (gA G 0), .int x, .int y] G (F) o (up2 (up2 F 1 3 x) 1 4 y) (F 1 4) := by
  refine mk_G (own := "ShadowPool") (Qs := (fun sz => QI G (up2 (up2 F 1 3 x) 1 4 y) o (F 1 4) sz)) (by decide +kernel) rfl (Nat.le_of_ble_eq_true rfl) ?_
  intro p e s m args below meth c ls hr hk0 hnm S g hl
  have hl : lv_has ls 4 [(0, .ref (gA G 0)), (1, .int x), (2, .int y)] := hl
  have hx := S.1
  have hb := S.2.1
  refine lv_iload_n hx hb dX2_reinsure_0 rfl (lv_at hl 1 rfl) ?_
  refine lv_iconst (v := 0) hx hb dX2_reinsure_1 (by decide) ?_
  refine lv_sipush (v := 200) hx hb dX2_reinsure_2 (by decide) ?_
  refine g_ci (rest := []) g (g_S (n := 3) (As := [.int x, .int 0, .int 200]) S g (c_within l G (F) o x 0 200) (lw_S q101 q102 q1 q103) ⟨by decide +kernel, by decide +kernel, by decide +kernel⟩ rfl ⟨Nat.le_of_ble_eq_true rfl, Nat.le_of_ble_eq_true rfl⟩ hl.1 (Nat.le_of_ble_eq_true rfl) rfl ⟨Nat.zero_le _, Nat.zero_le _⟩ dX2_reinsure_5) (fun H locs g => ?_)
  refine lv_if_ne (tgt := 21) hx hb dX2_reinsure_8 (by decide) (fun c_8 => ?_) (fun c9 => absurd c9 hx9)
  refine lv_iload_n hx hb dX2_reinsure_21 rfl (lv_at hl 2 rfl) ?_
  refine lv_iconst (v := 0) hx hb dX2_reinsure_22 (by decide) ?_
  refine lv_sipush (v := 400) hx hb dX2_reinsure_23 (by decide) ?_
  refine g_ci (rest := []) g (g_S (n := 3) (As := [.int y, .int 0, .int 400]) S g (c_within l G (F) o y 0 400) (lw_S q101 q102 q1 q103) ⟨by decide +kernel, by decide +kernel, by decide +kernel⟩ rfl ⟨Nat.le_of_ble_eq_true rfl, Nat.le_of_ble_eq_true rfl⟩ hl.1 (Nat.le_of_ble_eq_true rfl) rfl ⟨Nat.zero_le _, Nat.zero_le _⟩ dX2_reinsure_26) (fun H locs g => ?_)
  refine lv_if_ne (tgt := 42) hx hb dX2_reinsure_29 (by decide) (fun c_29 => ?_) (fun c9 => absurd c9 hy9)
  refine lv_aload_n hx hb dX2_reinsure_42 rfl (lv_at hl 0 rfl) ?_
  refine gP (k := 0) S g 0 (by decide) q90 dX2_reinsure_43 ?_
  refine gBN (k := 1) S g (Or.inl rfl) 4 (by decide) qn67 dX2_reinsure_46 ?_
  refine lv_istore_n (lv' := [(3, .int (F 1 4)), (0, .ref (gA G 0)), (1, .int x), (2, .int y)]) hx hb dX2_reinsure_49 rfl hl (by decide) rfl (fun ls hl => ?_)
  refine lv_aload_n hx hb dX2_reinsure_50 rfl (lv_at hl 1 rfl) ?_
  refine gP (k := 0) S g 0 (by decide) q90 dX2_reinsure_51 ?_
  refine lv_iload_n hx hb dX2_reinsure_54 rfl (lv_at hl 2 rfl) ?_
  refine gBpN (k := 1) S g (Or.inl rfl) 3 (by decide) qn65 dX2_reinsure_55 (fun H locs g => ?_)
  refine lv_aload_n hx hb dX2_reinsure_58 rfl (lv_at hl 1 rfl) ?_
  refine gP (k := 0) S g 0 (by decide) q90 dX2_reinsure_59 ?_
  refine lv_iload_n hx hb dX2_reinsure_62 rfl (lv_at hl 3 rfl) ?_
  refine gBpN (k := 1) S g (Or.inl rfl) 4 (by decide) qn67 dX2_reinsure_63 (fun H locs g => ?_)
  refine lv_iload_n hx hb dX2_reinsure_66 rfl (lv_at hl 0 rfl) ?_
  exact e_i S hr hk0 g rfl rfl dX2_reinsure_67
set_option maxHeartbeats 4000000 in
set_option maxRecDepth 100000 in
theorem x_reinsure (l : Launch) (hfl : l.stackTraces = false) (G : gT) (F : Fs) (o : Int64) (x : Int32) (y : Int32) (hb9 : inR x 0 200 = 0 ∨ inR y 0 400 = 0) : MX l yX2_reinsure cX2_reinsure 4 (some .int) 6 90 [.ref (gA G 0), .int x, .int y] G (F) o xIA := by
  refine mk_X (own := "ShadowPool") (by decide +kernel) rfl (Nat.le_of_ble_eq_true rfl) ?_
  intro p e s m args below meth c ls hno hk0 S g hl
  have hl : lv_has ls 4 [(0, .ref (gA G 0)), (1, .int x), (2, .int y)] := hl
  have hx := S.1
  have hb := S.2.1
  refine lv_iload_n hx hb dX2_reinsure_0 rfl (lv_at hl 1 rfl) ?_
  refine lv_iconst (v := 0) hx hb dX2_reinsure_1 (by decide) ?_
  refine lv_sipush (v := 200) hx hb dX2_reinsure_2 (by decide) ?_
  refine g_ci (rest := []) g (g_S (n := 3) (As := [.int x, .int 0, .int 200]) S g (c_within l G (F) o x 0 200) (lw_S q101 q102 q1 q103) ⟨by decide +kernel, by decide +kernel, by decide +kernel⟩ rfl ⟨Nat.le_of_ble_eq_true rfl, Nat.le_of_ble_eq_true rfl⟩ hl.1 (Nat.le_of_ble_eq_true rfl) rfl ⟨Nat.zero_le _, Nat.zero_le _⟩ dX2_reinsure_5) (fun H locs g => ?_)
  refine lv_if_ne (tgt := 21) hx hb dX2_reinsure_8 (by decide) (fun c_8 => ?_) (fun c_8 => ?_)
  · refine lv_iload_n hx hb dX2_reinsure_21 rfl (lv_at hl 2 rfl) ?_
    refine lv_iconst (v := 0) hx hb dX2_reinsure_22 (by decide) ?_
    refine lv_sipush (v := 400) hx hb dX2_reinsure_23 (by decide) ?_
    refine g_ci (rest := []) g (g_S (n := 3) (As := [.int y, .int 0, .int 400]) S g (c_within l G (F) o y 0 400) (lw_S q101 q102 q1 q103) ⟨by decide +kernel, by decide +kernel, by decide +kernel⟩ rfl ⟨Nat.le_of_ble_eq_true rfl, Nat.le_of_ble_eq_true rfl⟩ hl.1 (Nat.le_of_ble_eq_true rfl) rfl ⟨Nat.zero_le _, Nat.zero_le _⟩ dX2_reinsure_26) (fun H locs g => ?_)
    refine lv_if_ne (tgt := 42) hx hb dX2_reinsure_29 (by decide) (fun c9 => absurd (hb9.resolve_left c_8) c9) (fun c_29 => ?_)
    exact e_x (text := "limit is not 0 to 400") hfl S hno hk0 g hl.1 g.2.2.2.2.2.2.2.2.2.1 (by decide +kernel) q104 q8 (by decide +kernel) atIA ngIA otIA dX2_reinsure_32 dX2_reinsure_35 dX2_reinsure_36 dX2_reinsure_38 dX2_reinsure_41 (Nat.le_of_ble_eq_true rfl) (Nat.le_of_ble_eq_true rfl) (Nat.le_refl _) (Nat.le_refl _)
  · exact e_x (text := "retention is not 0 to 200") hfl S hno hk0 g hl.1 g.2.2.2.2.2.2.2.2.2.1 (by decide +kernel) q104 q8 (by decide +kernel) atIA ngIA otIA dX2_reinsure_11 dX2_reinsure_14 dX2_reinsure_15 dX2_reinsure_17 dX2_reinsure_20 (Nat.le_of_ble_eq_true rfl) (Nat.le_of_ble_eq_true rfl) (Nat.le_refl _) (Nat.le_refl _)
set_option maxHeartbeats 4000000 in
set_option maxRecDepth 100000 in
theorem c_pass_ok (l : Launch) (G : gT) (F : Fs) (o : Int64) (t : Nat) (n : Nat) (h : Nat) (hok : okP F n h) (hn8 : n ≤ 8) (hh2 : h < 2 ^ 28) (ht1 : 1 ≤ t) (ht : t ≤ 60) : MI l yX2_pass cX2_pass 2 (some .int) 5 117 [.ref (gA G 0), .int (nI t)] G (F) o ((gbL 1 n t h 0 F).2) ((gbL 1 n t h 0 F).1) := by
  refine mk_G (own := "ShadowPool") (Qs := (fun sz => QI G ((gbL 1 n t h 0 F).2) o ((gbL 1 n t h 0 F).1) sz)) (by decide +kernel) rfl (Nat.le_of_ble_eq_true rfl) ?_
  intro p e s m args below meth c ls hr hk0 hnm S g hl
  have hl : lv_has ls 2 [(0, .ref (gA G 0)), (1, .int (nI t))] := hl
  have hx := S.1
  have hb := S.2.1
  refine lv_iload_n hx hb dX2_pass_0 rfl (lv_at hl 1 rfl) ?_
  refine lv_iconst (v := 1) hx hb dX2_pass_1 (by decide) ?_
  refine lv_bipush (v := 60) hx hb dX2_pass_2 (by decide) ?_
  refine g_ci (rest := []) g (g_S (n := 3) (As := [.int (nI t), .int 1, .int 60]) S g (c_within l G (F) o (nI t) 1 60) (lw_S q101 q102 q1 q103) ⟨by decide +kernel, by decide +kernel, by decide +kernel⟩ rfl ⟨Nat.le_of_ble_eq_true rfl, Nat.le_of_ble_eq_true rfl⟩ hl.1 (Nat.le_of_ble_eq_true rfl) rfl ⟨Nat.zero_le _, Nat.zero_le _⟩ dX2_pass_4) (fun H locs g => ?_)
  refine lv_if_ne (tgt := 20) hx hb dX2_pass_7 (by decide) (fun c_7 => ?_) (fun c9 => absurd c9 (inR_N (lo := 1) (hi := 60) ht1 ht (by decide)))
  refine lv_aload_n hx hb dX2_pass_20 rfl (lv_at hl 0 rfl) ?_
  refine gP (k := 0) S g 0 (by decide) q90 dX2_pass_21 ?_
  refine lv_iload_n hx hb dX2_pass_24 rfl (lv_at hl 1 rfl) ?_
  refine g_ci (rest := []) g (g_VN (n := 1) (As := [.int (nI t)]) S g (c_letGoBy l G (F) o 1 n h t (Or.inl rfl) hok.1 hn8 hok.2.1 (by omega)) (by decide) (cEb G _ o (Or.inl rfl)) rfl qn172 q174 qs1 q2 q175 ⟨by decide +kernel, by decide +kernel, by decide +kernel⟩ rfl ⟨Nat.le_of_ble_eq_true rfl, Nat.le_of_ble_eq_true rfl⟩ hl.1 (Nat.le_of_ble_eq_true rfl) rfl ⟨Nat.zero_le _, Nat.zero_le _⟩ dX2_pass_25) (fun H locs g => ?_)
  exact e_i S hr hk0 g rfl rfl dX2_pass_28
set_option maxHeartbeats 4000000 in
set_option maxRecDepth 100000 in
theorem x_pass (l : Launch) (hfl : l.stackTraces = false) (G : gT) (F : Fs) (o : Int64) (x : Int32) (hx9 : inR x 1 60 = 0) : MX l yX2_pass cX2_pass 2 (some .int) 6 90 [.ref (gA G 0), .int x] G (F) o xIA := by
  refine mk_X (own := "ShadowPool") (by decide +kernel) rfl (Nat.le_of_ble_eq_true rfl) ?_
  intro p e s m args below meth c ls hno hk0 S g hl
  have hl : lv_has ls 2 [(0, .ref (gA G 0)), (1, .int x)] := hl
  have hx := S.1
  have hb := S.2.1
  refine lv_iload_n hx hb dX2_pass_0 rfl (lv_at hl 1 rfl) ?_
  refine lv_iconst (v := 1) hx hb dX2_pass_1 (by decide) ?_
  refine lv_bipush (v := 60) hx hb dX2_pass_2 (by decide) ?_
  refine g_ci (rest := []) g (g_S (n := 3) (As := [.int x, .int 1, .int 60]) S g (c_within l G (F) o x 1 60) (lw_S q101 q102 q1 q103) ⟨by decide +kernel, by decide +kernel, by decide +kernel⟩ rfl ⟨Nat.le_of_ble_eq_true rfl, Nat.le_of_ble_eq_true rfl⟩ hl.1 (Nat.le_of_ble_eq_true rfl) rfl ⟨Nat.zero_le _, Nat.zero_le _⟩ dX2_pass_4) (fun H locs g => ?_)
  refine lv_if_ne (tgt := 20) hx hb dX2_pass_7 (by decide) (fun c9 => absurd hx9 c9) (fun c_7 => ?_)
  exact e_x (text := "hours is not 1 to 60") hfl S hno hk0 g hl.1 g.2.2.2.2.2.2.2.2.2.1 (by decide +kernel) q104 q8 (by decide +kernel) atIA ngIA otIA dX2_pass_10 dX2_pass_13 dX2_pass_14 dX2_pass_16 dX2_pass_19 (Nat.le_of_ble_eq_true rfl) (Nat.le_of_ble_eq_true rfl) (Nat.le_refl _) (Nat.le_refl _)
set_option maxHeartbeats 4000000 in
set_option maxRecDepth 100000 in
theorem c_fundIn_ok (l : Launch) (G : gT) (F : Fs) (o : Int64) (t : Nat) (n : Nat) (h : Nat) (hok : okP F n h) (hn8 : n ≤ 8) (hh2 : h < 2 ^ 28) (ht1 : 1 ≤ t) (ht : t ≤ 60) : MI l yX2_fundIn cX2_fundIn 2 (some .int) 6 140 [.ref (gA G 0), .int (nI t)] G (F) o (fbF F n h t (F 1 2) (F 1 4)) (fbF F n h t (F 1 2) (F 1 4) 2 1) := by
  refine mk_G (own := "ShadowPool") (Qs := (fun sz => QI G (fbF F n h t (F 1 2) (F 1 4)) o (fbF F n h t (F 1 2) (F 1 4) 2 1) sz)) (by decide +kernel) rfl (Nat.le_of_ble_eq_true rfl) ?_
  intro p e s m args below meth c ls hr hk0 hnm S g hl
  have hl : lv_has ls 2 [(0, .ref (gA G 0)), (1, .int (nI t))] := hl
  have hx := S.1
  have hb := S.2.1
  refine lv_iload_n hx hb dX2_fundIn_0 rfl (lv_at hl 1 rfl) ?_
  refine lv_iconst (v := 1) hx hb dX2_fundIn_1 (by decide) ?_
  refine lv_bipush (v := 60) hx hb dX2_fundIn_2 (by decide) ?_
  refine g_ci (rest := []) g (g_S (n := 3) (As := [.int (nI t), .int 1, .int 60]) S g (c_within l G (F) o (nI t) 1 60) (lw_S q101 q102 q1 q103) ⟨by decide +kernel, by decide +kernel, by decide +kernel⟩ rfl ⟨Nat.le_of_ble_eq_true rfl, Nat.le_of_ble_eq_true rfl⟩ hl.1 (Nat.le_of_ble_eq_true rfl) rfl ⟨Nat.zero_le _, Nat.zero_le _⟩ dX2_fundIn_4) (fun H locs g => ?_)
  refine lv_if_ne (tgt := 20) hx hb dX2_fundIn_7 (by decide) (fun c_7 => ?_) (fun c9 => absurd c9 (inR_N (lo := 1) (hi := 60) ht1 ht (by decide)))
  refine lv_aload_n hx hb dX2_fundIn_20 rfl (lv_at hl 0 rfl) ?_
  refine lv_iload_n hx hb dX2_fundIn_21 rfl (lv_at hl 1 rfl) ?_
  refine lv_aload_n hx hb dX2_fundIn_22 rfl (lv_at hl 0 rfl) ?_
  refine gP (k := 0) S g 0 (by decide) q90 dX2_fundIn_23 ?_
  refine gBN (k := 1) S g (Or.inl rfl) 2 (by decide) qn63 dX2_fundIn_26 ?_
  refine lv_aload_n hx hb dX2_fundIn_29 rfl (lv_at hl 0 rfl) ?_
  refine gP (k := 0) S g 0 (by decide) q90 dX2_fundIn_30 ?_
  refine gBN (k := 1) S g (Or.inl rfl) 4 (by decide) qn67 dX2_fundIn_33 ?_
  refine g_ci (rest := []) g (g_V (n := 3) (As := [.int (nI t), .int (F 1 2), .int (F 1 4)]) S g (c_fundBehind l G (F) o n h t (F 1 2) (F 1 4) hok hn8 (by omega) (by omega)) (by decide) (cE0 G _ o) rfl (lw_V q374 q376 qs15 q1 q377) ⟨rfl, by decide +kernel, by decide +kernel, by decide +kernel⟩ rfl ⟨Nat.le_of_ble_eq_true rfl, Nat.le_of_ble_eq_true rfl⟩ hl.1 (Nat.le_of_ble_eq_true rfl) rfl ⟨Nat.zero_le _, Nat.zero_le _⟩ dX2_fundIn_36) (fun H locs g => ?_)
  exact e_i S hr hk0 g rfl rfl dX2_fundIn_39
set_option maxHeartbeats 4000000 in
set_option maxRecDepth 100000 in
theorem x_fundIn (l : Launch) (hfl : l.stackTraces = false) (G : gT) (F : Fs) (o : Int64) (x : Int32) (hx9 : inR x 1 60 = 0) : MX l yX2_fundIn cX2_fundIn 2 (some .int) 6 90 [.ref (gA G 0), .int x] G (F) o xIA := by
  refine mk_X (own := "ShadowPool") (by decide +kernel) rfl (Nat.le_of_ble_eq_true rfl) ?_
  intro p e s m args below meth c ls hno hk0 S g hl
  have hl : lv_has ls 2 [(0, .ref (gA G 0)), (1, .int x)] := hl
  have hx := S.1
  have hb := S.2.1
  refine lv_iload_n hx hb dX2_fundIn_0 rfl (lv_at hl 1 rfl) ?_
  refine lv_iconst (v := 1) hx hb dX2_fundIn_1 (by decide) ?_
  refine lv_bipush (v := 60) hx hb dX2_fundIn_2 (by decide) ?_
  refine g_ci (rest := []) g (g_S (n := 3) (As := [.int x, .int 1, .int 60]) S g (c_within l G (F) o x 1 60) (lw_S q101 q102 q1 q103) ⟨by decide +kernel, by decide +kernel, by decide +kernel⟩ rfl ⟨Nat.le_of_ble_eq_true rfl, Nat.le_of_ble_eq_true rfl⟩ hl.1 (Nat.le_of_ble_eq_true rfl) rfl ⟨Nat.zero_le _, Nat.zero_le _⟩ dX2_fundIn_4) (fun H locs g => ?_)
  refine lv_if_ne (tgt := 20) hx hb dX2_fundIn_7 (by decide) (fun c9 => absurd hx9 c9) (fun c_7 => ?_)
  exact e_x (text := "hours is not 1 to 60") hfl S hno hk0 g hl.1 g.2.2.2.2.2.2.2.2.2.1 (by decide +kernel) q104 q8 (by decide +kernel) atIA ngIA otIA dX2_fundIn_10 dX2_fundIn_13 dX2_fundIn_14 dX2_fundIn_16 dX2_fundIn_19 (Nat.le_of_ble_eq_true rfl) (Nat.le_of_ble_eq_true rfl) (Nat.le_refl _) (Nat.le_refl _)
set_option maxHeartbeats 4000000 in
set_option maxRecDepth 100000 in
theorem c_addWalker_ok (l : Launch) (G : gT) (F : Fs) (o : Int64) (hi : Int32) (sk : Int32) (nt : Int32) (n : Nat) (hn : F 1 6 = nI n) (hn8 : n < 8) (g1 : ¬ inR hi 1 30 = 0) (g2 : ¬ inR sk 0 5 = 0) (g3 : ¬ inR nt 0 9 = 0) : MI l yX2_addWalker cX2_addWalker 5 (some .int) 2 47 [.ref (gA G 0), .int hi, .int sk, .int nt] G (F) o (entF F 1 n hi sk nt) (nI n) := by
  refine mk_G (own := "ShadowPool") (Qs := (fun sz => QI G (entF F 1 n hi sk nt) o (nI n) sz)) (by decide +kernel) rfl (Nat.le_of_ble_eq_true rfl) ?_
  intro p e s m args below meth c ls hr hk0 hnm S g hl
  have hl : lv_has ls 5 [(0, .ref (gA G 0)), (1, .int hi), (2, .int sk), (3, .int nt)] := hl
  have hx := S.1
  have hb := S.2.1
  refine lv_iload_n hx hb dX2_addWalker_0 rfl (lv_at hl 1 rfl) ?_
  refine lv_iconst (v := 1) hx hb dX2_addWalker_1 (by decide) ?_
  refine lv_bipush (v := 30) hx hb dX2_addWalker_2 (by decide) ?_
  refine g_ci (rest := []) g (g_S (n := 3) (As := [.int hi, .int 1, .int 30]) S g (c_within l G (F) o hi 1 30) (lw_S q101 q102 q1 q103) ⟨by decide +kernel, by decide +kernel, by decide +kernel⟩ rfl ⟨Nat.le_of_ble_eq_true rfl, Nat.le_of_ble_eq_true rfl⟩ hl.1 (Nat.le_of_ble_eq_true rfl) rfl ⟨Nat.zero_le _, Nat.zero_le _⟩ dX2_addWalker_4) (fun H locs g => ?_)
  refine lv_if_ne (tgt := 20) hx hb dX2_addWalker_7 (by decide) (fun c_7 => ?_) (fun c9 => absurd c9 g1)
  refine lv_iload_n hx hb dX2_addWalker_20 rfl (lv_at hl 2 rfl) ?_
  refine lv_iconst (v := 0) hx hb dX2_addWalker_21 (by decide) ?_
  refine lv_iconst (v := 5) hx hb dX2_addWalker_22 (by decide) ?_
  refine g_ci (rest := []) g (g_S (n := 3) (As := [.int sk, .int 0, .int 5]) S g (c_within l G (F) o sk 0 5) (lw_S q101 q102 q1 q103) ⟨by decide +kernel, by decide +kernel, by decide +kernel⟩ rfl ⟨Nat.le_of_ble_eq_true rfl, Nat.le_of_ble_eq_true rfl⟩ hl.1 (Nat.le_of_ble_eq_true rfl) rfl ⟨Nat.zero_le _, Nat.zero_le _⟩ dX2_addWalker_23) (fun H locs g => ?_)
  refine lv_if_ne (tgt := 39) hx hb dX2_addWalker_26 (by decide) (fun c_26 => ?_) (fun c9 => absurd c9 g2)
  refine lv_iload_n hx hb dX2_addWalker_39 rfl (lv_at hl 3 rfl) ?_
  refine lv_iconst (v := 0) hx hb dX2_addWalker_40 (by decide) ?_
  refine lv_bipush (v := 9) hx hb dX2_addWalker_41 (by decide) ?_
  refine g_ci (rest := []) g (g_S (n := 3) (As := [.int nt, .int 0, .int 9]) S g (c_within l G (F) o nt 0 9) (lw_S q101 q102 q1 q103) ⟨by decide +kernel, by decide +kernel, by decide +kernel⟩ rfl ⟨Nat.le_of_ble_eq_true rfl, Nat.le_of_ble_eq_true rfl⟩ hl.1 (Nat.le_of_ble_eq_true rfl) rfl ⟨Nat.zero_le _, Nat.zero_le _⟩ dX2_addWalker_43) (fun H locs g => ?_)
  refine lv_if_ne (tgt := 59) hx hb dX2_addWalker_46 (by decide) (fun c_46 => ?_) (fun c9 => absurd c9 g3)
  refine lv_aload_n hx hb dX2_addWalker_59 rfl (lv_at hl 0 rfl) ?_
  refine gP (k := 0) S g 0 (by decide) q90 dX2_addWalker_60 ?_
  refine lv_iload_n hx hb dX2_addWalker_63 rfl (lv_at hl 1 rfl) ?_
  refine lv_iload_n hx hb dX2_addWalker_64 rfl (lv_at hl 2 rfl) ?_
  refine lv_iload_n hx hb dX2_addWalker_65 rfl (lv_at hl 3 rfl) ?_
  refine g_ci (rest := []) g (g_VN (n := 3) (As := [.int hi, .int sk, .int nt]) S g (c_enter_ok l G (F) o 1 n hi sk nt (Or.inl rfl) hn hn8) (by decide) (cEb G _ o (Or.inl rfl)) rfl qn549 q551 qs19 q2 q552 ⟨by decide +kernel, by decide +kernel, by decide +kernel⟩ rfl ⟨Nat.le_of_ble_eq_true rfl, Nat.le_of_ble_eq_true rfl⟩ hl.1 (Nat.le_of_ble_eq_true rfl) rfl ⟨Nat.zero_le _, Nat.zero_le _⟩ dX2_addWalker_66) (fun H locs g => ?_)
  refine lv_istore (lv' := [(4, .int (nI n)), (0, .ref (gA G 0)), (1, .int hi), (2, .int sk), (3, .int nt)]) hx hb dX2_addWalker_69 hl (by decide) rfl (fun ls hl => ?_)
  refine lv_iload hx hb dX2_addWalker_71 (lv_at hl 0 rfl) ?_
  refine lv_if_ge (tgt := 86) hx hb dX2_addWalker_73 (by decide) (fun c_73 => ?_) (fun c9 => absurd (nI_pos' (by omega)) c9)
  refine lv_iload hx hb dX2_addWalker_86 (lv_at hl 0 rfl) ?_
  exact e_i S hr hk0 g rfl rfl dX2_addWalker_88
set_option maxHeartbeats 4000000 in
set_option maxRecDepth 100000 in
theorem x_addWalker_bad (l : Launch) (hfl : l.stackTraces = false) (G : gT) (F : Fs) (o : Int64) (hi : Int32) (sk : Int32) (nt : Int32) (hb9 : inR hi 1 30 = 0 ∨ inR sk 0 5 = 0 ∨ inR nt 0 9 = 0) : MX l yX2_addWalker cX2_addWalker 5 (some .int) 6 90 [.ref (gA G 0), .int hi, .int sk, .int nt] G (F) o xIA := by
  refine mk_X (own := "ShadowPool") (by decide +kernel) rfl (Nat.le_of_ble_eq_true rfl) ?_
  intro p e s m args below meth c ls hno hk0 S g hl
  have hl : lv_has ls 5 [(0, .ref (gA G 0)), (1, .int hi), (2, .int sk), (3, .int nt)] := hl
  have hx := S.1
  have hb := S.2.1
  refine lv_iload_n hx hb dX2_addWalker_0 rfl (lv_at hl 1 rfl) ?_
  refine lv_iconst (v := 1) hx hb dX2_addWalker_1 (by decide) ?_
  refine lv_bipush (v := 30) hx hb dX2_addWalker_2 (by decide) ?_
  refine g_ci (rest := []) g (g_S (n := 3) (As := [.int hi, .int 1, .int 30]) S g (c_within l G (F) o hi 1 30) (lw_S q101 q102 q1 q103) ⟨by decide +kernel, by decide +kernel, by decide +kernel⟩ rfl ⟨Nat.le_of_ble_eq_true rfl, Nat.le_of_ble_eq_true rfl⟩ hl.1 (Nat.le_of_ble_eq_true rfl) rfl ⟨Nat.zero_le _, Nat.zero_le _⟩ dX2_addWalker_4) (fun H locs g => ?_)
  refine lv_if_ne (tgt := 20) hx hb dX2_addWalker_7 (by decide) (fun c_7 => ?_) (fun c_7 => ?_)
  · refine lv_iload_n hx hb dX2_addWalker_20 rfl (lv_at hl 2 rfl) ?_
    refine lv_iconst (v := 0) hx hb dX2_addWalker_21 (by decide) ?_
    refine lv_iconst (v := 5) hx hb dX2_addWalker_22 (by decide) ?_
    refine g_ci (rest := []) g (g_S (n := 3) (As := [.int sk, .int 0, .int 5]) S g (c_within l G (F) o sk 0 5) (lw_S q101 q102 q1 q103) ⟨by decide +kernel, by decide +kernel, by decide +kernel⟩ rfl ⟨Nat.le_of_ble_eq_true rfl, Nat.le_of_ble_eq_true rfl⟩ hl.1 (Nat.le_of_ble_eq_true rfl) rfl ⟨Nat.zero_le _, Nat.zero_le _⟩ dX2_addWalker_23) (fun H locs g => ?_)
    refine lv_if_ne (tgt := 39) hx hb dX2_addWalker_26 (by decide) (fun c_26 => ?_) (fun c_26 => ?_)
    · refine lv_iload_n hx hb dX2_addWalker_39 rfl (lv_at hl 3 rfl) ?_
      refine lv_iconst (v := 0) hx hb dX2_addWalker_40 (by decide) ?_
      refine lv_bipush (v := 9) hx hb dX2_addWalker_41 (by decide) ?_
      refine g_ci (rest := []) g (g_S (n := 3) (As := [.int nt, .int 0, .int 9]) S g (c_within l G (F) o nt 0 9) (lw_S q101 q102 q1 q103) ⟨by decide +kernel, by decide +kernel, by decide +kernel⟩ rfl ⟨Nat.le_of_ble_eq_true rfl, Nat.le_of_ble_eq_true rfl⟩ hl.1 (Nat.le_of_ble_eq_true rfl) rfl ⟨Nat.zero_le _, Nat.zero_le _⟩ dX2_addWalker_43) (fun H locs g => ?_)
      refine lv_if_ne (tgt := 59) hx hb dX2_addWalker_46 (by decide) (fun c9 => absurd (by rcases hb9 with q | q | q <;> first | exact absurd q c_7 | exact absurd q c_26 | exact q) c9) (fun c_46 => ?_)
      exact e_x (text := "net is not 0 to 9") hfl S hno hk0 g hl.1 g.2.2.2.2.2.2.2.2.2.1 (by decide +kernel) q104 q8 (by decide +kernel) atIA ngIA otIA dX2_addWalker_49 dX2_addWalker_52 dX2_addWalker_53 dX2_addWalker_55 dX2_addWalker_58 (Nat.le_of_ble_eq_true rfl) (Nat.le_of_ble_eq_true rfl) (Nat.le_refl _) (Nat.le_refl _)
    · exact e_x (text := "skill is not 0 to 5") hfl S hno hk0 g hl.1 g.2.2.2.2.2.2.2.2.2.1 (by decide +kernel) q104 q8 (by decide +kernel) atIA ngIA otIA dX2_addWalker_29 dX2_addWalker_32 dX2_addWalker_33 dX2_addWalker_35 dX2_addWalker_38 (Nat.le_of_ble_eq_true rfl) (Nat.le_of_ble_eq_true rfl) (Nat.le_refl _) (Nat.le_refl _)
  · exact e_x (text := "height is not 1 to 30") hfl S hno hk0 g hl.1 g.2.2.2.2.2.2.2.2.2.1 (by decide +kernel) q104 q8 (by decide +kernel) atIA ngIA otIA dX2_addWalker_10 dX2_addWalker_13 dX2_addWalker_14 dX2_addWalker_16 dX2_addWalker_19 (Nat.le_of_ble_eq_true rfl) (Nat.le_of_ble_eq_true rfl) (Nat.le_refl _) (Nat.le_refl _)
set_option maxHeartbeats 4000000 in
set_option maxRecDepth 100000 in
theorem x_addWalker_full (l : Launch) (hfl : l.stackTraces = false) (G : gT) (F : Fs) (o : Int64) (hi : Int32) (sk : Int32) (nt : Int32) (hn : F 1 6 = nI 8) (g1 : ¬ inR hi 1 30 = 0) (g2 : ¬ inR sk 0 5 = 0) (g3 : ¬ inR nt 0 9 = 0) : MX l yX2_addWalker cX2_addWalker 5 (some .int) 6 90 [.ref (gA G 0), .int hi, .int sk, .int nt] G (F) o xIS := by
  refine mk_X (own := "ShadowPool") (by decide +kernel) rfl (Nat.le_of_ble_eq_true rfl) ?_
  intro p e s m args below meth c ls hno hk0 S g hl
  have hl : lv_has ls 5 [(0, .ref (gA G 0)), (1, .int hi), (2, .int sk), (3, .int nt)] := hl
  have hx := S.1
  have hb := S.2.1
  refine lv_iload_n hx hb dX2_addWalker_0 rfl (lv_at hl 1 rfl) ?_
  refine lv_iconst (v := 1) hx hb dX2_addWalker_1 (by decide) ?_
  refine lv_bipush (v := 30) hx hb dX2_addWalker_2 (by decide) ?_
  refine g_ci (rest := []) g (g_S (n := 3) (As := [.int hi, .int 1, .int 30]) S g (c_within l G (F) o hi 1 30) (lw_S q101 q102 q1 q103) ⟨by decide +kernel, by decide +kernel, by decide +kernel⟩ rfl ⟨Nat.le_of_ble_eq_true rfl, Nat.le_of_ble_eq_true rfl⟩ hl.1 (Nat.le_of_ble_eq_true rfl) rfl ⟨Nat.zero_le _, Nat.zero_le _⟩ dX2_addWalker_4) (fun H locs g => ?_)
  refine lv_if_ne (tgt := 20) hx hb dX2_addWalker_7 (by decide) (fun c_7 => ?_) (fun c9 => absurd c9 g1)
  refine lv_iload_n hx hb dX2_addWalker_20 rfl (lv_at hl 2 rfl) ?_
  refine lv_iconst (v := 0) hx hb dX2_addWalker_21 (by decide) ?_
  refine lv_iconst (v := 5) hx hb dX2_addWalker_22 (by decide) ?_
  refine g_ci (rest := []) g (g_S (n := 3) (As := [.int sk, .int 0, .int 5]) S g (c_within l G (F) o sk 0 5) (lw_S q101 q102 q1 q103) ⟨by decide +kernel, by decide +kernel, by decide +kernel⟩ rfl ⟨Nat.le_of_ble_eq_true rfl, Nat.le_of_ble_eq_true rfl⟩ hl.1 (Nat.le_of_ble_eq_true rfl) rfl ⟨Nat.zero_le _, Nat.zero_le _⟩ dX2_addWalker_23) (fun H locs g => ?_)
  refine lv_if_ne (tgt := 39) hx hb dX2_addWalker_26 (by decide) (fun c_26 => ?_) (fun c9 => absurd c9 g2)
  refine lv_iload_n hx hb dX2_addWalker_39 rfl (lv_at hl 3 rfl) ?_
  refine lv_iconst (v := 0) hx hb dX2_addWalker_40 (by decide) ?_
  refine lv_bipush (v := 9) hx hb dX2_addWalker_41 (by decide) ?_
  refine g_ci (rest := []) g (g_S (n := 3) (As := [.int nt, .int 0, .int 9]) S g (c_within l G (F) o nt 0 9) (lw_S q101 q102 q1 q103) ⟨by decide +kernel, by decide +kernel, by decide +kernel⟩ rfl ⟨Nat.le_of_ble_eq_true rfl, Nat.le_of_ble_eq_true rfl⟩ hl.1 (Nat.le_of_ble_eq_true rfl) rfl ⟨Nat.zero_le _, Nat.zero_le _⟩ dX2_addWalker_43) (fun H locs g => ?_)
  refine lv_if_ne (tgt := 59) hx hb dX2_addWalker_46 (by decide) (fun c_46 => ?_) (fun c9 => absurd c9 g3)
  refine lv_aload_n hx hb dX2_addWalker_59 rfl (lv_at hl 0 rfl) ?_
  refine gP (k := 0) S g 0 (by decide) q90 dX2_addWalker_60 ?_
  refine lv_iload_n hx hb dX2_addWalker_63 rfl (lv_at hl 1 rfl) ?_
  refine lv_iload_n hx hb dX2_addWalker_64 rfl (lv_at hl 2 rfl) ?_
  refine lv_iload_n hx hb dX2_addWalker_65 rfl (lv_at hl 3 rfl) ?_
  refine g_ci (rest := []) g (g_VN (n := 3) (As := [.int hi, .int sk, .int nt]) S g (c_enter_no l G (F) o 1 hi sk nt (Or.inl rfl) hn) (by decide) (cEb G _ o (Or.inl rfl)) rfl qn549 q551 qs19 q2 q552 ⟨by decide +kernel, by decide +kernel, by decide +kernel⟩ rfl ⟨Nat.le_of_ble_eq_true rfl, Nat.le_of_ble_eq_true rfl⟩ hl.1 (Nat.le_of_ble_eq_true rfl) rfl ⟨Nat.zero_le _, Nat.zero_le _⟩ dX2_addWalker_66) (fun H locs g => ?_)
  refine lv_istore (lv' := [(4, .int (-1)), (0, .ref (gA G 0)), (1, .int hi), (2, .int sk), (3, .int nt)]) hx hb dX2_addWalker_69 hl (by decide) rfl (fun ls hl => ?_)
  refine lv_iload hx hb dX2_addWalker_71 (lv_at hl 0 rfl) ?_
  refine lv_if_ge (tgt := 86) hx hb dX2_addWalker_73 (by decide) (fun c9 => absurd c9 (by decide)) (fun c_73 => ?_)
  exact e_x (text := "there are 8 walkers") hfl S hno hk0 g hl.1 g.2.2.2.2.2.2.2.2.2.2.1 (by decide +kernel) q557 q9 (by decide +kernel) atIS ngIS otIS dX2_addWalker_76 dX2_addWalker_79 dX2_addWalker_80 dX2_addWalker_82 dX2_addWalker_85 (Nat.le_of_ble_eq_true rfl) (Nat.le_of_ble_eq_true rfl) (Nat.le_refl _) (Nat.le_refl _)
end
section
/-! THE LAW'S SIDE: worlds of several blocks, in any order; a Sim's block -/
theorem va_P_mem {D : va_G} {cl : List vw_C} {w : va_W} {H : Heap} : va_P D cl w H ↔ ∀ q ∈ w, va_at D cl q H := by
  constructor
  · intro h q hq
    obtain ⟨k, hk⟩ := List.getElem?_of_mem hq
    exact h k q hk
  · intro h k q hk
    exact h q (List.mem_of_getElem? hk)
theorem va_D_nd {A : Nat → Prop} {w : va_W} : va_D A w ↔ (w.map Prod.fst).Nodup ∧ ∀ q ∈ w, A q.1 := by
  constructor
  · intro h
    refine ⟨?_, fun q hq => ?_⟩
    · rw [List.nodup_iff_pairwise_ne, List.pairwise_iff_getElem]
      intro i j hi hj hij e
      rw [List.length_map] at hi hj
      simp only [List.getElem_map] at e
      have h1 := h.1 i j w[i] w[j] (List.getElem?_eq_getElem hi) (List.getElem?_eq_getElem hj) e
      omega
    · obtain ⟨k, hk⟩ := List.getElem?_of_mem hq
      exact h.2 k q hk
  · rintro ⟨h1, h2⟩
    refine ⟨fun i j p q hi hj e => ?_, fun k q hk => h2 q (List.mem_of_getElem? hk)⟩
    have hi1 : (w.map Prod.fst)[i]? = some p.1 := by rw [List.getElem?_map, hi]; rfl
    have hj1 : (w.map Prod.fst)[j]? = some q.1 := by rw [List.getElem?_map, hj]; rfl
    exact (List.getElem?_inj (List.getElem?_eq_some_iff.mp hi1).1 h1).mp (by rw [hi1, hj1, e])
theorem va_A_mem {w : va_W} {sz q : Nat} : va_A w sz q ↔ (∃ c ∈ w, c.1 = q) ∨ sz ≤ q := by
  constructor
  · rintro (⟨k, e, h⟩ | h)
    · exact Or.inl ⟨(q, e), List.mem_of_getElem? h, rfl⟩
    · exact Or.inr h
  · rintro (⟨c, h, rfl⟩ | h)
    · obtain ⟨k, hk⟩ := List.getElem?_of_mem h
      exact Or.inl ⟨k, c.2, hk⟩
    · exact Or.inr h
theorem va_P.lt1 {D : va_G} {cl : List vw_C} {w : va_W} {H : Heap} (h : va_P D cl w H) {q : Nat × va_E} (hq : q ∈ w) : q.1 < H.size := by
  obtain ⟨k, hk⟩ := List.getElem?_of_mem hq
  exact (h k q hk).lt
/-- the world at a point of a body of the law's side: Z is what this body may write -/
def GX (G : gT) (Z : Nat → Prop) (w : va_W) (s : State) (H : Heap) (locs : List Loc) : Prop :=
  va_P G.1 vwCl w H ∧ va_D Z w ∧ va_K G.1 vwCl (tysG G) s ∧ va_S Z s.heap H locs ∧ EnvG Z s s.heap ∧ ∀ q, s.heap.size ≤ q → Z q
abbrev preX (G : gT) (w : va_W) (sz : Nat) : State → Prop := fun U => U.heap.size = sz ∧ va_P G.1 vwCl w U.heap ∧ va_D (fun _ => True) w ∧ va_K G.1 vwCl (tysG G) U ∧ EnvG (va_A w sz) U U.heap
abbrev poX {α : Type} (G : gT) (w : α → va_W) (Z : Nat → Prop) : α → State → Prop := fun u t => va_P G.1 vwCl (w u) t.heap ∧ va_D Z (w u)
theorem GX.perm {G : gT} {Z : Nat → Prop} {w w' : va_W} {s : State} {H : Heap} {locs : List Loc} (g : GX G Z w s H locs) (h : w.Perm w') : GX G Z w' s H locs := by
  obtain ⟨h1, h2, h3⟩ := g
  rw [va_P_mem] at h1
  rw [va_D_nd] at h2
  refine ⟨va_P_mem.mpr (fun q hq => h1 q (h.mem_iff.mpr hq)), va_D_nd.mpr ⟨(h.map Prod.fst).nodup h2.1, fun q hq => h2.2 q (h.mem_iff.mpr hq)⟩, h3⟩
theorem GX.sl {G : gT} {Z : Nat → Prop} {w w' : va_W} {s : State} {H : Heap} {locs : List Loc} (g : GX G Z w s H locs) (h : w'.Sublist w) : GX G Z w' s H locs := by
  obtain ⟨h1, h2, h3⟩ := g
  rw [va_P_mem] at h1
  rw [va_D_nd] at h2
  exact ⟨va_P_mem.mpr (fun q hq => h1 q (h.subset hq)), va_D_nd.mpr ⟨(h.map Prod.fst).nodup h2.1, fun q hq => h2.2 q (h.subset hq)⟩, h3⟩
theorem GX.drop {G : gT} {Z : Nat → Prop} {w X : va_W} {s : State} {H : Heap} {locs : List Loc} (g : GX G Z (w ++ X) s H locs) : GX G Z X s H locs := g.sl (List.sublist_append_right w X)
theorem GX.eqw {G : gT} {Z : Nat → Prop} {w w' : va_W} {s : State} {H : Heap} {locs : List Loc} (g : GX G Z w s H locs) (h : w = w') : GX G Z w' s H locs := h ▸ g
theorem pm2 (a b X : va_W) : (a ++ (b ++ X)).Perm (b ++ (a ++ X)) := List.perm_append_comm_assoc a b X
theorem pm3 (a b c X : va_W) : (a ++ (b ++ (c ++ X))).Perm (c ++ (a ++ (b ++ X))) := (List.Perm.append_left a (pm2 b c X)).trans (pm2 a c (b ++ X))
theorem pm4 (a b c d X : va_W) : (a ++ (b ++ (c ++ (d ++ X)))).Perm (d ++ (a ++ (b ++ (c ++ X)))) := (List.Perm.append_left a (pm3 b c d X)).trans (pm2 a d (b ++ (c ++ X)))
theorem pm5 (a b c d e X : va_W) : (a ++ (b ++ (c ++ (d ++ (e ++ X))))).Perm (e ++ (a ++ (b ++ (c ++ (d ++ X))))) := (List.Perm.append_left a (pm4 b c d e X)).trans (pm2 a e (b ++ (c ++ (d ++ X))))
theorem pm6 (a b c d e f X : va_W) : (a ++ (b ++ (c ++ (d ++ (e ++ (f ++ X)))))).Perm (f ++ (a ++ (b ++ (c ++ (d ++ (e ++ X)))))) := (List.Perm.append_left a (pm5 b c d e f X)).trans (pm2 a f (b ++ (c ++ (d ++ (e ++ X)))))
theorem pm7 (a b c d e f h X : va_W) : (a ++ (b ++ (c ++ (d ++ (e ++ (f ++ (h ++ X))))))).Perm (h ++ (a ++ (b ++ (c ++ (d ++ (e ++ (f ++ X))))))) := (List.Perm.append_left a (pm6 b c d e f h X)).trans (pm2 a h (b ++ (c ++ (d ++ (e ++ (f ++ X))))))
theorem pm8 (a b c d e f h i X : va_W) : (a ++ (b ++ (c ++ (d ++ (e ++ (f ++ (h ++ (i ++ X)))))))).Perm (i ++ (a ++ (b ++ (c ++ (d ++ (e ++ (f ++ (h ++ X)))))))) := (List.Perm.append_left a (pm7 b c d e f h i X)).trans (pm2 a i (b ++ (c ++ (d ++ (e ++ (f ++ (h ++ X)))))))
/-! before and behind a call -/
theorem GX.pre {G : gT} {Z : Nat → Prop} {wc X : va_W} {s : State} {H : Heap} {locs : List Loc} (g : GX G Z (wc ++ X) s H locs) {U : State} (hU : U.heap = H) (hW : s.WarmedH U.vm) : preX G wc H.size U := by
  obtain ⟨hP, hD, hK, hS, hE, hZ⟩ := g
  have hD2 := va_D_nd.mp hD
  rw [List.map_append, List.nodup_append] at hD2
  refine ⟨by rw [hU], by rw [hU]; exact va_P_mem.mpr (fun q hq => va_P_mem.mp hP q (List.mem_append_left _ hq)), va_D_nd.mpr ⟨hD2.1.1, fun _ _ => trivial⟩, va_K.moved hW.alike hK, ?_⟩
  rw [hU]
  refine (hE.warm hW).on (fun a h1 h2 => hS.2.1 a h1 h2) (fun q hq => ?_)
  rcases va_A_mem.mp hq with ⟨c, h, rfl⟩ | h
  · exact hD2.2 c (List.mem_append_left _ h)
  · exact hZ q (Nat.le_trans hS.1 h)
theorem GX.free {G : gT} {Z : Nat → Prop} {wc X : va_W} {s : State} {H : Heap} {locs : List Loc} (g : GX G Z (wc ++ X) s H locs) {q : Nat} (hq : va_A wc H.size q) : Z q := by
  rcases va_A_mem.mp hq with ⟨c, h, rfl⟩ | h
  · exact (va_D_nd.mp g.2.1).2 c (List.mem_append_left _ h)
  · exact g.2.2.2.2.2 q (Nat.le_trans g.2.2.2.1.1 h)
theorem GX.after {G : gT} {Z : Nat → Prop} {wc w1 X : va_W} {s : State} {H H1 : Heap} {locs locs1 : List Loc} (g : GX G Z (wc ++ X) s H locs) (hP1 : va_P G.1 vwCl w1 H1) (hD1 : va_D (va_A wc H.size) w1) (hk1 : ∀ q : Nat, q < H.size → ¬ va_A wc H.size q → H1[q]? = H[q]?) (hS1 : va_S Z s.heap H1 locs1) : GX G Z (w1 ++ X) s H1 locs1 := by
  have gf := fun (q : Nat) => g.free (q := q)
  obtain ⟨hP, hD, hK, hS, hE, hZ⟩ := g
  have hD2 := va_D_nd.mp hD
  rw [List.map_append, List.nodup_append] at hD2
  obtain ⟨⟨d1, d2, d3⟩, d4⟩ := hD2
  have hPm := va_P_mem.mp hP
  have hD1m := va_D_nd.mp hD1
  have out : ∀ q ∈ X, ¬ va_A wc H.size q.1 := fun q hq h => by
    rcases va_A_mem.mp h with ⟨c, h1, h2⟩ | h1
    · exact d3 c.1 (List.mem_map_of_mem h1) q.1 (List.mem_map_of_mem hq) h2
    · exact absurd (hP.lt1 (List.mem_append_right _ hq)) (Nat.not_lt.mpr h1)
  refine ⟨va_P_mem.mpr (fun q hq => ?_), va_D_nd.mpr ⟨?_, fun q hq => ?_⟩, hK, hS1, hE, hZ⟩
  · rcases List.mem_append.mp hq with h | h
    · exact va_P_mem.mp hP1 q h
    · exact (hPm q (List.mem_append_right _ h)).kept (hk1 _ (hP.lt1 (List.mem_append_right _ h)) (out q h))
  · rw [List.map_append, List.nodup_append]
    refine ⟨hD1m.1, d2, fun a ha b hb e => ?_⟩
    obtain ⟨q, hq, rfl⟩ := List.mem_map.mp ha
    obtain ⟨r, hr, rfl⟩ := List.mem_map.mp hb
    exact out r hr (by rw [← e]; exact hD1m.2 q hq)
  · rcases List.mem_append.mp hq with h | h
    · exact gf _ (hD1m.2 q h)
    · exact d4 q (List.mem_append_right _ h)
theorem GA_eq (G : gT) (F : Fs) (o : Int64) (sz : Nat) : va_A (wld G F o) sz = GA G sz := by
  funext q
  apply propext
  rw [va_A_mem]
  constructor
  · rintro (⟨c, h, rfl⟩ | h)
    · obtain ⟨k, hk, rfl⟩ := List.mem_map.mp h
      exact Or.inl ⟨k, List.mem_range.mp hk, rfl⟩
    · exact Or.inr h
  · rintro (⟨k, hk, rfl⟩ | h)
    · exact Or.inl ⟨(gA G k, cellE G F o k), List.mem_map.mpr ⟨k, List.mem_range.mpr hk, rfl⟩, rfl⟩
    · exact Or.inr h
theorem GX.preG {G : gT} {F : Fs} {o : Int64} {Z : Nat → Prop} {X : va_W} {s : State} {H : Heap} {locs : List Loc} (g : GX G Z (wld G F o ++ X) s H locs) {U : State} (hU : U.heap = H) (hW : s.WarmedH U.vm) : preG G F o H.size U := by
  have h := g.pre hU hW
  rw [preX, GA_eq] at h
  exact h
theorem GX.afterG {G : gT} {F F' : Fs} {o : Int64} {Z : Nat → Prop} {X : va_W} {s : State} {H H1 : Heap} {locs locs1 : List Loc} (g : GX G Z (wld G F o ++ X) s H locs) (hP1 : va_P G.1 vwCl (wld G F' o) H1) (hk1 : ∀ q : Nat, q < H.size → ¬ GA G H.size q → H1[q]? = H[q]?) (hS1 : va_S Z s.heap H1 locs1) : GX G Z (wld G F' o ++ X) s H1 locs1 := by
  refine g.after hP1 ?_ (by rw [GA_eq]; exact hk1) hS1
  have hD : va_D Z (wld G F o) := (g.sl (List.sublist_append_left _ _)).2.1
  have h0 := va_D_re (w' := wld G F' o) hD (by simpa using wld_fst G F F' o o [])
  rw [GA_eq]
  refine va_D_nd.mpr ⟨(va_D_nd.mp h0).1, fun q hq => ?_⟩
  obtain ⟨k, hk, rfl⟩ := List.mem_map.mp hq
  exact GA_in G _ (List.mem_range.mp hk)
/-! a Sim's block: A 0 the object, A 1 its row of rows, A (2 + i) walker i's row; what it holds is the class's book b in F -/
def sw (j : Nat) : Nat := if j = 4 then 5 else if j = 5 then 4 else j
def rowS (F : Fs) (k : Nat) : Nat → Int32 := fun j => F k (sw j)
def simO (a1 : Nat) (F : Fs) (b : Nat) : va_E := .inr (3, [.int (F b 0), .int (F b 1), .int (F b 2), .int (F b 3), .int (F b 4), .int (F b 5), .ref a1])
def arrR (G : gT) (n : Nat) (f : Nat → Option Nat) : va_E := .inl (G.2.1 2, n, .inr (.inr (.inr (.inr f))))
def arrI (G : gT) (n : Nat) (f : Nat → Int32) : va_E := .inl (G.2.1 1, n, .inl f)
def srow (G : gT) (A : Nat → Nat) (n : Nat) (F : Fs) (b : Nat) : va_W := (List.range n).map (fun i => (A (2 + i), arrI G 6 (rowS F (wb b i))))
def swl (G : gT) (A : Nat → Nat) (n : Nat) (F : Fs) (b : Nat) : va_W := (A 0, simO (A 1) F b) :: (A 1, arrR G n (fun i => some (A (2 + i)))) :: srow G A n F b
theorem sw_inj {i j : Nat} (h : sw i = sw j) : i = j := by unfold sw at h; split at h <;> split at h <;> (try split at h) <;> (try split at h) <;> omega
theorem srow_at (G : gT) (A : Nat → Nat) {n : Nat} (F : Fs) (b : Nat) {i : Nat} (h : i < n) : (srow G A n F b)[i]? = some (A (2 + i), arrI G 6 (rowS F (wb b i))) := by
  unfold srow
  rw [List.getElem?_map, List.getElem?_range h]
  rfl
theorem srow_len (G : gT) (A : Nat → Nat) (n : Nat) (F : Fs) (b : Nat) : (srow G A n F b).length = n := by simp [srow]
theorem srow_mem (G : gT) (A : Nat → Nat) {n : Nat} (F : Fs) (b : Nat) {i : Nat} (h : i < n) : (A (2 + i), arrI G 6 (rowS F (wb b i))) ∈ srow G A n F b := List.mem_of_getElem? (srow_at G A F b h)
theorem swl_m0 (G : gT) (A : Nat → Nat) (n : Nat) (F : Fs) (b : Nat) : (A 0, simO (A 1) F b) ∈ swl G A n F b := List.mem_cons_self
theorem swl_m1 (G : gT) (A : Nat → Nat) (n : Nat) (F : Fs) (b : Nat) : (A 1, arrR G n (fun i => some (A (2 + i)))) ∈ swl G A n F b := List.mem_cons_of_mem _ List.mem_cons_self
theorem swl_mr (G : gT) (A : Nat → Nat) {n : Nat} (F : Fs) (b : Nat) {i : Nat} (h : i < n) : (A (2 + i), arrI G 6 (rowS F (wb b i))) ∈ swl G A n F b := List.mem_cons_of_mem _ (List.mem_cons_of_mem _ (srow_mem G A F b h))
theorem arrI_congr (G : gT) {f g : Nat → Int32} (n : Nat) (h : ∀ j, f j = g j) : arrI G n f = arrI G n g := by rw [funext h]
/-- the block depends on what the book holds -/
theorem swl_congr (G : gT) (A : Nat → Nat) {n : Nat} {F F' : Fs} {b b' : Nat} (h : ∀ j, j < 6 → F b j = F' b' j) (hw : ∀ i, i < n → ∀ j, F (wb b i) j = F' (wb b' i) j) : swl G A n F b = swl G A n F' b' := by
  unfold swl simO
  rw [h 0 (by omega), h 1 (by omega), h 2 (by omega), h 3 (by omega), h 4 (by omega), h 5 (by omega)]
  congr 2
  unfold srow
  apply List.map_congr_left
  intro i hi
  have hi := List.mem_range.mp hi
  rw [arrI_congr G 6 (f := rowS F (wb b i)) (g := rowS F' (wb b' i)) (fun j => hw i hi _)]
theorem swl_fst (G : gT) (A : Nat → Nat) (n : Nat) (F F' : Fs) (b b' : Nat) : (swl G A n F' b').map Prod.fst = (swl G A n F b).map Prod.fst := by
  simp [swl, srow, List.map_map, Function.comp_def]
theorem swl_set0 (G : gT) (A : Nat → Nat) (n : Nat) (F : Fs) {b j : Nat} (X : va_W) (hB : b = 1 ∨ b = 2) (hj : j < 6) (x : Int32) : (swl G A n F b ++ X).set 0 (A 0, .inr (3, ([.int (F b 0), .int (F b 1), .int (F b 2), .int (F b 3), .int (F b 4), .int (F b 5), .ref (A 1)] : List Value).set j (.int x))) = swl G A n (up2 F b j x) b ++ X := by
  have hw : srow G A n (up2 F b j x) b = srow G A n F b := by
    unfold srow
    apply List.map_congr_left
    intro i _
    rw [arrI_congr G 6 (f := rowS (up2 F b j x) (wb b i)) (g := rowS F (wb b i)) (fun q => up2_ne _ _ (fun z => by have := wb_lo hB i; omega))]
  unfold swl
  rw [hw]
  show ((_ : Nat × va_E) :: _) = ((_ : Nat × va_E) :: _)
  congr 1
  unfold simO
  rcases (show j = 0 ∨ j = 1 ∨ j = 2 ∨ j = 3 ∨ j = 4 ∨ j = 5 by omega) with rfl | rfl | rfl | rfl | rfl | rfl <;> simp [up2]
theorem rowS_up (F : Fs) (k j : Nat) (x : Int32) : upd (rowS F k) j x = rowS (up2 F k (sw j) x) k := by
  funext q
  unfold rowS
  by_cases h : q = j
  · subst h; rw [up2_s]; simp [upd]
  · rw [up2_ne _ _ (fun z => h (sw_inj z.2))]; simp [upd, h]
theorem swl_setr (G : gT) (A : Nat → Nat) {n : Nat} (F : Fs) {b i : Nat} (X : va_W) (hB : b = 1 ∨ b = 2) (hi : i < n) (j : Nat) (x : Int32) : (swl G A n F b ++ X).set (i + 2) (A (2 + i), arrI G 6 (upd (rowS F (wb b i)) j x)) = swl G A n (up2 F (wb b i) (sw j) x) b ++ X := by
  have h0 : simO (A 1) (up2 F (wb b i) (sw j) x) b = simO (A 1) F b := by
    have e : ∀ q, up2 F (wb b i) (sw j) x b q = F b q := fun q => up2_ne _ _ (fun z => by have := wb_lo hB i; omega)
    unfold simO
    rw [e, e, e, e, e, e]
  have hs : (srow G A n F b ++ X).set i (A (2 + i), arrI G 6 (upd (rowS F (wb b i)) j x)) = srow G A n (up2 F (wb b i) (sw j) x) b ++ X := by
    rw [rowS_up]
    apply List.ext_getElem?
    intro q
    by_cases hq : q = i
    · subst hq
      rw [List.getElem?_set_self (by rw [List.length_append, srow_len]; omega), List.getElem?_append_left (by rw [srow_len]; exact hi), srow_at G A _ b hi]
    · rw [List.getElem?_set_ne (Ne.symm hq)]
      by_cases hl : q < n
      · rw [List.getElem?_append_left (by rw [srow_len]; exact hl), List.getElem?_append_left (by rw [srow_len]; exact hl), srow_at G A _ b hl, srow_at G A _ b hl]
        rw [arrI_congr G 6 (f := rowS (up2 F (wb b i) (sw j) x) (wb b q)) (g := rowS F (wb b q)) (fun z => up2_ne _ _ (fun y => hq (by have := y.1; unfold wb at this; omega)))]
      · rw [List.getElem?_append_right (by rw [srow_len]; omega), List.getElem?_append_right (by rw [srow_len]; omega), srow_len, srow_len]
  unfold swl
  rw [h0]
  show (A 0, simO (A 1) F b) :: (A 1, _) :: (srow G A n F b ++ X).set i _ = _
  rw [hs]
  rfl
end
section
/-! rows over the law's side's worlds -/
theorem nm_AI : "[" ++ (FieldType.array .int).toString = "[[I" := by decide +kernel
theorem nm_I : (FieldType.array .int).toString = "[I" := by decide +kernel
theorem ai_use {A : Array Value} {U : State} (h : va_Nw (.arrayOver (.array .int)) U) : (Cond.arrayOver (.array .int)).before A U = true := by
  unfold va_Nw at h
  simp only [Cond.before, Cond.holds] at h ⊢
  exact h
theorem va_D_set {A : Nat → Prop} {w : va_W} {k : Nat} {a : Nat} {e e' : va_E} (h : va_D A w) (hk : w[k]? = some (a, e)) : va_D A (w.set k (a, e')) := h.set hk
section XR
variable {p : Program} {l : Launch} {e : Env} {R : Room} {s : State} {m : MethodId} {args : Array Value} {below : List Frame} {meth : Method} {c : Code} {H : Heap} {locs : List Loc} {cells slots : Nat} {Q : State → Prop}
variable {cc : ByteArray} {pc nL : Nat} {ls : Array Slot} {rest st0 : List Value} {own : String} {G : gT} {F F' : Fs} {Z : Nat → Prop} {w X : va_W} {A : Nat → Nat} {n b : Nat}
/-! a Sim's numbers and its row of rows -/
theorem x_geti {index : Nat} {a1 a : Nat} (S : CallFix p m c cc nL s args lw_all own) (g : GX G Z w s H locs) (hm : (a, simO a1 F b) ∈ w) (j : Nat) (hj : j < 6) (hq : Cond.fieldLink own index RX3 (TX3 j).2.1 (TX3 j).2.2.1 ∈ lw_all) (hdg : decode cc pc = .ok (.getfield index, 3))
    (kk : W p l e R s m args below meth c H locs cells slots Q (F0 m (pc + 3) ls (.int (F b j) :: rest))) : W p l e R s m args below meth c H locs cells slots Q (F0 m pc ls (.ref a :: rest)) := by
  obtain ⟨hx, hb, hml, ho, hts⟩ := S
  obtain ⟨k, hk⟩ := List.getElem?_of_mem hm
  refine va_get (ref := RX3) (C := RX3) (T := TX3) (N := 7) (ci := 3) hx hb hts iX3 ho g.2.2.1 g.1 k hk rfl j (by omega) (hts _ hq) (fun x h => by rw [oX3] at h; exact h) (v := .int (F b j)) ?_ hdg kk
  rcases (show j = 0 ∨ j = 1 ∨ j = 2 ∨ j = 3 ∨ j = 4 ∨ j = 5 by omega) with rfl | rfl | rfl | rfl | rfl | rfl <;> rfl
theorem x_geta {index : Nat} {a1 a : Nat} (S : CallFix p m c cc nL s args lw_all own) (g : GX G Z w s H locs) (hm : (a, simO a1 F b) ∈ w) (hq : Cond.fieldLink own index RX3 (TX3 6).2.1 (TX3 6).2.2.1 ∈ lw_all) (hdg : decode cc pc = .ok (.getfield index, 3))
    (kk : W p l e R s m args below meth c H locs cells slots Q (F0 m (pc + 3) ls (.ref a1 :: rest))) : W p l e R s m args below meth c H locs cells slots Q (F0 m pc ls (.ref a :: rest)) := by
  obtain ⟨hx, hb, hml, ho, hts⟩ := S
  obtain ⟨k, hk⟩ := List.getElem?_of_mem hm
  exact va_get (ref := RX3) (C := RX3) (T := TX3) (N := 7) (ci := 3) hx hb hts iX3 ho g.2.2.1 g.1 k hk rfl 6 (by omega) (hts _ hq) (fun x h => by rw [oX3] at h; exact h) (v := .ref a1) rfl hdg kk
theorem x_puti {index : Nat} {x : Int32} (S : CallFix p m c cc nL s args lw_all own) (g : GX G Z (swl G A n F b ++ X) s H locs) (hB : b = 1 ∨ b = 2) (j : Nat) (hj : j < 6) (hq : Cond.fieldLink own index RX3 (TX3 j).2.1 (TX3 j).2.2.1 ∈ lw_all) (hdg : decode cc pc = .ok (.putfield index, 3))
    (kk : ∀ (H : Heap) (locs : List Loc), GX G Z (swl G A n (up2 F b j x) b ++ X) s H locs → W p l e R s m args below meth c H locs cells slots Q (F0 m (pc + 3) ls rest)) : W p l e R s m args below meth c H locs cells slots Q (F0 m pc ls (.int x :: .ref (A 0) :: rest)) := by
  obtain ⟨hx, hb, hml, ho, hts⟩ := S
  obtain ⟨hP, hD, hK, hS, hE, hZ⟩ := g
  refine va_put (ref := RX3) (C := RX3) (T := TX3) (N := 7) (ci := 3) hx hb hts iX3 tyX3 tyX3_ok nmX3 ho hK hP hD hS 0 (show (swl G A n F b ++ X)[0]? = some (A 0, simO (A 1) F b) from rfl) rfl j (by omega) (v := .int x) (hts _ hq) (fun x h => by rw [oX3] at h; exact h) fX3 (tyX3_ok j (by omega)) (by rw [tyX3_int hj]; rfl) (by rw [tyX3_int hj]; rfl) (by simp only [List.length_cons, List.length_nil]; omega) hdg (fun H1 l1 hP hD hS => ?_)
  have e1 := swl_set0 G A n F X hB hj x
  rw [e1] at hP hD
  exact kk H1 l1 ⟨hP, hD, hK, hS, hE, hZ⟩
/-! rows of ints, and rows of rows -/
theorem x_iald {len a : Nat} {f : Nat → Int32} (S : CallFix p m c cc nL s args lw_all own) (g : GX G Z w s H locs) (hm : (a, arrI G len f) ∈ w) (hlen : len < 2 ^ 31) {i : Int32} (j : Nat) (hi : i = nI j) (hj : j < len) (hdg : decode cc pc = .ok (.iaload, 1))
    (kk : W p l e R s m args below meth c H locs cells slots Q (F0 m (pc + 1) ls (.int (f j) :: rest))) : W p l e R s m args below meth c H locs cells slots Q (F0 m pc ls (.int i :: .ref a :: rest)) := by
  obtain ⟨hx, hb, hml, ho, hts⟩ := S
  obtain ⟨k, hk⟩ := List.getElem?_of_mem hm
  subst hi
  refine va_iald hx hb g.2.2.1 g.1 k 1 hk rfl (vp_in_nI hj hlen) hdg ?_
  rw [nI_clamp (Nat.lt_trans hj hlen)]
  exact kk
theorem x_alen {len a : Nat} {cA : ClassId} {x : (Nat → Int32) ⊕ (Nat → Int64) ⊕ (Nat → UInt32) ⊕ (Nat → UInt64) ⊕ (Nat → Option Nat)} {ty : FieldType} (S : CallFix p m c cc nL s args lw_all own) (g : GX G Z w s H locs) (hm : (a, .inl (cA, len, x)) ∈ w) (t0 : Nat) (ht : (tysG G)[t0]? = some (cA, ty)) (hdg : decode cc pc = .ok (.arraylength, 1))
    (kk : W p l e R s m args below meth c H locs cells slots Q (F0 m (pc + 1) ls (.int (nI len) :: rest))) : W p l e R s m args below meth c H locs cells slots Q (F0 m pc ls (.ref a :: rest)) := by
  obtain ⟨hx, hb, hml, ho, hts⟩ := S
  obtain ⟨k, hk⟩ := List.getElem?_of_mem hm
  exact va_alen hx hb g.2.2.1 g.1 k t0 hk ht (v := nI len) rfl hdg kk
theorem x_aald {len a : Nat} {f : Nat → Option Nat} {v : Nat} (S : CallFix p m c cc nL s args lw_all own) (g : GX G Z w s H locs) (hm : (a, arrR G len f) ∈ w) (hlen : len < 2 ^ 31) {i : Int32} (j : Nat) (hi : i = nI j) (hj : j < len) (hv : f j = some v) (hdg : decode cc pc = .ok (.aaload, 1))
    (kk : W p l e R s m args below meth c H locs cells slots Q (F0 m (pc + 1) ls (.ref v :: rest))) : W p l e R s m args below meth c H locs cells slots Q (F0 m pc ls (.int i :: .ref a :: rest)) := by
  obtain ⟨hx, hb, hml, ho, hts⟩ := S
  obtain ⟨k, hk⟩ := List.getElem?_of_mem hm
  subst hi
  have hin : vp_in (nI j) len := vp_in_nI hj hlen
  have hlt : (nI j).toNatClampNeg < len := Nat.not_le.mp fun q => hin (Or.inr q)
  have e1 : (nI j).toNatClampNeg = j := nI_clamp (Nat.lt_trans hj hlen)
  exact W.aald (v := .ref v) (ty := .array .int) hx hb (g.1 k _ hk) ((g.2.2.1.2 2 _ rfl).1 len (fun j => va_rf (f j))) rfl (fun q => by cases q) (by show ¬ (nI j < 0 ∨ (arrV _ _ _).slots.size ≤ _); rw [arrV_size]; exact hin) (by show (arrV _ _ _).slots[_]? = _; rw [arrV_read _ _ hlt, e1, hv]; rfl) rfl rfl hdg kk
theorem x_rowst {x i : Int32} (S : CallFix p m c cc nL s args lw_all own) (g : GX G Z (swl G A n F b ++ X) s H locs) (hB : b = 1 ∨ b = 2) {q : Nat} (hq : q < n) (j : Nat) (hi : i = nI j) (hj : j < 6) (hdg : decode cc pc = .ok (.iastore, 1))
    (kk : ∀ (H : Heap) (locs : List Loc), GX G Z (swl G A n (up2 F (wb b q) (sw j) x) b ++ X) s H locs → W p l e R s m args below meth c H locs cells slots Q (F0 m (pc + 1) ls rest)) : W p l e R s m args below meth c H locs cells slots Q (F0 m pc ls (.int x :: .int i :: .ref (A (2 + q)) :: rest)) := by
  obtain ⟨hx, hb, hml, ho, hts⟩ := S
  obtain ⟨hP, hD, hK, hS, hE, hZ⟩ := g
  subst hi
  have h0 : (swl G A n F b ++ X)[q + 2]? = some (A (2 + q), .inl (G.2.1 1, 6, .inl (rowS F (wb b q)))) := by
    show (srow G A n F b ++ X)[q]? = _
    rw [List.getElem?_append_left (by rw [srow_len]; exact hq), srow_at G A F b hq]
    rfl
  refine va_iast hx hb hK hP hD hS (q + 2) 1 h0 rfl (vp_in_nI hj (by omega)) hdg (fun H1 l1 hP hD hS => ?_)
  have e1 := swl_setr G A F X hB hq j x
  rw [nI_clamp (by omega)] at hP hD
  rw [show ((swl G A n F b ++ X).set (q + 2) (A (2 + q), .inl (G.2.1 1, 6, .inl (upd (rowS F (wb b q)) j x)))) = _ from e1] at hP hD
  exact kk H1 l1 ⟨hP, hD, hK, hS, hE, hZ⟩
theorem x_rald {a k : Nat} (S : CallFix p m c cc nL s args lw_all own) (g : GX G Z w s H locs) (hm : (a, arrI G 6 (rowS F k)) ∈ w) {i : Int32} (j j' : Nat) (hi : i = nI j) (hj : j < 6) (hs : sw j = j') (hdg : decode cc pc = .ok (.iaload, 1))
    (kk : W p l e R s m args below meth c H locs cells slots Q (F0 m (pc + 1) ls (.int (F k j') :: rest))) : W p l e R s m args below meth c H locs cells slots Q (F0 m pc ls (.int i :: .ref a :: rest)) := by
  subst hs
  exact x_iald S g hm (by omega) j hi hj hdg kk
theorem x_rst {x i : Int32} (S : CallFix p m c cc nL s args lw_all own) (g : GX G Z (swl G A n F b ++ X) s H locs) (hB : b = 1 ∨ b = 2) {q : Nat} (hq : q < n) (j j' : Nat) (hi : i = nI j) (hj : j < 6) (hs : sw j = j') (hdg : decode cc pc = .ok (.iastore, 1))
    (kk : ∀ (H : Heap) (locs : List Loc), GX G Z (swl G A n (up2 F (wb b q) j' x) b ++ X) s H locs → W p l e R s m args below meth c H locs cells slots Q (F0 m (pc + 1) ls rest)) : W p l e R s m args below meth c H locs cells slots Q (F0 m pc ls (.int x :: .int i :: .ref (A (2 + q)) :: rest)) := by
  subst hs
  exact x_rowst S g hB hq j hi hj hdg kk
theorem x_iast {len a : Nat} {f : Nat → Int32} {x i : Int32} (S : CallFix p m c cc nL s args lw_all own) (g : GX G Z ([(a, arrI G len f)] ++ X) s H locs) (hlen : len < 2 ^ 31) (j : Nat) (hi : i = nI j) (hj : j < len) (hdg : decode cc pc = .ok (.iastore, 1))
    (kk : ∀ (H : Heap) (locs : List Loc), GX G Z ([(a, arrI G len (upd f j x))] ++ X) s H locs → W p l e R s m args below meth c H locs cells slots Q (F0 m (pc + 1) ls rest)) : W p l e R s m args below meth c H locs cells slots Q (F0 m pc ls (.int x :: .int i :: .ref a :: rest)) := by
  obtain ⟨hx, hb, hml, ho, hts⟩ := S
  obtain ⟨hP, hD, hK, hS, hE, hZ⟩ := g
  subst hi
  refine va_iast hx hb hK hP hD hS 0 1 (f := f) rfl rfl (vp_in_nI hj hlen) hdg (fun H1 l1 hP hD hS => ?_)
  rw [nI_clamp (Nat.lt_trans hj hlen)] at hP hD
  exact kk H1 l1 ⟨hP, hD, hK, hS, hE, hZ⟩
theorem x_aast {len a v : Nat} {f : Nat → Option Nat} {lv : Nat} {fv : Nat → Int32} {i : Int32} (S : CallFix p m c cc nL s args lw_all own) (g : GX G Z ([(a, arrR G len f)] ++ X) s H locs) (hm : (v, arrI G lv fv) ∈ X) (hlen : len < 2 ^ 31) (j : Nat) (hi : i = nI j) (hj : j < len) (hdg : decode cc pc = .ok (.aastore, 1))
    (kk : ∀ (H : Heap) (locs : List Loc), GX G Z ([(a, arrR G len (va_up f j (some v)))] ++ X) s H locs → W p l e R s m args below meth c H locs cells slots Q (F0 m (pc + 1) ls rest)) : W p l e R s m args below meth c H locs cells slots Q (F0 m pc ls (.ref v :: .int i :: .ref a :: rest)) := by
  obtain ⟨hx, hb, hml, ho, hts⟩ := S
  obtain ⟨hP, hD, hK, hS, hE, hZ⟩ := g
  subst hi
  have hin : vp_in (nI j) len := vp_in_nI hj hlen
  have hlt : (nI j).toNatClampNeg < len := Nat.not_le.mp fun q => hin (Or.inr q)
  have h0 : ¬ nI j < 0 := fun q => hin (Or.inl q)
  have e1 : (nI j).toNatClampNeg = j := nI_clamp (Nat.lt_trans hj hlen)
  obtain ⟨kv, hkv⟩ := List.getElem?_of_mem (List.mem_append_right [(a, arrR G len f)] hm)
  have g1 := hP kv _ hkv
  obtain ⟨comp, cA, kA, f1, -, f2, f3, f4⟩ := arrayOverA_spec hE.2.1.1
  have n2 : s.vm.findClass "[[I" = some (G.2.1 2) := by rw [← nm_AI]; exact (hK.2 2 _ rfl).2
  have n1 : s.vm.findClass "[I" = some (G.2.1 1) := va_nm_int (hK.2 1 _ rfl).2
  rw [nm_I] at f1
  rw [nm_AI] at f4
  have c1 : G.2.1 1 = comp := Option.some.inj (n1.symm.trans f1)
  have c2 : G.2.1 2 = cA := Option.some.inj (n2.symm.trans f4)
  obtain ⟨k1, hk1, -⟩ := Vm.findClass_spec n1
  refine W.aast (cv := vp_cell (G.2.1 1) (lv, .inl fv)) (t := .array .int) (comp := G.2.1 1) hx hb (hP 0 _ rfl) (fun q h => by cases h) (fun h => by cases h) (show s.vm.classes[G.2.1 2]? = some kA by rw [c2]; exact f2) (by rw [c1]; exact f3) rfl hk1 ⟨h0, by show _ < (arrV _ _ _).slots.size; rw [arrV_size]; exact hlt⟩ g1 (fun q h => by cases h) hk1 (va_asg _ _) rfl rfl hdg fun H1 e z oq => ?_
  refine kk H1 _ ⟨hP.set hD (p := 0) rfl ?_ oq, hD.set (p := 0) rfl, hK, hS.put z oq (hD.2 0 _ rfl), hE, hZ⟩
  show H1[a]? = some (vp_cell (G.2.1 2) (len, .inr (.inr (.inr (.inr (va_up f j (some v)))))))
  rw [e]
  show some ((vp_cell (G.2.1 2) (len, .inr (.inr (.inr (.inr f))))).setSlot (nI j).toNatClampNeg (.ref v)) = _
  rw [vp_cell_q, vp_cell_q, arrV_store, e1]
  congr 2
  funext q
  by_cases hq : q = j
  · subst hq
    simp [updV, va_up, va_rf]
  · simp [updV, va_up, hq]
theorem pm_end (w : va_W) (c : Nat × va_E) : (w ++ [c]).Perm ([c] ++ w) := List.perm_append_comm
/-- new int[len] -/
theorem x_newa {len : Nat} {i : Int32} (S : CallFix p m c cc nL s args lw_all own) (g : GX G Z w s H locs) (harr : Cond.arrayClass .int ∈ lw_all) (hi : i = nI len) (hlen : len < 2 ^ 20) (hcells : cells + 1 ≤ R.cells) (hslots : slots + len ≤ R.slots) (hdg : decode cc pc = .ok (.newarray .int, 2))
    (kk : ∀ (q : Nat) (H1 : Heap), GX G Z ([(q, arrI G len (fun _ => 0))] ++ w) s H1 locs → W p l e R s m args below meth c H1 locs (cells + 1) (slots + len) Q (F0 m (pc + 2) ls (.ref q :: rest))) : W p l e R s m args below meth c H locs cells slots Q (F0 m pc ls (.int i :: rest)) := by
  obtain ⟨hx, hb, hml, ho, hts⟩ := S
  have g0 := g
  obtain ⟨hP, hD, hK, hS, hE, hZ⟩ := g
  subst hi
  refine va_newa (atype := .int) (ty := .int) hx hb (hts _ harr) rfl hK hP hD hS hZ (N' := len) (a0 := (len, .inl (fun _ => 0))) (fun _ => rfl) (nI_pos (by omega)) (nI_clamp (by omega)) (by show len * 4 ≤ 536870912; omega) hcells hslots hdg (fun q cA H1 hK1 hP1 hD1 hS1 => ?_)
  have n1 : s.vm.findClass "[I" = some (G.2.1 1) := va_nm_int (hK.2 1 _ rfl).2
  have n2 : s.vm.findClass "[I" = some cA := va_nm_int (hK1.2 3 (cA, .int) rfl).2
  have c1 : G.2.1 1 = cA := Option.some.inj (n1.symm.trans n2)
  subst c1
  exact kk q H1 (GX.perm ⟨hP1, hD1, hK, hS1, hE, hZ⟩ (pm_end _ _))
/-- new int[len][] -/
theorem x_anew {len index : Nat} {i : Int32} (S : CallFix p m c cc nL s args lw_all own) (g : GX G Z w s H locs) (hlink : Cond.classLink own index "[I" ∈ lw_all) (hi : i = nI len) (hlen : len < 2 ^ 20) (hcells : cells + 1 ≤ R.cells) (hslots : slots + len ≤ R.slots) (hdg : decode cc pc = .ok (.anewarray index, 3))
    (kk : ∀ (q : Nat) (H1 : Heap), GX G Z ([(q, arrR G len (fun _ => none))] ++ w) s H1 locs → W p l e R s m args below meth c H1 locs (cells + 1) (slots + len) Q (F0 m (pc + 3) ls (.ref q :: rest))) : W p l e R s m args below meth c H locs cells slots Q (F0 m pc ls (.int i :: rest)) := by
  obtain ⟨hx, hb, hml, ho, hts⟩ := S
  obtain ⟨hP, hD, hK, hS, hE, hZ⟩ := g
  have ec : i.toNatClampNeg = len := by rw [hi]; exact nI_clamp (by omega)
  have hn0 : ¬ i < 0 := by rw [hi]; exact nI_pos (by omega)
  clear hi
  subst ec
  refine W.anewA (t := .int) hx hb ho (by rw [nm_I]; exact hts _ hlink) (ai_use hE.2.1.1) rfl hdg rfl hn0 (by omega) hcells hslots fun cA kA comp f1 f2 f3 f4 => ?_
  rw [nm_AI] at f1
  have n2 : s.vm.findClass "[[I" = some (G.2.1 2) := by rw [← nm_AI]; exact (hK.2 2 _ rfl).2
  have c2 : cA = G.2.1 2 := Option.some.inj (f1.symm.trans n2)
  subst c2
  generalize hH1 : H.push ({ cls := G.2.1 2, slots := Array.replicate i.toNatClampNeg .null, vm := .none } : Cell) = H1
  have z1 : H1.size = H.size + 1 := by rw [← hH1, Array.size_push]
  have e1 : H1[H.size]? = some (arrV (G.2.1 2) i.toNatClampNeg (fun _ => .null)) := by rw [← hH1, Array.getElem?_push_size, ← arrV_new]
  have o1 : ∀ q : Nat, q < H.size → H1[q]? = H[q]? := fun q hq => by rw [← hH1, Array.getElem?_push, if_neg (Nat.ne_of_lt hq)]
  have hk : ∀ (k : Nat) (x : Nat × va_E), w[k]? = some x → H1[x.1]? = H[x.1]? := fun k x hx => o1 x.1 ((hP k x hx).lt)
  have hP1 : va_P G.1 vwCl (w ++ [(H.size, arrR G i.toNatClampNeg (fun _ => none))]) H1 := by
    refine (hP.kept hk).app (fun k x hx => ?_)
    have hz : k < 1 := (List.getElem?_eq_some_iff.mp hx).1
    rw [show k = 0 by omega] at hx
    cases hx
    show H1[H.size]? = some (vp_cell (G.2.1 2) (i.toNatClampNeg, .inr (.inr (.inr (.inr (fun _ => none))))))
    rw [vp_cell_q]
    exact e1
  have hD1 : va_D Z (w ++ [(H.size, arrR G i.toNatClampNeg (fun _ => none))]) := hD.push hP rfl (hZ _ hS.1)
  have hS1 : va_S Z s.heap H1 locs := ⟨Nat.le_trans hS.1 (by omega), fun x h1 h2 => (o1 x (Nat.lt_of_lt_of_le h1 hS.1)).trans (hS.2.1 x h1 h2), hS.2.2⟩
  have g1 : GX G Z (w ++ [(H.size, arrR G i.toNatClampNeg (fun _ => none))]) s H1 locs := ⟨hP1, hD1, hK, hS1, hE, hZ⟩
  exact kk H.size H1 (g1.perm (pm_end _ _))
/-- own.clone(), of a row of ints -/
theorem x_clone {len a index : Nat} {f : Nat → Int32} (S : CallFix p m c cc nL s args lw_all own) (g : GX G Z w s H locs) (hm : (a, arrI G len f) ∈ w) (hsz : ls.size = nL) (h1 : Cond.methodLink own index ⟨"[I", "clone", "()Ljava/lang/Object;"⟩ ∈ lw_all) (h2 : Cond.sameMethod "[I" "java/lang/Object" "clone" "()Ljava/lang/Object;" ∈ lw_all) (h3 : Cond.native ⟨"java/lang/Object", "clone", "()Ljava/lang/Object;"⟩ ∈ lw_all) (h4 : Cond.instanceMethod ⟨"java/lang/Object", "clone", "()Ljava/lang/Object;"⟩ ∈ lw_all) (h5 : Cond.selects "[I" ⟨"[I", "clone", "()Ljava/lang/Object;"⟩ ⟨"java/lang/Object", "clone", "()Ljava/lang/Object;"⟩ ∈ lw_all)
    (hframes : 1 ≤ R.frames) (hlocals : (rest.map fun v => v.category).sum + 14 ≤ R.locals) (hcells : cells + 1 ≤ R.cells) (hslots : slots + len ≤ R.slots) (hdg : decode cc pc = .ok (.invokevirtual index, 3))
    (kk : ∀ (q : Nat) (H1 : Heap), GX G Z ([(q, arrI G len f)] ++ w) s H1 locs → W p l e R s m args below meth c H1 locs (cells + 1) (slots + len) Q (F0 m (pc + 3) ls (.ref q :: rest))) : W p l e R s m args below meth c H locs cells slots Q (F0 m pc ls (.ref a :: rest)) := by
  obtain ⟨hx, hb, hml, ho, hts⟩ := S
  obtain ⟨hP, hD, hK, hS, hE, hZ⟩ := g
  obtain ⟨k, hk⟩ := List.getElem?_of_mem hm
  refine va_clone (ad := "[I") hx hb (hml.trans hsz.symm) ho (hts _ h1) (hts _ h2) (hts _ h3) (hts _ h4) (hts _ h5) hE.2.1.2 hK hP hD hS hZ k 1 (x := (len, .inl f)) hk rfl (va_nm_int (hK.2 1 _ rfl).2) (fun i v hv => ?_) hframes hlocals hcells hslots hdg (fun q H1 hK1 hP1 hD1 hS1 => ?_)
  · exact va_fit (cA := G.2.1 1) (n := len) (F := fun j => .int (f j)) (ty := .int) (fun i _ => rfl) i v hv
  · exact kk q H1 (GX.perm ⟨hP1, hD1, hK, hS1, hE, hZ⟩ (pm_end _ _))
/-- the cast to a row of ints -/
theorem x_cast {len a index : Nat} {f : Nat → Int32} (S : CallFix p m c cc nL s args lw_all own) (g : GX G Z w s H locs) (hm : (a, arrI G len f) ∈ w) (hlink : Cond.classLink own index "[I" ∈ lw_all) (hdg : decode cc pc = .ok (.checkcast index, 3))
    (kk : W p l e R s m args below meth c H locs cells slots Q (F0 m (pc + 3) ls (.ref a :: rest))) : W p l e R s m args below meth c H locs cells slots Q (F0 m pc ls (.ref a :: rest)) := by
  obtain ⟨hx, hb, hml, ho, hts⟩ := S
  obtain ⟨k, hk⟩ := List.getElem?_of_mem hm
  exact va_castA (nm := "[I") hx hb ho (hts _ hlink) g.1 k hk (va_nm_int (g.2.2.1.2 1 _ rfl).2) hdg kk
/-! Math -/
theorem x_abs {index : Nat} (S : CallFix p m c cc nL s args lw_all own) (hsz : ls.size = nL) (h1 : Cond.methodLink own index Lib.Math.abs.name ∈ lw_all) (h2 : Cond.static Lib.Math.abs.name ∈ lw_all) (h3 : Cond.initialized "java/lang/Math" ∈ lw_all) (h4 : Cond.code Lib.Math.abs.name Lib.Math.abs.code 1 (some .int) ∈ lw_all)
    (hframes : 1 ≤ R.frames) (hlocals : (rest.map fun v => v.category).sum + 13 ≤ R.locals) (hc : cells ≤ R.cells) (hs : slots ≤ R.slots) {x : Int32} (hdg : decode cc pc = .ok (.invokestatic index, 3))
    (kk : W p l e R s m args below meth c H locs cells slots Q (F0 m (pc + 3) ls (.int (if 0 ≤ x then x else 0 - x) :: rest))) : W p l e R s m args below meth c H locs cells slots Q (F0 m pc ls (.int x :: rest)) := by
  obtain ⟨hx, hb, hml, ho, hts⟩ := S
  exact va_mabs hx hb (hml.trans hsz.symm) ho (hts _ h1) (hts _ h2) (hts _ h3) (hts _ h4) hframes hlocals hc hs hdg kk
/-! calls of the pool, by its contracts -/
theorem x_V {y : MethodName} {bb : ByteArray} {mL nA f k1 index : Nat} {ret : Option FieldType} {As : List Value} {Qs : Nat → Array Value → State → Outcome → State → Prop}
    (S : CallFix p m c cc nL s args lw_all own) (g : GX G Z (wld G F 0 ++ X) s H locs) (hM : ∀ sz : Nat, Met l y (wsG y bb mL ret) (rmG f k1) (va_Pc (.ref (gA G 0) :: As) (preG G F 0 sz)) (Qs sz) 0 0 (GA G sz)) (hq : GoodIn lw_all (wsV own index "ShadowPool" y (wsG y bb mL ret)))
    (hd : y.cls = "ShadowPool" ∧ y.cls ≠ "java/lang/invoke/MethodHandle" ∧ y.cls ≠ "java/lang/invoke/VarHandle" ∧ (parseMethodDescriptor y.desc).map (fun d => d.parameters.length) = some nA) (hn : As.length = nA) (hR : f + 1 ≤ R.frames ∧ 8 + (mL + 11) + k1 ≤ R.locals) (hsz : ls.size = nL) (hW : (rest.map fun v => v.category).sum ≤ 8) (hst : st0 = As.reverse ++ .ref (gA G 0) :: rest) (hcs : cells ≤ R.cells ∧ slots ≤ R.slots) (hdg : decode cc pc = .ok (.invokevirtual index, 3)) :
    va_Run p l e R s m args below meth c H locs cells slots 0 0 (F0 m pc ls st0) rest (Qs H.size (Value.ref (gA G 0) :: As).toArray) (GA G H.size) := by
  exact va_runV (As := As) (rest := rest) S (hM H.size) (cwV nA S.2.2.2.2 hq rfl rfl rfl hd hR) ⟨preG_blind, va_recv g.2.2.1 g.1 (q := (RX2, TX2, 2)) rfl (wld_at G F 0 X (by decide) (cE0 G F 0)), fun U hU hW => ⟨rfl, g.preG hU hW⟩⟩ rfl hn hsz hst (lv_room (m := m) (pc := pc) (ls := ls) (rest := st0) hW) hdg hcs
theorem GA_free (g : GX G Z (wld G F 0 ++ X) s H locs) {q : Nat} (h : GA G H.size q) : Z q := g.free (by rw [GA_eq]; exact h)
theorem x_ci {RR : Int32} {a : Array Value} (g : GX G Z (wld G F 0 ++ X) s H locs) (hr : va_Run p l e R s m args below meth c H locs cells slots 0 0 (F0 m pc ls st0) rest (QI G F' 0 RR H.size a) (GA G H.size))
    (kk : ∀ (H : Heap) (locs : List Loc), GX G Z (wld G F' 0 ++ X) s H locs → W p l e R s m args below meth c H locs cells slots Q (F0 m (pc + 3) ls (.int RR :: rest))) : W p l e R s m args below meth c H locs cells slots Q (F0 m pc ls st0) := by
  refine va_calli hr g.2.2.2.1 (fun q _ h => GA_free g h) (fun q h => GA_free g h) (fun r u t H1 l1 ht hvm hw hB hz hk1 hS => ?_)
  subst hw
  exact kk H1 l1 (g.afterG (by rw [← ht]; exact hB) hk1 hS)
theorem x_cl {RR : Int64} {a : Array Value} (g : GX G Z (wld G F 0 ++ X) s H locs) (hr : va_Run p l e R s m args below meth c H locs cells slots 0 0 (F0 m pc ls st0) rest (QL G F' 0 RR H.size a) (GA G H.size))
    (kk : ∀ (H : Heap) (locs : List Loc), GX G Z (wld G F' 0 ++ X) s H locs → W p l e R s m args below meth c H locs cells slots Q (F0 m (pc + 3) ls (.long RR :: rest))) : W p l e R s m args below meth c H locs cells slots Q (F0 m pc ls st0) := by
  refine va_calll hr g.2.2.2.1 (fun q _ h => GA_free g h) (fun q h => GA_free g h) (fun r u t H1 l1 ht hvm hw hB hz hk1 hS => ?_)
  subst hw
  exact kk H1 l1 (g.afterG (by rw [← ht]; exact hB) hk1 hS)
theorem x_cd {RR : UInt64} {a : Array Value} (g : GX G Z (wld G F 0 ++ X) s H locs) (hr : va_Run p l e R s m args below meth c H locs cells slots 0 0 (F0 m pc ls st0) rest (QD G F' 0 RR H.size a) (GA G H.size))
    (kk : ∀ (H : Heap) (locs : List Loc), GX G Z (wld G F' 0 ++ X) s H locs → W p l e R s m args below meth c H locs cells slots Q (F0 m (pc + 3) ls (.double RR :: rest))) : W p l e R s m args below meth c H locs cells slots Q (F0 m pc ls st0) := by
  refine va_calld hr g.2.2.2.1 (fun q _ h => GA_free g h) (fun q h => GA_free g h) (fun r u t H1 l1 ht hvm hw hB hz hk1 hS => ?_)
  subst hw
  exact kk H1 l1 (g.afterG (by rw [← ht]; exact hB) hk1 hS)
/-! calls of the law's own side -/
theorem preX_blind {vs : List Value} {w : va_W} {sz : Nat} : FrameBlind (va_Pc vs (preX G w sz)) := fun a U g mk q => by
  obtain ⟨q0, q1, q2, q3, q4, q5⟩ := q
  exact ⟨q0, q1, q2, q3, va_K.moved (u := U) (U := U.calling g mk a) (Vm.Alike.refl U.vm) q4, EnvG.same (u := U) (U := U.calling g mk a) rfl q5⟩
theorem y_V {y : MethodName} {bb : ByteArray} {mL nA f k1 mc ms index : Nat} {ret : Option FieldType} {As : List Value} {Qs : Nat → Array Value → State → Outcome → State → Prop} {wc : va_W} {a a1 : Nat}
    (S : CallFix p m c cc nL s args lw_all own) (g : GX G Z (wc ++ X) s H locs) (hM : ∀ sz : Nat, Met l y (wsG y bb mL ret) (rmC f k1 mc ms) (va_Pc (.ref a :: As) (preX G wc sz)) (Qs sz) mc ms (va_A wc sz)) (hm : (a, simO a1 F b) ∈ wc) (hq : GoodIn lw_all (wsV own index "ShadowPoolLaw$Sim" y (wsG y bb mL ret)))
    (hd : y.cls = "ShadowPoolLaw$Sim" ∧ y.cls ≠ "java/lang/invoke/MethodHandle" ∧ y.cls ≠ "java/lang/invoke/VarHandle" ∧ (parseMethodDescriptor y.desc).map (fun d => d.parameters.length) = some nA) (hn : As.length = nA) (hR : f + 1 ≤ R.frames ∧ 8 + (mL + 11) + k1 ≤ R.locals) (hsz : ls.size = nL) (hW : (rest.map fun v => v.category).sum ≤ 8) (hst : st0 = As.reverse ++ .ref a :: rest) (hcs : cells + mc ≤ R.cells ∧ slots + ms ≤ R.slots) (hdg : decode cc pc = .ok (.invokevirtual index, 3)) :
    va_Run p l e R s m args below meth c H locs cells slots mc ms (F0 m pc ls st0) rest (Qs H.size (Value.ref a :: As).toArray) (va_A wc H.size) := by
  obtain ⟨k, hk⟩ := List.getElem?_of_mem (List.mem_append_left X hm)
  exact va_runV (As := As) (rest := rest) S (hM H.size) (cwV nA S.2.2.2.2 hq rfl rfl rfl hd hR) ⟨preX_blind, va_recv g.2.2.1 g.1 (q := (RX3, TX3, 7)) rfl hk, fun U hU hW => ⟨rfl, g.pre hU hW⟩⟩ rfl hn hsz hst (lv_room (m := m) (pc := pc) (ls := ls) (rest := st0) hW) hdg hcs
theorem y_S {y : MethodName} {bb : ByteArray} {mL nA f k1 mc ms index : Nat} {ret : Option FieldType} {As : List Value} {Qs : Nat → Array Value → State → Outcome → State → Prop} {wc : va_W}
    (S : CallFix p m c cc nL s args lw_all own) (g : GX G Z (wc ++ X) s H locs) (hM : ∀ sz : Nat, Met l y (wsG y bb mL ret) (rmC f k1 mc ms) (va_Pc As (preX G wc sz)) (Qs sz) mc ms (va_A wc sz)) (hq : GoodIn lw_all (va_wsS own index y (wsG y bb mL ret)))
    (hd : y.cls ≠ "java/lang/invoke/MethodHandle" ∧ y.cls ≠ "java/lang/invoke/VarHandle" ∧ (parseMethodDescriptor y.desc).map (fun d => d.parameters.length) = some nA) (hn : As.length = nA) (hR : f + 1 ≤ R.frames ∧ 8 + (mL + 11) + k1 ≤ R.locals) (hsz : ls.size = nL) (hW : (rest.map fun v => v.category).sum ≤ 8) (hst : st0 = As.reverse ++ rest) (hcs : cells + mc ≤ R.cells ∧ slots + ms ≤ R.slots) (hdg : decode cc pc = .ok (.invokestatic index, 3)) :
    va_Run p l e R s m args below meth c H locs cells slots mc ms (F0 m pc ls st0) rest (Qs H.size As.toArray) (va_A wc H.size) := by
  exact va_runS (As := As) (rest := rest) S (hM H.size) (va_cwS nA S.2.2.2.2 hq rfl rfl rfl hd hR) ⟨preX_blind, fun U hU hW => ⟨rfl, g.pre hU hW⟩⟩ rfl hn hsz hst (lv_room (m := m) (pc := pc) (ls := ls) (rest := st0) hW) hdg hcs
abbrev QXi {α : Type} (G : gT) (P : Int32 → α → Prop) (w' : α → va_W) (wc : va_W) (sz : Nat) : Array Value → State → Outcome → State → Prop := va_Qi P (poX G w' (va_A wc sz)) (va_A wc sz)
abbrev QXv {α : Type} (G : gT) (P : α → Prop) (w' : α → va_W) (wc : va_W) (sz : Nat) : Array Value → State → Outcome → State → Prop := va_Qv P (poX G w' (va_A wc sz)) (va_A wc sz)
abbrev QXq {α : Type} (G : gT) (P : Option Nat → α → Prop) (w' : α → va_W) (wc : va_W) (sz : Nat) : Array Value → State → Outcome → State → Prop := va_Qq P (poX G w' (va_A wc sz)) (va_A wc sz)
theorem y_ci {α : Type} {P : Int32 → α → Prop} {w' : α → va_W} {wc : va_W} {mc ms : Nat} {a : Array Value} (g : GX G Z (wc ++ X) s H locs) (hr : va_Run p l e R s m args below meth c H locs cells slots mc ms (F0 m pc ls st0) rest (QXi G P w' wc H.size a) (va_A wc H.size))
    (kk : ∀ (r : Int32) (u : α) (H : Heap) (locs : List Loc), P r u → GX G Z (w' u ++ X) s H locs → W p l e R s m args below meth c H locs (cells + mc) (slots + ms) Q (F0 m (pc + 3) ls (.int r :: rest))) : W p l e R s m args below meth c H locs cells slots Q (F0 m pc ls st0) := by
  refine va_calli hr g.2.2.2.1 (fun q _ h => g.free h) (fun q h => g.free h) (fun r u t H1 l1 ht hvm hw hB hz hk1 hS => ?_)
  exact kk r u H1 l1 hw (g.after (by rw [← ht]; exact hB.1) hB.2 hk1 hS)
theorem y_cv {α : Type} {P : α → Prop} {w' : α → va_W} {wc : va_W} {mc ms : Nat} {a : Array Value} (g : GX G Z (wc ++ X) s H locs) (hr : va_Run p l e R s m args below meth c H locs cells slots mc ms (F0 m pc ls st0) rest (QXv G P w' wc H.size a) (va_A wc H.size))
    (kk : ∀ (u : α) (H : Heap) (locs : List Loc), P u → GX G Z (w' u ++ X) s H locs → W p l e R s m args below meth c H locs (cells + mc) (slots + ms) Q (F0 m (pc + 3) ls rest)) : W p l e R s m args below meth c H locs cells slots Q (F0 m pc ls st0) := by
  refine va_callv hr g.2.2.2.1 (fun q _ h => g.free h) (fun q h => g.free h) (fun u t H1 l1 ht hvm hw hB hz hk1 hS => ?_)
  exact kk u H1 l1 hw (g.after (by rw [← ht]; exact hB.1) hB.2 hk1 hS)
theorem y_cq {α : Type} {P : Option Nat → α → Prop} {w' : α → va_W} {wc : va_W} {mc ms : Nat} {a : Array Value} (g : GX G Z (wc ++ X) s H locs) (hr : va_Run p l e R s m args below meth c H locs cells slots mc ms (F0 m pc ls st0) rest (QXq G P w' wc H.size a) (va_A wc H.size))
    (kk : ∀ (r : Option Nat) (u : α) (H : Heap) (locs : List Loc), P r u → GX G Z (w' u ++ X) s H locs → W p l e R s m args below meth c H locs (cells + mc) (slots + ms) Q (F0 m (pc + 3) ls (va_rf r :: rest))) : W p l e R s m args below meth c H locs cells slots Q (F0 m pc ls st0) := by
  refine va_callq hr g.2.2.2.1 (fun q _ h => g.free h) (fun q h => g.free h) (fun r u t H1 l1 ht hvm hw hB hz hk1 hS => ?_)
  exact kk r u H1 l1 hw (g.after (by rw [← ht]; exact hB.1) hB.2 hk1 hS)
/-! ends -/
theorem f_i {α : Type} {P : Int32 → α → Prop} {w' : α → va_W} {wc : va_W} {v : Int32} (u : α) (S : CallFix p m c cc nL s args lw_all own) (hr : meth.sig.returnType = some .int) (hk : meth.locks = false) (g : GX G (va_A wc s.heap.size) (w' u) s H locs) (hv : P v u) (hdg : decode cc pc = .ok (.ireturn, 1)) : W p l e R s m args below meth c H locs cells slots (MQ below (QXi G P w' wc s.heap.size) args s cells slots (va_A wc s.heap.size)) (F0 m pc ls [.int v]) :=
  W.iret S.1 S.2.1 hr (fun t ht hW => ⟨⟨v, u, rfl, hv, by rw [ht]; exact g.1, g.2.1⟩, g.2.2.2.1.F ht⟩) g.2.2.2.1.2.2 hdg hk
theorem f_z {α : Type} {P : Int32 → α → Prop} {w' : α → va_W} {wc : va_W} {v : Int32} (u : α) (S : CallFix p m c cc nL s args lw_all own) (hr : meth.sig.returnType = some .boolean) (hk : meth.locks = false) (g : GX G (va_A wc s.heap.size) (w' u) s H locs) (hz : v = 0 ∨ v = 1) (hv : P v u) (hdg : decode cc pc = .ok (.ireturn, 1)) : W p l e R s m args below meth c H locs cells slots (MQ below (QXi G P w' wc s.heap.size) args s cells slots (va_A wc s.heap.size)) (F0 m pc ls [.int v]) :=
  W.zret S.1 S.2.1 hr (z01 hz) (fun t ht hW => ⟨⟨v, u, rfl, hv, by rw [ht]; exact g.1, g.2.1⟩, g.2.2.2.1.F ht⟩) g.2.2.2.1.2.2 hdg hk
theorem f_v {α : Type} {P : α → Prop} {w' : α → va_W} {wc : va_W} (u : α) (S : CallFix p m c cc nL s args lw_all own) (hr : meth.sig.returnType = none) (hk : meth.locks = false) (g : GX G (va_A wc s.heap.size) (w' u) s H locs) (hv : P u) (hdg : decode cc pc = .ok (.return_, 1)) : W p l e R s m args below meth c H locs cells slots (MQ below (QXv G P w' wc s.heap.size) args s cells slots (va_A wc s.heap.size)) (F0 m pc ls []) :=
  W.vret S.1 S.2.1 hr (fun t ht hW => ⟨⟨u, rfl, hv, by rw [ht]; exact g.1, g.2.1⟩, g.2.2.2.1.F ht⟩) g.2.2.2.1.2.2 hdg hk
theorem f_q {α : Type} {P : Option Nat → α → Prop} {w' : α → va_W} {wc : va_W} {v : Nat} {ty : FieldType} (u : α) (S : CallFix p m c cc nL s args lw_all own) (hr : meth.sig.returnType = some ty) (hty : (∃ nm, ty = .object nm) ∨ ∃ t, ty = .array t) (hk : meth.locks = false) (g : GX G (va_A wc s.heap.size) (w' u) s H locs) (hv : P (some v) u) (hdg : decode cc pc = .ok (.areturn, 1)) : W p l e R s m args below meth c H locs cells slots (MQ below (QXq G P w' wc s.heap.size) args s cells slots (va_A wc s.heap.size)) (F0 m pc ls [.ref v]) :=
  W.aret S.1 S.2.1 hr (by rcases hty with ⟨nm, rfl⟩ | ⟨t, rfl⟩; exact Or.inl ⟨nm, rfl⟩; exact Or.inr ⟨t, rfl⟩) (Or.inr ⟨_, rfl⟩) (fun t ht hW => ⟨⟨some v, u, rfl, hv, by rw [ht]; exact g.1, g.2.1⟩, g.2.2.2.1.F ht⟩) g.2.2.2.1.2.2 hdg hk
end XR
/-- from a contract's start to the body's first instruction -/
theorem mk_Y {l : Launch} {y : MethodName} {bb : ByteArray} {n : Nat} {ret : Option FieldType} {f k mc ms : Nat} {vs : List Value} {G : gT} {w : va_W} {own : String} {Qs : Nat → Array Value → State → Outcome → State → Prop}
    (hy : plainFor y = true) (ho : y.cls = own) (hn : (lg_sl vs).length ≤ n)
    (body : ∀ (p : Program) (e : Env) (s : State) (m : MethodId) (args : Array Value) (below : List Frame) (meth : Method) (c : Code) (ls : Array Slot), meth.sig.returnType = ret → meth.locks = false → meth.name = y.name → CallFix p m c bb n s args lw_all own → GX G (va_A w s.heap.size) w s s.heap [] → lv_has ls n (lv_args 0 vs) →
      W p l e (rmC f k mc ms) s m args below meth c s.heap [] 0 0 (MQ below (Qs s.heap.size) args s mc ms (va_A w s.heap.size)) (F0 m 0 ls [])) (sz : Nat) :
    Met l y (wsG y bb n ret) (rmC f k mc ms) (va_Pc vs (preX G w sz)) (Qs sz) mc ms (va_A w sz) := by
  refine met_ofF (cc := bb) (maxL := n) (ret := ret) hy rfl ?_
  intro p e s m args below meth c s₁ B hml hv
  obtain ⟨rfl, hsz, hP, hD, hK, hE⟩ := hv
  have hx := B.exec
  have hb := B.bytes
  have hr := B.returns
  have hts := atoms_spec (ws := wsG y bb n ret) B.pre
  have hts : ∀ w ∈ lw_all, w.before vs.toArray s = true := fun w h => hts w (List.mem_cons_of_mem _ h)
  have hown : s.vm.findClass y.cls = some m.cls := findClass_of_methodNamed B.named
  have hlocks := B.notSynchronized
  have hin : meth.name = y.name := (name_of_methodNamed B.named B.method).1
  subst hsz
  have hl := lv_entry vs (n := n) hn
  rw [lg_entry_eq]
  generalize (lg_sl vs ++ List.replicate (n - (lg_sl vs).length) Slot.unset).toArray = ls at hl ⊢
  exact body p e s m _ below meth c ls hr hlocks hin ⟨hx, hb, hml, by rw [← ho]; exact hown, hts⟩ ⟨hP, hD.self, hK, va_S.rf, hE, fun q h => Or.inr h⟩ hl
end
section
/-! numbers: what the class's words say of small naturals -/
def suN (h : Nat) : Nat := [1, 2, 3, 4, 5, 6, 6, 5, 4, 3, 2, 1].getD (h % 12) 0
def noN (h : Nat) : Nat := if h % 12 = 5 ∨ h % 12 = 6 then 1 else 0
def shN (a h : Nat) : Nat := 6 * a / suN h
def coN (a nt h : Nat) : Nat := shN a h - 2 * nt
def owN (m c h : Nat) : Nat := if m = 0 then c else min c (3 + 3 * noN h)
def woN (a sk wo h : Nat) : Nat := wo + (a / 5 + 1 + noN h) - sk
def reN (cl r l : Nat) : Nat := min (cl - r) l
theorem su_nI (h : Nat) : suH h = nI (suN h) := by
  have key : ∀ d, d < 12 → sunAtI (nI d) = nI ([1, 2, 3, 4, 5, 6, 6, 5, 4, 3, 2, 1].getD d 0) := by decide
  exact key _ (Nat.mod_lt _ (by decide))
theorem su_bd (h : Nat) : 1 ≤ suN h ∧ suN h ≤ 6 := by
  have key : ∀ d, d < 12 → 1 ≤ [1, 2, 3, 4, 5, 6, 6, 5, 4, 3, 2, 1].getD d 0 ∧ [1, 2, 3, 4, 5, 6, 6, 5, 4, 3, 2, 1].getD d 0 ≤ 6 := by decide
  exact key _ (Nat.mod_lt _ (by decide))
theorem no_nI (h : Nat) : noH h = nI (noN h) := by
  have key : ∀ d, d < 12 → noonAtI (nI d) = nI (if d = 5 ∨ d = 6 then 1 else 0) := by decide
  exact key _ (Nat.mod_lt _ (by decide))
theorem no_bd (h : Nat) : noN h ≤ 1 := by unfold noN; split <;> omega
theorem no_su (h : Nat) : noN h = 1 ↔ suN h = 6 := by
  have key : ∀ d, d < 12 → ((if d = 5 ∨ d = 6 then 1 else 0) = 1 ↔ [1, 2, 3, 4, 5, 6, 6, 5, 4, 3, 2, 1].getD d 0 = 6) := by decide
  exact key _ (Nat.mod_lt _ (by decide))
theorem nI_toI {a : Nat} (h : a < 2 ^ 31) : (nI a).toInt = (a : Int) := nI_toInt h
theorem mx0_nI {a : Nat} (h : a < 2 ^ 31) : mx0 (nI a) = nI a := by
  unfold mx0
  by_cases h0 : 0 < nI a
  · rw [if_pos h0]
  · rw [if_neg h0]
    rw [show (0 : Int32) = nI 0 from rfl, nI_ltI (by omega) h] at h0
    rw [show a = 0 by omega]; rfl
theorem mx0_sub {a b : Nat} (ha : a < 2 ^ 30) (hb : b < 2 ^ 30) : mx0 (nI a - nI b) = nI (a - b) := by
  by_cases h : a < b
  · have h1 := pk_sneg hb h
    unfold mx0
    rw [if_neg (Int32.lt_asymm h1), show a - b = 0 by omega]; rfl
  · rw [pk_sub (by omega)]
    exact mx0_nI (by omega)
theorem sh_nI {a : Nat} (ha : a ≤ 30) (h : Nat) : shI (nI a) (suH h) = nI (shN a h) := by
  have hs := su_bd h
  unfold shI shN
  rw [su_nI, show (6 : Int32) = nI 6 from rfl, pk_mul, pk_div (by omega) (by omega) (by omega)]
theorem sh_bd {a : Nat} (ha : a ≤ 30) (h : Nat) : a ≤ shN a h ∧ shN a h ≤ 6 * a ∧ shN a h ≤ 180 := by
  obtain ⟨h1, h2⟩ := su_bd h
  unfold shN
  have e1 : 6 * a / suN h ≤ 6 * a := Nat.div_le_self _ _
  refine ⟨?_, e1, by omega⟩
  rw [Nat.le_div_iff_mul_le (by omega)]
  have := Nat.mul_le_mul_left a h2
  omega
theorem co_nI {a nt : Nat} (ha : a ≤ 30) (hn : nt ≤ 9) (h : Nat) : coI (nI a) (nI nt) (suH h) = nI (coN a nt h) := by
  have := sh_bd ha h
  unfold coI coN
  rw [sh_nI ha, show (2 : Int32) = nI 2 from rfl, pk_mul, mx0_sub (by omega) (by omega)]
theorem co_bd {a nt h : Nat} (ha : a ≤ 30) : coN a nt h ≤ shN a h ∧ coN a nt h ≤ 180 := by
  have := sh_bd ha h
  unfold coN
  omega
theorem ow_nI {m c : Nat} (hm : m ≤ 1) (hc : c ≤ 180) (h : Nat) : owI (nI m) (nI c) (noH h) = nI (owN m c h) := by
  unfold owI owN
  rw [no_nI]
  have hn := no_bd h
  have z0 : nI 0 = 0 := rfl
  have z1 : ¬ nI 1 = 0 := by decide
  rcases (show m = 0 ∨ m = 1 by omega) with rfl | rfl
  · rw [if_pos z0, if_pos (show (0 : Nat) = 0 from rfl)]
  · rw [if_neg z1, if_neg (show ¬ (1 : Nat) = 0 by decide)]
    rcases (show noN h = 0 ∨ noN h = 1 by omega) with e | e <;> rw [e]
    · rw [if_pos z0]
      by_cases h3 : 3 < c
      · rw [if_pos (show (3 : Int32) < nI c from (nI_ltI (a := 3) (by omega) (by omega)).mpr h3), Nat.min_eq_right (by omega)]; rfl
      · rw [if_neg (show ¬ (3 : Int32) < nI c from fun z => h3 ((nI_ltI (a := 3) (by omega) (by omega)).mp z)), Nat.min_eq_left (by omega)]
    · rw [if_neg z1]
      by_cases h3 : 6 < c
      · rw [if_pos (show (6 : Int32) < nI c from (nI_ltI (a := 6) (by omega) (by omega)).mpr h3), Nat.min_eq_right (by omega)]; rfl
      · rw [if_neg (show ¬ (6 : Int32) < nI c from fun z => h3 ((nI_ltI (a := 6) (by omega) (by omega)).mp z)), Nat.min_eq_left (by omega)]
theorem ow_bd (m c h : Nat) : owN m c h ≤ c := by
  unfold owN
  split
  · omega
  · exact Nat.min_le_left _ _
theorem wo_nI {a sk wo : Nat} (ha : a ≤ 30) (hs : sk ≤ 5) (hw : wo ≤ 9) (h : Nat) : woI (nI a) (nI sk) (nI wo) (noH h) = nI (woN a sk wo h) := by
  unfold woI woN
  have hn := no_bd h
  rw [no_nI, show (5 : Int32) = nI 5 from rfl, pk_div (by omega) (by omega) (by omega), show (1 : Int32) = nI 1 from rfl, show (2 : Int32) = nI 2 from rfl, nI_add, nI_add, nI_add, nI_add, mx0_sub (by omega) (by omega), mx0_sub (by omega) (by omega)]
  rcases (show noN h = 0 ∨ noN h = 1 by omega) with e | e <;> rw [e]
  · rw [if_pos (show nI 0 = 0 from rfl)]
  · rw [if_neg (show ¬ nI 1 = 0 by decide)]
theorem re_nI {c r l : Nat} (hc : c < 2 ^ 30) (hr : r < 2 ^ 30) (hl : l < 2 ^ 30) : reI (nI c) (nI r) (nI l) = nI (reN c r l) := by
  unfold reI reN
  rw [mx0_sub hc hr]
  by_cases h : l < c - r
  · rw [if_pos ((nI_ltI (by omega) (by omega)).mpr h), Nat.min_eq_right (by omega)]
  · rw [if_neg (fun z => h ((nI_ltI (by omega) (by omega)).mp z)), Nat.min_eq_left (by omega)]
theorem re_bd (c r l : Nat) : reN c r l ≤ l ∧ reN c r l ≤ c := by
  unfold reN
  omega
/-- what is known of a walker, and of a book -/
def Wk (F : Fs) (k h : Nat) : Prop := ∃ a sk nt wo f m : Nat, 1 ≤ a ∧ a ≤ 30 ∧ sk ≤ 5 ∧ nt ≤ 9 ∧ wo ≤ 9 ∧ f ≤ h ∧ m ≤ 1 ∧ F k 0 = nI a ∧ F k 1 = nI sk ∧ F k 2 = nI nt ∧ F k 3 = nI wo ∧ F k 4 = nI f ∧ F k 5 = nI m
def Bf (F : Fs) (b : Nat) : Prop := (∃ r, r ≤ 9 ∧ F b 2 = nI r) ∧ (∃ r, r ≤ 200 ∧ F b 3 = nI r) ∧ ∃ r, r ≤ 400 ∧ F b 4 = nI r
def Bk (F : Fs) (b n h : Nat) : Prop := n ≤ 8 ∧ F b 6 = nI n ∧ F b 0 = nI h ∧ Bf F b ∧ ∀ j, j < n → Wk F (wb b j) h
theorem Wk.mem {F : Fs} {k h : Nat} (w : Wk F k h) : F k 5 = 0 ∨ F k 5 = 1 := by
  obtain ⟨a, sk, nt, wo, f, m, -, -, -, -, -, -, h7, -, -, -, -, -, e⟩ := w
  rw [e]
  rcases (show m = 0 ∨ m = 1 by omega) with rfl | rfl
  · exact Or.inl rfl
  · exact Or.inr rfl
theorem Wk.same {F F' : Fs} {k h : Nat} (w : Wk F k h) (e : ∀ j, j < 6 → F' k j = F k j) : Wk F' k h := by
  obtain ⟨a, sk, nt, wo, f, m, h1, h2, h3, h4, h5, h6, h7, e0, e1, e2, e3, e4, e5⟩ := w
  exact ⟨a, sk, nt, wo, f, m, h1, h2, h3, h4, h5, h6, h7, by rw [e 0 (by omega)]; exact e0, by rw [e 1 (by omega)]; exact e1, by rw [e 2 (by omega)]; exact e2, by rw [e 3 (by omega)]; exact e3, by rw [e 4 (by omega)]; exact e4, by rw [e 5 (by omega)]; exact e5⟩
theorem Wk.up {F : Fs} {k h h' : Nat} (w : Wk F k h) (hh : h ≤ h') : Wk F k h' := by
  obtain ⟨a, sk, nt, wo, f, m, h1, h2, h3, h4, h5, h6, h7, es⟩ := w
  exact ⟨a, sk, nt, wo, f, m, h1, h2, h3, h4, h5, by omega, h7, es⟩
/-- words of the tables for what the law's side alone uses -/
theorem qAbs : Cond.code Lib.Math.abs.name Lib.Math.abs.code 1 (some .int) ∈ lw_all := lw_in (List.mem_of_getElem? (i := 603) (by decide +kernel)) (by decide +kernel)
theorem qAbsS : Cond.static Lib.Math.abs.name ∈ lw_all := lw_in (List.mem_of_getElem? (i := 602) (by decide +kernel)) (by decide +kernel)
theorem qSame : Cond.sameMethod "[I" "java/lang/Object" "clone" "()Ljava/lang/Object;" ∈ lw_all := q462
theorem qSel : Cond.selects "[I" ⟨"[I", "clone", "()Ljava/lang/Object;"⟩ ⟨"java/lang/Object", "clone", "()Ljava/lang/Object;"⟩ ∈ lw_all := q465
/-! what the law's Sim answers -/
theorem si_lo (h : Nat) (c : nI (h % 12) < 6) : nI (h % 12) + 1 = suH h := by
  have key : ∀ d, d < 12 → nI d < 6 → nI d + 1 = sunAtI (nI d) := by decide
  exact key _ (Nat.mod_lt _ (by decide)) c
theorem si_hi (h : Nat) (c : ¬ nI (h % 12) < 6) : 12 - nI (h % 12) = suH h := by
  have key : ∀ d, d < 12 → ¬ nI d < 6 → 12 - nI d = sunAtI (nI d) := by decide
  exact key _ (Nat.mod_lt _ (by decide)) c
theorem si_no (h : Nat) (c : suH h = 6) : (1 : Int32) = noH h := by
  have key : ∀ d, d < 12 → sunAtI (nI d) = 6 → (1 : Int32) = noonAtI (nI d) := by decide
  exact key _ (Nat.mod_lt _ (by decide)) c
theorem si_nn (h : Nat) (c : ¬ suH h = 6) : (0 : Int32) = noH h := by
  have key : ∀ d, d < 12 → ¬ sunAtI (nI d) = 6 → (0 : Int32) = noonAtI (nI d) := by decide
  exact key _ (Nat.mod_lt _ (by decide)) c
theorem si_sh (ht sun : Int32) : ht * 6 / sun = shI ht sun := by unfold shI; rw [Int32.mul_comm]
/-- what a fall costs, and who pays it: four numbers -/
def ptI (F : Fs) (b k h : Nat) : Nat → Int32 := fun j => if j = 0 then coI (F k 0) (F k 2) (suH h) else if j = 1 then owI (F k 5) (coI (F k 0) (F k 2) (suH h)) (noH h) else if j = 2 then clI F k (suH h) (noH h) - reI (clI F k (suH h) (noH h)) (F b 3) (F b 4) else if j = 3 then reI (clI F k (suH h) (noH h)) (F b 3) (F b 4) else 0
end
section
/-! the law's Sim in the class's words -/
theorem ct_eq (s n : Int32) : s - n - n = s - 2 * n := by grind
theorem ct_pos {v : Int32} (h : 0 < v) : mx0 v = v := if_pos h
theorem ct_neg {v : Int32} (h : ¬ 0 < v) : mx0 v = 0 := if_neg h
/-- what parts asks of a walker -/
def Wc (F : Fs) (k : Nat) : Prop := ∃ a nt m : Nat, a ≤ 30 ∧ nt ≤ 9 ∧ m ≤ 1 ∧ F k 0 = nI a ∧ F k 2 = nI nt ∧ F k 5 = nI m
theorem Wk.c {F : Fs} {k h : Nat} (w : Wk F k h) : Wc F k := by
  obtain ⟨a, sk, nt, wo, f, m, h1, h2, h3, h4, h5, h6, h7, e0, e1, e2, e3, e4, e5⟩ := w
  exact ⟨a, nt, m, h2, h4, h7, e0, e2, e5⟩
theorem Wc.same {F F' : Fs} {k : Nat} (w : Wc F k) (e0 : F' k 0 = F k 0) (e2 : F' k 2 = F k 2) (e5 : F' k 5 = F k 5) : Wc F' k := by
  obtain ⟨a, nt, m, h1, h2, h3, g0, g2, g5⟩ := w
  exact ⟨a, nt, m, h1, h2, h3, e0.trans g0, e2.trans g2, e5.trans g5⟩
/-- the numbers of a walker's claim -/
theorem wc_nat {F : Fs} {k h : Nat} (w : Wc F k) : ∃ c m : Nat, c ≤ 180 ∧ m ≤ 1 ∧ F k 5 = nI m ∧ coI (F k 0) (F k 2) (suH h) = nI c ∧ owI (F k 5) (nI c) (noH h) = nI (owN m c h) ∧ clI F k (suH h) (noH h) = nI (c - owN m c h) := by
  obtain ⟨a, nt, m, h1, h2, h3, g0, g2, g5⟩ := w
  have hc := co_bd (nt := nt) (h := h) h1
  have ec : coI (F k 0) (F k 2) (suH h) = nI (coN a nt h) := by rw [g0, g2, co_nI h1 h2]
  have eo : owI (F k 5) (nI (coN a nt h)) (noH h) = nI (owN m (coN a nt h) h) := by rw [g5, ow_nI h3 hc.2]
  refine ⟨coN a nt h, m, hc.2, h3, g5, ec, eo, ?_⟩
  unfold clI
  rw [ec, eo, pk_sub (ow_bd _ _ _)]
theorem re_0 {r l : Nat} (hr : r ≤ 200) (hl : l ≤ 400) : reI 0 (nI r) (nI l) = 0 := by
  rw [show (0 : Int32) = nI 0 from rfl, re_nI (by omega) (by omega) (by omega)]
  have e : reN 0 r l = 0 := by unfold reN; omega
  rw [e]
def fiI (h : Nat) : Int32 := if noH h = 0 then 3 else 6
theorem fi_3 {h : Nat} (c : noH h = 0) : (3 : Int32) = fiI h := by unfold fiI; rw [if_pos c]
theorem fi_6 {h : Nat} (c : ¬ noH h = 0) : (6 : Int32) = fiI h := by unfold fiI; rw [if_neg c]
theorem ow_fi {m c : Int32} {h : Nat} (hm : ¬ m = 0) : owI m c (noH h) = if fiI h < c then fiI h else c := by
  unfold owI fiI
  rw [if_neg hm]
  split <;> rfl
theorem pt_ext {F : Fs} {b k h : Nat} {f : Nat → Int32} (h0 : f 0 = coI (F k 0) (F k 2) (suH h)) (h1 : f 1 = owI (F k 5) (coI (F k 0) (F k 2) (suH h)) (noH h)) (h2 : f 2 = clI F k (suH h) (noH h) - reI (clI F k (suH h) (noH h)) (F b 3) (F b 4)) (h3 : f 3 = reI (clI F k (suH h) (noH h)) (F b 3) (F b 4)) (h4 : ∀ j, 4 ≤ j → f j = 0) : f = ptI F b k h := by
  funext j
  unfold ptI
  split
  · subst_vars; exact h0
  · split
    · subst_vars; exact h1
    · split
      · subst_vars; exact h2
      · split
        · subst_vars; exact h3
        · exact h4 j (by omega)
def up4 (x0 x1 x2 x3 : Int32) : Nat → Int32 := upd (upd (upd (upd (fun _ => 0) 0 x0) 1 x1) 2 x2) 3 x3
theorem up4_at (x0 x1 x2 x3 : Int32) : up4 x0 x1 x2 x3 0 = x0 ∧ up4 x0 x1 x2 x3 1 = x1 ∧ up4 x0 x1 x2 x3 2 = x2 ∧ up4 x0 x1 x2 x3 3 = x3 ∧ ∀ j, 4 ≤ j → up4 x0 x1 x2 x3 j = 0 := by
  refine ⟨by simp [up4, upd], by simp [up4, upd], by simp [up4, upd], by simp [up4, upd], fun j hj => ?_⟩
  have e0 : j ≠ 0 := by omega
  have e1 : j ≠ 1 := by omega
  have e2 : j ≠ 2 := by omega
  have e3 : j ≠ 3 := by omega
  simp [up4, upd, e0, e1, e2, e3]
/-- nothing is paid -/
theorem pt_z {F : Fs} {b k h : Nat} (w : Wc F k) (hb : Bf F b) (hx : ¬ 0 < shI (F k 0) (suH h) - 2 * F k 2) : (fun _ : Nat => (0 : Int32)) = ptI F b k h := by
  obtain ⟨c, m, hc, hm, e5, ec, eo, el⟩ := wc_nat (h := h) w
  obtain ⟨-, ⟨r, hr, e3⟩, ⟨q, hq, e4⟩⟩ := hb
  have ec0 : coI (F k 0) (F k 2) (suH h) = 0 := ct_neg hx
  have hc0 : c = 0 := (nI_eq (by omega) (by omega)).mp (ec.symm.trans ec0)
  subst hc0
  have ow0 : owN m 0 h = 0 := by have := ow_bd m 0 h; omega
  rw [ow0] at eo el
  refine pt_ext ec0.symm ?_ ?_ ?_ (fun _ _ => rfl)
  · rw [ec, eo]; rfl
  · rw [el, e3, e4, show nI (0 - 0) = 0 from rfl, re_0 hr hq]; rfl
  · rw [el, e3, e4, show nI (0 - 0) = 0 from rfl, re_0 hr hq]
/-- one pays all -/
theorem pt_a {F : Fs} {b k h : Nat} (w : Wc F k) (hb : Bf F b) (hx : 0 < shI (F k 0) (suH h) - 2 * F k 2) (hm : F k 5 = 0 ∨ ¬ F k 5 = 0 ∧ ¬ fiI h < shI (F k 0) (suH h) - 2 * F k 2) : up4 (shI (F k 0) (suH h) - 2 * F k 2) (shI (F k 0) (suH h) - 2 * F k 2) 0 0 = ptI F b k h := by
  obtain ⟨c, m, hc, -, e5, ec, eo, el⟩ := wc_nat (h := h) w
  obtain ⟨-, ⟨r, hr, e3⟩, ⟨q, hq, e4⟩⟩ := hb
  have ev : coI (F k 0) (F k 2) (suH h) = shI (F k 0) (suH h) - 2 * F k 2 := ct_pos hx
  have ow : owI (F k 5) (coI (F k 0) (F k 2) (suH h)) (noH h) = coI (F k 0) (F k 2) (suH h) := by
    rcases hm with hm | ⟨hm, hf⟩
    · unfold owI; rw [if_pos hm]
    · rw [ow_fi hm, ev, if_neg hf]
  have cl : clI F k (suH h) (noH h) = 0 := by unfold clI; rw [ow]; grind
  obtain ⟨a0, a1, a2, a3, a4⟩ := up4_at (shI (F k 0) (suH h) - 2 * F k 2) (shI (F k 0) (suH h) - 2 * F k 2) 0 0
  refine pt_ext (by rw [a0, ev]) (by rw [a1, ow, ev]) ?_ ?_ a4
  · rw [a2, cl, e3, e4, re_0 hr hq]; rfl
  · rw [a3, cl, e3, e4, re_0 hr hq]
/-- what the pool and the reinsurer pay -/
theorem pt_c {F : Fs} {b k h : Nat} {t : Int32} (hx : 0 < shI (F k 0) (suH h) - 2 * F k 2) (hm : ¬ F k 5 = 0) (hf : fiI h < shI (F k 0) (suH h) - 2 * F k 2) (ht : t = reI (shI (F k 0) (suH h) - 2 * F k 2 - fiI h) (F b 3) (F b 4)) : up4 (shI (F k 0) (suH h) - 2 * F k 2) (fiI h) (shI (F k 0) (suH h) - 2 * F k 2 - fiI h - t) t = ptI F b k h := by
  have ev : coI (F k 0) (F k 2) (suH h) = shI (F k 0) (suH h) - 2 * F k 2 := ct_pos hx
  have ow : owI (F k 5) (coI (F k 0) (F k 2) (suH h)) (noH h) = fiI h := by rw [ow_fi hm, ev, if_pos hf]
  have cl : clI F k (suH h) (noH h) = shI (F k 0) (suH h) - 2 * F k 2 - fiI h := by
    show coI _ _ _ - owI _ (coI _ _ _) _ = _
    rw [ow, ev]
  obtain ⟨a0, a1, a2, a3, a4⟩ := up4_at (shI (F k 0) (suH h) - 2 * F k 2) (fiI h) (shI (F k 0) (suH h) - 2 * F k 2 - fiI h - t) t
  exact pt_ext (by rw [a0, ev]) (by rw [a1, ow]) (by rw [a2, cl, ht]) (by rw [a3, cl, ht]) a4
/-- the claim of one who pays a first part is a small natural -/
theorem cl_nat {F : Fs} {k h : Nat} (w : Wc F k) (hx : 0 < shI (F k 0) (suH h) - 2 * F k 2) (hf : fiI h < shI (F k 0) (suH h) - 2 * F k 2) : ∃ c, c ≤ 180 ∧ shI (F k 0) (suH h) - 2 * F k 2 - fiI h = nI c := by
  obtain ⟨c, m, hc, -, -, ec, -, -⟩ := wc_nat (h := h) w
  have ev : shI (F k 0) (suH h) - 2 * F k 2 = nI c := by rw [← ec]; exact (ct_pos hx).symm
  rw [ev] at hf ⊢
  unfold fiI at hf ⊢
  split at hf
  · rename_i h0
    rw [if_pos h0]
    have h3 : 3 < c := (nI_ltI (a := 3) (by omega) (by omega)).mp hf
    exact ⟨c - 3, by omega, pk_sub (b := 3) (by omega)⟩
  · rename_i h0
    rw [if_neg h0]
    have h3 : 6 < c := (nI_ltI (a := 6) (by omega) (by omega)).mp hf
    exact ⟨c - 6, by omega, pk_sub (b := 6) (by omega)⟩
theorem ab_y {x y : Int32} {c r : Nat} (ex : x = nI c) (ey : y = nI r) (hc : c < 2 ^ 30) (hr : r < 2 ^ 30) (h : ¬ x ≤ y) : x - y = mx0 (x - y) := by
  subst ex; subst ey
  have h1 : ¬ c ≤ r := fun z => h ((nI_leI (by omega) (by omega)).mpr z)
  rw [mx0_sub hc hr, pk_sub (by omega)]
theorem ab_n {x y : Int32} {c r : Nat} (ex : x = nI c) (ey : y = nI r) (hc : c < 2 ^ 30) (hr : r < 2 ^ 30) (h : x ≤ y) : (0 : Int32) = mx0 (x - y) := by
  subst ex; subst ey
  have h1 : c ≤ r := (nI_leI (by omega) (by omega)).mp h
  rw [mx0_sub hc hr, show c - r = 0 by omega]; rfl
theorem th_y {x y l : Int32} (h : ¬ l ≤ mx0 (x - y)) : mx0 (x - y) = reI x y l := by
  unfold reI
  rw [if_neg (fun z => h (Int32.le_of_lt z))]
theorem th_n {x y l : Int32} (h : l ≤ mx0 (x - y)) : l = reI x y l := by
  unfold reI
  by_cases h1 : l < mx0 (x - y)
  · rw [if_pos h1]
  · rw [if_neg h1]
    exact Int32.le_antisymm h (Int32.not_lt.mp h1)
/-! an hour: the rates -/
theorem cm_acc (F : Fs) (b : Nat) : ∀ (n i : Nat) (acc : Int32), cmL F b n i acc = acc + cmL F b n i 0 := by
  intro n
  induction n with
  | zero => intro i acc; show acc = acc + 0; grind
  | succ n ih =>
    intro i acc
    show cmL F b n (i + 1) (if F (wb b i) 5 = 0 then acc + 0 else acc + 1) = acc + cmL F b n (i + 1) (if F (wb b i) 5 = 0 then 0 + 0 else 0 + 1)
    rw [ih (i + 1) (if F (wb b i) 5 = 0 then acc + 0 else acc + 1), ih (i + 1) (if F (wb b i) 5 = 0 then 0 + 0 else 0 + 1)]
    split <;> grind
theorem rt_y {F : Fs} {b n i : Nat} {v t : Int32} (hm : F (wb b i) 5 = 1) (h : v + F b 2 * cmL F b (n + 1) i 0 = t) : v + F b 2 + F b 2 * cmL F b n (i + 1) 0 = t := by
  rw [← h]
  show _ = v + F b 2 * cmL F b n (i + 1) (if F (wb b i) 5 = 0 then 0 + 0 else 0 + 1)
  rw [hm, if_neg (by decide), cm_acc F b n (i + 1) (0 + 1)]
  grind
theorem rt_n {F : Fs} {b n i : Nat} {v t : Int32} (hm : F (wb b i) 5 = 0) (h : v + F b 2 * cmL F b (n + 1) i 0 = t) : v + 0 + F b 2 * cmL F b n (i + 1) 0 = t := by
  rw [← h]
  show _ = v + F b 2 * cmL F b n (i + 1) (if F (wb b i) 5 = 0 then 0 + 0 else 0 + 1)
  rw [hm, if_pos rfl, cm_acc F b n (i + 1) (0 + 0)]
  grind
theorem rt_end {F : Fs} {b n : Nat} {v : Int32} (h : v + F b 2 * cmL F b 0 n 0 = F b 1 + F b 2 * cmL F b n 0 0) : up2 F b 1 v = pay1 F b n := by
  unfold pay1
  rw [← h]
  congr 1
  show v = v + F b 2 * 0
  grind
theorem rt_wk {F : Fs} {b n i j : Nat} (hB : b = 1 ∨ b = 2) : pay1 F b n (wb b i) j = F (wb b i) j := by
  unfold pay1
  rw [up2_ne _ _ (fun z => by have := wb_lo hB i; omega)]
theorem py_eq {F : Fs} {b n : Nat} {f2 : Fs} (h : pay3 F b n = f2) : up2 (up2 (pay1 F b n) b 1 (pay1 F b n b 1 - (1 + pay1 F b n b 4 / 20))) b 5 (up2 (pay1 F b n) b 1 (pay1 F b n b 1 - (1 + pay1 F b n b 4 / 20)) b 5 - (1 + pay1 F b n b 4 / 20)) = f2 := by
  rw [← h]
  unfold pay3 pay2
  rw [show (1 : Int32) + pay1 F b n b 4 / 20 = pay1 F b n b 4 / 20 + 1 by grind]
theorem Wk.py {F : Fs} {b n k h : Nat} (w : Wk F k h) (hk : k ≠ b) : Wk (payF F b n) k h := w.same (fun j _ => pay_ne F b n (fun z => hk z.1))
/-! an hour: a walker -/
theorem wk_y {F : Fs} {k : Nat} {noon x : Int32} (h : 0 ≤ F k 3 + (F k 0 / 5 + x - F k 1)) (hx : noon = 0 ∧ x = 1 ∨ ¬ noon = 0 ∧ x = 2) : up2 F k 3 (F k 3 + (F k 0 / 5 + x - F k 1)) = wk1 F k noon := by
  have e : F k 3 + (F k 0 / 5 + x) - F k 1 = F k 3 + (F k 0 / 5 + x - F k 1) := by grind
  have m : mx0 (F k 3 + (F k 0 / 5 + x - F k 1)) = F k 3 + (F k 0 / 5 + x - F k 1) := by
    unfold mx0
    by_cases h0 : 0 < F k 3 + (F k 0 / 5 + x - F k 1)
    · rw [if_pos h0]
    · rw [if_neg h0]
      exact Int32.le_antisymm h (Int32.not_lt.mp h0)
  unfold wk1 woI
  rcases hx with ⟨h1, rfl⟩ | ⟨h1, rfl⟩
  · rw [if_pos h1, e, m]
  · rw [if_neg h1, e, m]
theorem wk_z {F : Fs} {k : Nat} {noon x : Int32} (h : ¬ 0 ≤ F k 3 + (F k 0 / 5 + x - F k 1)) (hx : noon = 0 ∧ x = 1 ∨ ¬ noon = 0 ∧ x = 2) : up2 (up2 F k 3 (F k 3 + (F k 0 / 5 + x - F k 1))) k 3 0 = wk1 F k noon := by
  have e : F k 3 + (F k 0 / 5 + x) - F k 1 = F k 3 + (F k 0 / 5 + x - F k 1) := by grind
  have m : mx0 (F k 3 + (F k 0 / 5 + x - F k 1)) = 0 := if_neg (fun z => h (Int32.le_of_lt z))
  have t : up2 F k 3 0 = wk1 F k noon := by
    unfold wk1 woI
    rcases hx with ⟨h1, rfl⟩ | ⟨h1, rfl⟩
    · rw [if_pos h1, e, m]
    · rw [if_neg h1, e, m]
  rw [← t]
  funext a q
  unfold up2
  split <;> rfl
theorem fl_eq {F : Fs} {k : Nat} {x : Int32} (h : mx0 (F k 2 - 1) = F k 2 - x) : up2 (up2 (up2 F k 2 (F k 2 - x)) k 3 0) k 4 (up2 (up2 F k 2 (F k 2 - x)) k 3 0 k 4 + 1) = fallF F k := by
  have e2 : up2 F k 4 (F k 4 + 1) k 2 = F k 2 := up2_ne _ _ (by omega)
  have e4 : up2 (up2 F k 2 (F k 2 - x)) k 3 0 k 4 = F k 4 := by rw [up2_ne _ _ (by omega), up2_ne _ _ (by omega)]
  unfold fallF
  rw [e2, e4, h]
  funext a q
  simp only [up2_at]
  by_cases ha : a = k
  · subst ha
    by_cases h2 : q = 2
    · subst h2; simp
    · by_cases h3 : q = 3
      · subst h3; simp
      · by_cases h4 : q = 4
        · subst h4; simp
        · simp [h2, h3, h4]
  · simp [ha]
theorem nt_y {F : Fs} {k : Nat} (w : Wc F k) (h : ¬ F k 2 ≤ 0) : mx0 (F k 2 - 1) = F k 2 - 1 := by
  obtain ⟨a, nt, m, -, h2, -, -, e, -⟩ := w
  rw [e] at h ⊢
  have h0 : ¬ nt ≤ 0 := fun z => h (nI_le (b := 0) z (by omega))
  rw [show (1 : Int32) = nI 1 from rfl, mx0_sub (by omega) (by omega), pk_sub (by omega)]
theorem nt_n {F : Fs} {k : Nat} (w : Wc F k) (h : F k 2 ≤ 0) : mx0 (F k 2 - 1) = F k 2 - 0 := by
  obtain ⟨a, nt, m, -, h2, -, -, e, -⟩ := w
  rw [e] at h ⊢
  have h0 : nt ≤ 0 := (nI_leI (b := 0) (by omega) (by omega)).mp h
  have h1 : nt = 0 := by omega
  subst h1
  decide
theorem hr_n {F : Fs} {b n i : Nat} {noon sun acc : Int32} {t : Int32 × Fs} (h : ¬ 10 ≤ wk1 F (wb b i) noon (wb b i) 3) (hr : hrL b sun noon (n + 1) i acc F = t) : hrL b sun noon n (i + 1) acc (wk1 F (wb b i) noon) = t := by
  rw [← hr]
  show _ = hrL b sun noon n (i + 1) (if wkR F (wb b i) noon = 0 then acc + 0 else acc + 1) (wkF F b (wb b i) sun noon)
  unfold wkR wkF
  rw [if_neg h, if_neg h, if_pos rfl]
  congr 1
  grind
theorem hr_y {F : Fs} {b n i : Nat} {noon sun acc : Int32} {t : Int32 × Fs} (h : 10 ≤ wk1 F (wb b i) noon (wb b i) 3) (hr : hrL b sun noon (n + 1) i acc F = t) : hrL b sun noon n (i + 1) (acc + 1) (fallF (wk3 F b (wb b i) sun noon) (wb b i)) = t := by
  rw [← hr]
  show _ = hrL b sun noon n (i + 1) (if wkR F (wb b i) noon = 0 then acc + 0 else acc + 1) (wkF F b (wb b i) sun noon)
  unfold wkR wkF
  rw [if_pos h, if_pos h, if_neg (by decide)]
theorem wkF_fl {F : Fs} {b k : Nat} {sun noon : Int32} (h : 10 ≤ wk1 F k noon k 3) : wkF F b k sun noon = fallF (wk3 F b k sun noon) k := if_pos h
theorem wkF_no {F : Fs} {b k : Nat} {sun noon : Int32} (h : ¬ 10 ≤ wk1 F k noon k 3) : wkF F b k sun noon = wk1 F k noon := if_neg h
theorem wk_c1 {F : Fs} {k : Nat} {noon : Int32} (w : Wc F k) : Wc (wk1 F k noon) k := w.same (up2_ne _ _ (by omega)) (up2_ne _ _ (by omega)) (up2_ne _ _ (by omega))
theorem wk_c3 {F : Fs} {b k : Nat} {sun noon : Int32} (w : Wc F k) (hk : k ≠ b) : Wc (wk3 F b k sun noon) k := by
  have e : ∀ j, j ≠ 3 → wk3 F b k sun noon k j = F k j := fun j hj => by
    unfold wk3 wk2 wk1
    rw [up2_ne _ _ (fun z => hk z.1), up2_ne _ _ (fun z => hk z.1), up2_ne _ _ (fun z => hj z.2)]
  exact w.same (e 0 (by omega)) (e 2 (by omega)) (e 5 (by omega))
end
