section
-- ===== PART A: goes FIRST, ahead of the names: the tables' words, and 'selects' of the private methods out of them =====
/-- a private method of a class that the tables say can be made, by its rows of tables_1 -/
def lw_okq (q : MethodName × Nat) : Prop := (q.1.cls ≠ "java/lang/invoke/MethodHandle" ∧ q.1.cls ≠ "java/lang/invoke/VarHandle") ∧ Cond.instantiable q.1.cls q.2 ∈ tables_1 ∧ Cond.privateMethod q.1 ∈ tables_1 ∧ Cond.instanceMethod q.1 ∈ tables_1
theorem lw_p0 : lw_okq (⟨"SelectiveLink", "restart", "(III)V"⟩, 4) := ⟨⟨by decide +kernel, by decide +kernel⟩, List.mem_of_getElem? (i := 14) (by decide +kernel), List.mem_of_getElem? (i := 111) (by decide +kernel), List.mem_of_getElem? (i := 112) (by decide +kernel)⟩
theorem lw_p1 : lw_okq (⟨"SelectiveLink$Sender", "held", "()I"⟩, 9) := ⟨⟨by decide +kernel, by decide +kernel⟩, List.mem_of_getElem? (i := 46) (by decide +kernel), List.mem_of_getElem? (i := 148) (by decide +kernel), List.mem_of_getElem? (i := 149) (by decide +kernel)⟩
theorem lw_p2 : lw_okq (⟨"SelectiveLink$Sender", "frameOf", "(I)J"⟩, 9) := ⟨⟨by decide +kernel, by decide +kernel⟩, List.mem_of_getElem? (i := 46) (by decide +kernel), List.mem_of_getElem? (i := 169) (by decide +kernel), List.mem_of_getElem? (i := 170) (by decide +kernel)⟩
theorem lw_p3 : lw_okq (⟨"SelectiveLink$Wire", "putBack", "(JI)V"⟩, 5) := ⟨⟨by decide +kernel, by decide +kernel⟩, List.mem_of_getElem? (i := 22) (by decide +kernel), List.mem_of_getElem? (i := 188) (by decide +kernel), List.mem_of_getElem? (i := 189) (by decide +kernel)⟩
theorem lw_p4 : lw_okq (⟨"SelectiveLink$Wire", "placeOf", "(I)I"⟩, 5) := ⟨⟨by decide +kernel, by decide +kernel⟩, List.mem_of_getElem? (i := 22) (by decide +kernel), List.mem_of_getElem? (i := 192) (by decide +kernel), List.mem_of_getElem? (i := 193) (by decide +kernel)⟩
theorem lw_p5 : lw_okq (⟨"SelectiveLink$Receiver", "deliver", "()V"⟩, 6) := ⟨⟨by decide +kernel, by decide +kernel⟩, List.mem_of_getElem? (i := 85) (by decide +kernel), List.mem_of_getElem? (i := 237) (by decide +kernel), List.mem_of_getElem? (i := 238) (by decide +kernel)⟩
theorem lw_p6 : lw_okq (⟨"SelectiveLink$Sender", "mark", "(I)I"⟩, 9) := ⟨⟨by decide +kernel, by decide +kernel⟩, List.mem_of_getElem? (i := 46) (by decide +kernel), List.mem_of_getElem? (i := 266) (by decide +kernel), List.mem_of_getElem? (i := 267) (by decide +kernel)⟩
theorem lw_p7 : lw_okq (⟨"SelectiveLink$Sender", "moveBase", "()V"⟩, 9) := ⟨⟨by decide +kernel, by decide +kernel⟩, List.mem_of_getElem? (i := 46) (by decide +kernel), List.mem_of_getElem? (i := 270) (by decide +kernel), List.mem_of_getElem? (i := 271) (by decide +kernel)⟩
theorem lw_p8 : lw_okq (⟨"java/lang/Throwable", "fillInStackTrace", "(I)Ljava/lang/Throwable;"⟩, 6) := ⟨⟨by decide +kernel, by decide +kernel⟩, List.mem_of_getElem? (i := 335) (by decide +kernel), List.mem_of_getElem? (i := 333) (by decide +kernel), List.mem_of_getElem? (i := 334) (by decide +kernel)⟩
theorem lw_p9 : lw_okq (⟨"SelectiveLink", "wireOf", "(I)LSelectiveLink$Wire;"⟩, 4) := ⟨⟨by decide +kernel, by decide +kernel⟩, List.mem_of_getElem? (i := 14) (by decide +kernel), List.mem_of_getElem? (i := 372) (by decide +kernel), List.mem_of_getElem? (i := 373) (by decide +kernel)⟩
theorem lw_p10 : lw_okq (⟨"SelectiveLinkModel", "far", "(II)I"⟩, 20) := ⟨⟨by decide +kernel, by decide +kernel⟩, List.mem_of_getElem? (i := 482) (by decide +kernel), List.mem_of_getElem? (i := 570) (by decide +kernel), List.mem_of_getElem? (i := 571) (by decide +kernel)⟩
theorem lw_p11 : lw_okq (⟨"SelectiveLinkModel", "put", "(IIIII)Z"⟩, 20) := ⟨⟨by decide +kernel, by decide +kernel⟩, List.mem_of_getElem? (i := 482) (by decide +kernel), List.mem_of_getElem? (i := 574) (by decide +kernel), List.mem_of_getElem? (i := 575) (by decide +kernel)⟩
theorem lw_p12 : lw_okq (⟨"SelectiveLinkModel", "isGood", "(I)Z"⟩, 20) := ⟨⟨by decide +kernel, by decide +kernel⟩, List.mem_of_getElem? (i := 482) (by decide +kernel), List.mem_of_getElem? (i := 591) (by decide +kernel), List.mem_of_getElem? (i := 592) (by decide +kernel)⟩
theorem lw_p13 : lw_okq (⟨"SelectiveLinkModel", "bytesAt", "(II)J"⟩, 20) := ⟨⟨by decide +kernel, by decide +kernel⟩, List.mem_of_getElem? (i := 482) (by decide +kernel), List.mem_of_getElem? (i := 595) (by decide +kernel), List.mem_of_getElem? (i := 596) (by decide +kernel)⟩
theorem lw_p14 : lw_okq (⟨"SelectiveLinkModel", "drop", "(I)V"⟩, 20) := ⟨⟨by decide +kernel, by decide +kernel⟩, List.mem_of_getElem? (i := 482) (by decide +kernel), List.mem_of_getElem? (i := 599) (by decide +kernel), List.mem_of_getElem? (i := 600) (by decide +kernel)⟩
theorem lw_p15 : lw_okq (⟨"SelectiveLinkModel", "hear", "(I)I"⟩, 20) := ⟨⟨by decide +kernel, by decide +kernel⟩, List.mem_of_getElem? (i := 482) (by decide +kernel), List.mem_of_getElem? (i := 603) (by decide +kernel), List.mem_of_getElem? (i := 604) (by decide +kernel)⟩
def lw_privs_1 : List (MethodName × Nat) := [(⟨"SelectiveLink", "restart", "(III)V"⟩, 4), (⟨"SelectiveLink$Sender", "held", "()I"⟩, 9), (⟨"SelectiveLink$Sender", "frameOf", "(I)J"⟩, 9), (⟨"SelectiveLink$Wire", "putBack", "(JI)V"⟩, 5), (⟨"SelectiveLink$Wire", "placeOf", "(I)I"⟩, 5), (⟨"SelectiveLink$Receiver", "deliver", "()V"⟩, 6), (⟨"SelectiveLink$Sender", "mark", "(I)I"⟩, 9), (⟨"SelectiveLink$Sender", "moveBase", "()V"⟩, 9), (⟨"java/lang/Throwable", "fillInStackTrace", "(I)Ljava/lang/Throwable;"⟩, 6), (⟨"SelectiveLink", "wireOf", "(I)LSelectiveLink$Wire;"⟩, 4), (⟨"SelectiveLinkModel", "far", "(II)I"⟩, 20), (⟨"SelectiveLinkModel", "put", "(IIIII)Z"⟩, 20), (⟨"SelectiveLinkModel", "isGood", "(I)Z"⟩, 20), (⟨"SelectiveLinkModel", "bytesAt", "(II)J"⟩, 20), (⟨"SelectiveLinkModel", "drop", "(I)V"⟩, 20), (⟨"SelectiveLinkModel", "hear", "(I)I"⟩, 20)]
theorem lw_r1 : ∀ q ∈ lw_privs_1, lw_okq q := List.forall_mem_cons.mpr ⟨lw_p0, List.forall_mem_cons.mpr ⟨lw_p1, List.forall_mem_cons.mpr ⟨lw_p2, List.forall_mem_cons.mpr ⟨lw_p3, List.forall_mem_cons.mpr ⟨lw_p4, List.forall_mem_cons.mpr ⟨lw_p5, List.forall_mem_cons.mpr ⟨lw_p6, List.forall_mem_cons.mpr ⟨lw_p7, List.forall_mem_cons.mpr ⟨lw_p8, List.forall_mem_cons.mpr ⟨lw_p9, List.forall_mem_cons.mpr ⟨lw_p10, List.forall_mem_cons.mpr ⟨lw_p11, List.forall_mem_cons.mpr ⟨lw_p12, List.forall_mem_cons.mpr ⟨lw_p13, List.forall_mem_cons.mpr ⟨lw_p14, List.forall_mem_cons.mpr ⟨lw_p15, fun _ h => absurd h List.not_mem_nil⟩⟩⟩⟩⟩⟩⟩⟩⟩⟩⟩⟩⟩⟩⟩⟩
theorem lw_p16 : lw_okq (⟨"SelectiveLinkModel", "noWire", "(I)Z"⟩, 20) := ⟨⟨by decide +kernel, by decide +kernel⟩, List.mem_of_getElem? (i := 482) (by decide +kernel), List.mem_of_getElem? (i := 615) (by decide +kernel), List.mem_of_getElem? (i := 616) (by decide +kernel)⟩
def lw_privs_2 : List (MethodName × Nat) := [(⟨"SelectiveLinkModel", "noWire", "(I)Z"⟩, 20)]
theorem lw_r2 : ∀ q ∈ lw_privs_2, lw_okq q := List.forall_mem_cons.mpr ⟨lw_p16, fun _ h => absurd h List.not_mem_nil⟩
def lw_privs : List (MethodName × Nat) := lw_privs_1 ++ (lw_privs_2)
def lw_tbl : List Cond := k2_sels lw_privs ++ tables_1
theorem lw_privs_ok : ∀ q ∈ lw_privs, lw_okq q := by
  show ∀ q ∈ lw_privs_1 ++ (lw_privs_2), lw_okq q
  exact List.forall_mem_append.mpr ⟨lw_r1, lw_r2⟩

/-! ===== BEGIN words of one list among another's, by their places ===== -/
theorem goodIn_r {big : List Cond} (ws : List Cond) (ps : List Nat) (hp : ws = ps.filterMap (fun i => big[i]?)) (h : ws.all goodWord = true) : GoodIn big ws := by
  intro w hw
  have h1 := List.all_eq_true.mp h w hw
  rw [hp] at hw
  obtain ⟨i, -, hi⟩ := List.mem_filterMap.mp hw
  have hm : w ∈ big := by first | exact List.mem_of_getElem? hi | exact List.getElem?_mem hi
  exact ⟨hm, good_of_word h1⟩
theorem goodIn_app {big a b : List Cond} (ha : GoodIn big a) (hb : GoodIn big b) : GoodIn big (a ++ b) := fun w h => (List.mem_append.mp h).elim (ha w) (hb w)
theorem goodIn_ca {big a b : List Cond} {c : Cond} (ha : GoodIn big (c :: a)) (hb : GoodIn big b) : GoodIn big (c :: (a ++ b)) := fun w h => (List.mem_cons.mp h).elim (fun e => ha w (List.mem_cons.mpr (Or.inl e))) (fun h => (List.mem_append.mp h).elim (fun h => ha w (List.mem_cons.mpr (Or.inr h))) (hb w))
theorem goodIn_sub {big ws : List Cond} (hm : ∀ w ∈ ws, w ∈ big) (h : ws.all goodWord = true) : GoodIn big ws := fun w hw => ⟨hm w hw, good_of_word (List.all_eq_true.mp h w hw)⟩
/-! ===== END ===== -/

/-! ===== BEGIN exceptions that leave a method, and their catching by the caller (launches without stack traces) ===== -/
section VXA
/-! The laws vx_back, vx_callV, vx_callS, vx_callSW, vx_throw0, vx_throwS follow proofs of the library, with one case more: JvmDerived/Free/Laws.lean (Back.of_free), Shelf42/LK1.lean (callV, callS), Shelf/KitTraced.lean (throwNew0V, throwNewS). -/
/-- where a method has thrown q: the class by its name, the cell, what was written, the world -/
def vx_T (XC : String → State → State → Prop) (st : State) (q : Addr) (t : State) (mc ms : Nat) (free : Addr → Prop) : Prop :=
  ∃ (E : String) (ce : Cell) (L : List Loc), XC E st t ∧ t.heap[q]? = some ce ∧ ce.vm = .none ∧ st.vm.findClass E = some ce.cls ∧ st.WarmedH t.vm ∧ st.sameButNew ({ t with vm := st.vm } : State) L mc ms ∧ ∀ z ∈ L, free z.base
def vx_Q (Qc : Array Value → State → Outcome → State → Prop) (XC : String → State → State → Prop) (mc ms : Nat) (free : Addr → Prop) : Array Value → State → Outcome → State → Prop := fun a st o t =>
  (Qc a st o t ∧ ∃ L, FrameEnd st o t L mc ms ∧ ∀ q ∈ L, free q.base) ∨ ∃ q, o = .threw q ∧ vx_T XC st q t mc ms free
/-- a callee that returns or throws -/
def vx_Met (l : Launch) (y : MethodName) (ws : List Cond) (rm : Room) (Pc : Array Value → State → Prop) (Qc : Array Value → State → Outcome → State → Prop) (XC : String → State → State → Prop) (mc ms : Nat) (free : Addr → Prop) : Prop :=
  MetFree l y (headSpec ws rm) Pc (fun _ _ _ _ _ => True) (vx_Q Qc XC mc ms free)
def vx_Post (XC : String → State → State → Prop) (mc ms : Nat) (free : Addr → Prop) : Pt → Array Value → Addr → Pt → Prop := fun A a q B =>
  ∃ (g : JFrame) (mk : MethodId) (t : State) (L : List Loc) (E : String) (ce : Cell), B.U.heap = t.heap ∧ B.U.vm = t.vm ∧ XC E (A.U.calling g mk a) t ∧ t.heap[q]? = some ce ∧ ce.vm = .none ∧ A.U.vm.findClass E = some ce.cls ∧ B.locs = A.locs ++ L ∧ (∀ z ∈ L, free z.base) ∧ B.cells = A.cells + mc ∧ B.slots = A.slots + ms
def vx_Back (l : Launch) (R : Room) (p : Program) (e : Env) (below : List Frame) (s : State) (sargs : Array Value) (y : MethodName) (len W9 : Nat)
    (Pre : Pt → Array Value → Prop) (Post : Pt → Array Value → Option Value → Pt → Prop) (PostX : Pt → Array Value → Addr → Pt → Prop) : Prop :=
  ∀ (m : MethodId) (meth : Method) (c : Code) (A : Pt) (g : JFrame) (ig : Instr) (mk : MethodId) (a : Array Value),
    Stand p l e R s m sargs below meth c A.U A.locs A.cells A.slots → g.method = m → g.locals.size = c.maxLocals → decode c.code g.pc = .ok (ig, len) →
    2 * g.monitorRoom + (g.stack.map fun v => v.category).sum ≤ W9 → A.U.methodNamed? y = some mk → Pre A a →
    (∃ (v : Option Value) (B : Pt), Stand p l e R s m sargs below meth c B.U B.locs B.cells B.slots ∧ Post A a v B ∧
      Steps p.tables e below (doInvoke e (A.U.setTop g) [] mk a).1 (B.U.setTop { g with pc := g.pc + len, stack := v.toList ++ g.stack })) ∨
    (∃ (q : Addr) (B : Pt), Stand p l e R s m sargs below meth c B.U B.locs B.cells B.slots ∧ PostX A a q B ∧
      Steps p.tables e below (doInvoke e (A.U.setTop g) [] mk a).1 ((B.U.setTop g).pushFrame (.throwing q)))
section Payer
variable {l : Launch} {R : Room} {p : Program} {e : Env} {below : List Frame} {s : State} {sargs : Array Value} {y : MethodName} {len W9 : Nat}
theorem vx_back {ws : List Cond} {rm : Room} {Pc : Array Value → State → Prop} {Qc : Array Value → State → Outcome → State → Prop} {XC : String → State → State → Prop} {mc ms : Nat} {free : Addr → Prop} {bytes : ByteArray} {maxL : Nat} {ret : Option FieldType}
    (hM : vx_Met l y ws rm Pc Qc XC mc ms free) (hblind : FrameBlind Pc) (hrc : rm.cells = mc) (hrs : rm.slots = ms)
    (hframes : rm.frames + 1 ≤ R.frames) (hlocals : W9 + (maxL + 11) + rm.locals ≤ R.locals)
    (hws : ∀ w ∈ ws, ∀ a' U, s.WarmedH U.vm → w.before a' U = true) (hcode : Cond.code y bytes maxL ret ∈ ws) (hinit : ∀ a' U, s.WarmedH U.vm → (Cond.initialized y.cls).before a' U = true) :
    vx_Back l R p e below s sargs y len W9 (PreOf R mc ms Pc) (PostOf Qc mc ms free) (vx_Post XC mc ms free) := by
  intro m meth c A g ig mk a X hg hsize hdg hW hn hp
  have h1 : (headSpec ws rm).pre.before a A.U = true := atoms_intro fun w hw => hws w hw _ _ X.warmed
  have h2 : (Cond.code y bytes maxL ret).before a A.U = true := hws _ hcode _ _ X.warmed
  have h3 : (Cond.initialized y.cls).before a A.U = true := hinit _ _ X.warmed
  have h4 : A.cells + (headSpec ws rm).room.cells ≤ R.cells := by rw [show (headSpec ws rm).room.cells = mc from hrc]; exact hp.1
  have h5 : A.slots + (headSpec ws rm).room.slots ≤ R.slots := by rw [show (headSpec ws rm).room.slots = ms from hrs]; exact hp.2.1
  have hPc : Pc a (A.U.calling g mk a) := hblind _ _ _ _ hp.2.2
  obtain ⟨U, Ls, c0, s0⟩ := A
  dsimp only [Pt.U, Pt.locs, Pt.cells, Pt.slots] at h1 h2 h3 h4 h5 X hn hPc ⊢
  obtain ⟨methY, cY, hmY, hcY, -, hlY, -, -, -, -⟩ := Cond.code_spec hn h2
  obtain ⟨kY, hkY, -⟩ := className_of_methodNamed hn
  have hinitY : kY.init = .initialized := Cond.initialized_spec (findClass_of_methodNamed hn) hkY h3
  have h : At U g.method c below := by rw [hg]; exact X.here
  have hlocals9 : W9 + (maxL + 11) + (headSpec ws rm).room.locals ≤ R.locals := hlocals
  have happ : (headSpec ws rm).appliesLoose y e.platform (U.calling g mk a) = true :=
    Spec.appliesLoose_calling (g := g) h hdg hn hkY hinitY
      (X.room_calling (g := g) (R' := (headSpec ws rm).room) hsize hmY hcY hframes (by rw [hlY]; omega) h4 h5) h1
  obtain ⟨mid, hmid⟩ := h.above
  have hfr : (U.setTop g).frames = (.java g :: mid) ++ below := by rw [State.frames_setTop' g h.top, hmid]; rfl
  obtain ⟨o, s₂, hsteps, -, hend, hq⟩ := Steps.callFree hM p X.admits X.cas X.clock (acts := []) hfr happ hPc trivial
  have hq' : vx_Q Qc XC mc ms free a (U.calling g mk a) o s₂ := hq
  rw [State.frames_setTop' g h.top] at hend
  obtain ⟨g₀, hg0⟩ := Option.isSome_iff_exists.mp h.top
  obtain ⟨r, hr⟩ := State.topJava?_eq_some.mp hg0
  have hr' : (({ U with heap := s₂.heap, slotsUsed := s₂.slotsUsed } : State).setVm s₂.vm).frames = .java g₀ :: r := hr
  rcases hq' with ⟨hqc, L, hfe, hL⟩ | ⟨q, rfl, E, ce, L, hx, hce, hcv, hcl, hW₂, hsm, hL⟩
  · obtain ⟨⟨v, rfl⟩, hW₂, e2, q2, q3, q4, q5, q6⟩ := id hfe
    have e3 : s₂ = ({ (U.calling g mk a).setFrames s₂.frames with heap := s₂.heap, slotsUsed := s₂.slotsUsed } : State).setVm s₂.vm := by
      have : s₂ = ({ s₂ with vm := (U.calling g mk a).vm } : State).setVm s₂.vm := rfl
      rw [e2] at this
      exact this
    obtain ⟨c₂, i₂, len₂, hc₂, hd₂, hf₂⟩ := hend
    have hW' : U.WarmedH s₂.vm := hW₂
    have hcc : c₂ = c := by
      have h1 : s₂.code? g.method = U.code? g.method := by
        rw [State.code?_eq, State.code?_eq, hW'.alike.method?]
      exact Option.some.inj (hc₂.symm.trans (h1.trans h.code))
    subst hcc
    have hlen : len₂ = len := by rw [hdg] at hd₂; cases hd₂; rfl
    subst hlen
    have hs₂ : s₂ = (({ U with heap := s₂.heap, slotsUsed := s₂.slotsUsed } : State).setVm s₂.vm).setTop { g with pc := g.pc + len₂, stack := v.toList ++ g.stack } := by
      refine e3.trans ?_
      rw [hf₂, State.calling_eq h.top, State.setFrames_setFrames, State.setTop_of_frames _ hr', hr]
      rfl
    have hsame : U.sameButNew ({ U with heap := s₂.heap, slotsUsed := s₂.slotsUsed } : State) L mc ms := by
      refine ⟨?_, q2, q3, q4, q5, q6⟩
      obtain ⟨t, ht, -⟩ := State.frames_cons hr
      show ({ U with heap := s₂.heap, slotsUsed := s₂.slotsUsed } : State) = { U.setFrames U.frames with heap := s₂.heap, slotsUsed := s₂.slotsUsed }
      rw [State.setFrames_self ht]
    subst hg
    refine Or.inl ⟨v, ⟨(({ U with heap := s₂.heap, slotsUsed := s₂.slotsUsed } : State).setVm s₂.vm), Ls ++ L, c0 + mc, s0 + ms⟩,
      ⟨X.admits, X.cas, X.clock, X.frames, X.room, X.hears, X.method, X.code, (X.here.setHeapUsed s₂.heap s₂.slotsUsed).setVm hW'.alike, X.tail, State.WarmedH.trans X.warmed hW', X.limits, X.bytes, X.same.trans (hsame.setVm s.vm)⟩,
      ⟨g, mk, s₂, L, rfl, rfl, hqc, rfl, hL, rfl, rfl⟩, ?_⟩
    show Steps p.tables e below _ ((({ U with heap := s₂.heap, slotsUsed := s₂.slotsUsed } : State).setVm s₂.vm).setTop { g with pc := g.pc + len₂, stack := v.toList ++ g.stack })
    rw [← hs₂]
    exact hsteps
  · obtain ⟨e2, q2, q3, q4, q5, q6⟩ := id hsm
    have e3 : s₂ = ({ (U.calling g mk a).setFrames s₂.frames with heap := s₂.heap, slotsUsed := s₂.slotsUsed } : State).setVm s₂.vm := by
      have : s₂ = ({ s₂ with vm := (U.calling g mk a).vm } : State).setVm s₂.vm := rfl
      rw [e2] at this
      exact this
    have hf₂ : s₂.frames = .throwing q :: .java g :: U.frames.tail := hend
    have hW' : U.WarmedH s₂.vm := hW₂
    have hs₂ : s₂ = ((({ U with heap := s₂.heap, slotsUsed := s₂.slotsUsed } : State).setVm s₂.vm).setTop g).pushFrame (.throwing q) := by
      refine e3.trans ?_
      rw [hf₂, State.calling_eq h.top, State.setFrames_setFrames, State.pushFrame, State.frames_setTop _ hr', State.setTop_of_frames _ hr', State.setFrames_setFrames, hr]
      rfl
    have hsame : U.sameButNew ({ U with heap := s₂.heap, slotsUsed := s₂.slotsUsed } : State) L mc ms := by
      refine ⟨?_, q2, q3, q4, q5, q6⟩
      obtain ⟨t, ht, -⟩ := State.frames_cons hr
      show ({ U with heap := s₂.heap, slotsUsed := s₂.slotsUsed } : State) = { U.setFrames U.frames with heap := s₂.heap, slotsUsed := s₂.slotsUsed }
      rw [State.setFrames_self ht]
    subst hg
    refine Or.inr ⟨q, ⟨(({ U with heap := s₂.heap, slotsUsed := s₂.slotsUsed } : State).setVm s₂.vm), Ls ++ L, c0 + mc, s0 + ms⟩,
      ⟨X.admits, X.cas, X.clock, X.frames, X.room, X.hears, X.method, X.code, (X.here.setHeapUsed s₂.heap s₂.slotsUsed).setVm hW'.alike, X.tail, State.WarmedH.trans X.warmed hW', X.limits, X.bytes, X.same.trans (hsame.setVm s.vm)⟩,
      ⟨g, mk, s₂, L, E, ce, rfl, rfl, hx, hce, hcv, hcl, rfl, hL, rfl, rfl⟩, ?_⟩
    show Steps p.tables e below _ (((({ U with heap := s₂.heap, slotsUsed := s₂.slotsUsed } : State).setVm s₂.vm).setTop g).pushFrame (.throwing q))
    rw [← hs₂]
    exact hsteps
end Payer
section Calls
variable {p : Program} {l : Launch} {e : Env} {R : Room} {s : State} {m : MethodId} {args : Array Value} {below : List Frame} {meth : Method} {c : Code} {T : State} {locs : List Loc} {cells slots : Nat}
theorem vx_callV (X : Stand p l e R s m args below meth c T locs cells slots) (hexec : p.tables.exec = Jvm.exec) {own C : String} {index : Nat} {y : MethodName} {bytes : ByteArray} {maxL : Nat} {ret : Option FieldType}
    (hown : s.vm.findClass own = some m.cls) (hlink : (Cond.methodLink own index y).before args s = true) (hinst : (Cond.instanceMethod y).before args s = true) (hsel : (Cond.selects C y y).before args s = true)
    (hcode : (Cond.code y bytes maxL ret).before args s = true) (hy : y.cls ≠ "java/lang/invoke/MethodHandle" ∧ y.cls ≠ "java/lang/invoke/VarHandle")
    {W9 : Nat} {Pre : Pt → Array Value → Prop} {Post : Pt → Array Value → Option Value → Pt → Prop} {PostX : Pt → Array Value → Addr → Pt → Prop} (hK : vx_Back l R p e below s args y 3 W9 Pre Post PostX)
    {b : Addr} {cellB : Cell} (hcell : T.heap[b]? = some cellB) (hobj : cellB.vm.isStatics = false) (hcls : s.vm.findClass C = some cellB.cls)
    {g : JFrame} (hg : g.method = m) (hsize : g.locals.size = c.maxLocals) {argsL rest : List Value} (hlen : ∀ sig, parseMethodDescriptor y.desc = some sig → argsL.length = sig.parameters.length)
    (hstack : g.stack = argsL.reverse ++ .ref b :: rest) (hW : 2 * g.monitorRoom + (rest.map fun v => v.category).sum ≤ W9) (hdg : decode c.code g.pc = .ok (.invokevirtual index, 3))
    (hpre : ∀ vm₁, s.WarmedH vm₁ → Pre ⟨T.setVm vm₁, locs, cells, slots⟩ (Value.ref b :: argsL).toArray) :
    (∃ (v : Option Value) (vm₁ : Vm) (B : Pt), s.WarmedH vm₁ ∧ Stand p l e R s m args below meth c B.U B.locs B.cells B.slots ∧ Post ⟨T.setVm vm₁, locs, cells, slots⟩ (Value.ref b :: argsL).toArray v B ∧
      ∀ target, Steps p.tables e below (B.U.setTop { g with pc := g.pc + 3, stack := v.toList ++ rest }) target → Steps p.tables e below (T.setTop g) target) ∨
    (∃ (q : Addr) (vm₁ : Vm) (B : Pt), s.WarmedH vm₁ ∧ Stand p l e R s m args below meth c B.U B.locs B.cells B.slots ∧ PostX ⟨T.setVm vm₁, locs, cells, slots⟩ (Value.ref b :: argsL).toArray q B ∧
      Steps p.tables e below (T.setTop g) ((B.U.setTop { g with stack := rest }).pushFrame (.throwing q))) := by
  obtain ⟨mk, methM, hnamed, hmethM, hstM, habM⟩ := Cond.instanceMethod_spec hinst
  obtain ⟨methM', cM, hmethM', -, -, -, -, -, -, hsigM⟩ := Cond.code_spec hnamed hcode
  cases hmethM.symm.trans hmethM'
  obtain ⟨c2, r2, m2, q1, q2, q3, q4, kP, hkP, hkPi⟩ := Cond.selects_spec hsel
  cases hcls.symm.trans q1
  cases (State.methodFound?_of_named hnamed hy).symm.trans q2
  cases hnamed.symm.trans q3
  have hselP : selectMethod e.platform s.vm cellB.cls mk = .method mk := by rw [Launch.admits_selectMethod X.admits]; exact q4
  obtain ⟨vm₁, X₁, hstep₁⟩ := X.invokevirtual hexec hown hlink hnamed hmethM hstM hkP hkPi hy (a := b) (cell := cellB) hcell
    (fun z h => by rw [h] at hobj; cases hobj) hselP hmethM habM hkP hkPi (g := g) hg (argsL := argsL) (rest := rest) (hlen _ hsigM) hstack hdg
  rcases hK m meth c ⟨T.setVm vm₁, locs, cells, slots⟩ { g with stack := rest } (.invokevirtual index) mk (Value.ref b :: argsL).toArray X₁ hg hsize hdg hW (X₁.named hnamed) (hpre vm₁ X₁.warmed) with ⟨v, B, X', hpost, hsteps⟩ | ⟨q, B, X', hpost, hsteps⟩
  · exact Or.inl ⟨v, vm₁, B, X₁.warmed, X', hpost, fun target h => hstep₁ _ fun acts => by rw [doInvoke_state]; exact hsteps.trans h⟩
  · exact Or.inr ⟨q, vm₁, B, X₁.warmed, X', hpost, hstep₁ _ fun acts => by rw [doInvoke_state]; exact hsteps⟩
theorem vx_callS (X : Stand p l e R s m args below meth c T locs cells slots) (hexec : p.tables.exec = Jvm.exec) {own : String} {index : Nat} {y : MethodName} {bytes : ByteArray} {maxL : Nat} {ret : Option FieldType}
    (hown : s.vm.findClass own = some m.cls) (hlink : (Cond.methodLink own index y).before args s = true) (hstat : (Cond.static y).before args s = true) (hinit : (Cond.initialized y.cls).before args s = true)
    (hcode : (Cond.code y bytes maxL ret).before args s = true) (hy : y.cls ≠ "java/lang/invoke/MethodHandle" ∧ y.cls ≠ "java/lang/invoke/VarHandle")
    {W9 : Nat} {Pre : Pt → Array Value → Prop} {Post : Pt → Array Value → Option Value → Pt → Prop} {PostX : Pt → Array Value → Addr → Pt → Prop} (hK : vx_Back l R p e below s args y 3 W9 Pre Post PostX)
    {g : JFrame} (hg : g.method = m) (hsize : g.locals.size = c.maxLocals) {argsL rest : List Value} (hlen : ∀ sig, parseMethodDescriptor y.desc = some sig → argsL.length = sig.parameters.length)
    (hstack : g.stack = argsL.reverse ++ rest) (hW : 2 * g.monitorRoom + (rest.map fun v => v.category).sum ≤ W9) (hdg : decode c.code g.pc = .ok (.invokestatic index, 3))
    (hpre : ∀ vm₁, s.WarmedH vm₁ → Pre ⟨T.setVm vm₁, locs, cells, slots⟩ argsL.toArray) :
    (∃ (v : Option Value) (vm₁ : Vm) (B : Pt), s.WarmedH vm₁ ∧ Stand p l e R s m args below meth c B.U B.locs B.cells B.slots ∧ Post ⟨T.setVm vm₁, locs, cells, slots⟩ argsL.toArray v B ∧
      ∀ target, Steps p.tables e below (B.U.setTop { g with pc := g.pc + 3, stack := v.toList ++ rest }) target → Steps p.tables e below (T.setTop g) target) ∨
    (∃ (q : Addr) (vm₁ : Vm) (B : Pt), s.WarmedH vm₁ ∧ Stand p l e R s m args below meth c B.U B.locs B.cells B.slots ∧ PostX ⟨T.setVm vm₁, locs, cells, slots⟩ argsL.toArray q B ∧
      Steps p.tables e below (T.setTop g) ((B.U.setTop { g with stack := rest }).pushFrame (.throwing q))) := by
  obtain ⟨mk, hnamed⟩ := Cond.code_named hcode
  obtain ⟨methM, cM, hmethM, -, -, -, -, -, -, hsigM⟩ := Cond.code_spec hnamed hcode
  have hstatic : methM.isStatic = true := Cond.static_spec hnamed hmethM hstat
  obtain ⟨kP, hkP, -⟩ := className_of_methodNamed hnamed
  have hinitP : kP.init = .initialized := Cond.initialized_spec (findClass_of_methodNamed hnamed) hkP hinit
  obtain ⟨vm₁, X₁, hstep₁⟩ := X.invokestatic hexec hown hlink hnamed hmethM hstatic hkP hinitP hy (g := g) hg (argsL := argsL) (rest := rest) (hlen _ hsigM) hstack hdg
  rcases hK m meth c ⟨T.setVm vm₁, locs, cells, slots⟩ { g with stack := rest } (.invokestatic index) mk argsL.toArray X₁ hg hsize hdg hW (X₁.named hnamed) (hpre vm₁ X₁.warmed) with ⟨v, B, X', hpost, hsteps⟩ | ⟨q, B, X', hpost, hsteps⟩
  · exact Or.inl ⟨v, vm₁, B, X₁.warmed, X', hpost, fun target h => hstep₁ _ fun acts => by rw [doInvoke_state]; exact hsteps.trans h⟩
  · exact Or.inr ⟨q, vm₁, B, X₁.warmed, X', hpost, hstep₁ _ fun acts => by rw [doInvoke_state]; exact hsteps⟩
end Calls
theorem vx_cls {s : State} {T : State} {vm₁ : Vm} {E : String} {k : ClassId} (hW : s.WarmedH vm₁) (h : (T.setVm vm₁).vm.findClass E = some k) : s.vm.findClass E = some k := by
  have h1 : vm₁.findClass E = some k := h
  rw [hW.alike.findClass] at h1
  exact h1
/-- the method's frame g, with q thrown over it -/
def vx_W (p : Program) (l : Launch) (e : Env) (R : Room) (s : State) (m : MethodId) (args : Array Value) (below : List Frame) (meth : Method) (c : Code) (H : Heap) (locs : List Loc) (cells slots : Nat) (Q : State → Prop) (g : JFrame) (q : Addr) : Prop :=
  ∀ T : State, T.heap = H → Stand p l e R s m args below meth c T locs cells slots → ∃ t, Steps p.tables e below ((T.setTop g).pushFrame (.throwing q)) t ∧ Q t
def vx_Run (p : Program) (l : Launch) (e : Env) (R : Room) (s : State) (m : MethodId) (args : Array Value) (below : List Frame) (meth : Method) (c : Code) (H : Heap) (locs : List Loc) (cells slots mc ms : Nat) (g : JFrame) (rest : List Value) (Qa : State → Outcome → State → Prop) (XC : String → State → State → Prop) (free : Addr → Prop) : Prop :=
  ∀ T : State, T.heap = H → Stand p l e R s m args below meth c T locs cells slots →
    (∃ (v : Option Value) (st₀ t T' : State) (L : List Loc), st₀.heap = H ∧ Stand p l e R s m args below meth c T' (locs ++ L) (cells + mc) (slots + ms) ∧ (∀ q ∈ L, free q.base) ∧ T'.heap = t.heap ∧ T'.vm = t.vm ∧ Qa st₀ (.returned v) t ∧
      Goes p e below T g T' { g with pc := g.pc + 3, stack := v.toList ++ rest }) ∨
    (∃ (q : Addr) (st₀ t T' : State) (L : List Loc) (E : String) (ce : Cell), st₀.heap = H ∧ Stand p l e R s m args below meth c T' (locs ++ L) (cells + mc) (slots + ms) ∧ (∀ z ∈ L, free z.base) ∧ T'.heap = t.heap ∧ T'.vm = t.vm ∧ XC E st₀ t ∧ t.heap[q]? = some ce ∧ ce.vm = .none ∧ s.vm.findClass E = some ce.cls ∧
      Steps p.tables e below (T.setTop g) ((T'.setTop { g with stack := rest }).pushFrame (.throwing q)))
def vx_X {S : Type} (px : S → Prop) (B : String → S → State → Prop) (A : Nat → Prop) : String → State → State → Prop := fun E st t => ∃ u : S, px u ∧ B E u t ∧ va_F A st t
section Runs
variable {p : Program} {l : Launch} {e : Env} {R : Room} {s : State} {m : MethodId} {args : Array Value} {below : List Frame} {meth : Method} {c : Code} {H : Heap} {locs : List Loc} {cells slots : Nat}
variable {y : MethodName} {bytes cc : ByteArray} {maxL nL mc ms n index : Nat} {ret : Option FieldType} {ws : List Cond} {rm : Room} {Pc : Array Value → State → Prop} {Qc : Array Value → State → Outcome → State → Prop} {XC : String → State → State → Prop} {free : Addr → Prop} {Ts : List Cond} {own C : String} {b : Addr} {As rest : List Value} {g : JFrame}
theorem vx_callBack (cb : CallB R s args own index y bytes maxL ret ws rm mc ms n) (hM : vx_Met l y ws rm Pc Qc XC mc ms free) (hbl : FrameBlind Pc) : vx_Back l R p e below s args y 3 8 (PreOf R mc ms Pc) (PostOf Qc mc ms free) (vx_Post XC mc ms free) := by
  obtain ⟨hrc, hrs, hfr, hlo, hws, hcw, -, hini, -⟩ := cb
  exact vx_back (bytes := bytes) (maxL := maxL) (ret := ret) hM hbl hrc hrs hfr hlo hws hcw (fun a' U hW => word_at hW (Or.inl (by first | rfl | simp [Cond.onTables, Cond.keeps, Cond.steady])) hini)
theorem vx_runV (S : CallFix p m c cc nL s args Ts own) (hM : vx_Met l y ws rm Pc Qc XC mc ms free) (cw : CallW R s args own C index y bytes maxL ret ws rm mc ms n) (hp : PreV s H C b Pc As)
    (hg : g.method = m) (hn : As.length = n) (hsize : g.locals.size = nL) (hstack : g.stack = As.reverse ++ .ref b :: rest) (hW : 2 * g.monitorRoom + (rest.map fun v => v.category).sum ≤ 8) (hdg : decode cc g.pc = .ok (.invokevirtual index, 3)) (hf : cells + mc ≤ R.cells ∧ slots + ms ≤ R.slots) :
    vx_Run p l e R s m args below meth c H locs cells slots mc ms g rest (Qc (Value.ref b :: As).toArray) XC free := by
  have hK : vx_Back l R p e below s args y 3 8 (PreOf R mc ms Pc) (PostOf Qc mc ms free) (vx_Post XC mc ms free) := vx_callBack cw.1 hM hp.1
  obtain ⟨⟨-, -, -, -, -, -, hcode, -, hy, hlen, hl⟩, hin, hse⟩ := cw
  obtain ⟨hx, hb, hml, ho, -⟩ := S
  obtain ⟨-, ⟨cellB, hcB, hoB, hclB⟩, hPc⟩ := hp
  intro T hT X
  rcases vx_callV X hx (C := C) (bytes := bytes) (maxL := maxL) (ret := ret) ho hl hin hse hcode hy hK (by rw [hT]; exact hcB) hoB hclB hg (hsize.trans hml.symm) (argsL := As) (rest := rest) (fun sig h => hn.trans (hlen sig h)) hstack hW (by rw [hb]; exact hdg)
    (fun vm₁ hW₁ => ⟨hf.1, hf.2, hPc (T.setVm vm₁) hT hW₁⟩) with ⟨v, vm₁, ⟨U', l2, c2, s2⟩, hW₁, X', ⟨g', mk, t, L, e1, e2, hq, h1, hL, h2, h3⟩, st⟩ | ⟨q, vm₁, ⟨U', l2, c2, s2⟩, hW₁, X', ⟨g', mk, t, L, E, ce, e1, e2, hq, hce, hcv, hcl, h1, hL, h2, h3⟩, st⟩
  · dsimp only [Pt.U, Pt.locs, Pt.cells, Pt.slots] at X' e1 e2 h1 h2 h3 st
    subst h1; subst h2; subst h3
    exact Or.inl ⟨v, (T.setVm vm₁).calling g' mk (Value.ref b :: As).toArray, t, U', L, hT, X', hL, e1, e2, hq, st⟩
  · dsimp only [Pt.U, Pt.locs, Pt.cells, Pt.slots] at X' e1 e2 h1 h2 h3 st hcl
    subst h1; subst h2; subst h3
    exact Or.inr ⟨q, (T.setVm vm₁).calling g' mk (Value.ref b :: As).toArray, t, U', L, E, ce, hT, X', hL, e1, e2, hq, hce, hcv, vx_cls hW₁ hcl, st⟩
theorem vx_runS (S : CallFix p m c cc nL s args Ts own) (hM : vx_Met l y ws rm Pc Qc XC mc ms free) (cw : CallB R s args own index y bytes maxL ret ws rm mc ms n ∧ (Cond.static y).before args s = true) (hp : PreS s H Pc As)
    (hg : g.method = m) (hn : As.length = n) (hsize : g.locals.size = nL) (hstack : g.stack = As.reverse ++ rest) (hW : 2 * g.monitorRoom + (rest.map fun v => v.category).sum ≤ 8) (hdg : decode cc g.pc = .ok (.invokestatic index, 3)) (hf : cells + mc ≤ R.cells ∧ slots + ms ≤ R.slots) :
    vx_Run p l e R s m args below meth c H locs cells slots mc ms g rest (Qc As.toArray) XC free := by
  have hK : vx_Back l R p e below s args y 3 8 (PreOf R mc ms Pc) (PostOf Qc mc ms free) (vx_Post XC mc ms free) := vx_callBack cw.1 hM hp.1
  obtain ⟨⟨-, -, -, -, -, -, hcode, hini, hy, hlen, hl⟩, hstt⟩ := cw
  obtain ⟨hx, hb, hml, ho, -⟩ := S
  intro T hT X
  rcases vx_callS X hx (bytes := bytes) (maxL := maxL) (ret := ret) ho hl hstt hini hcode hy hK hg (hsize.trans hml.symm) (argsL := As) (rest := rest) (fun sig h => hn.trans (hlen sig h)) hstack hW (by rw [hb]; exact hdg)
    (fun vm₁ hW₁ => ⟨hf.1, hf.2, hp.2 (T.setVm vm₁) hT hW₁⟩) with ⟨v, vm₁, ⟨U', l2, c2, s2⟩, hW₁, X', ⟨g', mk, t, L, e1, e2, hq, h1, hL, h2, h3⟩, st⟩ | ⟨q, vm₁, ⟨U', l2, c2, s2⟩, hW₁, X', ⟨g', mk, t, L, E, ce, e1, e2, hq, hce, hcv, hcl, h1, hL, h2, h3⟩, st⟩
  · dsimp only [Pt.U, Pt.locs, Pt.cells, Pt.slots] at X' e1 e2 h1 h2 h3 st
    subst h1; subst h2; subst h3
    exact Or.inl ⟨v, (T.setVm vm₁).calling g' mk As.toArray, t, U', L, hT, X', hL, e1, e2, hq, st⟩
  · dsimp only [Pt.U, Pt.locs, Pt.cells, Pt.slots] at X' e1 e2 h1 h2 h3 st hcl
    subst h1; subst h2; subst h3
    exact Or.inr ⟨q, (T.setVm vm₁).calling g' mk As.toArray, t, U', L, E, ce, hT, X', hL, e1, e2, hq, hce, hcv, vx_cls hW₁ hcl, st⟩
end Runs
section Rows
variable {p : Program} {l : Launch} {e : Env} {R : Room} {s : State} {m : MethodId} {args : Array Value} {below : List Frame} {meth : Method} {c : Code} {H : Heap} {locs : List Loc} {cells slots : Nat} {Q : State → Prop}
variable {mc ms : Nat} {free : Addr → Prop} {A0 A1 : Nat → Prop} {H0 : Heap} {a : Array Value} {pc : Nat} {ls : Array Slot} {st0 rest : List Value}
theorem vx_keep {st₀ t T' : State} {L : List Loc} (h0 : st₀.heap = H) (e1 : T'.heap = t.heap) (hS : va_S A0 H0 H locs) (hA : ∀ q, q < H.size → A1 q → A0 q) (hf : ∀ q, free q → A0 q) (hL : ∀ q ∈ L, free q.base) (hF : va_F A1 st₀ t) :
    H.size ≤ T'.heap.size ∧ (∀ q : Nat, q < H.size → ¬ A1 q → T'.heap[q]? = H[q]?) ∧ va_S A0 H0 T'.heap (locs ++ L) := by
  obtain ⟨hz, hk⟩ := hF
  rw [h0] at hz hk
  exact ⟨by rw [e1]; exact hz, fun q h1 h2 => by rw [e1]; exact hk q h1 h2,
    ⟨Nat.le_trans hS.1 (by rw [e1]; exact hz), fun q h1 h2 => by rw [e1, hk q (Nat.lt_of_lt_of_le h1 hS.1) (fun z => h2 (hA q (Nat.lt_of_lt_of_le h1 hS.1) z))]; exact hS.2.1 q h1 h2, fun q hq => by
      rcases List.mem_append.mp hq with h | h
      · exact hS.2.2 q h
      · exact hf _ (hL q h)⟩⟩
theorem vx_calli {S SX : Type} {post : Int32 → S → Prop} {px : SX → Prop} {B : S → State → Prop} {BX : String → SX → State → Prop} {AX : Nat → Prop} (hr : vx_Run p l e R s m args below meth c H locs cells slots mc ms (F0 m pc ls st0) rest (va_Qi post B A1 a) (vx_X px BX AX) free) (hS : va_S A0 H0 H locs) (hA : ∀ q, q < H.size → A1 q → A0 q) (hf : ∀ q, free q → A0 q) (hAX : ∀ q, q < H.size → AX q → A0 q)
    (kx : ∀ (E : String) (ce : Cell) (q9 : Addr) (u : SX) (t : State) (H1 : Heap) (locs1 : List Loc), t.heap = H1 → s.vm.Alike t.vm → px u → BX E u t → H.size ≤ H1.size → (∀ q : Nat, q < H.size → ¬ AX q → H1[q]? = H[q]?) → va_S A0 H0 H1 locs1 → H1[q9]? = some ce → ce.vm = .none → s.vm.findClass E = some ce.cls → vx_W p l e R s m args below meth c H1 locs1 (cells + mc) (slots + ms) Q (F0 m pc ls rest) q9)
    (kk : ∀ (r : Int32) (u : S) (t : State) (H1 : Heap) (locs1 : List Loc), t.heap = H1 → s.vm.Alike t.vm → post r u → B u t → H.size ≤ H1.size → (∀ q : Nat, q < H.size → ¬ A1 q → H1[q]? = H[q]?) → va_S A0 H0 H1 locs1 → W p l e R s m args below meth c H1 locs1 (cells + mc) (slots + ms) Q (F0 m (pc + 3) ls (.int r :: rest))) : W p l e R s m args below meth c H locs cells slots Q (F0 m pc ls st0) := by
  intro T hT X
  rcases hr T hT X with ⟨v, st₀, t, T', L, h0, X', hL, e1, e2, ⟨⟨r, u, hv, hp, hb⟩, hF⟩, st⟩ | ⟨q, st₀, t, T', L, E, ce, h0, X', hL, e1, e2, ⟨u, hp, hb, hF⟩, hce, hcv, hcl, st⟩
  · cases hv
    obtain ⟨k1, k2, k3⟩ := vx_keep h0 e1 hS hA hf hL hF
    obtain ⟨t2, a1, b1⟩ := kk r u t T'.heap (locs ++ L) e1.symm (by rw [← e2]; exact X'.warmed.alike) hp hb k1 k2 k3 T' rfl X'
    exact ⟨t2, st t2 a1, b1⟩
  · obtain ⟨k1, k2, k3⟩ := vx_keep h0 e1 hS hAX hf hL hF
    obtain ⟨t2, a1, b1⟩ := kx E ce q u t T'.heap (locs ++ L) e1.symm (by rw [← e2]; exact X'.warmed.alike) hp hb k1 k2 k3 (by rw [e1]; exact hce) hcv hcl T' rfl X'
    exact ⟨t2, st.trans a1, b1⟩
theorem vx_calll {S SX : Type} {post : Int64 → S → Prop} {px : SX → Prop} {B : S → State → Prop} {BX : String → SX → State → Prop} {AX : Nat → Prop} (hr : vx_Run p l e R s m args below meth c H locs cells slots mc ms (F0 m pc ls st0) rest (va_Ql post B A1 a) (vx_X px BX AX) free) (hS : va_S A0 H0 H locs) (hA : ∀ q, q < H.size → A1 q → A0 q) (hf : ∀ q, free q → A0 q) (hAX : ∀ q, q < H.size → AX q → A0 q)
    (kx : ∀ (E : String) (ce : Cell) (q9 : Addr) (u : SX) (t : State) (H1 : Heap) (locs1 : List Loc), t.heap = H1 → s.vm.Alike t.vm → px u → BX E u t → H.size ≤ H1.size → (∀ q : Nat, q < H.size → ¬ AX q → H1[q]? = H[q]?) → va_S A0 H0 H1 locs1 → H1[q9]? = some ce → ce.vm = .none → s.vm.findClass E = some ce.cls → vx_W p l e R s m args below meth c H1 locs1 (cells + mc) (slots + ms) Q (F0 m pc ls rest) q9)
    (kk : ∀ (r : Int64) (u : S) (t : State) (H1 : Heap) (locs1 : List Loc), t.heap = H1 → s.vm.Alike t.vm → post r u → B u t → H.size ≤ H1.size → (∀ q : Nat, q < H.size → ¬ A1 q → H1[q]? = H[q]?) → va_S A0 H0 H1 locs1 → W p l e R s m args below meth c H1 locs1 (cells + mc) (slots + ms) Q (F0 m (pc + 3) ls (.long r :: rest))) : W p l e R s m args below meth c H locs cells slots Q (F0 m pc ls st0) := by
  intro T hT X
  rcases hr T hT X with ⟨v, st₀, t, T', L, h0, X', hL, e1, e2, ⟨⟨r, u, hv, hp, hb⟩, hF⟩, st⟩ | ⟨q, st₀, t, T', L, E, ce, h0, X', hL, e1, e2, ⟨u, hp, hb, hF⟩, hce, hcv, hcl, st⟩
  · cases hv
    obtain ⟨k1, k2, k3⟩ := vx_keep h0 e1 hS hA hf hL hF
    obtain ⟨t2, a1, b1⟩ := kk r u t T'.heap (locs ++ L) e1.symm (by rw [← e2]; exact X'.warmed.alike) hp hb k1 k2 k3 T' rfl X'
    exact ⟨t2, st t2 a1, b1⟩
  · obtain ⟨k1, k2, k3⟩ := vx_keep h0 e1 hS hAX hf hL hF
    obtain ⟨t2, a1, b1⟩ := kx E ce q u t T'.heap (locs ++ L) e1.symm (by rw [← e2]; exact X'.warmed.alike) hp hb k1 k2 k3 (by rw [e1]; exact hce) hcv hcl T' rfl X'
    exact ⟨t2, st.trans a1, b1⟩
theorem vx_callf {S SX : Type} {post : UInt32 → S → Prop} {px : SX → Prop} {B : S → State → Prop} {BX : String → SX → State → Prop} {AX : Nat → Prop} (hr : vx_Run p l e R s m args below meth c H locs cells slots mc ms (F0 m pc ls st0) rest (va_Qf post B A1 a) (vx_X px BX AX) free) (hS : va_S A0 H0 H locs) (hA : ∀ q, q < H.size → A1 q → A0 q) (hf : ∀ q, free q → A0 q) (hAX : ∀ q, q < H.size → AX q → A0 q)
    (kx : ∀ (E : String) (ce : Cell) (q9 : Addr) (u : SX) (t : State) (H1 : Heap) (locs1 : List Loc), t.heap = H1 → s.vm.Alike t.vm → px u → BX E u t → H.size ≤ H1.size → (∀ q : Nat, q < H.size → ¬ AX q → H1[q]? = H[q]?) → va_S A0 H0 H1 locs1 → H1[q9]? = some ce → ce.vm = .none → s.vm.findClass E = some ce.cls → vx_W p l e R s m args below meth c H1 locs1 (cells + mc) (slots + ms) Q (F0 m pc ls rest) q9)
    (kk : ∀ (r : UInt32) (u : S) (t : State) (H1 : Heap) (locs1 : List Loc), t.heap = H1 → s.vm.Alike t.vm → post r u → B u t → H.size ≤ H1.size → (∀ q : Nat, q < H.size → ¬ A1 q → H1[q]? = H[q]?) → va_S A0 H0 H1 locs1 → W p l e R s m args below meth c H1 locs1 (cells + mc) (slots + ms) Q (F0 m (pc + 3) ls (.float r :: rest))) : W p l e R s m args below meth c H locs cells slots Q (F0 m pc ls st0) := by
  intro T hT X
  rcases hr T hT X with ⟨v, st₀, t, T', L, h0, X', hL, e1, e2, ⟨⟨r, u, hv, hp, hb⟩, hF⟩, st⟩ | ⟨q, st₀, t, T', L, E, ce, h0, X', hL, e1, e2, ⟨u, hp, hb, hF⟩, hce, hcv, hcl, st⟩
  · cases hv
    obtain ⟨k1, k2, k3⟩ := vx_keep h0 e1 hS hA hf hL hF
    obtain ⟨t2, a1, b1⟩ := kk r u t T'.heap (locs ++ L) e1.symm (by rw [← e2]; exact X'.warmed.alike) hp hb k1 k2 k3 T' rfl X'
    exact ⟨t2, st t2 a1, b1⟩
  · obtain ⟨k1, k2, k3⟩ := vx_keep h0 e1 hS hAX hf hL hF
    obtain ⟨t2, a1, b1⟩ := kx E ce q u t T'.heap (locs ++ L) e1.symm (by rw [← e2]; exact X'.warmed.alike) hp hb k1 k2 k3 (by rw [e1]; exact hce) hcv hcl T' rfl X'
    exact ⟨t2, st.trans a1, b1⟩
theorem vx_calld {S SX : Type} {post : UInt64 → S → Prop} {px : SX → Prop} {B : S → State → Prop} {BX : String → SX → State → Prop} {AX : Nat → Prop} (hr : vx_Run p l e R s m args below meth c H locs cells slots mc ms (F0 m pc ls st0) rest (va_Qd post B A1 a) (vx_X px BX AX) free) (hS : va_S A0 H0 H locs) (hA : ∀ q, q < H.size → A1 q → A0 q) (hf : ∀ q, free q → A0 q) (hAX : ∀ q, q < H.size → AX q → A0 q)
    (kx : ∀ (E : String) (ce : Cell) (q9 : Addr) (u : SX) (t : State) (H1 : Heap) (locs1 : List Loc), t.heap = H1 → s.vm.Alike t.vm → px u → BX E u t → H.size ≤ H1.size → (∀ q : Nat, q < H.size → ¬ AX q → H1[q]? = H[q]?) → va_S A0 H0 H1 locs1 → H1[q9]? = some ce → ce.vm = .none → s.vm.findClass E = some ce.cls → vx_W p l e R s m args below meth c H1 locs1 (cells + mc) (slots + ms) Q (F0 m pc ls rest) q9)
    (kk : ∀ (r : UInt64) (u : S) (t : State) (H1 : Heap) (locs1 : List Loc), t.heap = H1 → s.vm.Alike t.vm → post r u → B u t → H.size ≤ H1.size → (∀ q : Nat, q < H.size → ¬ A1 q → H1[q]? = H[q]?) → va_S A0 H0 H1 locs1 → W p l e R s m args below meth c H1 locs1 (cells + mc) (slots + ms) Q (F0 m (pc + 3) ls (.double r :: rest))) : W p l e R s m args below meth c H locs cells slots Q (F0 m pc ls st0) := by
  intro T hT X
  rcases hr T hT X with ⟨v, st₀, t, T', L, h0, X', hL, e1, e2, ⟨⟨r, u, hv, hp, hb⟩, hF⟩, st⟩ | ⟨q, st₀, t, T', L, E, ce, h0, X', hL, e1, e2, ⟨u, hp, hb, hF⟩, hce, hcv, hcl, st⟩
  · cases hv
    obtain ⟨k1, k2, k3⟩ := vx_keep h0 e1 hS hA hf hL hF
    obtain ⟨t2, a1, b1⟩ := kk r u t T'.heap (locs ++ L) e1.symm (by rw [← e2]; exact X'.warmed.alike) hp hb k1 k2 k3 T' rfl X'
    exact ⟨t2, st t2 a1, b1⟩
  · obtain ⟨k1, k2, k3⟩ := vx_keep h0 e1 hS hAX hf hL hF
    obtain ⟨t2, a1, b1⟩ := kx E ce q u t T'.heap (locs ++ L) e1.symm (by rw [← e2]; exact X'.warmed.alike) hp hb k1 k2 k3 (by rw [e1]; exact hce) hcv hcl T' rfl X'
    exact ⟨t2, st.trans a1, b1⟩
theorem vx_callv {S SX : Type} {post : S → Prop} {px : SX → Prop} {B : S → State → Prop} {BX : String → SX → State → Prop} {AX : Nat → Prop} (hr : vx_Run p l e R s m args below meth c H locs cells slots mc ms (F0 m pc ls st0) rest (va_Qv post B A1 a) (vx_X px BX AX) free) (hS : va_S A0 H0 H locs) (hA : ∀ q, q < H.size → A1 q → A0 q) (hf : ∀ q, free q → A0 q) (hAX : ∀ q, q < H.size → AX q → A0 q)
    (kx : ∀ (E : String) (ce : Cell) (q9 : Addr) (u : SX) (t : State) (H1 : Heap) (locs1 : List Loc), t.heap = H1 → s.vm.Alike t.vm → px u → BX E u t → H.size ≤ H1.size → (∀ q : Nat, q < H.size → ¬ AX q → H1[q]? = H[q]?) → va_S A0 H0 H1 locs1 → H1[q9]? = some ce → ce.vm = .none → s.vm.findClass E = some ce.cls → vx_W p l e R s m args below meth c H1 locs1 (cells + mc) (slots + ms) Q (F0 m pc ls rest) q9)
    (kk : ∀ (u : S) (t : State) (H1 : Heap) (locs1 : List Loc), t.heap = H1 → s.vm.Alike t.vm → post u → B u t → H.size ≤ H1.size → (∀ q : Nat, q < H.size → ¬ A1 q → H1[q]? = H[q]?) → va_S A0 H0 H1 locs1 → W p l e R s m args below meth c H1 locs1 (cells + mc) (slots + ms) Q (F0 m (pc + 3) ls (rest))) : W p l e R s m args below meth c H locs cells slots Q (F0 m pc ls st0) := by
  intro T hT X
  rcases hr T hT X with ⟨v, st₀, t, T', L, h0, X', hL, e1, e2, ⟨⟨u, hv, hp, hb⟩, hF⟩, st⟩ | ⟨q, st₀, t, T', L, E, ce, h0, X', hL, e1, e2, ⟨u, hp, hb, hF⟩, hce, hcv, hcl, st⟩
  · cases hv
    obtain ⟨k1, k2, k3⟩ := vx_keep h0 e1 hS hA hf hL hF
    obtain ⟨t2, a1, b1⟩ := kk u t T'.heap (locs ++ L) e1.symm (by rw [← e2]; exact X'.warmed.alike) hp hb k1 k2 k3 T' rfl X'
    exact ⟨t2, st t2 a1, b1⟩
  · obtain ⟨k1, k2, k3⟩ := vx_keep h0 e1 hS hAX hf hL hF
    obtain ⟨t2, a1, b1⟩ := kx E ce q u t T'.heap (locs ++ L) e1.symm (by rw [← e2]; exact X'.warmed.alike) hp hb k1 k2 k3 (by rw [e1]; exact hce) hcv hcl T' rfl X'
    exact ⟨t2, st.trans a1, b1⟩
end Rows
section Ends
variable {p : Program} {l : Launch} {e : Env} {R : Room} {s : State} {m : MethodId} {args : Array Value} {below : List Frame} {meth : Method} {c : Code} {H : Heap} {locs : List Loc} {cells slots : Nat} {Q : State → Prop}
variable {mc ms : Nat} {free : Addr → Prop} {A0 A1 : Nat → Prop} {H0 : Heap} {a : Array Value} {ls : Array Slot} {st0 rest : List Value}
variable {Qc : Array Value → State → Outcome → State → Prop} {XC : String → State → State → Prop}
/-- what a body that may throw owes at its end -/
def vx_MQ (below : List Frame) (Qc : Array Value → State → Outcome → State → Prop) (XC : String → State → State → Prop) (a : Array Value) (s : State) (mc ms : Nat) (free : Addr → Prop) : State → Prop := fun t =>
  ∃ o, t.status = .running ∧ Ended t below o ∧ vx_Q Qc XC mc ms free a s o t
theorem vx_ret {g : JFrame} {mc ms : Nat} (k : W p l e R s m args below meth c H locs cells slots (MQ below Qc args s mc ms free) g) : W p l e R s m args below meth c H locs cells slots (vx_MQ below Qc XC args s mc ms free) g := by
  intro T hT X
  obtain ⟨t, a1, o, b1, b2, b3, b4⟩ := k T hT X
  exact ⟨t, a1, o, b1, b2, Or.inl ⟨b3, b4⟩⟩
/-- not caught here: it goes on to the caller -/
theorem vx_widen {g : JFrame} {q : Addr} {k n : Nat} (h1 : cells ≤ k) (h2 : slots ≤ n) (kk : vx_W p l e R s m args below meth c H locs k n Q g q) : vx_W p l e R s m args below meth c H locs cells slots Q g q := fun T hT X => kk T hT (stand_widen X h1 h2)
theorem vx_out {pc : Nat} {E : String} {ce : Cell} {q : Addr} {mc ms : Nat} (hout : ∀ x ∈ c.exceptionTable.toList, covers x pc = false) (hlocks : meth.locks = false) (hcell : H[q]? = some ce) (hv : ce.vm = .none) (hcl : s.vm.findClass E = some ce.cls)
    (hx : ∀ t : State, t.heap = H → s.vm.Alike t.vm → XC E s t) (hf : ∀ z ∈ locs, free z.base) (hc : cells ≤ mc) (hs : slots ≤ ms) :
    vx_W p l e R s m args below meth c H locs cells slots (vx_MQ below Qc XC args s mc ms free) (F0 m pc ls rest) q := by
  intro T hT X
  obtain ⟨st1, hrun, hend, hW, hsm⟩ := X.leaveThrown q (g := F0 m pc ls rest) rfl rfl rfl hout hlocks
  have hcell9 : (T.setFrames (.throwing q :: below)).heap[q]? = some ce := by
    show T.heap[q]? = some ce
    rw [hT]; exact hcell
  exact ⟨_, st1, .threw q, hrun, hend, Or.inr ⟨q, rfl, E, ce, locs, hx _ hT hW.alike, hcell9, hv, hcl, hW, hsm.mono hc hs, hf⟩⟩
theorem vx_frame {U : State} {k n : Nat} (h : s.sameButNew ({ U with vm := s.vm } : State) locs k n) : s.heap.size ≤ U.heap.size ∧ ∀ q : Nat, q < s.heap.size → (∀ z ∈ locs, z.base ≠ q) → U.heap[q]? = s.heap[q]? := by
  obtain ⟨-, h2, -, -, -, h6⟩ := h
  refine ⟨h2, fun q hq hz => ?_⟩
  obtain ⟨c9, e1, e2, e3, e4⟩ := h6 q _ (Array.getElem?_eq_getElem hq)
  have hs : c9.slots = (s.heap[q]).slots := Array.ext_getElem? fun i => e4 i fun hm => hz _ hm rfl
  have h9 : c9 = s.heap[q] := by
    rw [hs] at e2
    exact e2
  have e5 : U.heap[q]? = some c9 := e1
  rw [e5, h9, Array.getElem?_eq_getElem hq]
/-- the words of a throw but the four that speak of the heap -/
def vx_no (w : Cond) : Bool := decide (w ≠ .isRef (.static Bundle.tN "UNASSIGNED_STACK" Bundle.steD)) && decide (w ≠ .isRef (.static Bundle.tN "SUPPRESSED_SENTINEL" Bundle.listD)) && decide (w ≠ .laysStatic Bundle.tN "UNASSIGNED_STACK" Bundle.steD) && decide (w ≠ .laysStatic Bundle.tN "SUPPRESSED_SENTINEL" Bundle.listD)
def vx_at0 (own : String) (ic : Nat) (X : String) (names : List String) : List Cond := (Bundle.ownAtoms0 own ic X names).filter vx_no
def vx_atS (own : String) (ic : Nat) (X : String) (names : List String) : List Cond := (Bundle.ownAtoms own ic X names).filter vx_no
/-- a word that the tables alone decide, or a good one -/
def vx_ot (w : Cond) : Bool := w.onTables || goodWord w
theorem vx_ot_at {args a' : Array Value} {s U : State} {w : Cond} (hW : s.WarmedH U.vm) (hvm : s.vm = U.vm) (hg : vx_ot w = true) (h : w.before args s = true) : w.before a' U = true := by
  simp only [vx_ot, Bool.or_eq_true] at hg
  rcases hg with hg | hg
  · exact va_tabs hg hvm h
  · exact word_at hW (good_of_word hg) h
/-- a list's words: the good ones out of the method's own list, the others by premises of their own -/
theorem vx_hat {args : Array Value} {s : State} {L B : List Cond} (h1 : ∀ w ∈ L.filter goodWord, w.before args s = true) (h2 : ∀ w ∈ L.filter (fun w => !goodWord w), w ∈ B) (h3 : ∀ w ∈ B, w.before args s = true) : ∀ w ∈ L, w.before args s = true := by
  intro w hw
  by_cases g : goodWord w = true
  · exact h1 w (List.mem_filter.mpr ⟨hw, g⟩)
  · refine h3 w (h2 w (List.mem_filter.mpr ⟨hw, ?_⟩))
    show (!goodWord w) = true
    cases hgw : goodWord w
    · rfl
    · exact absurd hgw g
theorem vx_c {args : Array Value} {s : State} {w : Cond} {B : List Cond} (h : w.before args s = true) (t : ∀ w ∈ B, w.before args s = true) : ∀ w' ∈ w :: B, w'.before args s = true := fun w' h' => (List.mem_cons.mp h').elim (fun e => by rw [e]; exact h) (t w')
theorem vx_n {args : Array Value} {s : State} : ∀ w ∈ ([] : List Cond), w.before args s = true := fun _ h => nomatch h
theorem vx_own {args : Array Value} {s : State} {L : List Cond} (h1 : ∀ w ∈ L.filter vx_no, w.before args s = true)
    (hU : (Cond.isRef (.static Bundle.tN "UNASSIGNED_STACK" Bundle.steD)).before args s = true) (hN : (Cond.isRef (.static Bundle.tN "SUPPRESSED_SENTINEL" Bundle.listD)).before args s = true)
    (lU : (Cond.laysStatic Bundle.tN "UNASSIGNED_STACK" Bundle.steD).before args s = true) (lN : (Cond.laysStatic Bundle.tN "SUPPRESSED_SENTINEL" Bundle.listD).before args s = true) : ∀ w ∈ L, w.before args s = true := by
  intro w hw
  by_cases e1 : w = .isRef (.static Bundle.tN "UNASSIGNED_STACK" Bundle.steD)
  · rw [e1]; exact hU
  · by_cases e2 : w = .isRef (.static Bundle.tN "SUPPRESSED_SENTINEL" Bundle.listD)
    · rw [e2]; exact hN
    · by_cases e3 : w = .laysStatic Bundle.tN "UNASSIGNED_STACK" Bundle.steD
      · rw [e3]; exact lU
      · by_cases e4 : w = .laysStatic Bundle.tN "SUPPRESSED_SENTINEL" Bundle.listD
        · rw [e4]; exact lN
        · exact h1 w (List.mem_filter.mpr ⟨hw, by unfold vx_no; rw [decide_eq_true e1, decide_eq_true e2, decide_eq_true e3, decide_eq_true e4]; rfl⟩)
/-- where a static field lies, its class's statics cell in H -/
def vx_L (C n d : String) (A : Nat → Prop) (U : State) (H : Heap) : Prop := ∃ (c : ClassId) (k : Class) (i : Nat) (f : Field) (a : Nat) (cell : Cell), U.vm.findClass C = some c ∧ U.fieldFound? C n d = some (c, k, i, f) ∧ f.isStatic = true ∧ k.statics = some a ∧ H[a]? = some cell ∧ cell.vm.isStatics = true ∧ cell.cls = c ∧ f.slot < cell.slots.size ∧ k.staticTypes[f.slot]? = some f.type ∧ ¬ A a
theorem vx_L.moved {C n d : String} {A : Nat → Prop} {u U : State} {H : Heap} (hvm : u.vm.Alike U.vm) (h : vx_L C n d A u H) : vx_L C n d A U H := by
  obtain ⟨c, k, i, f, a, cell, h1, h2, h3, h4, h5, h6, h7, h8, h9, h10⟩ := h
  obtain ⟨k', hi', he⟩ := State.fieldFound?_setVm hvm h2
  exact ⟨c, k', i, f, a, cell, by rw [hvm.findClass]; exact h1, hi', h3, by rw [he]; exact h4, h5, h6, h7, h8, by rw [he]; exact h9, h10⟩
theorem vx_L.kept {C n d : String} {A : Nat → Prop} {U : State} {H H1 : Heap} (h : vx_L C n d A U H) (hq : ∀ a : Nat, a < H.size → ¬ A a → H1[a]? = H[a]?) : vx_L C n d A U H1 := by
  obtain ⟨c, k, i, f, a, cell, h1, h2, h3, h4, h5, h6, h7, h8, h9, h10⟩ := h
  exact ⟨c, k, i, f, a, cell, h1, h2, h3, h4, by rw [hq a (Array.getElem?_eq_some_iff.mp h5).1 h10]; exact h5, h6, h7, h8, h9, h10⟩
theorem vx_L.narrow {C n d : String} {A B : Nat → Prop} {U : State} {H : Heap} (h : vx_L C n d A U H) (hAB : ∀ q, B q → A q) : vx_L C n d B U H := by
  obtain ⟨c, k, i, f, a, cell, h1, h2, h3, h4, h5, h6, h7, h8, h9, h10⟩ := h
  exact ⟨c, k, i, f, a, cell, h1, h2, h3, h4, h5, h6, h7, h8, h9, fun z => h10 (hAB _ z)⟩
theorem vx_L.word {C n d : String} {A : Nat → Prop} {s : State} {args : Array Value} (h : vx_L C n d A s s.heap) : (Cond.laysStatic C n d).before args s = true := by
  obtain ⟨c, k, i, f, a, cell, h1, h2, h3, h4, h5, h6, h7, h8, h9, -⟩ := h
  show (Cond.laysStatic C n d).holds args s none s [] = true
  exact Cond.laysStatic_of h1 h2 h3 h4 h5 h6 h7 h8 h9
/-- .. and what it holds: null or some reference -/
def vx_Zq (C n d : String) (A : Nat → Prop) (U : State) (H : Heap) : Prop := va_Zq C n d A U H ∧ vx_L C n d A U H
theorem vx_Zq.moved {C n d : String} {A : Nat → Prop} {u U : State} {H : Heap} (hvm : u.vm.Alike U.vm) (h : vx_Zq C n d A u H) : vx_Zq C n d A U H := ⟨va_Zq.moved hvm h.1, vx_L.moved hvm h.2⟩
theorem vx_Zq.kept {C n d : String} {A : Nat → Prop} {U : State} {H H1 : Heap} (h : vx_Zq C n d A U H) (hq : ∀ a : Nat, a < H.size → ¬ A a → H1[a]? = H[a]?) : vx_Zq C n d A U H1 := ⟨va_Zq.kept h.1 hq, vx_L.kept h.2 hq⟩
theorem vx_Zq.narrow {C n d : String} {A B : Nat → Prop} {U : State} {H : Heap} (h : vx_Zq C n d A U H) (hAB : ∀ q, B q → A q) : vx_Zq C n d B U H := ⟨va_Zq.narrow h.1 hAB, vx_L.narrow h.2 hAB⟩
theorem vx_Zqof {args : Array Value} {s : State} {C n d : String} {A : Nat → Prop} (hl : (Cond.laysStatic C n d).before args s = true) (hini : (Cond.initialized C).before args s = true) (h : (Cond.isRef (.static C n d)).before args s = true) (hA : ∀ a : Nat, a < s.heap.size → ¬ A a) : vx_Zq C n d A s s.heap := by
  refine ⟨va_Zqof hl hini h hA, ?_⟩
  obtain ⟨c, k, i, f, a, cell, h1, h2, h3, h4, h5, h6, h7, h8, h9⟩ := Cond.laysStatic_spec hl
  exact ⟨c, k, i, f, a, cell, h1, h2, h3, h4, h5, h6, h7, h8, h9, hA a (Array.getElem?_eq_some_iff.mp h5).1⟩
theorem vx_isRef {C n d : String} {v : Value} {A : Nat → Prop} {s : State} {args : Array Value} (h : va_Z C n d v A s s.heap) (hv : v.isRef = true) : (Cond.isRef (.static C n d)).before args s = true := by
  obtain ⟨cf, kf, fi, f, a, cell, h1, h2, h3, h4, h5, h6, h7, -⟩ := h
  have he : (Term.static C n d).eval args s none [] s = some v := by
    simp [Term.eval, State.fieldNamed?, h1, h2, h4, h5, h6, h7]
  simp only [Cond.before, Cond.holds, Cond.value, he]
  cases v <;> simp_all [Value.isRef]
theorem vx_isRefq {C n d : String} {A : Nat → Prop} {s : State} {args : Array Value} (h : va_Zq C n d A s s.heap) : (Cond.isRef (.static C n d)).before args s = true := by
  rcases h with h | ⟨t, h⟩
  · exact vx_isRef h rfl
  · exact vx_isRef h rfl
/-- the same frame, seen from here: as if the method were called anew in this heap -/
theorem vx_rebase {T : State} (X : Stand p l e R s m args below meth c T locs cells slots) {R' : Room} (hf : R'.frames ≤ R.frames) (hl : R'.locals ≤ R.locals) (hc : cells + R'.cells ≤ R.cells) (hs : slots + R'.slots ≤ R.slots) :
    Stand p l e R' ((T.setVm s.vm).setFrames (.invoking m args :: below)) m args below meth c T [] 0 0 := by
  have htop : (T.setVm s.vm).topJava?.isSome := X.here.top
  have hF : ((T.setVm s.vm).setFrames (.invoking m args :: below)).frames = .invoking m args :: below := State.frames_setFrames _ (State.cur_lt_of_top htop)
  obtain ⟨g₀, hg0⟩ := Option.isSome_iff_exists.mp htop
  obtain ⟨r, hr⟩ := State.topJava?_eq_some.mp hg0
  have hl9 : e.platform.stackLimits (T.setVm s.vm).me = e.platform.stackLimits s.me := X.limits
  have hb9 : (T.setVm s.vm).me.stackBytes = s.me.stackBytes := X.bytes
  refine ⟨X.admits, X.cas, X.clock, hF, ?_, X.hears, X.method, X.code, X.here, X.tail, X.warmed, ?_, ?_, ?_⟩
  · have h := X.room
    have hU : ((T.setVm s.vm).setFrames (.invoking m args :: below)).localsInUse = s.localsInUse := by
      rw [State.localsInUse_invoking hF (meth := meth) (c := c) X.method X.code, State.localsInUse_invoking X.frames X.method X.code]
    simp only [State.hasRoom, Bool.and_eq_true, decide_eq_true_eq] at h ⊢
    obtain ⟨⟨⟨⟨h1, h2, h3, h4, h5, h6⟩, h7⟩, h8⟩, h9⟩ := h
    rw [X.frames, List.length_cons] at h2 h3
    have q1 := X.heapSize
    have q2 := X.used
    simp only [hF, hU, List.length_cons, State.stackLimits_setFrames, State.stackBytes_setFrames, hl9, hb9]
    refine ⟨⟨⟨⟨by omega, by omega, by omega, by omega, by omega, h6⟩, ?_⟩, ?_⟩, X.book⟩
    · show T.heap.size + R'.cells ≤ e.platform.maxCells
      omega
    · show T.slotsUsed + R'.slots ≤ e.platform.maxSlots
      omega
  · rw [State.stackLimits_setFrames]; rfl
  · rw [State.stackBytes_setFrames]; rfl
  · refine ⟨?_, Nat.le_refl _, Nat.le_refl _, ?_, ?_, fun a c9 h9 => ⟨c9, h9, rfl, rfl, fun _ _ => rfl⟩⟩
    · obtain ⟨t, ht, -⟩ := State.frames_cons hr
      show T.setVm s.vm = { ((T.setVm s.vm).setFrames (.invoking m args :: below)).setFrames (T.setVm s.vm).frames with heap := T.heap, slotsUsed := T.slotsUsed }
      rw [State.setFrames_setFrames, State.setFrames_self ht]
      rfl
    · show T.slotsUsed = T.slotsUsed + ((T.heap.toList.drop T.heap.size).map (·.slots.size)).sum
      rw [List.drop_eq_nil_of_le (Nat.le_of_eq Array.length_toList)]
      rfl
    · show ((T.heap.toList.drop T.heap.size).map (·.slots.size)).sum ≤ 0
      rw [List.drop_eq_nil_of_le (Nat.le_of_eq Array.length_toList)]
      exact Nat.le_refl _
/-- 'throw new E()': new; dup; invokespecial; athrow -/
theorem vx_throw0 {cc : ByteArray} {pc : Nat} (hexec : p.tables.exec = Jvm.exec) (hb : c.code = cc) (hl : l.stackTraces = false) {own cls : String} {names : List String} {ik ic mc ms : Nat} {A : Nat → Prop}
    (hown : s.vm.findClass own = some m.cls) (hcls : Bundle.fit cls = true) (hnames : ∀ n ∈ names, Bundle.fit n = true)
    (hk : (Cond.classLink own ik cls).before args s = true) (hini : (Cond.initialized cls).before args s = true) (hat : ∀ w ∈ vx_at0 own ic cls names, w.before args s = true)
    (hgood : ∀ w ∈ Cond.classLink own ik cls :: Cond.initialized cls :: vx_at0 own ic cls names, vx_ot w = true)
    (hU : vx_Zq Bundle.tN "UNASSIGNED_STACK" Bundle.steD A s s.heap) (hN : vx_Zq Bundle.tN "SUPPRESSED_SENTINEL" Bundle.listD A s s.heap) (hS : va_S A s.heap H locs) (hsize : ls.size = c.maxLocals)
    (d0 : decode cc pc = .ok (.new ik, 3)) (d3 : decode cc (pc + 3) = .ok (.dup, 1)) (d4 : decode cc (pc + 4) = .ok (.invokespecial ic, 3)) (d7 : decode cc (pc + 7) = .ok (.athrow, 1))
    (hout : ∀ x ∈ c.exceptionTable.toList, covers x (pc + 7) = false)
    (hRframes : names.length + 3 < R.frames) (hRlocals : (rest.map fun v => v.category).sum + (13 * (names.length + 1) + 42) ≤ R.locals) (hRcells : cells + 1 ≤ R.cells) (hRslots : slots + 6 ≤ R.slots) (hlocks : meth.locks = false)
    (hx : ∀ t : State, s.vm.Alike t.vm → H.size ≤ t.heap.size → (∀ q : Nat, q < H.size → t.heap[q]? = H[q]?) → XC cls s t)
    (hf : ∀ z ∈ locs, free z.base) (hc : cells + 1 ≤ mc) (hs : slots + 6 ≤ ms) :
    W p l e R s m args below meth c H locs cells slots (vx_MQ below Qc XC args s mc ms free) (F0 m pc ls rest) := by
  intro T hT X
  have htr : e.platform.stackTraces = false := (show e.platform.stackTraces = l.stackTraces by rw [X.admits.platform]).trans hl
  have Y := vx_rebase X (R' := { frames := R.frames, locals := R.locals, cells := 1, slots := 6 }) (Nat.le_refl _) (Nat.le_refl _) hRcells hRslots
  obtain ⟨s', hA⟩ : ∃ z, z = (T.setVm s.vm).setFrames (.invoking m args :: below) := ⟨_, rfl⟩
  rw [← hA] at Y
  have hvm : s'.vm = s.vm := by rw [hA]; rfl
  have hhp : s'.heap = H := by rw [hA]; exact hT
  have hW0 : s.WarmedH s'.vm := by rw [hvm]; exact State.WarmedH.refl s
  have hat' : ∀ w ∈ vx_at0 own ic cls names, w.before args s' = true := fun w hw => vx_ot_at hW0 hvm.symm (hgood w (List.mem_cons_of_mem _ (List.mem_cons_of_mem _ hw))) (hat w hw)
  have hk' : (Cond.classLink own ik cls).before args s' = true := vx_ot_at hW0 hvm.symm (hgood _ List.mem_cons_self) hk
  have hini' : (Cond.initialized cls).before args s' = true := vx_ot_at hW0 hvm.symm (hgood _ (List.mem_cons_of_mem _ List.mem_cons_self)) hini
  have hU' : vx_Zq Bundle.tN "UNASSIGNED_STACK" Bundle.steD A s' s'.heap := by rw [hhp]; exact vx_Zq.moved hW0.alike (hU.kept hS.2.1)
  have hN' : vx_Zq Bundle.tN "SUPPRESSED_SENTINEL" Bundle.listD A s' s'.heap := by rw [hhp]; exact vx_Zq.moved hW0.alike (hN.kept hS.2.1)
  have h : ∀ w ∈ Bundle.ownAtoms0 own ic cls names, w.before args s' = true := vx_own hat' (vx_isRefq hU'.1) (vx_isRefq hN'.1) hU'.2.word hN'.2.word
  have hown' : s'.vm.findClass own = some m.cls := by rw [hvm]; exact hown
  have hins : (Cond.instantiable cls 6).before args s' = true := h _ (by simp [Bundle.ownAtoms0])
  obtain ⟨vm₁, cX, kX, hfX, hkX, -, -, X₁, st1⟩ := Y.newCold hexec (own := own) (C := cls) (index := ik) (n := 6) hown' hk' hins hini'
    (g := F0 m pc ls rest) rfl (by rw [hb]; exact d0) (Nat.le_refl _) (Nat.le_refl _)
  generalize hT1 : (T.setVm vm₁).pushCell { cls := cX, slots := kX.instanceTypes.map defaultValue, vm := .none } = T1 at X₁ st1
  have hcat : (Value.ref T.heap.size).category = 1 := rfl
  have hcellA : T1.heap[T.heap.size]? = some (freshCell cX kX) := by rw [← hT1]; exact State.heap_pushCell_size _ _
  have d3' : decode c.code (pc + 3) = .ok (.dup, 1) := by rw [hb]; exact d3
  obtain ⟨U, hsteps, hrun, hend, hW, hsame, ce, hce, hO⟩ := X₁.ctorThrow0 hexec htr (own := own) (cls := cls) (names := names) (ic := ic) hown' hcls hnames h (fun x hx => nomatch hx) hfX hkX hcellA (by rw [hhp, hT]; exact Nat.le_refl _)
    (g := { method := m, pc := pc + 4, locals := ls, stack := .ref T.heap.size :: .ref T.heap.size :: rest, locked := none }) rfl hsize rfl rfl (rest := rest) rfl
    (by rw [hb]; exact d4) (by rw [hb]; exact d7) hout hRframes (by simp only [List.map_cons, List.sum_cons, hcat]; omega) hlocks
  obtain ⟨f1, f2⟩ := vx_frame hsame
  rw [hhp] at f1 f2
  have hWs : s.WarmedH U.vm := State.WarmedH.trans hW0 hW
  have hcl : s.vm.findClass cls = some ce.cls := by
    have h9 := hO.cls
    rw [hvm] at h9
    exact h9
  have hall : s.sameButNew ({ U with vm := s.vm } : State) locs mc ms := by
    subst hA
    obtain ⟨e1, e2⟩ := hsame
    rw [State.setFrames_setFrames] at e1
    have h2 : (T.setVm s.vm).sameButNew ({ U with vm := s.vm } : State) [] (0 + 1) (0 + 6) := ⟨e1, e2⟩
    have h3 := X.same.trans h2
    rw [List.append_nil] at h3
    exact h3.mono hc hs
  refine ⟨U, ?_, .threw T.heap.size, hrun, hend, Or.inr ⟨T.heap.size, rfl, cls, ce, locs, hx U hWs.alike f1 (fun q hq => f2 q hq (fun z hz => nomatch hz)), hce, hO.vm, hcl, hWs, hall, hf⟩⟩
  refine st1 _ ?_
  show Steps p.tables e below (T1.setTop { method := m, pc := pc + 3, locals := ls, stack := .ref T.heap.size :: rest, locked := none }) _
  jvm_step X₁.here [X₁.here.top, hexec, d3', Value.category]
  exact hsteps
/-- 'throw new E("text")': new; dup; ldc; invokespecial; athrow -/
theorem vx_throwS {cc : ByteArray} {pc : Nat} (hexec : p.tables.exec = Jvm.exec) (hb : c.code = cc) (hl : l.stackTraces = false) {own cls text : String} {names : List String} {ik is ic mc ms sa : Nat} {A : Nat → Prop}
    (hown : s.vm.findClass own = some m.cls) (hcls : Bundle.fit cls = true) (hnames : ∀ n ∈ names, Bundle.fit n = true)
    (hk : (Cond.classLink own ik cls).before args s = true) (hini : (Cond.initialized cls).before args s = true) (hstr : vk_R own is text sa s) (hat : ∀ w ∈ vx_atS own ic cls names, w.before args s = true)
    (hgood : ∀ w ∈ Cond.classLink own ik cls :: Cond.initialized cls :: vx_atS own ic cls names, vx_ot w = true)
    (hU : vx_Zq Bundle.tN "UNASSIGNED_STACK" Bundle.steD A s s.heap) (hN : vx_Zq Bundle.tN "SUPPRESSED_SENTINEL" Bundle.listD A s s.heap) (hS : va_S A s.heap H locs) (hsize : ls.size = c.maxLocals)
    (d0 : decode cc pc = .ok (.new ik, 3)) (d3 : decode cc (pc + 3) = .ok (.dup, 1)) (d4 : decode cc (pc + 4) = .ok (.ldc is, 2)) (d6 : decode cc (pc + 6) = .ok (.invokespecial ic, 3)) (d9 : decode cc (pc + 9) = .ok (.athrow, 1))
    (hout : ∀ x ∈ c.exceptionTable.toList, covers x (pc + 9) = false)
    (hRframes : names.length + 3 < R.frames) (hRlocals : (rest.map fun v => v.category).sum + (13 * (names.length + 1) + 43) ≤ R.locals) (hRcells : cells + 1 ≤ R.cells) (hRslots : slots + 6 ≤ R.slots) (hlocks : meth.locks = false)
    (hx : ∀ t : State, s.vm.Alike t.vm → H.size ≤ t.heap.size → (∀ q : Nat, q < H.size → t.heap[q]? = H[q]?) → XC cls s t)
    (hf : ∀ z ∈ locs, free z.base) (hc : cells + 1 ≤ mc) (hs : slots + 6 ≤ ms) :
    W p l e R s m args below meth c H locs cells slots (vx_MQ below Qc XC args s mc ms free) (F0 m pc ls rest) := by
  intro T hT X
  have htr : e.platform.stackTraces = false := (show e.platform.stackTraces = l.stackTraces by rw [X.admits.platform]).trans hl
  have Y := vx_rebase X (R' := { frames := R.frames, locals := R.locals, cells := 1, slots := 6 }) (Nat.le_refl _) (Nat.le_refl _) hRcells hRslots
  obtain ⟨s', hA⟩ : ∃ z, z = (T.setVm s.vm).setFrames (.invoking m args :: below) := ⟨_, rfl⟩
  rw [← hA] at Y
  have hvm : s'.vm = s.vm := by rw [hA]; rfl
  have hhp : s'.heap = H := by rw [hA]; exact hT
  have hW0 : s.WarmedH s'.vm := by rw [hvm]; exact State.WarmedH.refl s
  have hat' : ∀ w ∈ vx_atS own ic cls names, w.before args s' = true := fun w hw => vx_ot_at hW0 hvm.symm (hgood w (List.mem_cons_of_mem _ (List.mem_cons_of_mem _ hw))) (hat w hw)
  have hk' : (Cond.classLink own ik cls).before args s' = true := vx_ot_at hW0 hvm.symm (hgood _ List.mem_cons_self) hk
  have hini' : (Cond.initialized cls).before args s' = true := vx_ot_at hW0 hvm.symm (hgood _ (List.mem_cons_of_mem _ List.mem_cons_self)) hini
  have hU' : vx_Zq Bundle.tN "UNASSIGNED_STACK" Bundle.steD A s' s'.heap := by rw [hhp]; exact vx_Zq.moved hW0.alike (hU.kept hS.2.1)
  have hN' : vx_Zq Bundle.tN "SUPPRESSED_SENTINEL" Bundle.listD A s' s'.heap := by rw [hhp]; exact vx_Zq.moved hW0.alike (hN.kept hS.2.1)
  have h : ∀ w ∈ Bundle.ownAtoms own ic cls names, w.before args s' = true := vx_own hat' (vx_isRefq hU'.1) (vx_isRefq hN'.1) hU'.2.word hN'.2.word
  have hown' : s'.vm.findClass own = some m.cls := by rw [hvm]; exact hown
  have hins : (Cond.instantiable cls 6).before args s' = true := h _ (by simp [Bundle.ownAtoms])
  obtain ⟨vm₁, cX, kX, hfX, hkX, -, -, X₁, st1⟩ := Y.newCold hexec (own := own) (C := cls) (index := ik) (n := 6) hown' hk' hins hini'
    (g := F0 m pc ls rest) rfl (by rw [hb]; exact d0) (Nat.le_refl _) (Nat.le_refl _)
  generalize hT1 : (T.setVm vm₁).pushCell { cls := cX, slots := kX.instanceTypes.map defaultValue, vm := .none } = T1 at X₁ st1
  have hcat : (Value.ref T.heap.size).category = 1 := rfl
  have hcellA : T1.heap[T.heap.size]? = some (freshCell cX kX) := by rw [← hT1]; exact State.heap_pushCell_size _ _
  have d3' : decode c.code (pc + 3) = .ok (.dup, 1) := by rw [hb]; exact d3
  have d4' : decode c.code (pc + 4) = .ok (.ldc is, 2) := by rw [hb]; exact d4
  have hstr' : vk_R own is text sa s' := vk_R.warm hW0 hstr
  obtain ⟨U, hsteps, hrun, hend, hW, hsame, ce, hce, hO⟩ := X₁.ctorThrowS hexec htr (own := own) (cls := cls) (names := names) (ic := ic) hown' hcls hnames h (fun x hx => nomatch hx) hfX hkX hcellA (by rw [hhp, hT]; exact Nat.le_refl _) (msg := .ref sa) rfl
    (g := { method := m, pc := pc + 6, locals := ls, stack := .ref sa :: .ref T.heap.size :: .ref T.heap.size :: rest, locked := none }) rfl hsize rfl rfl (rest := rest) rfl
    (by rw [hb]; exact d6) (by rw [hb]; exact d9) hout hRframes (by simp only [List.map_cons, List.sum_cons, hcat]; omega) hlocks
  obtain ⟨f1, f2⟩ := vx_frame hsame
  rw [hhp] at f1 f2
  have hWs : s.WarmedH U.vm := State.WarmedH.trans hW0 hW
  have hcl : s.vm.findClass cls = some ce.cls := by
    have h9 := hO.cls
    rw [hvm] at h9
    exact h9
  have hall : s.sameButNew ({ U with vm := s.vm } : State) locs mc ms := by
    subst hA
    obtain ⟨e1, e2⟩ := hsame
    rw [State.setFrames_setFrames] at e1
    have h2 : (T.setVm s.vm).sameButNew ({ U with vm := s.vm } : State) [] (0 + 1) (0 + 6) := ⟨e1, e2⟩
    have h3 := X.same.trans h2
    rw [List.append_nil] at h3
    exact h3.mono hc hs
  refine ⟨U, ?_, .threw T.heap.size, hrun, hend, Or.inr ⟨T.heap.size, rfl, cls, ce, locs, hx U hWs.alike f1 (fun q hq => f2 q hq (fun z hz => nomatch hz)), hce, hO.vm, hcl, hWs, hall, hf⟩⟩
  refine st1 _ ?_
  show Steps p.tables e below (T1.setTop { method := m, pc := pc + 3, locals := ls, stack := .ref T.heap.size :: rest, locked := none }) _
  jvm_step X₁.here [X₁.here.top, hexec, d3', Value.category]
  exact X₁.ldcString hexec (own := own) (text := text) (index := is) (a := sa) hown' hstr'.1 hstr'.2
    (g := { method := m, pc := pc + 4, locals := ls, stack := .ref T.heap.size :: .ref T.heap.size :: rest, locked := none }) rfl d4' _ hsteps
/-- 'throw new E("text")', the text by a wide index -/
theorem vx_throwSW {cc : ByteArray} {pc : Nat} (hexec : p.tables.exec = Jvm.exec) (hb : c.code = cc) (hl : l.stackTraces = false) {own cls text : String} {names : List String} {ik is ic mc ms sa : Nat} {A : Nat → Prop}
    (hown : s.vm.findClass own = some m.cls) (hcls : Bundle.fit cls = true) (hnames : ∀ n ∈ names, Bundle.fit n = true)
    (hk : (Cond.classLink own ik cls).before args s = true) (hini : (Cond.initialized cls).before args s = true) (hstr : vk_R own is text sa s) (hat : ∀ w ∈ vx_atS own ic cls names, w.before args s = true)
    (hgood : ∀ w ∈ Cond.classLink own ik cls :: Cond.initialized cls :: vx_atS own ic cls names, vx_ot w = true)
    (hU : vx_Zq Bundle.tN "UNASSIGNED_STACK" Bundle.steD A s s.heap) (hN : vx_Zq Bundle.tN "SUPPRESSED_SENTINEL" Bundle.listD A s s.heap) (hS : va_S A s.heap H locs) (hsize : ls.size = c.maxLocals)
    (d0 : decode cc pc = .ok (.new ik, 3)) (d3 : decode cc (pc + 3) = .ok (.dup, 1)) (d4 : decode cc (pc + 4) = .ok (.ldc_w is, 3)) (d7 : decode cc (pc + 7) = .ok (.invokespecial ic, 3)) (d10 : decode cc (pc + 10) = .ok (.athrow, 1))
    (hout : ∀ x ∈ c.exceptionTable.toList, covers x (pc + 10) = false)
    (hRframes : names.length + 3 < R.frames) (hRlocals : (rest.map fun v => v.category).sum + (13 * (names.length + 1) + 43) ≤ R.locals) (hRcells : cells + 1 ≤ R.cells) (hRslots : slots + 6 ≤ R.slots) (hlocks : meth.locks = false)
    (hx : ∀ t : State, s.vm.Alike t.vm → H.size ≤ t.heap.size → (∀ q : Nat, q < H.size → t.heap[q]? = H[q]?) → XC cls s t)
    (hf : ∀ z ∈ locs, free z.base) (hc : cells + 1 ≤ mc) (hs : slots + 6 ≤ ms) :
    W p l e R s m args below meth c H locs cells slots (vx_MQ below Qc XC args s mc ms free) (F0 m pc ls rest) := by
  intro T hT X
  have htr : e.platform.stackTraces = false := (show e.platform.stackTraces = l.stackTraces by rw [X.admits.platform]).trans hl
  have Y := vx_rebase X (R' := { frames := R.frames, locals := R.locals, cells := 1, slots := 6 }) (Nat.le_refl _) (Nat.le_refl _) hRcells hRslots
  obtain ⟨s', hA⟩ : ∃ z, z = (T.setVm s.vm).setFrames (.invoking m args :: below) := ⟨_, rfl⟩
  rw [← hA] at Y
  have hvm : s'.vm = s.vm := by rw [hA]; rfl
  have hhp : s'.heap = H := by rw [hA]; exact hT
  have hW0 : s.WarmedH s'.vm := by rw [hvm]; exact State.WarmedH.refl s
  have hat' : ∀ w ∈ vx_atS own ic cls names, w.before args s' = true := fun w hw => vx_ot_at hW0 hvm.symm (hgood w (List.mem_cons_of_mem _ (List.mem_cons_of_mem _ hw))) (hat w hw)
  have hk' : (Cond.classLink own ik cls).before args s' = true := vx_ot_at hW0 hvm.symm (hgood _ List.mem_cons_self) hk
  have hini' : (Cond.initialized cls).before args s' = true := vx_ot_at hW0 hvm.symm (hgood _ (List.mem_cons_of_mem _ List.mem_cons_self)) hini
  have hU' : vx_Zq Bundle.tN "UNASSIGNED_STACK" Bundle.steD A s' s'.heap := by rw [hhp]; exact vx_Zq.moved hW0.alike (hU.kept hS.2.1)
  have hN' : vx_Zq Bundle.tN "SUPPRESSED_SENTINEL" Bundle.listD A s' s'.heap := by rw [hhp]; exact vx_Zq.moved hW0.alike (hN.kept hS.2.1)
  have h : ∀ w ∈ Bundle.ownAtoms own ic cls names, w.before args s' = true := vx_own hat' (vx_isRefq hU'.1) (vx_isRefq hN'.1) hU'.2.word hN'.2.word
  have hown' : s'.vm.findClass own = some m.cls := by rw [hvm]; exact hown
  have hins : (Cond.instantiable cls 6).before args s' = true := h _ (by simp [Bundle.ownAtoms])
  obtain ⟨vm₁, cX, kX, hfX, hkX, -, -, X₁, st1⟩ := Y.newCold hexec (own := own) (C := cls) (index := ik) (n := 6) hown' hk' hins hini'
    (g := F0 m pc ls rest) rfl (by rw [hb]; exact d0) (Nat.le_refl _) (Nat.le_refl _)
  generalize hT1 : (T.setVm vm₁).pushCell { cls := cX, slots := kX.instanceTypes.map defaultValue, vm := .none } = T1 at X₁ st1
  have hcat : (Value.ref T.heap.size).category = 1 := rfl
  have hcellA : T1.heap[T.heap.size]? = some (freshCell cX kX) := by rw [← hT1]; exact State.heap_pushCell_size _ _
  have d3' : decode c.code (pc + 3) = .ok (.dup, 1) := by rw [hb]; exact d3
  have d4' : decode c.code (pc + 4) = .ok (.ldc_w is, 3) := by rw [hb]; exact d4
  have hstr' : vk_R own is text sa s' := vk_R.warm hW0 hstr
  obtain ⟨U, hsteps, hrun, hend, hW, hsame, ce, hce, hO⟩ := X₁.ctorThrowS hexec htr (own := own) (cls := cls) (names := names) (ic := ic) hown' hcls hnames h (fun x hx => nomatch hx) hfX hkX hcellA (by rw [hhp, hT]; exact Nat.le_refl _) (msg := .ref sa) rfl
    (g := { method := m, pc := pc + 7, locals := ls, stack := .ref sa :: .ref T.heap.size :: .ref T.heap.size :: rest, locked := none }) rfl hsize rfl rfl (rest := rest) rfl
    (by rw [hb]; exact d7) (by rw [hb]; exact d10) hout hRframes (by simp only [List.map_cons, List.sum_cons, hcat]; omega) hlocks
  obtain ⟨f1, f2⟩ := vx_frame hsame
  rw [hhp] at f1 f2
  have hWs : s.WarmedH U.vm := State.WarmedH.trans hW0 hW
  have hcl : s.vm.findClass cls = some ce.cls := by
    have h9 := hO.cls
    rw [hvm] at h9
    exact h9
  have hall : s.sameButNew ({ U with vm := s.vm } : State) locs mc ms := by
    subst hA
    obtain ⟨e1, e2⟩ := hsame
    rw [State.setFrames_setFrames] at e1
    have h2 : (T.setVm s.vm).sameButNew ({ U with vm := s.vm } : State) [] (0 + 1) (0 + 6) := ⟨e1, e2⟩
    have h3 := X.same.trans h2
    rw [List.append_nil] at h3
    exact h3.mono hc hs
  refine ⟨U, ?_, .threw T.heap.size, hrun, hend, Or.inr ⟨T.heap.size, rfl, cls, ce, locs, hx U hWs.alike f1 (fun q hq => f2 q hq (fun z hz => nomatch hz)), hce, hO.vm, hcl, hWs, hall, hf⟩⟩
  refine st1 _ ?_
  show Steps p.tables e below (T1.setTop { method := m, pc := pc + 3, locals := ls, stack := .ref T.heap.size :: rest, locked := none }) _
  jvm_step X₁.here [X₁.here.top, hexec, d3', Value.category]
  exact X₁.ldcStringW hexec (own := own) (text := text) (index := is) (a := sa) hown' hstr'.1 hstr'.2
    (g := { method := m, pc := pc + 4, locals := ls, stack := .ref T.heap.size :: .ref T.heap.size :: rest, locked := none }) rfl d4' _ hsteps
end Ends
section Bodies
variable {l : Launch}
theorem vx_ofW {y : MethodName} {ws ws' : List Cond} {rm : Room} {Pc : Array Value → State → Prop} {Qc : Array Value → State → Outcome → State → Prop} {XC : String → State → State → Prop} {mc ms : Nat} {free : Addr → Prop} {cc : ByteArray} {maxL : Nat} {ret : Option FieldType}
    (hy : plainName y.cls = true) (hw : ws = Cond.code y cc maxL ret :: ws')
    (body : ∀ p e s m args below meth c s₁, BodyLoose p l y (headSpec ws rm) cc maxL ret e s m args below meth c s₁ → c.maxLocals = maxL → (∀ x ∈ c.exceptionTable.toList, False) → Pc args s →
      W p l e (headSpec ws rm).room s m args below meth c s.heap [] 0 0 (vx_MQ below Qc XC args s mc ms free) (entryFrame m args maxL)) : vx_Met l y ws rm Pc Qc XC mc ms free := by
  refine MetFree.of_bodyS (code := cc) (maxLocals := maxL) (ret := ret) hy ?_ ?_
  · intro args s m h hn
    obtain ⟨meth, c, h1, h2, h3, h4, h5, h6, -, -⟩ := Cond.code_spec hn (atoms_spec (ws := ws) h _ (by rw [hw]; exact List.mem_cons_self))
    exact ⟨meth, c, h1, h2, h3, h4, h5, h6⟩
  · intro p e s m args below meth c s₁ B hml hP _
    have hh0 : s₁.heap = s.heap := by rw [B.state]; rfl
    have ht : ∀ x ∈ c.exceptionTable.toList, False := by
      obtain ⟨meth9, c9, h1, h2, -, -, -, -, h7, -⟩ := Cond.code_spec B.named (atoms_spec (ws := ws) B.pre _ (by rw [hw]; exact List.mem_cons_self))
      cases Option.some.inj (h1.symm.trans B.method)
      cases Option.some.inj (h2.symm.trans (Stand.of_body B).code)
      intro x hx
      rw [Array.isEmpty_iff.mp h7] at hx
      cases hx
    obtain ⟨t, a1, o, b1, b2, b3⟩ := body p e s m args below meth c s₁ B hml ht hP s₁ hh0 (Stand.of_body B)
    exact ⟨t, o, a1, b1, b2, b3⟩
/-- the table of a body with handlers -/
theorem vx_table {p : Program} {x y : MethodName} {S : Spec} {cc bytes : ByteArray} {maxL maxL' : Nat} {ret ret' : Option FieldType} {e : Env} {s s₁ : State} {m : MethodId} {args : Array Value} {below : List Frame} {meth : Method} {c : Code} {hh : List (Nat × Nat × Nat × Nat)}
    (B : BodyLoose p l y S cc maxL ret e s m args below meth c s₁) (h : (Cond.codeWith y bytes maxL' ret' hh).before args s = true) : c.exceptionTable.toList = tableOf hh := by
  obtain ⟨m9, meth9, c9, hn9, h1, h2, -, -, h6, -⟩ := Cond.codeWith_spec h
  cases Option.some.inj (hn9.symm.trans B.named)
  cases Option.some.inj (h1.symm.trans B.method)
  cases Option.some.inj (h2.symm.trans (Stand.of_body B).code)
  rw [← h6, table_eq]
end Bodies
end VXA
/-! ===== END ===== -/
/-! ===== BEGIN a static call of a method with an exception table ===== -/
section VXS
variable {p : Program} {l : Launch} {e : Env} {R : Room} {s : State} {m : MethodId} {args : Array Value} {below : List Frame} {meth : Method} {c : Code} {T : State} {H : Heap} {locs : List Loc} {cells slots : Nat}
abbrev vx_CSW (R : Room) (s : State) (args : Array Value) (own : String) (index : Nat) (y : MethodName) (bytes : ByteArray) (maxL : Nat) (ret : Option FieldType) (hh : List (Nat × Nat × Nat × Nat)) (ws : List Cond) (rm : Room) (mc ms n : Nat) : Prop :=
  (rm.cells = mc ∧ rm.slots = ms ∧ rm.frames + 1 ≤ R.frames ∧ 8 + (maxL + 11) + rm.locals ≤ R.locals ∧ (∀ w ∈ ws, ∀ (a' : Array Value) (U : State), s.WarmedH U.vm → w.before a' U = true) ∧ Cond.codeWith y bytes maxL ret hh ∈ ws) ∧
  (Cond.codeWith y bytes maxL ret hh).before args s = true ∧ (Cond.initialized y.cls).before args s = true ∧ (y.cls ≠ "java/lang/invoke/MethodHandle" ∧ y.cls ≠ "java/lang/invoke/VarHandle") ∧
  (∀ sig, parseMethodDescriptor y.desc = some sig → n = sig.parameters.length) ∧ (Cond.methodLink own index y).before args s = true ∧ (Cond.static y).before args s = true
theorem vx_cwSW {own : String} {index maxL mc ms : Nat} {y : MethodName} {bytes : ByteArray} {ret : Option FieldType} {hh : List (Nat × Nat × Nat × Nat)} {Ts ws ws' : List Cond} {rm : Room} (n : Nat) (ht : ∀ w ∈ Ts, w.before args s = true) (hT : GoodIn Ts (va_wsS own index y ws)) (hw : ws = Cond.codeWith y bytes maxL ret hh :: ws') (hrc : rm.cells = mc) (hrs : rm.slots = ms)
    (hd : y.cls ≠ "java/lang/invoke/MethodHandle" ∧ y.cls ≠ "java/lang/invoke/VarHandle" ∧ (parseMethodDescriptor y.desc).map (fun d => d.parameters.length) = some n) (hR : rm.frames + 1 ≤ R.frames ∧ 8 + (maxL + 11) + rm.locals ≤ R.locals) :
    vx_CSW R s args own index y bytes maxL ret hh ws rm mc ms n := by
  have ok : ∀ w ∈ va_wsS own index y ws, w.before args s = true := fun w h => ht w (hT w h).1
  have hG : GoodIn Ts ws := fun w h => hT w (by unfold va_wsS; exact List.mem_append_right _ h)
  have hc : Cond.codeWith y bytes maxL ret hh ∈ ws := by rw [hw]; exact List.mem_cons_self
  refine ⟨⟨hrc, hrs, hR.1, hR.2, pay_in ht hG, hc⟩, ht _ (hG _ hc).1, ok _ (by simp [va_wsS]), ⟨hd.1, hd.2.1⟩, fun sig h => ?_, ok _ (by simp [va_wsS]), ok _ (by simp [va_wsS])⟩
  have h2 := hd.2.2
  rw [h] at h2
  exact (Option.some.inj h2).symm
theorem vx_callSW (X : Stand p l e R s m args below meth c T locs cells slots) (hexec : p.tables.exec = Jvm.exec) {own : String} {index : Nat} {y : MethodName} {bytes : ByteArray} {maxL : Nat} {ret : Option FieldType} {hh : List (Nat × Nat × Nat × Nat)}
    (hown : s.vm.findClass own = some m.cls) (hlink : (Cond.methodLink own index y).before args s = true) (hstat : (Cond.static y).before args s = true) (hinit : (Cond.initialized y.cls).before args s = true)
    (hcode : (Cond.codeWith y bytes maxL ret hh).before args s = true) (hy : y.cls ≠ "java/lang/invoke/MethodHandle" ∧ y.cls ≠ "java/lang/invoke/VarHandle")
    {W9 : Nat} {Pre : Pt → Array Value → Prop} {Post : Pt → Array Value → Option Value → Pt → Prop} (hK : Back l R p e below s args y 3 W9 Pre Post)
    {g : JFrame} (hg : g.method = m) (hsize : g.locals.size = c.maxLocals) {argsL rest : List Value} (hlen : ∀ sig, parseMethodDescriptor y.desc = some sig → argsL.length = sig.parameters.length)
    (hstack : g.stack = argsL.reverse ++ rest) (hW : 2 * g.monitorRoom + (rest.map fun v => v.category).sum ≤ W9) (hdg : decode c.code g.pc = .ok (.invokestatic index, 3))
    (hpre : ∀ vm₁, s.WarmedH vm₁ → Pre ⟨T.setVm vm₁, locs, cells, slots⟩ argsL.toArray) :
    ∃ (v : Option Value) (vm₁ : Vm) (B : Pt), s.WarmedH vm₁ ∧ Stand p l e R s m args below meth c B.U B.locs B.cells B.slots ∧ Post ⟨T.setVm vm₁, locs, cells, slots⟩ argsL.toArray v B ∧
      ∀ target, Steps p.tables e below (B.U.setTop { g with pc := g.pc + 3, stack := v.toList ++ rest }) target → Steps p.tables e below (T.setTop g) target := by
  obtain ⟨mk, methM, cM, hnamed, hmethM, -, -, -, -, -, -, hsigM⟩ := Cond.codeWith_spec hcode
  have hstatic : methM.isStatic = true := Cond.static_spec hnamed hmethM hstat
  obtain ⟨kP, hkP, -⟩ := className_of_methodNamed hnamed
  have hinitP : kP.init = .initialized := Cond.initialized_spec (findClass_of_methodNamed hnamed) hkP hinit
  obtain ⟨vm₁, X₁, hstep₁⟩ := X.invokestatic hexec hown hlink hnamed hmethM hstatic hkP hinitP hy (g := g) hg (argsL := argsL) (rest := rest) (hlen _ hsigM) hstack hdg
  obtain ⟨v, B, X', hpost, hsteps⟩ := hK m meth c ⟨T.setVm vm₁, locs, cells, slots⟩ { g with stack := rest } (.invokestatic index) mk argsL.toArray X₁ hg hsize hdg hW (X₁.named hnamed) (hpre vm₁ X₁.warmed)
  exact ⟨v, vm₁, B, X₁.warmed, X', hpost, fun target h => hstep₁ _ fun acts => by rw [doInvoke_state]; exact hsteps.trans h⟩
theorem vx_runSW {y : MethodName} {bytes cc : ByteArray} {maxL nL mc ms n index : Nat} {ret : Option FieldType} {hh : List (Nat × Nat × Nat × Nat)} {ws : List Cond} {rm : Room} {Pc : Array Value → State → Prop} {Qc : Array Value → State → Outcome → State → Prop} {free : Addr → Prop} {Ts : List Cond} {own : String} {As rest : List Value} {g : JFrame}
    (S : CallFix p m c cc nL s args Ts own) (hM : Met l y ws rm Pc Qc mc ms free) (cw : vx_CSW R s args own index y bytes maxL ret hh ws rm mc ms n) (hp : PreS s H Pc As)
    (hg : g.method = m) (hn : As.length = n) (hsize : g.locals.size = nL) (hstack : g.stack = As.reverse ++ rest) (hW : 2 * g.monitorRoom + (rest.map fun v => v.category).sum ≤ 8) (hdg : decode cc g.pc = .ok (.invokestatic index, 3)) (hf : cells + mc ≤ R.cells ∧ slots + ms ≤ R.slots) :
    va_Run p l e R s m args below meth c H locs cells slots mc ms g rest (Qc As.toArray) (free) := by
  obtain ⟨⟨hrc, hrs, hfr, hlo, hws, hcw⟩, hcode, hini, hy, hlen, hl, hstt⟩ := cw
  have hK : Back l R p e below s args y 3 8 (PreOf R mc ms Pc) (PostOf Qc mc ms free) := va_backW (hh := hh) (bytes := bytes) (maxL := maxL) (ret := ret) hM hp.1 hrc hrs hfr hlo hws hcw (fun a' U hW => word_at hW (Or.inl (by first | rfl | simp [Cond.onTables, Cond.keeps, Cond.steady])) hini)
  obtain ⟨hx, hb, hml, ho, -⟩ := S
  intro T hT X
  obtain ⟨v, vm₁, ⟨U', l2, c2, s2⟩, hW₁, X', ⟨g', mk, t, L, e1, e2, hq, h1, hL, h2, h3⟩, st⟩ := vx_callSW X hx (hh := hh) (bytes := bytes) (maxL := maxL) (ret := ret) ho hl hstt hini hcode hy hK hg (hsize.trans hml.symm) (argsL := As) (rest := rest) (fun sig h => hn.trans (hlen sig h)) hstack hW (by rw [hb]; exact hdg)
    (fun vm₁ hW₁ => ⟨hf.1, hf.2, hp.2 (T.setVm vm₁) hT hW₁⟩)
  dsimp only [Pt.U, Pt.locs, Pt.cells, Pt.slots] at X' e1 e2 h1 h2 h3 st
  subst h1; subst h2; subst h3
  exact ⟨v, (T.setVm vm₁).calling g' mk As.toArray, t, U', L, hT, X', hL, e1, e2, hq, st⟩
/-- a thing of a world lies in the heap -/
theorem vx_lt {D : va_G} {cl : List vw_C} {ws : va_W} {H1 : Heap} (h : va_P D cl ws H1) {k : Nat} {q : Nat × va_E} (hk : ws[k]? = some q) : q.1 < H1.size := (h k q hk).lt
end VXS
/-! ===== END ===== -/
/-! ===== BEGIN methods with a table of their own: called by a name, returning or throwing ===== -/
section VXH
/-! vx_backW, vx_callVX, vx_callSX, vx_callVW, vx_runVW, vx_runVX, vx_runSX, vx_ofWH follow the same proofs as their sisters above (Free/Laws.lean, Shelf42/LK1.lean); vx_outP calls Shelf42/NT130.lean (outThrough). -/
section
variable {l : Launch} {R : Room} {p : Program} {e : Env} {below : List Frame} {s : State} {sargs : Array Value} {y : MethodName} {len W9 : Nat}
theorem vx_backW {ws : List Cond} {rm : Room} {Pc : Array Value → State → Prop} {Qc : Array Value → State → Outcome → State → Prop} {XC : String → State → State → Prop} {mc ms : Nat} {free : Addr → Prop} {bytes : ByteArray} {maxL : Nat} {ret : Option FieldType} {hh : List (Nat × Nat × Nat × Nat)}
    (hM : vx_Met l y ws rm Pc Qc XC mc ms free) (hblind : FrameBlind Pc) (hrc : rm.cells = mc) (hrs : rm.slots = ms)
    (hframes : rm.frames + 1 ≤ R.frames) (hlocals : W9 + (maxL + 11) + rm.locals ≤ R.locals)
    (hws : ∀ w ∈ ws, ∀ a' U, s.WarmedH U.vm → w.before a' U = true) (hcode : Cond.codeWith y bytes maxL ret hh ∈ ws) (hinit : ∀ a' U, s.WarmedH U.vm → (Cond.initialized y.cls).before a' U = true) :
    vx_Back l R p e below s sargs y len W9 (PreOf R mc ms Pc) (PostOf Qc mc ms free) (vx_Post XC mc ms free) := by
  intro m meth c A g ig mk a X hg hsize hdg hW hn hp
  have h1 : (headSpec ws rm).pre.before a A.U = true := atoms_intro fun w hw => hws w hw _ _ X.warmed
  have h2 : (Cond.codeWith y bytes maxL ret hh).before a A.U = true := hws _ hcode _ _ X.warmed
  have h3 : (Cond.initialized y.cls).before a A.U = true := hinit _ _ X.warmed
  have h4 : A.cells + (headSpec ws rm).room.cells ≤ R.cells := by rw [show (headSpec ws rm).room.cells = mc from hrc]; exact hp.1
  have h5 : A.slots + (headSpec ws rm).room.slots ≤ R.slots := by rw [show (headSpec ws rm).room.slots = ms from hrs]; exact hp.2.1
  have hPc : Pc a (A.U.calling g mk a) := hblind _ _ _ _ hp.2.2
  obtain ⟨U, Ls, c0, s0⟩ := A
  dsimp only [Pt.U, Pt.locs, Pt.cells, Pt.slots] at h1 h2 h3 h4 h5 X hn hPc ⊢
  obtain ⟨m9, methY, cY, hn9, hmY, hcY, -, hlY, -⟩ := Cond.codeWith_spec h2
  cases Option.some.inj (hn9.symm.trans hn)
  obtain ⟨kY, hkY, -⟩ := className_of_methodNamed hn
  have hinitY : kY.init = .initialized := Cond.initialized_spec (findClass_of_methodNamed hn) hkY h3
  have h : At U g.method c below := by rw [hg]; exact X.here
  have hlocals9 : W9 + (maxL + 11) + (headSpec ws rm).room.locals ≤ R.locals := hlocals
  have happ : (headSpec ws rm).appliesLoose y e.platform (U.calling g mk a) = true :=
    Spec.appliesLoose_calling (g := g) h hdg hn hkY hinitY
      (X.room_calling (g := g) (R' := (headSpec ws rm).room) hsize hmY hcY hframes (by rw [hlY]; omega) h4 h5) h1
  obtain ⟨mid, hmid⟩ := h.above
  have hfr : (U.setTop g).frames = (.java g :: mid) ++ below := by rw [State.frames_setTop' g h.top, hmid]; rfl
  obtain ⟨o, s₂, hsteps, -, hend, hq⟩ := Steps.callFree hM p X.admits X.cas X.clock (acts := []) hfr happ hPc trivial
  have hq' : vx_Q Qc XC mc ms free a (U.calling g mk a) o s₂ := hq
  rw [State.frames_setTop' g h.top] at hend
  obtain ⟨g₀, hg0⟩ := Option.isSome_iff_exists.mp h.top
  obtain ⟨r, hr⟩ := State.topJava?_eq_some.mp hg0
  have hr' : (({ U with heap := s₂.heap, slotsUsed := s₂.slotsUsed } : State).setVm s₂.vm).frames = .java g₀ :: r := hr
  rcases hq' with ⟨hqc, L, hfe, hL⟩ | ⟨q, rfl, E, ce, L, hx, hce, hcv, hcl, hW₂, hsm, hL⟩
  · obtain ⟨⟨v, rfl⟩, hW₂, e2, q2, q3, q4, q5, q6⟩ := id hfe
    have e3 : s₂ = ({ (U.calling g mk a).setFrames s₂.frames with heap := s₂.heap, slotsUsed := s₂.slotsUsed } : State).setVm s₂.vm := by
      have : s₂ = ({ s₂ with vm := (U.calling g mk a).vm } : State).setVm s₂.vm := rfl
      rw [e2] at this
      exact this
    obtain ⟨c₂, i₂, len₂, hc₂, hd₂, hf₂⟩ := hend
    have hW' : U.WarmedH s₂.vm := hW₂
    have hcc : c₂ = c := by
      have h1 : s₂.code? g.method = U.code? g.method := by
        rw [State.code?_eq, State.code?_eq, hW'.alike.method?]
      exact Option.some.inj (hc₂.symm.trans (h1.trans h.code))
    subst hcc
    have hlen : len₂ = len := by rw [hdg] at hd₂; cases hd₂; rfl
    subst hlen
    have hs₂ : s₂ = (({ U with heap := s₂.heap, slotsUsed := s₂.slotsUsed } : State).setVm s₂.vm).setTop { g with pc := g.pc + len₂, stack := v.toList ++ g.stack } := by
      refine e3.trans ?_
      rw [hf₂, State.calling_eq h.top, State.setFrames_setFrames, State.setTop_of_frames _ hr', hr]
      rfl
    have hsame : U.sameButNew ({ U with heap := s₂.heap, slotsUsed := s₂.slotsUsed } : State) L mc ms := by
      refine ⟨?_, q2, q3, q4, q5, q6⟩
      obtain ⟨t, ht, -⟩ := State.frames_cons hr
      show ({ U with heap := s₂.heap, slotsUsed := s₂.slotsUsed } : State) = { U.setFrames U.frames with heap := s₂.heap, slotsUsed := s₂.slotsUsed }
      rw [State.setFrames_self ht]
    subst hg
    refine Or.inl ⟨v, ⟨(({ U with heap := s₂.heap, slotsUsed := s₂.slotsUsed } : State).setVm s₂.vm), Ls ++ L, c0 + mc, s0 + ms⟩,
      ⟨X.admits, X.cas, X.clock, X.frames, X.room, X.hears, X.method, X.code, (X.here.setHeapUsed s₂.heap s₂.slotsUsed).setVm hW'.alike, X.tail, State.WarmedH.trans X.warmed hW', X.limits, X.bytes, X.same.trans (hsame.setVm s.vm)⟩,
      ⟨g, mk, s₂, L, rfl, rfl, hqc, rfl, hL, rfl, rfl⟩, ?_⟩
    show Steps p.tables e below _ ((({ U with heap := s₂.heap, slotsUsed := s₂.slotsUsed } : State).setVm s₂.vm).setTop { g with pc := g.pc + len₂, stack := v.toList ++ g.stack })
    rw [← hs₂]
    exact hsteps
  · obtain ⟨e2, q2, q3, q4, q5, q6⟩ := id hsm
    have e3 : s₂ = ({ (U.calling g mk a).setFrames s₂.frames with heap := s₂.heap, slotsUsed := s₂.slotsUsed } : State).setVm s₂.vm := by
      have : s₂ = ({ s₂ with vm := (U.calling g mk a).vm } : State).setVm s₂.vm := rfl
      rw [e2] at this
      exact this
    have hf₂ : s₂.frames = .throwing q :: .java g :: U.frames.tail := hend
    have hW' : U.WarmedH s₂.vm := hW₂
    have hs₂ : s₂ = ((({ U with heap := s₂.heap, slotsUsed := s₂.slotsUsed } : State).setVm s₂.vm).setTop g).pushFrame (.throwing q) := by
      refine e3.trans ?_
      rw [hf₂, State.calling_eq h.top, State.setFrames_setFrames, State.pushFrame, State.frames_setTop _ hr', State.setTop_of_frames _ hr', State.setFrames_setFrames, hr]
      rfl
    have hsame : U.sameButNew ({ U with heap := s₂.heap, slotsUsed := s₂.slotsUsed } : State) L mc ms := by
      refine ⟨?_, q2, q3, q4, q5, q6⟩
      obtain ⟨t, ht, -⟩ := State.frames_cons hr
      show ({ U with heap := s₂.heap, slotsUsed := s₂.slotsUsed } : State) = { U.setFrames U.frames with heap := s₂.heap, slotsUsed := s₂.slotsUsed }
      rw [State.setFrames_self ht]
    subst hg
    refine Or.inr ⟨q, ⟨(({ U with heap := s₂.heap, slotsUsed := s₂.slotsUsed } : State).setVm s₂.vm), Ls ++ L, c0 + mc, s0 + ms⟩,
      ⟨X.admits, X.cas, X.clock, X.frames, X.room, X.hears, X.method, X.code, (X.here.setHeapUsed s₂.heap s₂.slotsUsed).setVm hW'.alike, X.tail, State.WarmedH.trans X.warmed hW', X.limits, X.bytes, X.same.trans (hsame.setVm s.vm)⟩,
      ⟨g, mk, s₂, L, E, ce, rfl, rfl, hx, hce, hcv, hcl, rfl, hL, rfl, rfl⟩, ?_⟩
    show Steps p.tables e below _ (((({ U with heap := s₂.heap, slotsUsed := s₂.slotsUsed } : State).setVm s₂.vm).setTop g).pushFrame (.throwing q))
    rw [← hs₂]
    exact hsteps
end
variable {p : Program} {l : Launch} {e : Env} {R : Room} {s : State} {m : MethodId} {args : Array Value} {below : List Frame} {meth : Method} {c : Code} {T : State} {H : Heap} {locs : List Loc} {cells slots : Nat}
theorem vx_callVX (X : Stand p l e R s m args below meth c T locs cells slots) (hexec : p.tables.exec = Jvm.exec) {own C : String} {index : Nat} {y : MethodName} {bytes : ByteArray} {maxL : Nat} {ret : Option FieldType} {hh : List (Nat × Nat × Nat × Nat)}
    (hown : s.vm.findClass own = some m.cls) (hlink : (Cond.methodLink own index y).before args s = true) (hinst : (Cond.instanceMethod y).before args s = true) (hsel : (Cond.selects C y y).before args s = true)
    (hcode : (Cond.codeWith y bytes maxL ret hh).before args s = true) (hy : y.cls ≠ "java/lang/invoke/MethodHandle" ∧ y.cls ≠ "java/lang/invoke/VarHandle")
    {W9 : Nat} {Pre : Pt → Array Value → Prop} {Post : Pt → Array Value → Option Value → Pt → Prop} {PostX : Pt → Array Value → Addr → Pt → Prop} (hK : vx_Back l R p e below s args y 3 W9 Pre Post PostX)
    {b : Addr} {cellB : Cell} (hcell : T.heap[b]? = some cellB) (hobj : cellB.vm.isStatics = false) (hcls : s.vm.findClass C = some cellB.cls)
    {g : JFrame} (hg : g.method = m) (hsize : g.locals.size = c.maxLocals) {argsL rest : List Value} (hlen : ∀ sig, parseMethodDescriptor y.desc = some sig → argsL.length = sig.parameters.length)
    (hstack : g.stack = argsL.reverse ++ .ref b :: rest) (hW : 2 * g.monitorRoom + (rest.map fun v => v.category).sum ≤ W9) (hdg : decode c.code g.pc = .ok (.invokevirtual index, 3))
    (hpre : ∀ vm₁, s.WarmedH vm₁ → Pre ⟨T.setVm vm₁, locs, cells, slots⟩ (Value.ref b :: argsL).toArray) :
    (∃ (v : Option Value) (vm₁ : Vm) (B : Pt), s.WarmedH vm₁ ∧ Stand p l e R s m args below meth c B.U B.locs B.cells B.slots ∧ Post ⟨T.setVm vm₁, locs, cells, slots⟩ (Value.ref b :: argsL).toArray v B ∧
      ∀ target, Steps p.tables e below (B.U.setTop { g with pc := g.pc + 3, stack := v.toList ++ rest }) target → Steps p.tables e below (T.setTop g) target) ∨
    (∃ (q : Addr) (vm₁ : Vm) (B : Pt), s.WarmedH vm₁ ∧ Stand p l e R s m args below meth c B.U B.locs B.cells B.slots ∧ PostX ⟨T.setVm vm₁, locs, cells, slots⟩ (Value.ref b :: argsL).toArray q B ∧
      Steps p.tables e below (T.setTop g) ((B.U.setTop { g with stack := rest }).pushFrame (.throwing q))) := by
  obtain ⟨mk, methM, hnamed, hmethM, hstM, habM⟩ := Cond.instanceMethod_spec hinst
  obtain ⟨m8, methM', cM, hn8, hmethM', -, -, -, -, -, -, hsigM⟩ := Cond.codeWith_spec hcode
  cases Option.some.inj (hn8.symm.trans hnamed)
  cases hmethM.symm.trans hmethM'
  obtain ⟨c2, r2, m2, q1, q2, q3, q4, kP, hkP, hkPi⟩ := Cond.selects_spec hsel
  cases hcls.symm.trans q1
  cases (State.methodFound?_of_named hnamed hy).symm.trans q2
  cases hnamed.symm.trans q3
  have hselP : selectMethod e.platform s.vm cellB.cls mk = .method mk := by rw [Launch.admits_selectMethod X.admits]; exact q4
  obtain ⟨vm₁, X₁, hstep₁⟩ := X.invokevirtual hexec hown hlink hnamed hmethM hstM hkP hkPi hy (a := b) (cell := cellB) hcell
    (fun z h => by rw [h] at hobj; cases hobj) hselP hmethM habM hkP hkPi (g := g) hg (argsL := argsL) (rest := rest) (hlen _ hsigM) hstack hdg
  rcases hK m meth c ⟨T.setVm vm₁, locs, cells, slots⟩ { g with stack := rest } (.invokevirtual index) mk (Value.ref b :: argsL).toArray X₁ hg hsize hdg hW (X₁.named hnamed) (hpre vm₁ X₁.warmed) with ⟨v, B, X', hpost, hsteps⟩ | ⟨q, B, X', hpost, hsteps⟩
  · exact Or.inl ⟨v, vm₁, B, X₁.warmed, X', hpost, fun target h => hstep₁ _ fun acts => by rw [doInvoke_state]; exact hsteps.trans h⟩
  · exact Or.inr ⟨q, vm₁, B, X₁.warmed, X', hpost, hstep₁ _ fun acts => by rw [doInvoke_state]; exact hsteps⟩
theorem vx_callSX (X : Stand p l e R s m args below meth c T locs cells slots) (hexec : p.tables.exec = Jvm.exec) {own : String} {index : Nat} {y : MethodName} {bytes : ByteArray} {maxL : Nat} {ret : Option FieldType} {hh : List (Nat × Nat × Nat × Nat)}
    (hown : s.vm.findClass own = some m.cls) (hlink : (Cond.methodLink own index y).before args s = true) (hstat : (Cond.static y).before args s = true) (hinit : (Cond.initialized y.cls).before args s = true)
    (hcode : (Cond.codeWith y bytes maxL ret hh).before args s = true) (hy : y.cls ≠ "java/lang/invoke/MethodHandle" ∧ y.cls ≠ "java/lang/invoke/VarHandle")
    {W9 : Nat} {Pre : Pt → Array Value → Prop} {Post : Pt → Array Value → Option Value → Pt → Prop} {PostX : Pt → Array Value → Addr → Pt → Prop} (hK : vx_Back l R p e below s args y 3 W9 Pre Post PostX)
    {g : JFrame} (hg : g.method = m) (hsize : g.locals.size = c.maxLocals) {argsL rest : List Value} (hlen : ∀ sig, parseMethodDescriptor y.desc = some sig → argsL.length = sig.parameters.length)
    (hstack : g.stack = argsL.reverse ++ rest) (hW : 2 * g.monitorRoom + (rest.map fun v => v.category).sum ≤ W9) (hdg : decode c.code g.pc = .ok (.invokestatic index, 3))
    (hpre : ∀ vm₁, s.WarmedH vm₁ → Pre ⟨T.setVm vm₁, locs, cells, slots⟩ argsL.toArray) :
    (∃ (v : Option Value) (vm₁ : Vm) (B : Pt), s.WarmedH vm₁ ∧ Stand p l e R s m args below meth c B.U B.locs B.cells B.slots ∧ Post ⟨T.setVm vm₁, locs, cells, slots⟩ argsL.toArray v B ∧
      ∀ target, Steps p.tables e below (B.U.setTop { g with pc := g.pc + 3, stack := v.toList ++ rest }) target → Steps p.tables e below (T.setTop g) target) ∨
    (∃ (q : Addr) (vm₁ : Vm) (B : Pt), s.WarmedH vm₁ ∧ Stand p l e R s m args below meth c B.U B.locs B.cells B.slots ∧ PostX ⟨T.setVm vm₁, locs, cells, slots⟩ argsL.toArray q B ∧
      Steps p.tables e below (T.setTop g) ((B.U.setTop { g with stack := rest }).pushFrame (.throwing q))) := by
  obtain ⟨mk, methM, cM, hnamed, hmethM, -, -, -, -, -, -, hsigM⟩ := Cond.codeWith_spec hcode
  have hstatic : methM.isStatic = true := Cond.static_spec hnamed hmethM hstat
  obtain ⟨kP, hkP, -⟩ := className_of_methodNamed hnamed
  have hinitP : kP.init = .initialized := Cond.initialized_spec (findClass_of_methodNamed hnamed) hkP hinit
  obtain ⟨vm₁, X₁, hstep₁⟩ := X.invokestatic hexec hown hlink hnamed hmethM hstatic hkP hinitP hy (g := g) hg (argsL := argsL) (rest := rest) (hlen _ hsigM) hstack hdg
  rcases hK m meth c ⟨T.setVm vm₁, locs, cells, slots⟩ { g with stack := rest } (.invokestatic index) mk argsL.toArray X₁ hg hsize hdg hW (X₁.named hnamed) (hpre vm₁ X₁.warmed) with ⟨v, B, X', hpost, hsteps⟩ | ⟨q, B, X', hpost, hsteps⟩
  · exact Or.inl ⟨v, vm₁, B, X₁.warmed, X', hpost, fun target h => hstep₁ _ fun acts => by rw [doInvoke_state]; exact hsteps.trans h⟩
  · exact Or.inr ⟨q, vm₁, B, X₁.warmed, X', hpost, hstep₁ _ fun acts => by rw [doInvoke_state]; exact hsteps⟩
theorem vx_callVW (X : Stand p l e R s m args below meth c T locs cells slots) (hexec : p.tables.exec = Jvm.exec) {own C : String} {index : Nat} {y : MethodName} {bytes : ByteArray} {maxL : Nat} {ret : Option FieldType} {hh : List (Nat × Nat × Nat × Nat)}
    (hown : s.vm.findClass own = some m.cls) (hlink : (Cond.methodLink own index y).before args s = true) (hinst : (Cond.instanceMethod y).before args s = true) (hsel : (Cond.selects C y y).before args s = true)
    (hcode : (Cond.codeWith y bytes maxL ret hh).before args s = true) (hy : y.cls ≠ "java/lang/invoke/MethodHandle" ∧ y.cls ≠ "java/lang/invoke/VarHandle")
    {W9 : Nat} {Pre : Pt → Array Value → Prop} {Post : Pt → Array Value → Option Value → Pt → Prop} (hK : Back l R p e below s args y 3 W9 Pre Post)
    {b : Addr} {cellB : Cell} (hcell : T.heap[b]? = some cellB) (hobj : cellB.vm.isStatics = false) (hcls : s.vm.findClass C = some cellB.cls)
    {g : JFrame} (hg : g.method = m) (hsize : g.locals.size = c.maxLocals) {argsL rest : List Value} (hlen : ∀ sig, parseMethodDescriptor y.desc = some sig → argsL.length = sig.parameters.length)
    (hstack : g.stack = argsL.reverse ++ .ref b :: rest) (hW : 2 * g.monitorRoom + (rest.map fun v => v.category).sum ≤ W9) (hdg : decode c.code g.pc = .ok (.invokevirtual index, 3))
    (hpre : ∀ vm₁, s.WarmedH vm₁ → Pre ⟨T.setVm vm₁, locs, cells, slots⟩ (Value.ref b :: argsL).toArray) :
    ∃ (v : Option Value) (vm₁ : Vm) (B : Pt), s.WarmedH vm₁ ∧ Stand p l e R s m args below meth c B.U B.locs B.cells B.slots ∧ Post ⟨T.setVm vm₁, locs, cells, slots⟩ (Value.ref b :: argsL).toArray v B ∧
      ∀ target, Steps p.tables e below (B.U.setTop { g with pc := g.pc + 3, stack := v.toList ++ rest }) target → Steps p.tables e below (T.setTop g) target := by
  obtain ⟨mk, methM, hnamed, hmethM, hstM, habM⟩ := Cond.instanceMethod_spec hinst
  obtain ⟨m8, methM', cM, hn8, hmethM', -, -, -, -, -, -, hsigM⟩ := Cond.codeWith_spec hcode
  cases Option.some.inj (hn8.symm.trans hnamed)
  cases hmethM.symm.trans hmethM'
  obtain ⟨c2, r2, m2, q1, q2, q3, q4, kP, hkP, hkPi⟩ := Cond.selects_spec hsel
  cases hcls.symm.trans q1
  cases (State.methodFound?_of_named hnamed hy).symm.trans q2
  cases hnamed.symm.trans q3
  have hselP : selectMethod e.platform s.vm cellB.cls mk = .method mk := by rw [Launch.admits_selectMethod X.admits]; exact q4
  obtain ⟨vm₁, X₁, hstep₁⟩ := X.invokevirtual hexec hown hlink hnamed hmethM hstM hkP hkPi hy (a := b) (cell := cellB) hcell
    (fun z h => by rw [h] at hobj; cases hobj) hselP hmethM habM hkP hkPi (g := g) hg (argsL := argsL) (rest := rest) (hlen _ hsigM) hstack hdg
  obtain ⟨v, B, X', hpost, hsteps⟩ := hK m meth c ⟨T.setVm vm₁, locs, cells, slots⟩ { g with stack := rest } (.invokevirtual index) mk (Value.ref b :: argsL).toArray X₁ hg hsize hdg hW (X₁.named hnamed) (hpre vm₁ X₁.warmed)
  exact ⟨v, vm₁, B, X₁.warmed, X', hpost, fun target h => hstep₁ _ fun acts => by rw [doInvoke_state]; exact hsteps.trans h⟩
abbrev vx_CVW (R : Room) (s : State) (args : Array Value) (own C : String) (index : Nat) (y : MethodName) (bytes : ByteArray) (maxL : Nat) (ret : Option FieldType) (hh : List (Nat × Nat × Nat × Nat)) (ws : List Cond) (rm : Room) (mc ms n : Nat) : Prop :=
  (rm.cells = mc ∧ rm.slots = ms ∧ rm.frames + 1 ≤ R.frames ∧ 8 + (maxL + 11) + rm.locals ≤ R.locals ∧ (∀ w ∈ ws, ∀ (a' : Array Value) (U : State), s.WarmedH U.vm → w.before a' U = true) ∧ Cond.codeWith y bytes maxL ret hh ∈ ws) ∧
  (Cond.codeWith y bytes maxL ret hh).before args s = true ∧ (Cond.initialized y.cls).before args s = true ∧ (y.cls ≠ "java/lang/invoke/MethodHandle" ∧ y.cls ≠ "java/lang/invoke/VarHandle") ∧
  (∀ sig, parseMethodDescriptor y.desc = some sig → n = sig.parameters.length) ∧ (Cond.methodLink own index y).before args s = true ∧ (Cond.instanceMethod y).before args s = true ∧ (Cond.selects C y y).before args s = true
theorem vx_cwVW {own C : String} {index maxL mc ms : Nat} {y : MethodName} {bytes : ByteArray} {ret : Option FieldType} {hh : List (Nat × Nat × Nat × Nat)} {Ts ws ws' : List Cond} {rm : Room} (n : Nat) (ht : ∀ w ∈ Ts, w.before args s = true) (hT : GoodIn Ts (wsV own index C y ws)) (hw : ws = Cond.codeWith y bytes maxL ret hh :: ws') (hrc : rm.cells = mc) (hrs : rm.slots = ms)
    (hd : y.cls = C ∧ y.cls ≠ "java/lang/invoke/MethodHandle" ∧ y.cls ≠ "java/lang/invoke/VarHandle" ∧ (parseMethodDescriptor y.desc).map (fun d => d.parameters.length) = some n) (hR : rm.frames + 1 ≤ R.frames ∧ 8 + (maxL + 11) + rm.locals ≤ R.locals) :
    vx_CVW R s args own C index y bytes maxL ret hh ws rm mc ms n := by
  obtain ⟨hC, hd⟩ := hd
  subst hC
  have ok : ∀ w ∈ wsV own index y.cls y ws, w.before args s = true := fun w h => ht w (hT w h).1
  have hG : GoodIn Ts ws := fun w h => hT w (by unfold wsV; exact List.mem_append_right _ h)
  have hc : Cond.codeWith y bytes maxL ret hh ∈ ws := by rw [hw]; exact List.mem_cons_self
  refine ⟨⟨hrc, hrs, hR.1, hR.2, pay_in ht hG, hc⟩, ht _ (hG _ hc).1, ok _ (by simp [wsV]), ⟨hd.1, hd.2.1⟩, fun sig h => ?_, ok _ (by simp [wsV]), ok _ (by simp [wsV]), ok _ (by simp [wsV])⟩
  have h2 := hd.2.2
  rw [h] at h2
  exact (Option.some.inj h2).symm
theorem vx_runVW {y : MethodName} {bytes cc : ByteArray} {maxL nL mc ms n index : Nat} {ret : Option FieldType} {hh : List (Nat × Nat × Nat × Nat)} {ws : List Cond} {rm : Room} {Pc : Array Value → State → Prop} {Qc : Array Value → State → Outcome → State → Prop} {free : Addr → Prop} {Ts : List Cond} {own C : String} {b : Addr} {As rest : List Value} {g : JFrame}
    (S : CallFix p m c cc nL s args Ts own) (hM : Met l y ws rm Pc Qc mc ms free) (cw : vx_CVW R s args own C index y bytes maxL ret hh ws rm mc ms n) (hp : PreV s H C b Pc As)
    (hg : g.method = m) (hn : As.length = n) (hsize : g.locals.size = nL) (hstack : g.stack = As.reverse ++ .ref b :: rest) (hW : 2 * g.monitorRoom + (rest.map fun v => v.category).sum ≤ 8) (hdg : decode cc g.pc = .ok (.invokevirtual index, 3)) (hf : cells + mc ≤ R.cells ∧ slots + ms ≤ R.slots) :
    va_Run p l e R s m args below meth c H locs cells slots mc ms g rest (Qc (Value.ref b :: As).toArray) free := by
  obtain ⟨⟨hrc, hrs, hfr, hlo, hws, hcw⟩, hcode, hini, hy, hlen, hl, hin, hse⟩ := cw
  have hK : Back l R p e below s args y 3 8 (PreOf R mc ms Pc) (PostOf Qc mc ms free) := va_backW (hh := hh) (bytes := bytes) (maxL := maxL) (ret := ret) hM hp.1 hrc hrs hfr hlo hws hcw (fun a' U hW => word_at hW (Or.inl (by first | rfl | simp [Cond.onTables, Cond.keeps, Cond.steady])) hini)
  obtain ⟨hx, hb, hml, ho, -⟩ := S
  obtain ⟨-, ⟨cellB, hcB, hoB, hclB⟩, hPc⟩ := hp
  intro T hT X
  obtain ⟨v, vm₁, ⟨U', l2, c2, s2⟩, hW₁, X', ⟨g', mk, t, L, e1, e2, hq, h1, hL, h2, h3⟩, st⟩ := vx_callVW X hx (C := C) (hh := hh) (bytes := bytes) (maxL := maxL) (ret := ret) ho hl hin hse hcode hy hK (by rw [hT]; exact hcB) hoB hclB hg (hsize.trans hml.symm) (argsL := As) (rest := rest) (fun sig h => hn.trans (hlen sig h)) hstack hW (by rw [hb]; exact hdg)
    (fun vm₁ hW₁ => ⟨hf.1, hf.2, hPc (T.setVm vm₁) hT hW₁⟩)
  dsimp only [Pt.U, Pt.locs, Pt.cells, Pt.slots] at X' e1 e2 h1 h2 h3 st
  subst h1; subst h2; subst h3
  exact ⟨v, (T.setVm vm₁).calling g' mk (Value.ref b :: As).toArray, t, U', L, hT, X', hL, e1, e2, hq, st⟩
section
variable {y : MethodName} {bytes cc : ByteArray} {maxL nL mc ms n index : Nat} {ret : Option FieldType} {ws : List Cond} {rm : Room} {Pc : Array Value → State → Prop} {Qc : Array Value → State → Outcome → State → Prop} {XC : String → State → State → Prop} {free : Addr → Prop} {Ts : List Cond} {own C : String} {b : Addr} {As rest : List Value} {g : JFrame}
theorem vx_runVX {hh : List (Nat × Nat × Nat × Nat)} (S : CallFix p m c cc nL s args Ts own) (hM : vx_Met l y ws rm Pc Qc XC mc ms free) (cw : vx_CVW R s args own C index y bytes maxL ret hh ws rm mc ms n) (hp : PreV s H C b Pc As)
    (hg : g.method = m) (hn : As.length = n) (hsize : g.locals.size = nL) (hstack : g.stack = As.reverse ++ .ref b :: rest) (hW : 2 * g.monitorRoom + (rest.map fun v => v.category).sum ≤ 8) (hdg : decode cc g.pc = .ok (.invokevirtual index, 3)) (hf : cells + mc ≤ R.cells ∧ slots + ms ≤ R.slots) :
    vx_Run p l e R s m args below meth c H locs cells slots mc ms g rest (Qc (Value.ref b :: As).toArray) XC free := by
  obtain ⟨⟨hrc, hrs, hfr, hlo, hws, hcw⟩, hcode, hini, hy, hlen, hl, hin, hse⟩ := cw
  have hK : vx_Back l R p e below s args y 3 8 (PreOf R mc ms Pc) (PostOf Qc mc ms free) (vx_Post XC mc ms free) := vx_backW (hh := hh) (bytes := bytes) (maxL := maxL) (ret := ret) hM hp.1 hrc hrs hfr hlo hws hcw (fun a' U hW => word_at hW (Or.inl (by first | rfl | simp [Cond.onTables, Cond.keeps, Cond.steady])) hini)
  obtain ⟨hx, hb, hml, ho, -⟩ := S
  obtain ⟨-, ⟨cellB, hcB, hoB, hclB⟩, hPc⟩ := hp
  intro T hT X
  rcases vx_callVX X hx (C := C) (hh := hh) (bytes := bytes) (maxL := maxL) (ret := ret) ho hl hin hse hcode hy hK (by rw [hT]; exact hcB) hoB hclB hg (hsize.trans hml.symm) (argsL := As) (rest := rest) (fun sig h => hn.trans (hlen sig h)) hstack hW (by rw [hb]; exact hdg)
    (fun vm₁ hW₁ => ⟨hf.1, hf.2, hPc (T.setVm vm₁) hT hW₁⟩) with ⟨v, vm₁, ⟨U', l2, c2, s2⟩, hW₁, X', ⟨g', mk, t, L, e1, e2, hq, h1, hL, h2, h3⟩, st⟩ | ⟨q, vm₁, ⟨U', l2, c2, s2⟩, hW₁, X', ⟨g', mk, t, L, E, ce, e1, e2, hq, hce, hcv, hcl, h1, hL, h2, h3⟩, st⟩
  · dsimp only [Pt.U, Pt.locs, Pt.cells, Pt.slots] at X' e1 e2 h1 h2 h3 st
    subst h1; subst h2; subst h3
    exact Or.inl ⟨v, (T.setVm vm₁).calling g' mk (Value.ref b :: As).toArray, t, U', L, hT, X', hL, e1, e2, hq, st⟩
  · dsimp only [Pt.U, Pt.locs, Pt.cells, Pt.slots] at X' e1 e2 h1 h2 h3 st hcl
    subst h1; subst h2; subst h3
    exact Or.inr ⟨q, (T.setVm vm₁).calling g' mk (Value.ref b :: As).toArray, t, U', L, E, ce, hT, X', hL, e1, e2, hq, hce, hcv, vx_cls hW₁ hcl, st⟩
theorem vx_runSX {hh : List (Nat × Nat × Nat × Nat)} (S : CallFix p m c cc nL s args Ts own) (hM : vx_Met l y ws rm Pc Qc XC mc ms free) (cw : vx_CSW R s args own index y bytes maxL ret hh ws rm mc ms n) (hp : PreS s H Pc As)
    (hg : g.method = m) (hn : As.length = n) (hsize : g.locals.size = nL) (hstack : g.stack = As.reverse ++ rest) (hW : 2 * g.monitorRoom + (rest.map fun v => v.category).sum ≤ 8) (hdg : decode cc g.pc = .ok (.invokestatic index, 3)) (hf : cells + mc ≤ R.cells ∧ slots + ms ≤ R.slots) :
    vx_Run p l e R s m args below meth c H locs cells slots mc ms g rest (Qc As.toArray) XC free := by
  obtain ⟨⟨hrc, hrs, hfr, hlo, hws, hcw⟩, hcode, hini, hy, hlen, hl, hstt⟩ := cw
  have hK : vx_Back l R p e below s args y 3 8 (PreOf R mc ms Pc) (PostOf Qc mc ms free) (vx_Post XC mc ms free) := vx_backW (hh := hh) (bytes := bytes) (maxL := maxL) (ret := ret) hM hp.1 hrc hrs hfr hlo hws hcw (fun a' U hW => word_at hW (Or.inl (by first | rfl | simp [Cond.onTables, Cond.keeps, Cond.steady])) hini)
  obtain ⟨hx, hb, hml, ho, -⟩ := S
  intro T hT X
  rcases vx_callSX X hx (hh := hh) (bytes := bytes) (maxL := maxL) (ret := ret) ho hl hstt hini hcode hy hK hg (hsize.trans hml.symm) (argsL := As) (rest := rest) (fun sig h => hn.trans (hlen sig h)) hstack hW (by rw [hb]; exact hdg)
    (fun vm₁ hW₁ => ⟨hf.1, hf.2, hp.2 (T.setVm vm₁) hT hW₁⟩) with ⟨v, vm₁, ⟨U', l2, c2, s2⟩, hW₁, X', ⟨g', mk, t, L, e1, e2, hq, h1, hL, h2, h3⟩, st⟩ | ⟨q, vm₁, ⟨U', l2, c2, s2⟩, hW₁, X', ⟨g', mk, t, L, E, ce, e1, e2, hq, hce, hcv, hcl, h1, hL, h2, h3⟩, st⟩
  · dsimp only [Pt.U, Pt.locs, Pt.cells, Pt.slots] at X' e1 e2 h1 h2 h3 st
    subst h1; subst h2; subst h3
    exact Or.inl ⟨v, (T.setVm vm₁).calling g' mk As.toArray, t, U', L, hT, X', hL, e1, e2, hq, st⟩
  · dsimp only [Pt.U, Pt.locs, Pt.cells, Pt.slots] at X' e1 e2 h1 h2 h3 st hcl
    subst h1; subst h2; subst h3
    exact Or.inr ⟨q, (T.setVm vm₁).calling g' mk As.toArray, t, U', L, E, ce, hT, X', hL, e1, e2, hq, hce, hcv, vx_cls hW₁ hcl, st⟩
end
end VXH
theorem vx_ofWH {l : Launch} {y : MethodName} {ws ws' : List Cond} {rm : Room} {Pc : Array Value → State → Prop} {Qc : Array Value → State → Outcome → State → Prop} {XC : String → State → State → Prop} {mc ms : Nat} {free : Addr → Prop} {cc : ByteArray} {maxL : Nat} {ret : Option FieldType} {hh : List (Nat × Nat × Nat × Nat)}
    (hy : plainName y.cls = true) (hw : ws = Cond.codeWith y cc maxL ret hh :: ws')
    (body : ∀ p e s m args below meth c s₁, BodyLoose p l y (headSpec ws rm) cc maxL ret e s m args below meth c s₁ → c.maxLocals = maxL → Pc args s →
      W p l e (headSpec ws rm).room s m args below meth c s.heap [] 0 0 (vx_MQ below Qc XC args s mc ms free) (entryFrame m args maxL)) : vx_Met l y ws rm Pc Qc XC mc ms free := by
  refine MetFree.of_bodyS (code := cc) (maxLocals := maxL) (ret := ret) hy ?_ ?_
  · intro args s m h hn
    obtain ⟨m9, meth, c, hn9, h1, h2, h3, h4, -, h5, h6, -⟩ := Cond.codeWith_spec (atoms_spec (ws := ws) h _ (by rw [hw]; exact List.mem_cons_self))
    cases hn.symm.trans hn9
    exact ⟨meth, c, h1, h2, h3, h4, h5, h6⟩
  · intro p e s m args below meth c s₁ B hml hP _
    have hh0 : s₁.heap = s.heap := by rw [B.state]; rfl
    obtain ⟨t, a1, o, b1, b2, b3⟩ := body p e s m args below meth c s₁ B hml hP s₁ hh0 (Stand.of_body B)
    exact ⟨t, o, a1, b1, b2, b3⟩
/-! ===== END ===== -/

/-! ===== BEGIN printed: names, fields, word lists, decode rows ===== -/
def RX0 : String := "SelectiveLink$Frame"
def TX0 : u_T := fun k => match k with
  | _ => ("", "", "", false)
def tyX0 : Nat → FieldType := fun k => match k with
  | _ => .int
abbrev wsX00 : List Cond := u_ws RX0 TX0 0
theorem nmX0 : ∀ a, a < 0 → ∀ b, b < 0 → a ≠ b → (TX0 a).2.1 ≠ (TX0 b).2.1 := by decide +kernel
theorem tyX0_ok : ∀ k, k < 0 → parseFieldDescriptor (TX0 k).2.2.1 = some (tyX0 k) := by decide +kernel
abbrev cX0_of : ByteArray := prog_2_method_2_code
def yX0_of : MethodName := ⟨RX0, "of", "(IIII)J"⟩
abbrev cX0_kindOf : ByteArray := prog_2_method_3_code
def yX0_kindOf : MethodName := ⟨RX0, "kindOf", "(J)I"⟩
abbrev cX0_numberOf : ByteArray := prog_2_method_4_code
def yX0_numberOf : MethodName := ⟨RX0, "numberOf", "(J)I"⟩
abbrev cX0_wordOf : ByteArray := prog_2_method_5_code
def yX0_wordOf : MethodName := ⟨RX0, "wordOf", "(J)I"⟩
abbrev cX0_mapOf : ByteArray := prog_2_method_6_code
def yX0_mapOf : MethodName := ⟨RX0, "mapOf", "(J)I"⟩
abbrev cX0_checkSum : ByteArray := prog_2_method_7_code
def yX0_checkSum : MethodName := ⟨RX0, "checkSum", "(J)I"⟩
abbrev cX0_withByte : ByteArray := prog_2_method_8_code
def yX0_withByte : MethodName := ⟨RX0, "withByte", "(II)I"⟩
def RX1 : String := "SelectiveLink$Numbers"
def TX1 : u_T := fun k => match k with
  | _ => ("", "", "", false)
def tyX1 : Nat → FieldType := fun k => match k with
  | _ => .int
abbrev wsX10 : List Cond := u_ws RX1 TX1 0
theorem nmX1 : ∀ a, a < 0 → ∀ b, b < 0 → a ≠ b → (TX1 a).2.1 ≠ (TX1 b).2.1 := by decide +kernel
theorem tyX1_ok : ∀ k, k < 0 → parseFieldDescriptor (TX1 k).2.2.1 = some (tyX1 k) := by decide +kernel
abbrev cX1_plus : ByteArray := prog_3_method_2_code
def yX1_plus : MethodName := ⟨RX1, "plus", "(II)I"⟩
abbrev cX1_distance : ByteArray := prog_3_method_3_code
def yX1_distance : MethodName := ⟨RX1, "distance", "(II)I"⟩
abbrev cX1_slotOf : ByteArray := prog_3_method_4_code
def yX1_slotOf : MethodName := ⟨RX1, "slotOf", "(I)I"⟩
def RX2 : String := "SelectiveLink$Receiver"
def TX2 : u_T := fun k => match k with
  | 0 => ("SelectiveLink$Receiver", "words", "[I", true)
  | 1 => ("SelectiveLink$Receiver", "there", "[Z", true)
  | 2 => ("SelectiveLink$Receiver", "kept", "[I", true)
  | 3 => ("SelectiveLink$Receiver", "window", "I", false)
  | 4 => ("SelectiveLink$Receiver", "first", "I", false)
  | _ => ("SelectiveLink$Receiver", "delivered", "I", false)
def tyX2 : Nat → FieldType := fun k => match k with
  | 0 => .array .int
  | 1 => .array .boolean
  | 2 => .array .int
  | 3 => .int
  | 4 => .int
  | _ => .int
abbrev wsX20 : List Cond := u_ws RX2 TX2 6
theorem nmX2 : ∀ a, a < 6 → ∀ b, b < 6 → a ≠ b → (TX2 a).2.1 ≠ (TX2 b).2.1 := by decide +kernel
theorem tyX2_ok : ∀ k, k < 6 → parseFieldDescriptor (TX2 k).2.2.1 = some (tyX2 k) := by decide +kernel
abbrev cX2_init : ByteArray := prog_4_method_1_code
def yX2_init : MethodName := ⟨RX2, "<init>", "()V"⟩
abbrev cX2_clear : ByteArray := prog_4_method_2_code
def yX2_clear : MethodName := ⟨RX2, "clear", "(I)V"⟩
abbrev cX2_accept : ByteArray := prog_4_method_3_code
def yX2_accept : MethodName := ⟨RX2, "accept", "(II)Z"⟩
abbrev cX2_acknowledgement : ByteArray := prog_4_method_4_code
def yX2_acknowledgement : MethodName := ⟨RX2, "acknowledgement", "()J"⟩
abbrev cX2_behindGap : ByteArray := prog_4_method_5_code
def yX2_behindGap : MethodName := ⟨RX2, "behindGap", "()I"⟩
abbrev cX2_deliveredCount : ByteArray := prog_4_method_6_code
def yX2_deliveredCount : MethodName := ⟨RX2, "deliveredCount", "()I"⟩
abbrev cX2_keeps : ByteArray := prog_4_method_7_code
def yX2_keeps : MethodName := ⟨RX2, "keeps", "(I)Z"⟩
abbrev cX2_keptWord : ByteArray := prog_4_method_8_code
def yX2_keptWord : MethodName := ⟨RX2, "keptWord", "(I)I"⟩
abbrev cX2_deliver : ByteArray := prog_4_method_9_code
def yX2_deliver : MethodName := ⟨RX2, "deliver", "()V"⟩
def RX3 : String := "SelectiveLink$Sender"
def TX3 : u_T := fun k => match k with
  | 0 => ("SelectiveLink$Sender", "words", "[I", true)
  | 1 => ("SelectiveLink$Sender", "ages", "[I", true)
  | 2 => ("SelectiveLink$Sender", "acknowledged", "[Z", true)
  | 3 => ("SelectiveLink$Sender", "window", "I", false)
  | 4 => ("SelectiveLink$Sender", "timeout", "I", false)
  | 5 => ("SelectiveLink$Sender", "base", "I", false)
  | 6 => ("SelectiveLink$Sender", "next", "I", false)
  | 7 => ("SelectiveLink$Sender", "taken", "I", false)
  | _ => ("SelectiveLink$Sender", "again", "I", false)
def tyX3 : Nat → FieldType := fun k => match k with
  | 0 => .array .int
  | 1 => .array .int
  | 2 => .array .boolean
  | 3 => .int
  | 4 => .int
  | 5 => .int
  | 6 => .int
  | 7 => .int
  | _ => .int
abbrev wsX30 : List Cond := u_ws RX3 TX3 9
theorem nmX3 : ∀ a, a < 9 → ∀ b, b < 9 → a ≠ b → (TX3 a).2.1 ≠ (TX3 b).2.1 := by decide +kernel
theorem tyX3_ok : ∀ k, k < 9 → parseFieldDescriptor (TX3 k).2.2.1 = some (tyX3 k) := by decide +kernel
abbrev cX3_init : ByteArray := prog_5_method_1_code
def yX3_init : MethodName := ⟨RX3, "<init>", "()V"⟩
abbrev cX3_clear : ByteArray := prog_5_method_2_code
def yX3_clear : MethodName := ⟨RX3, "clear", "(II)V"⟩
abbrev cX3_hasRoom : ByteArray := prog_5_method_3_code
def yX3_hasRoom : MethodName := ⟨RX3, "hasRoom", "()Z"⟩
abbrev cX3_takeWord : ByteArray := prog_5_method_4_code
def yX3_takeWord : MethodName := ⟨RX3, "takeWord", "(I)J"⟩
abbrev cX3_sendAgain : ByteArray := prog_5_method_5_code
def yX3_sendAgain : MethodName := ⟨RX3, "sendAgain", "(LSelectiveLink$Wire;)I"⟩
abbrev cX3_isGood : ByteArray := prog_5_method_6_code
def yX3_isGood : MethodName := ⟨RX3, "isGood", "(I)Z"⟩
abbrev cX3_acknowledge : ByteArray := prog_5_method_7_code
def yX3_acknowledge : MethodName := ⟨RX3, "acknowledge", "(II)I"⟩
abbrev cX3_unacknowledged : ByteArray := prog_5_method_8_code
def yX3_unacknowledged : MethodName := ⟨RX3, "unacknowledged", "()I"⟩
abbrev cX3_held : ByteArray := prog_5_method_9_code
def yX3_held : MethodName := ⟨RX3, "held", "()I"⟩
abbrev cX3_frameOf : ByteArray := prog_5_method_10_code
def yX3_frameOf : MethodName := ⟨RX3, "frameOf", "(I)J"⟩
abbrev cX3_isInMap : ByteArray := prog_5_method_11_code
def yX3_isInMap : MethodName := ⟨RX3, "isInMap", "(II)Z"⟩
abbrev cX3_mark : ByteArray := prog_5_method_12_code
def yX3_mark : MethodName := ⟨RX3, "mark", "(I)I"⟩
abbrev cX3_moveBase : ByteArray := prog_5_method_13_code
def yX3_moveBase : MethodName := ⟨RX3, "moveBase", "()V"⟩
def RX4 : String := "SelectiveLink$Wire"
def TX4 : u_T := fun k => match k with
  | 0 => ("SelectiveLink$Wire", "bytes", "[J", true)
  | 1 => ("SelectiveLink$Wire", "checkSums", "[I", true)
  | 2 => ("SelectiveLink$Wire", "oldest", "I", false)
  | 3 => ("SelectiveLink$Wire", "count", "I", false)
  | _ => ("SelectiveLink$Wire", "room", "I", false)
def tyX4 : Nat → FieldType := fun k => match k with
  | 0 => .array .long
  | 1 => .array .int
  | 2 => .int
  | 3 => .int
  | _ => .int
abbrev wsX40 : List Cond := u_ws RX4 TX4 5
theorem nmX4 : ∀ a, a < 5 → ∀ b, b < 5 → a ≠ b → (TX4 a).2.1 ≠ (TX4 b).2.1 := by decide +kernel
theorem tyX4_ok : ∀ k, k < 5 → parseFieldDescriptor (TX4 k).2.2.1 = some (tyX4 k) := by decide +kernel
abbrev cX4_init : ByteArray := prog_6_method_1_code
def yX4_init : MethodName := ⟨RX4, "<init>", "()V"⟩
abbrev cX4_clear : ByteArray := prog_6_method_2_code
def yX4_clear : MethodName := ⟨RX4, "clear", "(I)V"⟩
abbrev cX4_size : ByteArray := prog_6_method_3_code
def yX4_size : MethodName := ⟨RX4, "size", "()I"⟩
abbrev cX4_isEmpty : ByteArray := prog_6_method_4_code
def yX4_isEmpty : MethodName := ⟨RX4, "isEmpty", "()Z"⟩
abbrev cX4_hasRoom : ByteArray := prog_6_method_5_code
def yX4_hasRoom : MethodName := ⟨RX4, "hasRoom", "()Z"⟩
abbrev cX4_bytesAt : ByteArray := prog_6_method_6_code
def yX4_bytesAt : MethodName := ⟨RX4, "bytesAt", "(I)J"⟩
abbrev cX4_checkSumAt : ByteArray := prog_6_method_7_code
def yX4_checkSumAt : MethodName := ⟨RX4, "checkSumAt", "(I)J"⟩
abbrev cX4_isOldestSound : ByteArray := prog_6_method_8_code
def yX4_isOldestSound : MethodName := ⟨RX4, "isOldestSound", "(I)Z"⟩
abbrev cX4_put : ByteArray := prog_6_method_9_code
def yX4_put : MethodName := ⟨RX4, "put", "(J)V"⟩
abbrev cX4_takeOldest : ByteArray := prog_6_method_10_code
def yX4_takeOldest : MethodName := ⟨RX4, "takeOldest", "()J"⟩
abbrev cX4_turnBitOfOldest : ByteArray := prog_6_method_11_code
def yX4_turnBitOfOldest : MethodName := ⟨RX4, "turnBitOfOldest", "(I)V"⟩
abbrev cX4_doubleOldest : ByteArray := prog_6_method_12_code
def yX4_doubleOldest : MethodName := ⟨RX4, "doubleOldest", "()V"⟩
abbrev cX4_moveOldestBack : ByteArray := prog_6_method_13_code
def yX4_moveOldestBack : MethodName := ⟨RX4, "moveOldestBack", "()V"⟩
abbrev cX4_putBack : ByteArray := prog_6_method_14_code
def yX4_putBack : MethodName := ⟨RX4, "putBack", "(JI)V"⟩
abbrev cX4_placeOf : ByteArray := prog_6_method_15_code
def yX4_placeOf : MethodName := ⟨RX4, "placeOf", "(I)I"⟩
def RX5 : String := "SelectiveLink"
def TX5 : u_T := fun k => match k with
  | 0 => ("SelectiveLink", "ab", "LSelectiveLink$Wire;", true)
  | 1 => ("SelectiveLink", "ba", "LSelectiveLink$Wire;", true)
  | 2 => ("SelectiveLink", "sender", "LSelectiveLink$Sender;", true)
  | _ => ("SelectiveLink", "receiver", "LSelectiveLink$Receiver;", true)
def tyX5 : Nat → FieldType := fun k => match k with
  | 0 => .object "SelectiveLink$Wire"
  | 1 => .object "SelectiveLink$Wire"
  | 2 => .object "SelectiveLink$Sender"
  | _ => .object "SelectiveLink$Receiver"
abbrev wsX50 : List Cond := u_ws RX5 TX5 4
theorem nmX5 : ∀ a, a < 4 → ∀ b, b < 4 → a ≠ b → (TX5 a).2.1 ≠ (TX5 b).2.1 := by decide +kernel
theorem tyX5_ok : ∀ k, k < 4 → parseFieldDescriptor (TX5 k).2.2.1 = some (tyX5 k) := by decide +kernel
abbrev cX5_init : ByteArray := prog_1_method_1_code
def yX5_init : MethodName := ⟨RX5, "<init>", "()V"⟩
abbrev cX5_begin : ByteArray := prog_1_method_2_code
def yX5_begin : MethodName := ⟨RX5, "begin", "(III)V"⟩
abbrev cX5_send : ByteArray := prog_1_method_3_code
def yX5_send : MethodName := ⟨RX5, "send", "(I)Z"⟩
abbrev cX5_tick : ByteArray := prog_1_method_4_code
def yX5_tick : MethodName := ⟨RX5, "tick", "()I"⟩
abbrev cX5_comeToB : ByteArray := prog_1_method_5_code
def yX5_comeToB : MethodName := ⟨RX5, "comeToB", "()I"⟩
abbrev cX5_comeToA : ByteArray := prog_1_method_6_code
def yX5_comeToA : MethodName := ⟨RX5, "comeToA", "()I"⟩
abbrev cX5_lose : ByteArray := prog_1_method_7_code
def yX5_lose : MethodName := ⟨RX5, "lose", "(I)Z"⟩
abbrev cX5_change : ByteArray := prog_1_method_8_code
def yX5_change : MethodName := ⟨RX5, "change", "(II)Z"⟩
abbrev cX5_twice : ByteArray := prog_1_method_9_code
def yX5_twice : MethodName := ⟨RX5, "twice", "(I)Z"⟩
abbrev cX5_delay : ByteArray := prog_1_method_10_code
def yX5_delay : MethodName := ⟨RX5, "delay", "(I)Z"⟩
abbrev cX5_delivered : ByteArray := prog_1_method_11_code
def yX5_delivered : MethodName := ⟨RX5, "delivered", "()I"⟩
abbrev cX5_word : ByteArray := prog_1_method_12_code
def yX5_word : MethodName := ⟨RX5, "word", "(I)I"⟩
abbrev cX5_frame : ByteArray := prog_1_method_13_code
def yX5_frame : MethodName := ⟨RX5, "frame", "(III)J"⟩
abbrev cX5_told : ByteArray := prog_1_method_14_code
def yX5_told : MethodName := ⟨RX5, "told", "(I)I"⟩
abbrev cX5_sum : ByteArray := prog_1_method_15_code
def yX5_sum : MethodName := ⟨RX5, "sum", "(J)I"⟩
abbrev cX5_restart : ByteArray := prog_1_method_16_code
def yX5_restart : MethodName := ⟨RX5, "restart", "(III)V"⟩
abbrev cX5_wireOf : ByteArray := prog_1_method_17_code
def yX5_wireOf : MethodName := ⟨RX5, "wireOf", "(I)LSelectiveLink$Wire;"⟩
abbrev cX5_isWithin : ByteArray := prog_1_method_18_code
def yX5_isWithin : MethodName := ⟨RX5, "isWithin", "(III)Z"⟩
def RX6 : String := "SelectiveLinkModel"
def TX6 : u_T := fun k => match k with
  | 0 => ("SelectiveLinkModel", "thrown", "I", false)
  | 1 => ("SelectiveLinkModel", "window", "I", false)
  | 2 => ("SelectiveLinkModel", "timeout", "I", false)
  | 3 => ("SelectiveLinkModel", "room", "I", false)
  | 4 => ("SelectiveLinkModel", "wires", "[I", true)
  | 5 => ("SelectiveLinkModel", "many", "[I", true)
  | 6 => ("SelectiveLinkModel", "base", "I", false)
  | 7 => ("SelectiveLinkModel", "next", "I", false)
  | 8 => ("SelectiveLinkModel", "words", "[I", true)
  | 9 => ("SelectiveLinkModel", "heard", "[Z", true)
  | 10 => ("SelectiveLinkModel", "ages", "[I", true)
  | 11 => ("SelectiveLinkModel", "first", "I", false)
  | 12 => ("SelectiveLinkModel", "came", "[I", true)
  | 13 => ("SelectiveLinkModel", "there", "[Z", true)
  | 14 => ("SelectiveLinkModel", "delivered", "I", false)
  | 15 => ("SelectiveLinkModel", "log", "[I", true)
  | 16 => ("SelectiveLinkModel", "went", "I", false)
  | 17 => ("SelectiveLinkModel", "again", "I", false)
  | 18 => ("SelectiveLinkModel", "taken", "I", false)
  | _ => ("SelectiveLinkModel", "held", "[I", true)
def tyX6 : Nat → FieldType := fun k => match k with
  | 0 => .int
  | 1 => .int
  | 2 => .int
  | 3 => .int
  | 4 => .array .int
  | 5 => .array .int
  | 6 => .int
  | 7 => .int
  | 8 => .array .int
  | 9 => .array .boolean
  | 10 => .array .int
  | 11 => .int
  | 12 => .array .int
  | 13 => .array .boolean
  | 14 => .int
  | 15 => .array .int
  | 16 => .int
  | 17 => .int
  | 18 => .int
  | _ => .array .int
abbrev wsX60 : List Cond := u_ws RX6 TX6 20
theorem nmX6 : ∀ a, a < 20 → ∀ b, b < 20 → a ≠ b → (TX6 a).2.1 ≠ (TX6 b).2.1 := by decide +kernel
theorem tyX6_ok : ∀ k, k < 20 → parseFieldDescriptor (TX6 k).2.2.1 = some (tyX6 k) := by decide +kernel
abbrev cX6_init : ByteArray := prog_8_method_1_code
def yX6_init : MethodName := ⟨RX6, "<init>", "()V"⟩
abbrev cX6_thrown : ByteArray := prog_8_method_2_code
def yX6_thrown : MethodName := ⟨RX6, "thrown", "()I"⟩
abbrev cX6_begin : ByteArray := prog_8_method_3_code
def yX6_begin : MethodName := ⟨RX6, "begin", "(III)V"⟩
abbrev cX6_crc : ByteArray := prog_8_method_4_code
def yX6_crc : MethodName := ⟨RX6, "crc", "(II)I"⟩
abbrev cX6_sum : ByteArray := prog_8_method_5_code
def yX6_sum : MethodName := ⟨RX6, "sum", "(J)I"⟩
abbrev cX6_at : ByteArray := prog_8_method_6_code
def yX6_at : MethodName := ⟨RX6, "at", "(II)I"⟩
abbrev cX6_bytesAt : ByteArray := prog_8_method_7_code
def yX6_bytesAt : MethodName := ⟨RX6, "bytesAt", "(II)J"⟩
abbrev cX6_put : ByteArray := prog_8_method_8_code
def yX6_put : MethodName := ⟨RX6, "put", "(IIIII)Z"⟩
abbrev cX6_drop : ByteArray := prog_8_method_9_code
def yX6_drop : MethodName := ⟨RX6, "drop", "(I)V"⟩
abbrev cX6_isGood : ByteArray := prog_8_method_10_code
def yX6_isGood : MethodName := ⟨RX6, "isGood", "(I)Z"⟩
abbrev cX6_far : ByteArray := prog_8_method_11_code
def yX6_far : MethodName := ⟨RX6, "far", "(II)I"⟩
abbrev cX6_send : ByteArray := prog_8_method_12_code
def yX6_send : MethodName := ⟨RX6, "send", "(I)Z"⟩
abbrev cX6_tick : ByteArray := prog_8_method_13_code
def yX6_tick : MethodName := ⟨RX6, "tick", "()I"⟩
abbrev cX6_hear : ByteArray := prog_8_method_14_code
def yX6_hear : MethodName := ⟨RX6, "hear", "(I)I"⟩
abbrev cX6_comeToA : ByteArray := prog_8_method_15_code
def yX6_comeToA : MethodName := ⟨RX6, "comeToA", "()I"⟩
abbrev cX6_comeToB : ByteArray := prog_8_method_16_code
def yX6_comeToB : MethodName := ⟨RX6, "comeToB", "()I"⟩
abbrev cX6_noWire : ByteArray := prog_8_method_17_code
def yX6_noWire : MethodName := ⟨RX6, "noWire", "(I)Z"⟩
abbrev cX6_lose : ByteArray := prog_8_method_18_code
def yX6_lose : MethodName := ⟨RX6, "lose", "(I)Z"⟩
abbrev cX6_change : ByteArray := prog_8_method_19_code
def yX6_change : MethodName := ⟨RX6, "change", "(II)Z"⟩
abbrev cX6_twice : ByteArray := prog_8_method_20_code
def yX6_twice : MethodName := ⟨RX6, "twice", "(I)Z"⟩
abbrev cX6_delay : ByteArray := prog_8_method_21_code
def yX6_delay : MethodName := ⟨RX6, "delay", "(I)Z"⟩
abbrev cX6_delivered : ByteArray := prog_8_method_22_code
def yX6_delivered : MethodName := ⟨RX6, "delivered", "()I"⟩
abbrev cX6_word : ByteArray := prog_8_method_23_code
def yX6_word : MethodName := ⟨RX6, "word", "(I)I"⟩
abbrev cX6_frame : ByteArray := prog_8_method_24_code
def yX6_frame : MethodName := ⟨RX6, "frame", "(III)J"⟩
abbrev cX6_told : ByteArray := prog_8_method_25_code
def yX6_told : MethodName := ⟨RX6, "told", "(I)I"⟩
def RJ0 : String := "java/lang/String"
def TJ0 : u_T := fun k => match k with
  | _ => ("", "", "", false)
def tyJ0 : Nat → FieldType := fun k => match k with
  | _ => .int
abbrev wsJ00 : List Cond := u_ws RJ0 TJ0 0
theorem nmJ0 : ∀ a, a < 0 → ∀ b, b < 0 → a ≠ b → (TJ0 a).2.1 ≠ (TJ0 b).2.1 := by decide +kernel
theorem tyJ0_ok : ∀ k, k < 0 → parseFieldDescriptor (TJ0 k).2.2.1 = some (tyJ0 k) := by decide +kernel
def RL : String := "SelectiveLinkLaw"
abbrev cL_begin : ByteArray := method_3_code
def yL_begin : MethodName := ⟨RL, "begin", "(LSelectiveLink;III)I"⟩
abbrev cL_lose : ByteArray := method_4_code
def yL_lose : MethodName := ⟨RL, "lose", "(LSelectiveLink;I[J)I"⟩
abbrev cL_change : ByteArray := method_5_code
def yL_change : MethodName := ⟨RL, "change", "(LSelectiveLink;II[J)I"⟩
abbrev cL_twice : ByteArray := method_6_code
def yL_twice : MethodName := ⟨RL, "twice", "(LSelectiveLink;I[J)I"⟩
abbrev cL_delay : ByteArray := method_7_code
def yL_delay : MethodName := ⟨RL, "delay", "(LSelectiveLink;I[J)I"⟩
abbrev cL_word : ByteArray := method_8_code
def yL_word : MethodName := ⟨RL, "word", "(LSelectiveLink;I[J)I"⟩
abbrev cL_frame : ByteArray := method_9_code
def yL_frame : MethodName := ⟨RL, "frame", "(LSelectiveLink;III[J)I"⟩
abbrev cL_told : ByteArray := method_10_code
def yL_told : MethodName := ⟨RL, "told", "(LSelectiveLink;I[J)I"⟩
abbrev cL_law : ByteArray := code
def yL_law : MethodName := ⟨RL, "law", "([I)Z"⟩
abbrev vwCl : List vw_C := [(RX2, TX2, 6), (RX3, TX3, 9), (RX4, TX4, 5), (RX5, TX5, 4), (RX6, TX6, 20)]
end
section
/-! An exception that a callee has thrown, caught by a row of this method's own table: the search for the row, its entries linked or not -/
section PMX
theorem pm_go1 {Q : Handler → Pre} {E : CtlPost} {e : Env} {d : Bool} {acts : List Action} {s : State} {f : JFrame} {a : Addr} {x : ExceptionTableEntry} {t : List ExceptionTableEntry} {c : ClassId} {cell : Cell} (hx : covers x f.pc = true) (h0 : x.catchType ≠ 0)
    (hl : s.vm.ClassLinks e.platform f.method.cls x.catchType c) (hcell : s.heap[a]? = some cell) (hobj : ∀ k, cell.vm ≠ .statics k) (hk : ∃ k, s.vm.classes[cell.cls]? = some k) (hc : ∃ k, s.vm.classes[c]? = some k) :
    wp (findHandler.go f a (x :: t)) Q E e d acts s ↔
      if s.vm.assignable cell.cls c = true then Q (.found x.handlerPc) d acts (s.setVm (s.vm.noted f.method.cls x.catchType (.cls c)))
      else wp (findHandler.go f a t) Q E e d acts (s.setVm (s.vm.noted f.method.cls x.catchType (.cls c))) := by
  simp only [covers] at hx
  obtain ⟨ha, ht⟩ := (resolveClass_links e.toSetting hl).op (op := VmOp.resolveClass f.method.cls x.catchType) rfl
  have hal : s.vm.Alike (s.vm.noted f.method.cls x.catchType (.cls c)) := (Vm.Alike.refl s.vm).noted _ _ _
  obtain ⟨k1, hk1⟩ := hk
  obtain ⟨k2, hk2⟩ := hc
  obtain ⟨k1', hk1', -⟩ := hal.2.2 _ _ hk1
  obtain ⟨k2', hk2', -⟩ := hal.2.2 _ _ hk2
  have has := hal.assignable (s := cell.cls) (t := c)
  by_cases hfit : s.vm.assignable cell.cls c = true
  · rw [if_pos hfit]
    rw [hfit] at has
    simp [findHandler.go, hx, h0, ha, ht, hcell, hobj, hk1', hk2', has, VmOp.dirties, VmOp.acts]
  · rw [if_neg hfit]
    have hno : s.vm.assignable cell.cls c = false := by simpa using hfit
    rw [hno] at has
    simp [findHandler.go, hx, h0, ha, ht, hcell, hobj, hk1', hk2', has, VmOp.dirties, VmOp.acts]
theorem pm_seek {e : Env} {s₀ : State} {f : JFrame} {a : Addr} {cell : Cell} (hobj : ∀ k, cell.vm ≠ .statics k) (hk0 : ∃ k, s₀.vm.classes[cell.cls]? = some k)
    (x : ExceptionTableEntry) (rest : List ExceptionTableEntry) (hx : covers x f.pc = true) (h0 : x.catchType ≠ 0) {c : ClassId} (hl : s₀.vm.ClassLinks e.platform f.method.cls x.catchType c) (hfit : s₀.vm.assignable cell.cls c = true) :
    ∀ (pre : List ExceptionTableEntry) (S : State), s₀.WarmedH S.vm → S.heap[a]? = some cell → (∀ y ∈ pre, covers y f.pc = false ∨ (y.catchType ≠ 0 ∧ ∃ c2, s₀.vm.ClassLinks e.platform f.method.cls y.catchType c2 ∧ s₀.vm.assignable cell.cls c2 = false)) →
      ∃ vm', s₀.WarmedH vm' ∧ ∀ (Q : Handler → Pre) (E : CtlPost) (d : Bool) (acts : List Action), wp (findHandler.go f a (pre ++ x :: rest)) Q E e d acts S ↔ Q (.found x.handlerPc) d acts (S.setVm vm') := by
  obtain ⟨k0, hk0⟩ := hk0
  have link : ∀ {y : ExceptionTableEntry} {c2 : ClassId} {S : State}, s₀.WarmedH S.vm → s₀.vm.ClassLinks e.platform f.method.cls y.catchType c2 → s₀.WarmedH (S.vm.noted f.method.cls y.catchType (.cls c2)) ∧ S.vm.ClassLinks e.platform f.method.cls y.catchType c2 ∧ (∃ k, S.vm.classes[c2]? = some k) ∧ (∃ k, S.vm.classes[cell.cls]? = some k) := by
    intro y c2 S hW hl2
    obtain ⟨dk, _, _, kt, hd, _, _, _, _, hkt, _, hopen⟩ := hl2.here
    obtain ⟨kt', hkt', -⟩ := hW.alike.2.2 _ _ hkt
    obtain ⟨k0', hk0', -⟩ := hW.alike.2.2 _ _ hk0
    exact ⟨hW.noted hd hopen (State.rightAt_cls hl2), hW.classLinks hl2, ⟨kt', hkt'⟩, ⟨k0', hk0'⟩⟩
  intro pre
  induction pre with
  | nil =>
    intro S hW hcell _
    obtain ⟨h1, h2, h3, h4⟩ := link hW hl
    refine ⟨_, h1, fun Q E d acts => ?_⟩
    rw [List.nil_append, pm_go1 hx h0 h2 hcell hobj h4 h3, if_pos (by rw [hW.alike.assignable]; exact hfit)]
  | cons y ys ih =>
    intro S hW hcell hpass
    have hrest := fun z hz => hpass z (List.mem_cons_of_mem _ hz)
    rcases hpass y List.mem_cons_self with h | ⟨hy0, c2, hl2, hno⟩
    · obtain ⟨vm', hW', hq⟩ := ih S hW hcell hrest
      exact ⟨vm', hW', fun Q E d acts => by rw [List.cons_append, W.findHandler_go_skip h]; exact hq Q E d acts⟩
    · by_cases hcov : covers y f.pc = true
      · obtain ⟨h1, h2, h3, h4⟩ := link hW hl2
        obtain ⟨vm', hW', hq⟩ := ih (S.setVm (S.vm.noted f.method.cls y.catchType (.cls c2))) h1 hcell hrest
        exact ⟨vm', hW', fun Q E d acts => by
          rw [List.cons_append, pm_go1 hcov hy0 h2 hcell hobj h4 h3, if_neg (by rw [hW.alike.assignable, hno]; decide)]
          exact hq Q E d acts⟩
      · obtain ⟨vm', hW', hq⟩ := ih S hW hcell hrest
        exact ⟨vm', hW', fun Q E d acts => by rw [List.cons_append, W.findHandler_go_skip (by simpa using hcov)]; exact hq Q E d acts⟩
/-- the machine's step from the note of a thrown object to the row that takes it -/
theorem pm_land {tb : Tables} {e : Env} {s target : State} {g : JFrame} {c : Code} {below : List Frame} {a : Addr} (h : At s g.method c below) {pc : Nat} {vm' : Vm}
    (hfind : ∀ (Q : Handler → Pre) (E : CtlPost) (d : Bool) (acts : List Action), wp (findHandler g a) Q E e d acts ((s.setTop g).pushFrame (.throwing a)) ↔ Q (.found pc) d acts (((s.setTop g).pushFrame (.throwing a)).setVm vm'))
    (hrest : Steps tb e below ((s.setVm vm').setTop { g with pc := pc, stack := [.ref a] }) target) : Steps tb e below ((s.setTop g).pushFrame (.throwing a)) target := by
  obtain ⟨hgo, hw⟩ := h.throwing a
  have hstep : ∀ (r : List Frame), (stepThrowing e ((s.setTop g).pushFrame (.throwing a)) a (.java g :: r)).Is ((((s.setTop g).pushFrame (.throwing a)).setVm vm').setFrames (.java { g with pc := pc, stack := [.ref a] } :: r)) [] := by
    intro r
    simp only [stepThrowing, searchFrame, vmDo]
    generalize hr : Sem.go _ e false [] _ = res
    obtain ⟨as, rfl, ha⟩ := Sem.eq_ok_of hr (a := Handler.found pc) (s' := ((s.setTop g).pushFrame (.throwing a)).setVm vm') (acts' := []) (by simp [hfind _ _ _ _])
    exact ⟨rfl, ha⟩
  refine Steps.head hgo hw ?_
  rw [stepThread_throwing (frames_entered h.top _), (hstep _).1]
  obtain ⟨g₀, hg⟩ := Option.isSome_iff_exists.mp h.top
  obtain ⟨r, hr⟩ := State.topJava?_eq_some.mp hg
  have hr' : (s.setVm vm').frames = .java g₀ :: r := hr
  have key : ∀ (u : State) (F G : List Frame), ((u.setFrames F).setVm vm').setFrames G = (u.setVm vm').setFrames G := fun u F G => by
    have h1 : (u.setFrames F).setVm vm' = (u.setVm vm').setFrames F := rfl
    rw [h1, State.setFrames_setFrames]
  rw [State.setTop_of_frames _ hr'] at hrest
  rw [hr, List.tail_cons, State.pushFrame, key, State.setTop_of_frames _ hr, key]
  exact hrest
/-- caught by the row x of this method's table; the rows ahead don't take it -/
theorem pm_catch {p : Program} {l : Launch} {e : Env} {R : Room} {s : State} {m : MethodId} {args : Array Value} {below : List Frame} {meth : Method} {c : Code} {H : Heap} {locs : List Loc} {cells slots : Nat} {Q : State → Prop} {pc : Nat} {ls : Array Slot} {rest : List Value}
    {own name : String} {E : String} {ce : Cell} {q : Addr} (hown : s.vm.findClass own = some m.cls) (pre : List ExceptionTableEntry) (x : ExceptionTableEntry) (suf : List ExceptionTableEntry) (hsplit : c.exceptionTable.toList = pre ++ x :: suf)
    (hpass : ∀ z ∈ pre, covers z pc = false ∨ (z.catchType ≠ 0 ∧ ∃ nm : String, (Cond.classLink own z.catchType nm).before args s = true ∧ va_Nc E nm s)) (hx : covers x pc = true) (h0 : x.catchType ≠ 0)
    (hlink : (Cond.classLink own x.catchType name).before args s = true) (hcast : (Cond.castable E name).before args s = true) (hcell : H[q]? = some ce) (hv : ce.vm = .none) (hcl : s.vm.findClass E = some ce.cls)
    (kk : W p l e R s m args below meth c H locs cells slots Q (F0 m x.handlerPc ls [.ref q])) : vx_W p l e R s m args below meth c H locs cells slots Q (F0 m pc ls rest) q := by
  intro T hT X
  have hpl : e.platform.magicAccessors = ({} : Platform).magicAccessors := by rw [X.admits.platform]
  obtain ⟨c3, c4, hc3, hc4, hasg⟩ := Cond.castable_spec hcast
  cases Option.some.inj (hc3.symm.trans hcl)
  obtain ⟨c5, hc5, hcl5⟩ := Cond.classLink_spec hown hlink e.platform hpl
  cases Option.some.inj (hc4.symm.trans hc5)
  obtain ⟨vm', hW', hq⟩ := pm_seek (e := e) (s₀ := s) (f := F0 m pc ls rest) (a := q) (cell := ce) (fun k h => by rw [hv] at h; cases h) (by obtain ⟨k9, h9, -⟩ := Vm.findClass_spec hcl; exact ⟨k9, h9⟩) x suf hx h0 hcl5 hasg pre
    ((T.setTop (F0 m pc ls rest)).pushFrame (.throwing q)) X.warmed (by show T.heap[q]? = some ce; rw [hT]; exact hcell)
    (fun z hz => by
      rcases hpass z hz with h | ⟨hz0, nm, hl1, hn1⟩
      · exact Or.inl h
      · obtain ⟨c6, hc6, hcl6⟩ := Cond.classLink_spec hown hl1 e.platform hpl
        obtain ⟨a8, b8, h1, h2, h3⟩ := hn1
        cases Option.some.inj (h1.symm.trans hcl)
        cases Option.some.inj (h2.symm.trans hc6)
        exact Or.inr ⟨hz0, _, hcl6, h3⟩)
  obtain ⟨t, a1, b1⟩ := kk (T.setVm vm') hT (X.noted hW')
  refine ⟨t, ?_, b1⟩
  refine pm_land (g := F0 m pc ls rest) X.here (vm' := vm') (pc := x.handlerPc) (fun Q9 E9 d9 acts9 => ?_) a1
  rw [W.findHandler_eq (meth := meth) (code := c) X.method' X.code, hsplit]
  exact hq Q9 E9 d9 acts9
end PMX
end
section
/-! printed by gen.py: the methods as rows: pc, instruction, whether a loop comes back here, three hints -/
abbrev pm_R : Type := Nat × Instr × Bool × Nat × Nat × Nat
abbrev pm_M : Type := MethodName × ByteArray × Nat × Option FieldType × List (Nat × Nat × Nat × Nat) × List pm_R
def prX0_of : List pm_R := [(0, .iload_n 0, false, 0, 0, 0), (1, .i2l, false, 0, 0, 0), (2, .bipush 56, false, 56, 0, 0), (4, .lshl, false, 0, 0, 0), (5, .iload_n 1, false, 0, 0, 0), (6, .i2l, false, 0, 0, 0), (7, .bipush 48, false, 48, 0, 0), (9, .lshl, false, 0, 0, 0), (10, .lor, false, 0, 0, 0), (11, .iload_n 2, false, 0, 0, 0), (12, .i2l, false, 0, 0, 0), (13, .ldc2_w 7, false, 4294967295, 0, 0), (16, .land, false, 0, 0, 0), (17, .bipush 16, false, 16, 0, 0), (19, .lshl, false, 0, 0, 0), (20, .lor, false, 0, 0, 0), (21, .iload_n 3, false, 0, 0, 0), (22, .i2l, false, 0, 0, 0), (23, .lor, false, 0, 0, 0), (24, .lreturn, false, 0, 0, 0)]
def prX0_kindOf : List pm_R := [(0, .lload_n 0, false, 0, 0, 0), (1, .bipush 56, false, 56, 0, 0), (3, .lushr, false, 0, 0, 0), (4, .l2i, false, 0, 0, 0), (5, .ireturn, false, 0, 0, 0)]
def prX0_numberOf : List pm_R := [(0, .lload_n 0, false, 0, 0, 0), (1, .bipush 48, false, 48, 0, 0), (3, .lushr, false, 0, 0, 0), (4, .l2i, false, 0, 0, 0), (5, .sipush 255, false, 255, 0, 0), (8, .iand, false, 0, 0, 0), (9, .ireturn, false, 0, 0, 0)]
def prX0_wordOf : List pm_R := [(0, .lload_n 0, false, 0, 0, 0), (1, .bipush 16, false, 16, 0, 0), (3, .lushr, false, 0, 0, 0), (4, .l2i, false, 0, 0, 0), (5, .ireturn, false, 0, 0, 0)]
def prX0_mapOf : List pm_R := [(0, .lload_n 0, false, 0, 0, 0), (1, .l2i, false, 0, 0, 0), (2, .ldc 9, false, 65535, 0, 0), (4, .iand, false, 0, 0, 0), (5, .ireturn, false, 0, 0, 0)]
def prX0_checkSum : List pm_R := [(0, .iconst (-1), false, 1, 0, 1), (1, .istore_n 2, false, 0, 0, 0), (2, .bipush 56, false, 56, 0, 0), (4, .istore_n 3, false, 0, 0, 0), (5, .iload_n 3, true, 0, 0, 0), (6, .ifCond .lt 22, false, 28, 0, 0), (9, .iload_n 2, false, 0, 0, 0), (10, .lload_n 0, false, 0, 0, 0), (11, .iload_n 3, false, 0, 0, 0), (12, .lushr, false, 0, 0, 0), (13, .l2i, false, 0, 0, 0), (14, .sipush 255, false, 255, 0, 0), (17, .iand, false, 0, 0, 0), (18, .invokestatic 10, false, 6, 2, 0), (21, .istore_n 2, false, 0, 0, 0), (22, .iinc 3 (-8), false, 8, 0, 1), (25, .goto (-20), false, 5, 0, 0), (28, .iload_n 2, false, 0, 0, 0), (29, .iconst (-1), false, 1, 0, 1), (30, .ixor, false, 0, 0, 0), (31, .ireturn, false, 0, 0, 0)]
def prX0_withByte : List pm_R := [(0, .iload_n 0, false, 0, 0, 0), (1, .iload_n 1, false, 0, 0, 0), (2, .ixor, false, 0, 0, 0), (3, .istore_n 2, false, 0, 0, 0), (4, .iconst 0, false, 0, 0, 0), (5, .istore_n 3, false, 0, 0, 0), (6, .iload_n 3, true, 0, 0, 0), (7, .bipush 8, false, 8, 0, 0), (9, .if_icmp .ge 36, false, 45, 0, 0), (12, .iload_n 2, false, 0, 0, 0), (13, .iconst 1, false, 1, 0, 0), (14, .iand, false, 0, 0, 0), (15, .ifCond .eq 7, false, 22, 0, 0), (18, .iconst 1, false, 1, 0, 0), (19, .goto 4, false, 23, 0, 0), (22, .iconst 0, false, 0, 0, 0), (23, .istore 4, false, 0, 0, 0), (25, .iload_n 2, false, 0, 0, 0), (26, .iconst 1, false, 1, 0, 0), (27, .iushr, false, 0, 0, 0), (28, .istore_n 2, false, 0, 0, 0), (29, .iload 4, false, 0, 0, 0), (31, .ifCond .eq 8, false, 39, 0, 0), (34, .iload_n 2, false, 0, 0, 0), (35, .ldc 16, false, 306674912, 0, 1), (37, .ixor, false, 0, 0, 0), (38, .istore_n 2, false, 0, 0, 0), (39, .iinc 3 1, false, 1, 0, 0), (42, .goto (-36), false, 6, 0, 0), (45, .iload_n 2, false, 0, 0, 0), (46, .ireturn, false, 0, 0, 0)]
def prX1_plus : List pm_R := [(0, .iload_n 0, false, 0, 0, 0), (1, .iload_n 1, false, 0, 0, 0), (2, .iadd, false, 0, 0, 0), (3, .sipush 255, false, 255, 0, 0), (6, .iand, false, 0, 0, 0), (7, .ireturn, false, 0, 0, 0)]
def prX1_distance : List pm_R := [(0, .iload_n 1, false, 0, 0, 0), (1, .iload_n 0, false, 0, 0, 0), (2, .isub, false, 0, 0, 0), (3, .sipush 255, false, 255, 0, 0), (6, .iand, false, 0, 0, 0), (7, .ireturn, false, 0, 0, 0)]
def prX1_slotOf : List pm_R := [(0, .iload_n 0, false, 0, 0, 0), (1, .bipush 15, false, 15, 0, 0), (3, .iand, false, 0, 0, 0), (4, .ireturn, false, 0, 0, 0)]
def prX2_init : List pm_R := [(0, .aload_n 0, false, 0, 0, 0), (1, .invokespecial 1, false, 9999, 0, 0), (4, .aload_n 0, false, 0, 0, 0), (5, .bipush 16, false, 16, 0, 0), (7, .newarray .int, false, 16, 0, 0), (9, .putfield 9, false, 0, 0, 2), (12, .aload_n 0, false, 0, 0, 0), (13, .bipush 16, false, 16, 0, 0), (15, .newarray .boolean, false, 16, 0, 0), (17, .putfield 15, false, 0, 1, 2), (20, .aload_n 0, false, 0, 0, 0), (21, .sipush 256, false, 256, 0, 0), (24, .newarray .int, false, 256, 0, 0), (26, .putfield 19, false, 0, 2, 2), (29, .return_, false, 0, 0, 0)]
def prX2_clear : List pm_R := [(0, .aload_n 0, false, 0, 0, 0), (1, .iload_n 1, false, 0, 0, 0), (2, .putfield 22, false, 0, 3, 0), (5, .aload_n 0, false, 0, 0, 0), (6, .iconst 0, false, 0, 0, 0), (7, .putfield 26, false, 0, 4, 0), (10, .aload_n 0, false, 0, 0, 0), (11, .iconst 0, false, 0, 0, 0), (12, .putfield 29, false, 0, 5, 0), (15, .iconst 0, false, 0, 0, 0), (16, .istore_n 2, false, 0, 0, 0), (17, .iload_n 2, true, 0, 0, 0), (18, .bipush 16, false, 16, 0, 0), (20, .if_icmp .ge 16, false, 36, 0, 0), (23, .aload_n 0, false, 0, 0, 0), (24, .getfield 15, false, 0, 1, 0), (27, .iload_n 2, false, 0, 0, 0), (28, .iconst 0, false, 0, 0, 0), (29, .bastore, false, 0, 0, 0), (30, .iinc 2 1, false, 1, 0, 0), (33, .goto (-16), false, 17, 0, 0), (36, .return_, false, 0, 0, 0)]
def prX2_accept : List pm_R := [(0, .iload_n 1, false, 0, 0, 0), (1, .invokestatic 32, false, 9, 1, 0), (4, .istore_n 3, false, 0, 0, 0), (5, .aload_n 0, false, 0, 0, 0), (6, .getfield 26, false, 0, 4, 0), (9, .iload_n 1, false, 0, 0, 0), (10, .invokestatic 36, false, 8, 2, 0), (13, .aload_n 0, false, 0, 0, 0), (14, .getfield 22, false, 0, 3, 0), (17, .if_icmp .ge 12, false, 29, 0, 0), (20, .aload_n 0, false, 0, 0, 0), (21, .getfield 15, false, 0, 1, 0), (24, .iload_n 3, false, 0, 0, 0), (25, .baload, false, 0, 0, 0), (26, .ifCond .eq 5, false, 31, 0, 0), (29, .iconst 0, false, 0, 0, 0), (30, .ireturn, false, 0, 0, 0), (31, .aload_n 0, false, 0, 0, 0), (32, .getfield 15, false, 0, 1, 0), (35, .iload_n 3, false, 0, 0, 0), (36, .iconst 1, false, 1, 0, 0), (37, .bastore, false, 0, 0, 0), (38, .aload_n 0, false, 0, 0, 0), (39, .getfield 9, false, 0, 0, 0), (42, .iload_n 3, false, 0, 0, 0), (43, .iload_n 2, false, 0, 0, 0), (44, .iastore, false, 0, 0, 0), (45, .aload_n 0, false, 0, 0, 0), (46, .invokevirtual 40, false, 18, 1, 0), (49, .iconst 1, false, 1, 0, 0), (50, .ireturn, false, 0, 0, 0)]
def prX2_acknowledgement : List pm_R := [(0, .iconst 0, false, 0, 0, 0), (1, .istore_n 1, false, 0, 0, 0), (2, .iconst 0, false, 0, 0, 0), (3, .istore_n 2, false, 0, 0, 0), (4, .iload_n 2, true, 0, 0, 0), (5, .aload_n 0, false, 0, 0, 0), (6, .getfield 22, false, 0, 3, 0), (9, .iconst 1, false, 1, 0, 0), (10, .isub, false, 0, 0, 0), (11, .if_icmp .ge 36, false, 47, 0, 0), (14, .aload_n 0, false, 0, 0, 0), (15, .getfield 15, false, 0, 1, 0), (18, .aload_n 0, false, 0, 0, 0), (19, .getfield 26, false, 0, 4, 0), (22, .iconst 1, false, 1, 0, 0), (23, .iload_n 2, false, 0, 0, 0), (24, .iadd, false, 0, 0, 0), (25, .invokestatic 43, false, 7, 2, 0), (28, .invokestatic 32, false, 9, 1, 0), (31, .baload, false, 0, 0, 0), (32, .ifCond .eq 9, false, 41, 0, 0), (35, .iload_n 1, false, 0, 0, 0), (36, .iconst 1, false, 1, 0, 0), (37, .iload_n 2, false, 0, 0, 0), (38, .ishl, false, 0, 0, 0), (39, .ior, false, 0, 0, 0), (40, .istore_n 1, false, 0, 0, 0), (41, .iinc 2 1, false, 1, 0, 0), (44, .goto (-40), false, 4, 0, 0), (47, .iconst 1, false, 1, 0, 0), (48, .aload_n 0, false, 0, 0, 0), (49, .getfield 26, false, 0, 4, 0), (52, .iconst 0, false, 0, 0, 0), (53, .iload_n 1, false, 0, 0, 0), (54, .invokestatic 48, false, 0, 4, 0), (57, .lreturn, false, 0, 0, 0)]
def prX2_behindGap : List pm_R := [(0, .iconst 0, false, 0, 0, 0), (1, .istore_n 1, false, 0, 0, 0), (2, .iconst 0, false, 0, 0, 0), (3, .istore_n 2, false, 0, 0, 0), (4, .iload_n 2, true, 0, 0, 0), (5, .bipush 16, false, 16, 0, 0), (7, .if_icmp .ge 21, false, 28, 0, 0), (10, .aload_n 0, false, 0, 0, 0), (11, .getfield 15, false, 0, 1, 0), (14, .iload_n 2, false, 0, 0, 0), (15, .baload, false, 0, 0, 0), (16, .ifCond .eq 6, false, 22, 0, 0), (19, .iinc 1 1, false, 1, 0, 0), (22, .iinc 2 1, false, 1, 0, 0), (25, .goto (-21), false, 4, 0, 0), (28, .iload_n 1, false, 0, 0, 0), (29, .ireturn, false, 0, 0, 0)]
def prX2_deliveredCount : List pm_R := [(0, .aload_n 0, false, 0, 0, 0), (1, .getfield 29, false, 0, 5, 0), (4, .ireturn, false, 0, 0, 0)]
def prX2_keeps : List pm_R := [(0, .iload_n 1, false, 0, 0, 0), (1, .ifCond .lt 27, false, 28, 0, 0), (4, .iload_n 1, false, 0, 0, 0), (5, .aload_n 0, false, 0, 0, 0), (6, .getfield 29, false, 0, 5, 0), (9, .if_icmp .ge 19, false, 28, 0, 0), (12, .iload_n 1, false, 0, 0, 0), (13, .aload_n 0, false, 0, 0, 0), (14, .getfield 29, false, 0, 5, 0), (17, .sipush 256, false, 256, 0, 0), (20, .isub, false, 0, 0, 0), (21, .if_icmp .lt 7, false, 28, 0, 0), (24, .iconst 1, false, 1, 0, 0), (25, .goto 4, false, 29, 0, 0), (28, .iconst 0, false, 0, 0, 0), (29, .ireturn, false, 0, 0, 0)]
def prX2_keptWord : List pm_R := [(0, .aload_n 0, false, 0, 0, 0), (1, .getfield 19, false, 0, 2, 0), (4, .iload_n 1, false, 0, 0, 0), (5, .sipush 255, false, 255, 0, 0), (8, .iand, false, 0, 0, 0), (9, .iaload, false, 0, 0, 0), (10, .ireturn, false, 0, 0, 0)]
def prX2_deliver : List pm_R := [(0, .iconst 0, false, 0, 0, 0), (1, .istore_n 1, false, 0, 0, 0), (2, .iload_n 1, true, 0, 0, 0), (3, .bipush 16, false, 16, 0, 0), (5, .if_icmp .ge 80, false, 85, 0, 0), (8, .aload_n 0, false, 0, 0, 0), (9, .getfield 15, false, 0, 1, 0), (12, .aload_n 0, false, 0, 0, 0), (13, .getfield 26, false, 0, 4, 0), (16, .invokestatic 32, false, 9, 1, 0), (19, .baload, false, 0, 0, 0), (20, .ifCond .eq 65, false, 85, 0, 0), (23, .aload_n 0, false, 0, 0, 0), (24, .getfield 26, false, 0, 4, 0), (27, .invokestatic 32, false, 9, 1, 0), (30, .istore_n 2, false, 0, 0, 0), (31, .aload_n 0, false, 0, 0, 0), (32, .getfield 15, false, 0, 1, 0), (35, .iload_n 2, false, 0, 0, 0), (36, .iconst 0, false, 0, 0, 0), (37, .bastore, false, 0, 0, 0), (38, .aload_n 0, false, 0, 0, 0), (39, .getfield 19, false, 0, 2, 0), (42, .aload_n 0, false, 0, 0, 0), (43, .getfield 29, false, 0, 5, 0), (46, .sipush 255, false, 255, 0, 0), (49, .iand, false, 0, 0, 0), (50, .aload_n 0, false, 0, 0, 0), (51, .getfield 9, false, 0, 0, 0), (54, .iload_n 2, false, 0, 0, 0), (55, .iaload, false, 0, 0, 0), (56, .iastore, false, 0, 0, 0), (57, .aload_n 0, false, 0, 0, 0), (58, .dup, false, 0, 0, 0), (59, .getfield 29, false, 0, 5, 0), (62, .iconst 1, false, 1, 0, 0), (63, .iadd, false, 0, 0, 0), (64, .putfield 29, false, 0, 5, 0), (67, .aload_n 0, false, 0, 0, 0), (68, .aload_n 0, false, 0, 0, 0), (69, .getfield 26, false, 0, 4, 0), (72, .iconst 1, false, 1, 0, 0), (73, .invokestatic 43, false, 7, 2, 0), (76, .putfield 26, false, 0, 4, 0), (79, .iinc 1 1, false, 1, 0, 0), (82, .goto (-80), false, 2, 0, 0), (85, .return_, false, 0, 0, 0)]
def prX3_init : List pm_R := [(0, .aload_n 0, false, 0, 0, 0), (1, .invokespecial 1, false, 9999, 0, 0), (4, .aload_n 0, false, 0, 0, 0), (5, .bipush 16, false, 16, 0, 0), (7, .newarray .int, false, 16, 0, 0), (9, .putfield 9, false, 1, 0, 2), (12, .aload_n 0, false, 0, 0, 0), (13, .bipush 16, false, 16, 0, 0), (15, .newarray .int, false, 16, 0, 0), (17, .putfield 15, false, 1, 1, 2), (20, .aload_n 0, false, 0, 0, 0), (21, .bipush 16, false, 16, 0, 0), (23, .newarray .boolean, false, 16, 0, 0), (25, .putfield 18, false, 1, 2, 2), (28, .return_, false, 0, 0, 0)]
def prX3_clear : List pm_R := [(0, .aload_n 0, false, 0, 0, 0), (1, .iload_n 1, false, 0, 0, 0), (2, .putfield 22, false, 1, 3, 0), (5, .aload_n 0, false, 0, 0, 0), (6, .iload_n 2, false, 0, 0, 0), (7, .putfield 26, false, 1, 4, 0), (10, .aload_n 0, false, 0, 0, 0), (11, .iconst 0, false, 0, 0, 0), (12, .putfield 29, false, 1, 5, 0), (15, .aload_n 0, false, 0, 0, 0), (16, .iconst 0, false, 0, 0, 0), (17, .putfield 32, false, 1, 6, 0), (20, .aload_n 0, false, 0, 0, 0), (21, .iconst 0, false, 0, 0, 0), (22, .putfield 35, false, 1, 7, 0), (25, .aload_n 0, false, 0, 0, 0), (26, .iconst 0, false, 0, 0, 0), (27, .putfield 38, false, 1, 8, 0), (30, .return_, false, 0, 0, 0)]
def prX3_hasRoom : List pm_R := [(0, .aload_n 0, false, 0, 0, 0), (1, .invokevirtual 41, false, 27, 1, 1), (4, .aload_n 0, false, 0, 0, 0), (5, .getfield 22, false, 1, 3, 0), (8, .if_icmp .ge 7, false, 15, 0, 0), (11, .iconst 1, false, 1, 0, 0), (12, .goto 4, false, 16, 0, 0), (15, .iconst 0, false, 0, 0, 0), (16, .ireturn, false, 0, 0, 0)]
def prX3_takeWord : List pm_R := [(0, .aload_n 0, false, 0, 0, 0), (1, .getfield 32, false, 1, 6, 0), (4, .istore_n 2, false, 0, 0, 0), (5, .iload_n 2, false, 0, 0, 0), (6, .invokestatic 45, false, 9, 1, 0), (9, .istore_n 3, false, 0, 0, 0), (10, .aload_n 0, false, 0, 0, 0), (11, .getfield 9, false, 1, 0, 0), (14, .iload_n 3, false, 0, 0, 0), (15, .iload_n 1, false, 0, 0, 0), (16, .iastore, false, 0, 0, 0), (17, .aload_n 0, false, 0, 0, 0), (18, .getfield 15, false, 1, 1, 0), (21, .iload_n 3, false, 0, 0, 0), (22, .iconst 0, false, 0, 0, 0), (23, .iastore, false, 0, 0, 0), (24, .aload_n 0, false, 0, 0, 0), (25, .getfield 18, false, 1, 2, 0), (28, .iload_n 3, false, 0, 0, 0), (29, .iconst 0, false, 0, 0, 0), (30, .bastore, false, 0, 0, 0), (31, .aload_n 0, false, 0, 0, 0), (32, .aload_n 0, false, 0, 0, 0), (33, .getfield 32, false, 1, 6, 0), (36, .iconst 1, false, 1, 0, 0), (37, .invokestatic 49, false, 7, 2, 0), (40, .putfield 32, false, 1, 6, 0), (43, .aload_n 0, false, 0, 0, 0), (44, .dup, false, 0, 0, 0), (45, .getfield 35, false, 1, 7, 0), (48, .iconst 1, false, 1, 0, 0), (49, .iadd, false, 0, 0, 0), (50, .putfield 35, false, 1, 7, 0), (53, .aload_n 0, false, 0, 0, 0), (54, .iload_n 2, false, 0, 0, 0), (55, .invokevirtual 53, false, 28, 2, 1), (58, .lreturn, false, 0, 0, 0)]
def prX3_sendAgain : List pm_R := [(0, .iconst 0, false, 0, 0, 0), (1, .istore_n 2, false, 0, 0, 0), (2, .aload_n 0, false, 0, 0, 0), (3, .invokevirtual 41, false, 27, 1, 1), (6, .istore_n 3, false, 0, 0, 0), (7, .iconst 0, false, 0, 0, 0), (8, .istore 4, false, 0, 0, 0), (10, .iload 4, true, 0, 0, 0), (12, .iload_n 3, false, 0, 0, 0), (13, .if_icmp .ge 93, false, 106, 0, 0), (16, .aload_n 0, false, 0, 0, 0), (17, .getfield 29, false, 1, 5, 0), (20, .iload 4, false, 0, 0, 0), (22, .invokestatic 49, false, 7, 2, 0), (25, .istore 5, false, 0, 0, 0), (27, .iload 5, false, 0, 0, 0), (29, .invokestatic 45, false, 9, 1, 0), (32, .istore 6, false, 0, 0, 0), (34, .aload_n 0, false, 0, 0, 0), (35, .getfield 18, false, 1, 2, 0), (38, .iload 6, false, 0, 0, 0), (40, .baload, false, 0, 0, 0), (41, .ifCond .eq 6, false, 47, 0, 0), (44, .goto 56, false, 100, 0, 0), (47, .aload_n 0, false, 0, 0, 0), (48, .getfield 15, false, 1, 1, 0), (51, .iload 6, false, 0, 0, 0), (53, .dup2, false, 0, 0, 0), (54, .iaload, false, 0, 0, 0), (55, .iconst 1, false, 1, 0, 0), (56, .iadd, false, 0, 0, 0), (57, .iastore, false, 0, 0, 0), (58, .aload_n 0, false, 0, 0, 0), (59, .getfield 15, false, 1, 1, 0), (62, .iload 6, false, 0, 0, 0), (64, .iaload, false, 0, 0, 0), (65, .aload_n 0, false, 0, 0, 0), (66, .getfield 26, false, 1, 4, 0), (69, .if_icmp .lt 31, false, 100, 0, 0), (72, .aload_n 1, false, 0, 0, 0), (73, .invokevirtual 57, false, 36, 1, 2), (76, .ifCond .eq 24, false, 100, 0, 0), (79, .aload_n 1, false, 0, 0, 0), (80, .aload_n 0, false, 0, 0, 0), (81, .iload 5, false, 0, 0, 0), (83, .invokevirtual 53, false, 28, 2, 1), (86, .invokevirtual 63, false, 40, 2, 2), (89, .aload_n 0, false, 0, 0, 0), (90, .getfield 15, false, 1, 1, 0), (93, .iload 6, false, 0, 0, 0), (95, .iconst 0, false, 0, 0, 0), (96, .iastore, false, 0, 0, 0), (97, .iinc 2 1, false, 1, 0, 0), (100, .iinc 4 1, false, 1, 0, 0), (103, .goto (-93), false, 10, 0, 0), (106, .aload_n 0, false, 0, 0, 0), (107, .dup, false, 0, 0, 0), (108, .getfield 38, false, 1, 8, 0), (111, .iload_n 2, false, 0, 0, 0), (112, .iadd, false, 0, 0, 0), (113, .putfield 38, false, 1, 8, 0), (116, .iload_n 2, false, 0, 0, 0), (117, .ireturn, false, 0, 0, 0)]
def prX3_isGood : List pm_R := [(0, .aload_n 0, false, 0, 0, 0), (1, .getfield 29, false, 1, 5, 0), (4, .iload_n 1, false, 0, 0, 0), (5, .invokestatic 67, false, 8, 2, 0), (8, .aload_n 0, false, 0, 0, 0), (9, .invokevirtual 41, false, 27, 1, 1), (12, .if_icmp .gt 7, false, 19, 0, 0), (15, .iconst 1, false, 1, 0, 0), (16, .goto 4, false, 20, 0, 0), (19, .iconst 0, false, 0, 0, 0), (20, .ireturn, false, 0, 0, 0)]
def prX3_acknowledge : List pm_R := [(0, .aload_n 0, false, 0, 0, 0), (1, .invokevirtual 41, false, 27, 1, 1), (4, .istore_n 3, false, 0, 0, 0), (5, .aload_n 0, false, 0, 0, 0), (6, .getfield 29, false, 1, 5, 0), (9, .iload_n 1, false, 0, 0, 0), (10, .invokestatic 67, false, 8, 2, 0), (13, .istore 4, false, 0, 0, 0), (15, .iconst 0, false, 0, 0, 0), (16, .istore 5, false, 0, 0, 0), (18, .iconst 0, false, 0, 0, 0), (19, .istore 6, false, 0, 0, 0), (21, .iload 6, true, 0, 0, 0), (23, .iload_n 3, false, 0, 0, 0), (24, .if_icmp .ge 48, false, 72, 0, 0), (27, .iload 6, false, 0, 0, 0), (29, .iload 4, false, 0, 0, 0), (31, .if_icmp .lt 17, false, 48, 0, 0), (34, .iload_n 2, false, 0, 0, 0), (35, .iload 6, false, 0, 0, 0), (37, .iload 4, false, 0, 0, 0), (39, .isub, false, 0, 0, 0), (40, .iconst 1, false, 1, 0, 0), (41, .isub, false, 0, 0, 0), (42, .invokestatic 70, false, 29, 2, 1), (45, .ifCond .eq 21, false, 66, 0, 0), (48, .iload 5, false, 0, 0, 0), (50, .aload_n 0, false, 0, 0, 0), (51, .aload_n 0, false, 0, 0, 0), (52, .getfield 29, false, 1, 5, 0), (55, .iload 6, false, 0, 0, 0), (57, .invokestatic 49, false, 7, 2, 0), (60, .invokevirtual 74, false, 30, 2, 1), (63, .iadd, false, 0, 0, 0), (64, .istore 5, false, 0, 0, 0), (66, .iinc 6 1, false, 1, 0, 0), (69, .goto (-48), false, 21, 0, 0), (72, .aload_n 0, false, 0, 0, 0), (73, .invokevirtual 77, false, 31, 1, 1), (76, .iload 5, false, 0, 0, 0), (78, .ireturn, false, 0, 0, 0)]
def prX3_unacknowledged : List pm_R := [(0, .iconst 0, false, 0, 0, 0), (1, .istore_n 1, false, 0, 0, 0), (2, .aload_n 0, false, 0, 0, 0), (3, .invokevirtual 41, false, 27, 1, 1), (6, .istore_n 2, false, 0, 0, 0), (7, .iconst 0, false, 0, 0, 0), (8, .istore_n 3, false, 0, 0, 0), (9, .iload_n 3, true, 0, 0, 0), (10, .iload_n 2, false, 0, 0, 0), (11, .if_icmp .ge 31, false, 42, 0, 0), (14, .aload_n 0, false, 0, 0, 0), (15, .getfield 18, false, 1, 2, 0), (18, .aload_n 0, false, 0, 0, 0), (19, .getfield 29, false, 1, 5, 0), (22, .iload_n 3, false, 0, 0, 0), (23, .invokestatic 49, false, 7, 2, 0), (26, .invokestatic 45, false, 9, 1, 0), (29, .baload, false, 0, 0, 0), (30, .ifCond .ne 6, false, 36, 0, 0), (33, .iinc 1 1, false, 1, 0, 0), (36, .iinc 3 1, false, 1, 0, 0), (39, .goto (-30), false, 9, 0, 0), (42, .iload_n 1, false, 0, 0, 0), (43, .ireturn, false, 0, 0, 0)]
def prX3_held : List pm_R := [(0, .aload_n 0, false, 0, 0, 0), (1, .getfield 29, false, 1, 5, 0), (4, .aload_n 0, false, 0, 0, 0), (5, .getfield 32, false, 1, 6, 0), (8, .invokestatic 67, false, 8, 2, 0), (11, .ireturn, false, 0, 0, 0)]
def prX3_frameOf : List pm_R := [(0, .iconst 0, false, 0, 0, 0), (1, .iload_n 1, false, 0, 0, 0), (2, .aload_n 0, false, 0, 0, 0), (3, .getfield 9, false, 1, 0, 0), (6, .iload_n 1, false, 0, 0, 0), (7, .invokestatic 45, false, 9, 1, 0), (10, .iaload, false, 0, 0, 0), (11, .iconst 0, false, 0, 0, 0), (12, .invokestatic 82, false, 0, 4, 0), (15, .lreturn, false, 0, 0, 0)]
def prX3_isInMap : List pm_R := [(0, .iload_n 1, false, 0, 0, 0), (1, .ifCond .lt 21, false, 22, 0, 0), (4, .iload_n 1, false, 0, 0, 0), (5, .bipush 16, false, 16, 0, 0), (7, .if_icmp .ge 15, false, 22, 0, 0), (10, .iload_n 0, false, 0, 0, 0), (11, .iload_n 1, false, 0, 0, 0), (12, .iushr, false, 0, 0, 0), (13, .iconst 1, false, 1, 0, 0), (14, .iand, false, 0, 0, 0), (15, .ifCond .eq 7, false, 22, 0, 0), (18, .iconst 1, false, 1, 0, 0), (19, .goto 4, false, 23, 0, 0), (22, .iconst 0, false, 0, 0, 0), (23, .ireturn, false, 0, 0, 0)]
def prX3_mark : List pm_R := [(0, .iload_n 1, false, 0, 0, 0), (1, .invokestatic 45, false, 9, 1, 0), (4, .istore_n 2, false, 0, 0, 0), (5, .aload_n 0, false, 0, 0, 0), (6, .getfield 18, false, 1, 2, 0), (9, .iload_n 2, false, 0, 0, 0), (10, .baload, false, 0, 0, 0), (11, .ifCond .eq 5, false, 16, 0, 0), (14, .iconst 0, false, 0, 0, 0), (15, .ireturn, false, 0, 0, 0), (16, .aload_n 0, false, 0, 0, 0), (17, .getfield 18, false, 1, 2, 0), (20, .iload_n 2, false, 0, 0, 0), (21, .iconst 1, false, 1, 0, 0), (22, .bastore, false, 0, 0, 0), (23, .iconst 1, false, 1, 0, 0), (24, .ireturn, false, 0, 0, 0)]
def prX3_moveBase : List pm_R := [(0, .aload_n 0, false, 0, 0, 0), (1, .invokevirtual 41, false, 27, 1, 1), (4, .istore_n 1, false, 0, 0, 0), (5, .iconst 0, false, 0, 0, 0), (6, .istore_n 2, false, 0, 0, 0), (7, .iload_n 2, true, 0, 0, 0), (8, .iload_n 1, false, 0, 0, 0), (9, .if_icmp .ge 36, false, 45, 0, 0), (12, .aload_n 0, false, 0, 0, 0), (13, .getfield 18, false, 1, 2, 0), (16, .aload_n 0, false, 0, 0, 0), (17, .getfield 29, false, 1, 5, 0), (20, .invokestatic 45, false, 9, 1, 0), (23, .baload, false, 0, 0, 0), (24, .ifCond .eq 21, false, 45, 0, 0), (27, .aload_n 0, false, 0, 0, 0), (28, .aload_n 0, false, 0, 0, 0), (29, .getfield 29, false, 1, 5, 0), (32, .iconst 1, false, 1, 0, 0), (33, .invokestatic 49, false, 7, 2, 0), (36, .putfield 29, false, 1, 5, 0), (39, .iinc 2 1, false, 1, 0, 0), (42, .goto (-35), false, 7, 0, 0), (45, .return_, false, 0, 0, 0)]
def prX4_init : List pm_R := [(0, .aload_n 0, false, 0, 0, 0), (1, .invokespecial 3, false, 9999, 0, 0), (4, .aload_n 0, false, 0, 0, 0), (5, .bipush 32, false, 32, 0, 0), (7, .newarray .long, false, 32, 0, 0), (9, .putfield 11, false, 2, 0, 2), (12, .aload_n 0, false, 0, 0, 0), (13, .bipush 32, false, 32, 0, 0), (15, .newarray .int, false, 32, 0, 0), (17, .putfield 15, false, 2, 1, 2), (20, .return_, false, 0, 0, 0)]
def prX4_clear : List pm_R := [(0, .aload_n 0, false, 0, 0, 0), (1, .iconst 0, false, 0, 0, 0), (2, .putfield 19, false, 2, 2, 0), (5, .aload_n 0, false, 0, 0, 0), (6, .iconst 0, false, 0, 0, 0), (7, .putfield 23, false, 2, 3, 0), (10, .aload_n 0, false, 0, 0, 0), (11, .iload_n 1, false, 0, 0, 0), (12, .putfield 26, false, 2, 4, 0), (15, .return_, false, 0, 0, 0)]
def prX4_size : List pm_R := [(0, .aload_n 0, false, 0, 0, 0), (1, .getfield 23, false, 2, 3, 0), (4, .ireturn, false, 0, 0, 0)]
def prX4_isEmpty : List pm_R := [(0, .aload_n 0, false, 0, 0, 0), (1, .getfield 23, false, 2, 3, 0), (4, .ifCond .ne 7, false, 11, 0, 0), (7, .iconst 1, false, 1, 0, 0), (8, .goto 4, false, 12, 0, 0), (11, .iconst 0, false, 0, 0, 0), (12, .ireturn, false, 0, 0, 0)]
def prX4_hasRoom : List pm_R := [(0, .aload_n 0, false, 0, 0, 0), (1, .getfield 23, false, 2, 3, 0), (4, .aload_n 0, false, 0, 0, 0), (5, .getfield 26, false, 2, 4, 0), (8, .if_icmp .ge 7, false, 15, 0, 0), (11, .iconst 1, false, 1, 0, 0), (12, .goto 4, false, 16, 0, 0), (15, .iconst 0, false, 0, 0, 0), (16, .ireturn, false, 0, 0, 0)]
def prX4_bytesAt : List pm_R := [(0, .aload_n 0, false, 0, 0, 0), (1, .getfield 11, false, 2, 0, 0), (4, .aload_n 0, false, 0, 0, 0), (5, .iload_n 1, false, 0, 0, 0), (6, .invokevirtual 29, false, 46, 2, 2), (9, .laload, false, 0, 0, 0), (10, .lreturn, false, 0, 0, 0)]
def prX4_checkSumAt : List pm_R := [(0, .aload_n 0, false, 0, 0, 0), (1, .getfield 15, false, 2, 1, 0), (4, .aload_n 0, false, 0, 0, 0), (5, .iload_n 1, false, 0, 0, 0), (6, .invokevirtual 29, false, 46, 2, 2), (9, .iaload, false, 0, 0, 0), (10, .i2l, false, 0, 0, 0), (11, .ldc2_w 33, false, 4294967295, 0, 0), (14, .land, false, 0, 0, 0), (15, .lreturn, false, 0, 0, 0)]
def prX4_isOldestSound : List pm_R := [(0, .aload_n 0, false, 0, 0, 0), (1, .getfield 11, false, 2, 0, 0), (4, .aload_n 0, false, 0, 0, 0), (5, .getfield 19, false, 2, 2, 0), (8, .laload, false, 0, 0, 0), (9, .lstore_n 2, false, 0, 0, 0), (10, .lload_n 2, false, 0, 0, 0), (11, .invokestatic 35, false, 5, 1, 0), (14, .aload_n 0, false, 0, 0, 0), (15, .getfield 15, false, 2, 1, 0), (18, .aload_n 0, false, 0, 0, 0), (19, .getfield 19, false, 2, 2, 0), (22, .iaload, false, 0, 0, 0), (23, .if_icmp .ne 15, false, 38, 0, 0), (26, .lload_n 2, false, 0, 0, 0), (27, .invokestatic 41, false, 1, 1, 0), (30, .iload_n 1, false, 0, 0, 0), (31, .if_icmp .ne 7, false, 38, 0, 0), (34, .iconst 1, false, 1, 0, 0), (35, .goto 4, false, 39, 0, 0), (38, .iconst 0, false, 0, 0, 0), (39, .ireturn, false, 0, 0, 0)]
def prX4_put : List pm_R := [(0, .aload_n 0, false, 0, 0, 0), (1, .lload_n 1, false, 0, 0, 0), (2, .lload_n 1, false, 0, 0, 0), (3, .invokestatic 35, false, 5, 1, 0), (6, .invokevirtual 44, false, 45, 3, 2), (9, .return_, false, 0, 0, 0)]
def prX4_takeOldest : List pm_R := [(0, .aload_n 0, false, 0, 0, 0), (1, .getfield 11, false, 2, 0, 0), (4, .aload_n 0, false, 0, 0, 0), (5, .getfield 19, false, 2, 2, 0), (8, .laload, false, 0, 0, 0), (9, .lstore_n 1, false, 0, 0, 0), (10, .aload_n 0, false, 0, 0, 0), (11, .aload_n 0, false, 0, 0, 0), (12, .iconst 1, false, 1, 0, 0), (13, .invokevirtual 29, false, 46, 2, 2), (16, .putfield 19, false, 2, 2, 0), (19, .aload_n 0, false, 0, 0, 0), (20, .dup, false, 0, 0, 0), (21, .getfield 23, false, 2, 3, 0), (24, .iconst 1, false, 1, 0, 0), (25, .isub, false, 0, 0, 0), (26, .putfield 23, false, 2, 3, 0), (29, .lload_n 1, false, 0, 0, 0), (30, .lreturn, false, 0, 0, 0)]
def prX4_turnBitOfOldest : List pm_R := [(0, .iload_n 1, false, 0, 0, 0), (1, .bipush 32, false, 32, 0, 0), (3, .if_icmp .ge 21, false, 24, 0, 0), (6, .aload_n 0, false, 0, 0, 0), (7, .getfield 15, false, 2, 1, 0), (10, .aload_n 0, false, 0, 0, 0), (11, .getfield 19, false, 2, 2, 0), (14, .dup2, false, 0, 0, 0), (15, .iaload, false, 0, 0, 0), (16, .iconst 1, false, 1, 0, 0), (17, .iload_n 1, false, 0, 0, 0), (18, .ishl, false, 0, 0, 0), (19, .ixor, false, 0, 0, 0), (20, .iastore, false, 0, 0, 0), (21, .goto 21, false, 42, 0, 0), (24, .aload_n 0, false, 0, 0, 0), (25, .getfield 11, false, 2, 0, 0), (28, .aload_n 0, false, 0, 0, 0), (29, .getfield 19, false, 2, 2, 0), (32, .dup2, false, 0, 0, 0), (33, .laload, false, 0, 0, 0), (34, .lconst 1, false, 0, 0, 0), (35, .iload_n 1, false, 0, 0, 0), (36, .bipush 32, false, 32, 0, 0), (38, .isub, false, 0, 0, 0), (39, .lshl, false, 0, 0, 0), (40, .lxor, false, 0, 0, 0), (41, .lastore, false, 0, 0, 0), (42, .return_, false, 0, 0, 0)]
def prX4_doubleOldest : List pm_R := [(0, .aload_n 0, false, 0, 0, 0), (1, .iconst (-1), false, 1, 0, 1), (2, .invokevirtual 29, false, 46, 2, 2), (5, .istore_n 1, false, 0, 0, 0), (6, .aload_n 0, false, 0, 0, 0), (7, .getfield 11, false, 2, 0, 0), (10, .iload_n 1, false, 0, 0, 0), (11, .aload_n 0, false, 0, 0, 0), (12, .getfield 11, false, 2, 0, 0), (15, .aload_n 0, false, 0, 0, 0), (16, .getfield 19, false, 2, 2, 0), (19, .laload, false, 0, 0, 0), (20, .lastore, false, 0, 0, 0), (21, .aload_n 0, false, 0, 0, 0), (22, .getfield 15, false, 2, 1, 0), (25, .iload_n 1, false, 0, 0, 0), (26, .aload_n 0, false, 0, 0, 0), (27, .getfield 15, false, 2, 1, 0), (30, .aload_n 0, false, 0, 0, 0), (31, .getfield 19, false, 2, 2, 0), (34, .iaload, false, 0, 0, 0), (35, .iastore, false, 0, 0, 0), (36, .aload_n 0, false, 0, 0, 0), (37, .iload_n 1, false, 0, 0, 0), (38, .putfield 19, false, 2, 2, 0), (41, .aload_n 0, false, 0, 0, 0), (42, .dup, false, 0, 0, 0), (43, .getfield 23, false, 2, 3, 0), (46, .iconst 1, false, 1, 0, 0), (47, .iadd, false, 0, 0, 0), (48, .putfield 23, false, 2, 3, 0), (51, .return_, false, 0, 0, 0)]
def prX4_moveOldestBack : List pm_R := [(0, .aload_n 0, false, 0, 0, 0), (1, .getfield 15, false, 2, 1, 0), (4, .aload_n 0, false, 0, 0, 0), (5, .getfield 19, false, 2, 2, 0), (8, .iaload, false, 0, 0, 0), (9, .istore_n 1, false, 0, 0, 0), (10, .aload_n 0, false, 0, 0, 0), (11, .aload_n 0, false, 0, 0, 0), (12, .invokevirtual 48, false, 41, 1, 2), (15, .iload_n 1, false, 0, 0, 0), (16, .invokevirtual 44, false, 45, 3, 2), (19, .return_, false, 0, 0, 0)]
def prX4_putBack : List pm_R := [(0, .aload_n 0, false, 0, 0, 0), (1, .aload_n 0, false, 0, 0, 0), (2, .getfield 23, false, 2, 3, 0), (5, .invokevirtual 29, false, 46, 2, 2), (8, .istore 4, false, 0, 0, 0), (10, .aload_n 0, false, 0, 0, 0), (11, .getfield 11, false, 2, 0, 0), (14, .iload 4, false, 0, 0, 0), (16, .lload_n 1, false, 0, 0, 0), (17, .lastore, false, 0, 0, 0), (18, .aload_n 0, false, 0, 0, 0), (19, .getfield 15, false, 2, 1, 0), (22, .iload 4, false, 0, 0, 0), (24, .iload_n 3, false, 0, 0, 0), (25, .iastore, false, 0, 0, 0), (26, .aload_n 0, false, 0, 0, 0), (27, .dup, false, 0, 0, 0), (28, .getfield 23, false, 2, 3, 0), (31, .iconst 1, false, 1, 0, 0), (32, .iadd, false, 0, 0, 0), (33, .putfield 23, false, 2, 3, 0), (36, .return_, false, 0, 0, 0)]
def prX4_placeOf : List pm_R := [(0, .aload_n 0, false, 0, 0, 0), (1, .getfield 19, false, 2, 2, 0), (4, .iload_n 1, false, 0, 0, 0), (5, .iadd, false, 0, 0, 0), (6, .bipush 31, false, 31, 0, 0), (8, .iand, false, 0, 0, 0), (9, .ireturn, false, 0, 0, 0)]
def prX5_init : List pm_R := [(0, .aload_n 0, false, 0, 0, 0), (1, .invokespecial 1, false, 9999, 0, 0), (4, .aload_n 0, false, 0, 0, 0), (5, .new 7, false, 2, 5, 0), (8, .dup, false, 0, 0, 0), (9, .invokespecial 9, false, 32, 1, 1), (12, .putfield 10, false, 3, 0, 2), (15, .aload_n 0, false, 0, 0, 0), (16, .new 7, false, 2, 5, 0), (19, .dup, false, 0, 0, 0), (20, .invokespecial 9, false, 32, 1, 1), (23, .putfield 16, false, 3, 1, 2), (26, .aload_n 0, false, 0, 0, 0), (27, .new 19, false, 1, 9, 0), (30, .dup, false, 0, 0, 0), (31, .invokespecial 21, false, 19, 1, 1), (34, .putfield 22, false, 3, 2, 2), (37, .aload_n 0, false, 0, 0, 0), (38, .new 26, false, 0, 6, 0), (41, .dup, false, 0, 0, 0), (42, .invokespecial 28, false, 10, 1, 1), (45, .putfield 29, false, 3, 3, 2), (48, .aload_n 0, false, 0, 0, 0), (49, .iconst 4, false, 4, 0, 0), (50, .iconst 3, false, 3, 0, 0), (51, .bipush 8, false, 8, 0, 0), (53, .invokevirtual 33, false, 62, 4, 3), (56, .return_, false, 0, 0, 0)]
def prX5_begin : List pm_R := [(0, .iload_n 1, false, 0, 0, 0), (1, .iconst 1, false, 1, 0, 0), (2, .bipush 16, false, 16, 0, 0), (4, .invokestatic 37, false, 64, 3, 3), (7, .ifCond .eq 23, false, 30, 0, 0), (10, .iload_n 2, false, 0, 0, 0), (11, .iconst 1, false, 1, 0, 0), (12, .bipush 50, false, 50, 0, 0), (14, .invokestatic 37, false, 64, 3, 3), (17, .ifCond .eq 13, false, 30, 0, 0), (20, .iload_n 3, false, 0, 0, 0), (21, .iconst 1, false, 1, 0, 0), (22, .bipush 32, false, 32, 0, 0), (24, .invokestatic 37, false, 64, 3, 3), (27, .ifCond .ne 13, false, 40, 0, 0), (30, .new 41, false, 1, 43, 45), (33, .dup, false, 0, 0, 0), (34, .ldc 43, false, 0, 0, 9), (36, .invokespecial 45, false, 9998, 0, 0), (39, .athrow, false, 0, 0, 0), (40, .aload_n 0, false, 0, 0, 0), (41, .iload_n 1, false, 0, 0, 0), (42, .iload_n 2, false, 0, 0, 0), (43, .iload_n 3, false, 0, 0, 0), (44, .invokevirtual 33, false, 62, 4, 3), (47, .return_, false, 0, 0, 0)]
def prX5_send : List pm_R := [(0, .aload_n 0, false, 0, 0, 0), (1, .getfield 22, false, 3, 2, 0), (4, .invokevirtual 48, false, 21, 1, 1), (7, .ifCond .eq 13, false, 20, 0, 0), (10, .aload_n 0, false, 0, 0, 0), (11, .getfield 10, false, 3, 0, 0), (14, .invokevirtual 52, false, 36, 1, 2), (17, .ifCond .ne 5, false, 22, 0, 0), (20, .iconst 0, false, 0, 0, 0), (21, .ireturn, false, 0, 0, 0), (22, .aload_n 0, false, 0, 0, 0), (23, .getfield 10, false, 3, 0, 0), (26, .aload_n 0, false, 0, 0, 0), (27, .getfield 22, false, 3, 2, 0), (30, .iload_n 1, false, 0, 0, 0), (31, .invokevirtual 53, false, 22, 2, 1), (34, .invokevirtual 57, false, 40, 2, 2), (37, .iconst 1, false, 1, 0, 0), (38, .ireturn, false, 0, 0, 0)]
def prX5_tick : List pm_R := [(0, .aload_n 0, false, 0, 0, 0), (1, .getfield 22, false, 3, 2, 0), (4, .aload_n 0, false, 0, 0, 0), (5, .getfield 10, false, 3, 0, 0), (8, .invokevirtual 61, false, 23, 2, 1), (11, .ireturn, false, 0, 0, 0)]
def prX5_comeToB : List pm_R := [(0, .aload_n 0, false, 0, 0, 0), (1, .getfield 10, false, 3, 0, 0), (4, .invokevirtual 65, false, 35, 1, 2), (7, .ifCond .eq 5, false, 12, 0, 0), (10, .iconst (-1), false, 1, 0, 1), (11, .ireturn, false, 0, 0, 0), (12, .aload_n 0, false, 0, 0, 0), (13, .getfield 10, false, 3, 0, 0), (16, .iconst 0, false, 0, 0, 0), (17, .invokevirtual 70, false, 39, 2, 2), (20, .istore_n 1, false, 0, 0, 0), (21, .aload_n 0, false, 0, 0, 0), (22, .getfield 10, false, 3, 0, 0), (25, .invokevirtual 74, false, 41, 1, 2), (28, .lstore_n 2, false, 0, 0, 0), (29, .iload_n 1, false, 0, 0, 0), (30, .ifCond .ne 5, false, 35, 0, 0), (33, .iconst 2, false, 2, 0, 0), (34, .ireturn, false, 0, 0, 0), (35, .aload_n 0, false, 0, 0, 0), (36, .getfield 29, false, 3, 3, 0), (39, .lload_n 2, false, 0, 0, 0), (40, .invokestatic 78, false, 2, 1, 0), (43, .lload_n 2, false, 0, 0, 0), (44, .invokestatic 82, false, 3, 1, 0), (47, .invokevirtual 85, false, 12, 3, 0), (50, .istore 4, false, 0, 0, 0), (52, .aload_n 0, false, 0, 0, 0), (53, .getfield 16, false, 3, 1, 0), (56, .invokevirtual 52, false, 36, 1, 2), (59, .ifCond .eq 17, false, 76, 0, 0), (62, .aload_n 0, false, 0, 0, 0), (63, .getfield 16, false, 3, 1, 0), (66, .aload_n 0, false, 0, 0, 0), (67, .getfield 29, false, 3, 3, 0), (70, .invokevirtual 89, false, 13, 1, 0), (73, .invokevirtual 57, false, 40, 2, 2), (76, .iload 4, false, 0, 0, 0), (78, .ifCond .eq 7, false, 85, 0, 0), (81, .iconst 0, false, 0, 0, 0), (82, .goto 4, false, 86, 0, 0), (85, .iconst 1, false, 1, 0, 0), (86, .ireturn, false, 0, 0, 0)]
def prX5_comeToA : List pm_R := [(0, .aload_n 0, false, 0, 0, 0), (1, .getfield 16, false, 3, 1, 0), (4, .invokevirtual 65, false, 35, 1, 2), (7, .ifCond .eq 5, false, 12, 0, 0), (10, .iconst (-1), false, 1, 0, 1), (11, .ireturn, false, 0, 0, 0), (12, .aload_n 0, false, 0, 0, 0), (13, .getfield 16, false, 3, 1, 0), (16, .iconst 1, false, 1, 0, 0), (17, .invokevirtual 70, false, 39, 2, 2), (20, .istore_n 1, false, 0, 0, 0), (21, .aload_n 0, false, 0, 0, 0), (22, .getfield 16, false, 3, 1, 0), (25, .invokevirtual 74, false, 41, 1, 2), (28, .lstore_n 2, false, 0, 0, 0), (29, .iload_n 1, false, 0, 0, 0), (30, .ifCond .ne 6, false, 36, 0, 0), (33, .bipush (-3), false, 3, 0, 1), (35, .ireturn, false, 0, 0, 0), (36, .lload_n 2, false, 0, 0, 0), (37, .invokestatic 78, false, 2, 1, 0), (40, .istore 4, false, 0, 0, 0), (42, .aload_n 0, false, 0, 0, 0), (43, .getfield 22, false, 3, 2, 0), (46, .iload 4, false, 0, 0, 0), (48, .invokevirtual 92, false, 24, 2, 1), (51, .ifCond .ne 6, false, 57, 0, 0), (54, .bipush (-2), false, 2, 0, 1), (56, .ireturn, false, 0, 0, 0), (57, .aload_n 0, false, 0, 0, 0), (58, .getfield 22, false, 3, 2, 0), (61, .iload 4, false, 0, 0, 0), (63, .lload_n 2, false, 0, 0, 0), (64, .invokestatic 95, false, 4, 1, 0), (67, .invokevirtual 98, false, 25, 3, 1), (70, .ireturn, false, 0, 0, 0)]
def prX5_lose : List pm_R := [(0, .aload_n 0, false, 0, 0, 0), (1, .iload_n 1, false, 0, 0, 0), (2, .invokevirtual 102, false, 63, 2, 3), (5, .astore_n 2, false, 0, 0, 0), (6, .aload_n 2, false, 0, 0, 0), (7, .invokevirtual 65, false, 35, 1, 2), (10, .ifCond .eq 5, false, 15, 0, 0), (13, .iconst 0, false, 0, 0, 0), (14, .ireturn, false, 0, 0, 0), (15, .aload_n 2, false, 0, 0, 0), (16, .invokevirtual 74, false, 41, 1, 2), (19, .pop2, false, 0, 0, 0), (20, .iconst 1, false, 1, 0, 0), (21, .ireturn, false, 0, 0, 0)]
def prX5_change : List pm_R := [(0, .aload_n 0, false, 0, 0, 0), (1, .iload_n 1, false, 0, 0, 0), (2, .invokevirtual 102, false, 63, 2, 3), (5, .astore_n 3, false, 0, 0, 0), (6, .iload_n 2, false, 0, 0, 0), (7, .iconst 0, false, 0, 0, 0), (8, .bipush 95, false, 95, 0, 0), (10, .invokestatic 37, false, 64, 3, 3), (13, .ifCond .ne 13, false, 26, 0, 0), (16, .new 41, false, 1, 106, 45), (19, .dup, false, 0, 0, 0), (20, .ldc 106, false, 0, 0, 9), (22, .invokespecial 45, false, 9998, 0, 0), (25, .athrow, false, 0, 0, 0), (26, .aload_n 3, false, 0, 0, 0), (27, .invokevirtual 65, false, 35, 1, 2), (30, .ifCond .eq 5, false, 35, 0, 0), (33, .iconst 0, false, 0, 0, 0), (34, .ireturn, false, 0, 0, 0), (35, .aload_n 3, false, 0, 0, 0), (36, .iload_n 2, false, 0, 0, 0), (37, .invokevirtual 108, false, 42, 2, 2), (40, .iconst 1, false, 1, 0, 0), (41, .ireturn, false, 0, 0, 0)]
def prX5_twice : List pm_R := [(0, .aload_n 0, false, 0, 0, 0), (1, .iload_n 1, false, 0, 0, 0), (2, .invokevirtual 102, false, 63, 2, 3), (5, .astore_n 2, false, 0, 0, 0), (6, .aload_n 2, false, 0, 0, 0), (7, .invokevirtual 65, false, 35, 1, 2), (10, .ifCond .ne 10, false, 20, 0, 0), (13, .aload_n 2, false, 0, 0, 0), (14, .invokevirtual 52, false, 36, 1, 2), (17, .ifCond .ne 5, false, 22, 0, 0), (20, .iconst 0, false, 0, 0, 0), (21, .ireturn, false, 0, 0, 0), (22, .aload_n 2, false, 0, 0, 0), (23, .invokevirtual 112, false, 43, 1, 2), (26, .iconst 1, false, 1, 0, 0), (27, .ireturn, false, 0, 0, 0)]
def prX5_delay : List pm_R := [(0, .aload_n 0, false, 0, 0, 0), (1, .iload_n 1, false, 0, 0, 0), (2, .invokevirtual 102, false, 63, 2, 3), (5, .astore_n 2, false, 0, 0, 0), (6, .aload_n 2, false, 0, 0, 0), (7, .invokevirtual 115, false, 34, 1, 2), (10, .iconst 2, false, 2, 0, 0), (11, .if_icmp .ge 5, false, 16, 0, 0), (14, .iconst 0, false, 0, 0, 0), (15, .ireturn, false, 0, 0, 0), (16, .aload_n 2, false, 0, 0, 0), (17, .invokevirtual 119, false, 44, 1, 2), (20, .iconst 1, false, 1, 0, 0), (21, .ireturn, false, 0, 0, 0)]
def prX5_delivered : List pm_R := [(0, .aload_n 0, false, 0, 0, 0), (1, .getfield 29, false, 3, 3, 0), (4, .invokevirtual 122, false, 15, 1, 0), (7, .ireturn, false, 0, 0, 0)]
def prX5_word : List pm_R := [(0, .aload_n 0, false, 0, 0, 0), (1, .getfield 29, false, 3, 3, 0), (4, .iload_n 1, false, 0, 0, 0), (5, .invokevirtual 125, false, 16, 2, 0), (8, .ifCond .ne 13, false, 21, 0, 0), (11, .new 128, false, 2, 130, 132), (14, .dup, false, 0, 0, 0), (15, .ldc 130, false, 0, 0, 9), (17, .invokespecial 132, false, 9998, 0, 0), (20, .athrow, false, 0, 0, 0), (21, .aload_n 0, false, 0, 0, 0), (22, .getfield 29, false, 3, 3, 0), (25, .iload_n 1, false, 0, 0, 0), (26, .invokevirtual 133, false, 17, 2, 0), (29, .ireturn, false, 0, 0, 0)]
def prX5_frame : List pm_R := [(0, .aload_n 0, false, 0, 0, 0), (1, .iload_n 1, false, 0, 0, 0), (2, .invokevirtual 102, false, 63, 2, 3), (5, .astore 4, false, 0, 0, 0), (7, .iload_n 3, false, 0, 0, 0), (8, .iconst 0, false, 0, 0, 0), (9, .iconst 1, false, 1, 0, 0), (10, .invokestatic 37, false, 64, 3, 3), (13, .ifCond .ne 13, false, 26, 0, 0), (16, .new 41, false, 1, 137, 45), (19, .dup, false, 0, 0, 0), (20, .ldc 137, false, 0, 0, 9), (22, .invokespecial 45, false, 9998, 0, 0), (25, .athrow, false, 0, 0, 0), (26, .iload_n 2, false, 0, 0, 0), (27, .iconst 0, false, 0, 0, 0), (28, .aload 4, false, 0, 0, 0), (30, .invokevirtual 115, false, 34, 1, 2), (33, .iconst 1, false, 1, 0, 0), (34, .isub, false, 0, 0, 0), (35, .invokestatic 37, false, 64, 3, 3), (38, .ifCond .ne 13, false, 51, 0, 0), (41, .new 128, false, 2, 139, 132), (44, .dup, false, 0, 0, 0), (45, .ldc 139, false, 0, 0, 9), (47, .invokespecial 132, false, 9998, 0, 0), (50, .athrow, false, 0, 0, 0), (51, .iload_n 3, false, 0, 0, 0), (52, .ifCond .ne 12, false, 64, 0, 0), (55, .aload 4, false, 0, 0, 0), (57, .iload_n 2, false, 0, 0, 0), (58, .invokevirtual 141, false, 37, 2, 2), (61, .goto 9, false, 70, 0, 0), (64, .aload 4, false, 0, 0, 0), (66, .iload_n 2, false, 0, 0, 0), (67, .invokevirtual 144, false, 38, 2, 2), (70, .lreturn, false, 0, 0, 0)]
def prX5_told : List pm_R := [(0, .iload_n 1, false, 0, 0, 0), (1, .tableswitch 143 0 9 #[55, 63, 71, 79, 87, 95, 103, 111, 127, 135], false, 0, 0, 0), (56, .aload_n 0, false, 0, 0, 0), (57, .getfield 22, false, 3, 2, 0), (60, .getfield 147, false, 1, 5, 1), (63, .ireturn, false, 0, 0, 0), (64, .aload_n 0, false, 0, 0, 0), (65, .getfield 22, false, 3, 2, 0), (68, .getfield 151, false, 1, 6, 1), (71, .ireturn, false, 0, 0, 0), (72, .aload_n 0, false, 0, 0, 0), (73, .getfield 29, false, 3, 3, 0), (76, .getfield 154, false, 0, 4, 1), (79, .ireturn, false, 0, 0, 0), (80, .aload_n 0, false, 0, 0, 0), (81, .getfield 22, false, 3, 2, 0), (84, .invokevirtual 157, false, 26, 1, 1), (87, .ireturn, false, 0, 0, 0), (88, .aload_n 0, false, 0, 0, 0), (89, .getfield 29, false, 3, 3, 0), (92, .invokevirtual 160, false, 14, 1, 0), (95, .ireturn, false, 0, 0, 0), (96, .aload_n 0, false, 0, 0, 0), (97, .getfield 10, false, 3, 0, 0), (100, .invokevirtual 115, false, 34, 1, 2), (103, .ireturn, false, 0, 0, 0), (104, .aload_n 0, false, 0, 0, 0), (105, .getfield 16, false, 3, 1, 0), (108, .invokevirtual 115, false, 34, 1, 2), (111, .ireturn, false, 0, 0, 0), (112, .aload_n 0, false, 0, 0, 0), (113, .getfield 22, false, 3, 2, 0), (116, .getfield 163, false, 1, 7, 1), (119, .aload_n 0, false, 0, 0, 0), (120, .getfield 22, false, 3, 2, 0), (123, .getfield 166, false, 1, 8, 1), (126, .iadd, false, 0, 0, 0), (127, .ireturn, false, 0, 0, 0), (128, .aload_n 0, false, 0, 0, 0), (129, .getfield 22, false, 3, 2, 0), (132, .getfield 166, false, 1, 8, 1), (135, .ireturn, false, 0, 0, 0), (136, .aload_n 0, false, 0, 0, 0), (137, .getfield 22, false, 3, 2, 0), (140, .getfield 163, false, 1, 7, 1), (143, .ireturn, false, 0, 0, 0), (144, .new 41, false, 1, 169, 45), (147, .dup, false, 0, 0, 0), (148, .ldc 169, false, 0, 0, 9), (150, .invokespecial 45, false, 9998, 0, 0), (153, .athrow, false, 0, 0, 0)]
def prX5_sum : List pm_R := [(0, .lload_n 1, false, 0, 0, 0), (1, .invokestatic 171, false, 5, 1, 0), (4, .ireturn, false, 0, 0, 0)]
def prX5_restart : List pm_R := [(0, .aload_n 0, false, 0, 0, 0), (1, .getfield 10, false, 3, 0, 0), (4, .iload_n 3, false, 0, 0, 0), (5, .invokevirtual 174, false, 33, 2, 2), (8, .aload_n 0, false, 0, 0, 0), (9, .getfield 16, false, 3, 1, 0), (12, .iload_n 3, false, 0, 0, 0), (13, .invokevirtual 174, false, 33, 2, 2), (16, .aload_n 0, false, 0, 0, 0), (17, .getfield 22, false, 3, 2, 0), (20, .iload_n 1, false, 0, 0, 0), (21, .iload_n 2, false, 0, 0, 0), (22, .invokevirtual 177, false, 20, 3, 1), (25, .aload_n 0, false, 0, 0, 0), (26, .getfield 29, false, 3, 3, 0), (29, .iload_n 1, false, 0, 0, 0), (30, .invokevirtual 180, false, 11, 2, 0), (33, .return_, false, 0, 0, 0)]
def prX5_wireOf : List pm_R := [(0, .iload_n 1, false, 0, 0, 0), (1, .iconst 0, false, 0, 0, 0), (2, .iconst 1, false, 1, 0, 0), (3, .invokestatic 37, false, 64, 3, 3), (6, .ifCond .ne 13, false, 19, 0, 0), (9, .new 41, false, 1, 181, 45), (12, .dup, false, 0, 0, 0), (13, .ldc 181, false, 0, 0, 9), (15, .invokespecial 45, false, 9998, 0, 0), (18, .athrow, false, 0, 0, 0), (19, .iload_n 1, false, 0, 0, 0), (20, .ifCond .ne 10, false, 30, 0, 0), (23, .aload_n 0, false, 0, 0, 0), (24, .getfield 10, false, 3, 0, 0), (27, .goto 7, false, 34, 0, 0), (30, .aload_n 0, false, 0, 0, 0), (31, .getfield 16, false, 3, 1, 0), (34, .areturn, false, 0, 0, 0)]
def prX5_isWithin : List pm_R := [(0, .iload_n 0, false, 0, 0, 0), (1, .iload_n 1, false, 0, 0, 0), (2, .if_icmp .lt 12, false, 14, 0, 0), (5, .iload_n 0, false, 0, 0, 0), (6, .iload_n 2, false, 0, 0, 0), (7, .if_icmp .gt 7, false, 14, 0, 0), (10, .iconst 1, false, 1, 0, 0), (11, .goto 4, false, 15, 0, 0), (14, .iconst 0, false, 0, 0, 0), (15, .ireturn, false, 0, 0, 0)]
def prX6_init : List pm_R := [(0, .aload_n 0, false, 0, 0, 0), (1, .invokespecial 1, false, 9999, 0, 0), (4, .aload_n 0, false, 0, 0, 0), (5, .iconst 4, false, 4, 0, 0), (6, .putfield 7, false, 4, 1, 0), (9, .aload_n 0, false, 0, 0, 0), (10, .iconst 3, false, 3, 0, 0), (11, .putfield 13, false, 4, 2, 0), (14, .aload_n 0, false, 0, 0, 0), (15, .bipush 8, false, 8, 0, 0), (17, .putfield 16, false, 4, 3, 0), (20, .aload_n 0, false, 0, 0, 0), (21, .sipush 768, false, 768, 0, 0), (24, .newarray .int, false, 768, 0, 0), (26, .putfield 19, false, 4, 4, 2), (29, .aload_n 0, false, 0, 0, 0), (30, .iconst 2, false, 2, 0, 0), (31, .newarray .int, false, 2, 0, 0), (33, .putfield 23, false, 4, 5, 2), (36, .aload_n 0, false, 0, 0, 0), (37, .sipush 256, false, 256, 0, 0), (40, .newarray .int, false, 256, 0, 0), (42, .putfield 26, false, 4, 8, 2), (45, .aload_n 0, false, 0, 0, 0), (46, .sipush 256, false, 256, 0, 0), (49, .newarray .boolean, false, 256, 0, 0), (51, .putfield 29, false, 4, 9, 2), (54, .aload_n 0, false, 0, 0, 0), (55, .sipush 256, false, 256, 0, 0), (58, .newarray .int, false, 256, 0, 0), (60, .putfield 33, false, 4, 10, 2), (63, .aload_n 0, false, 0, 0, 0), (64, .sipush 256, false, 256, 0, 0), (67, .newarray .int, false, 256, 0, 0), (69, .putfield 36, false, 4, 12, 2), (72, .aload_n 0, false, 0, 0, 0), (73, .sipush 256, false, 256, 0, 0), (76, .newarray .boolean, false, 256, 0, 0), (78, .putfield 39, false, 4, 13, 2), (81, .aload_n 0, false, 0, 0, 0), (82, .sipush 256, false, 256, 0, 0), (85, .newarray .int, false, 256, 0, 0), (87, .putfield 42, false, 4, 15, 2), (90, .aload_n 0, false, 0, 0, 0), (91, .bipush 12, false, 12, 0, 0), (93, .newarray .int, false, 12, 0, 0), (95, .putfield 45, false, 4, 19, 2), (98, .return_, false, 0, 0, 0)]
def prX6_thrown : List pm_R := [(0, .aload_n 0, false, 0, 0, 0), (1, .getfield 48, false, 4, 0, 0), (4, .ireturn, false, 0, 0, 0)]
def prX6_begin : List pm_R := [(0, .aload_n 0, false, 0, 0, 0), (1, .iload_n 1, false, 0, 0, 0), (2, .iconst 1, false, 1, 0, 0), (3, .if_icmp .lt 31, false, 34, 0, 0), (6, .iload_n 1, false, 0, 0, 0), (7, .bipush 16, false, 16, 0, 0), (9, .if_icmp .gt 25, false, 34, 0, 0), (12, .iload_n 2, false, 0, 0, 0), (13, .iconst 1, false, 1, 0, 0), (14, .if_icmp .lt 20, false, 34, 0, 0), (17, .iload_n 2, false, 0, 0, 0), (18, .bipush 50, false, 50, 0, 0), (20, .if_icmp .gt 14, false, 34, 0, 0), (23, .iload_n 3, false, 0, 0, 0), (24, .iconst 1, false, 1, 0, 0), (25, .if_icmp .lt 9, false, 34, 0, 0), (28, .iload_n 3, false, 0, 0, 0), (29, .bipush 32, false, 32, 0, 0), (31, .if_icmp .le 7, false, 38, 0, 0), (34, .iconst 1, false, 1, 0, 0), (35, .goto 4, false, 39, 0, 0), (38, .iconst 0, false, 0, 0, 0), (39, .putfield 48, false, 4, 0, 0), (42, .aload_n 0, false, 0, 0, 0), (43, .getfield 48, false, 4, 0, 0), (46, .ifCond .le 4, false, 50, 0, 0), (49, .return_, false, 0, 0, 0), (50, .aload_n 0, false, 0, 0, 0), (51, .iload_n 1, false, 0, 0, 0), (52, .putfield 7, false, 4, 1, 0), (55, .aload_n 0, false, 0, 0, 0), (56, .iload_n 2, false, 0, 0, 0), (57, .putfield 13, false, 4, 2, 0), (60, .aload_n 0, false, 0, 0, 0), (61, .iload_n 3, false, 0, 0, 0), (62, .putfield 16, false, 4, 3, 0), (65, .aload_n 0, false, 0, 0, 0), (66, .getfield 23, false, 4, 5, 0), (69, .iconst 0, false, 0, 0, 0), (70, .iconst 0, false, 0, 0, 0), (71, .iastore, false, 0, 0, 0), (72, .aload_n 0, false, 0, 0, 0), (73, .getfield 23, false, 4, 5, 0), (76, .iconst 1, false, 1, 0, 0), (77, .iconst 0, false, 0, 0, 0), (78, .iastore, false, 0, 0, 0), (79, .aload_n 0, false, 0, 0, 0), (80, .iconst 0, false, 0, 0, 0), (81, .putfield 51, false, 4, 6, 0), (84, .aload_n 0, false, 0, 0, 0), (85, .iconst 0, false, 0, 0, 0), (86, .putfield 54, false, 4, 7, 0), (89, .aload_n 0, false, 0, 0, 0), (90, .iconst 0, false, 0, 0, 0), (91, .putfield 57, false, 4, 11, 0), (94, .aload_n 0, false, 0, 0, 0), (95, .iconst 0, false, 0, 0, 0), (96, .putfield 60, false, 4, 14, 0), (99, .aload_n 0, false, 0, 0, 0), (100, .iconst 0, false, 0, 0, 0), (101, .putfield 63, false, 4, 16, 0), (104, .aload_n 0, false, 0, 0, 0), (105, .iconst 0, false, 0, 0, 0), (106, .putfield 66, false, 4, 17, 0), (109, .aload_n 0, false, 0, 0, 0), (110, .iconst 0, false, 0, 0, 0), (111, .putfield 69, false, 4, 18, 0), (114, .iconst 0, false, 0, 0, 0), (115, .istore 4, false, 0, 0, 0), (117, .iload 4, true, 0, 0, 0), (119, .sipush 256, false, 256, 0, 0), (122, .if_icmp .ge 33, false, 155, 0, 0), (125, .aload_n 0, false, 0, 0, 0), (126, .getfield 29, false, 4, 9, 0), (129, .iload 4, false, 0, 0, 0), (131, .iconst 0, false, 0, 0, 0), (132, .bastore, false, 0, 0, 0), (133, .aload_n 0, false, 0, 0, 0), (134, .getfield 39, false, 4, 13, 0), (137, .iload 4, false, 0, 0, 0), (139, .iconst 0, false, 0, 0, 0), (140, .bastore, false, 0, 0, 0), (141, .aload_n 0, false, 0, 0, 0), (142, .getfield 33, false, 4, 10, 0), (145, .iload 4, false, 0, 0, 0), (147, .iconst 0, false, 0, 0, 0), (148, .iastore, false, 0, 0, 0), (149, .iinc 4 1, false, 1, 0, 0), (152, .goto (-35), false, 117, 0, 0), (155, .return_, false, 0, 0, 0)]
def prX6_crc : List pm_R := [(0, .iload_n 0, false, 0, 0, 0), (1, .iload_n 1, false, 0, 0, 0), (2, .ixor, false, 0, 0, 0), (3, .istore_n 2, false, 0, 0, 0), (4, .iconst 0, false, 0, 0, 0), (5, .istore_n 3, false, 0, 0, 0), (6, .iload_n 3, true, 0, 0, 0), (7, .bipush 8, false, 8, 0, 0), (9, .if_icmp .ge 29, false, 38, 0, 0), (12, .iload_n 2, false, 0, 0, 0), (13, .iconst 1, false, 1, 0, 0), (14, .iand, false, 0, 0, 0), (15, .iconst 1, false, 1, 0, 0), (16, .if_icmp .ne 12, false, 28, 0, 0), (19, .iload_n 2, false, 0, 0, 0), (20, .iconst 1, false, 1, 0, 0), (21, .iushr, false, 0, 0, 0), (22, .ldc 72, false, 306674912, 0, 1), (24, .ixor, false, 0, 0, 0), (25, .goto 6, false, 31, 0, 0), (28, .iload_n 2, false, 0, 0, 0), (29, .iconst 1, false, 1, 0, 0), (30, .iushr, false, 0, 0, 0), (31, .istore_n 2, false, 0, 0, 0), (32, .iinc 3 1, false, 1, 0, 0), (35, .goto (-29), false, 6, 0, 0), (38, .iload_n 2, false, 0, 0, 0), (39, .ireturn, false, 0, 0, 0)]
def prX6_sum : List pm_R := [(0, .aload_n 0, false, 0, 0, 0), (1, .iconst 0, false, 0, 0, 0), (2, .putfield 48, false, 4, 0, 0), (5, .iconst (-1), false, 1, 0, 1), (6, .istore_n 3, false, 0, 0, 0), (7, .bipush 7, false, 7, 0, 0), (9, .istore 4, false, 0, 0, 0), (11, .iload 4, true, 0, 0, 0), (13, .ifCond .lt 26, false, 39, 0, 0), (16, .iload_n 3, false, 0, 0, 0), (17, .lload_n 1, false, 0, 0, 0), (18, .bipush 8, false, 8, 0, 0), (20, .iload 4, false, 0, 0, 0), (22, .imul, false, 0, 0, 0), (23, .lshr, false, 0, 0, 0), (24, .ldc2_w 73, false, 255, 0, 0), (27, .land, false, 0, 0, 0), (28, .l2i, false, 0, 0, 0), (29, .invokestatic 75, false, 68, 2, 4), (32, .istore_n 3, false, 0, 0, 0), (33, .iinc 4 (-1), false, 1, 0, 1), (36, .goto (-25), false, 11, 0, 0), (39, .iload_n 3, false, 0, 0, 0), (40, .iconst (-1), false, 1, 0, 1), (41, .ixor, false, 0, 0, 0), (42, .ireturn, false, 0, 0, 0)]
def prX6_at : List pm_R := [(0, .sipush 384, false, 384, 0, 0), (3, .iload_n 0, false, 0, 0, 0), (4, .imul, false, 0, 0, 0), (5, .bipush 12, false, 12, 0, 0), (7, .iload_n 1, false, 0, 0, 0), (8, .imul, false, 0, 0, 0), (9, .iadd, false, 0, 0, 0), (10, .ireturn, false, 0, 0, 0)]
def prX6_bytesAt : List pm_R := [(0, .lconst 0, false, 0, 0, 0), (1, .lstore_n 3, false, 0, 0, 0), (2, .iconst 0, false, 0, 0, 0), (3, .istore 5, false, 0, 0, 0), (5, .iload 5, true, 0, 0, 0), (7, .iload_n 2, false, 0, 0, 0), (8, .if_icmp .ge 25, false, 33, 0, 0), (11, .lload_n 3, false, 0, 0, 0), (12, .bipush 8, false, 8, 0, 0), (14, .lshl, false, 0, 0, 0), (15, .aload_n 0, false, 0, 0, 0), (16, .getfield 19, false, 4, 4, 0), (19, .iload_n 1, false, 0, 0, 0), (20, .iload 5, false, 0, 0, 0), (22, .iadd, false, 0, 0, 0), (23, .iaload, false, 0, 0, 0), (24, .i2l, false, 0, 0, 0), (25, .lor, false, 0, 0, 0), (26, .lstore_n 3, false, 0, 0, 0), (27, .iinc 5 1, false, 1, 0, 0), (30, .goto (-25), false, 5, 0, 0), (33, .lload_n 3, false, 0, 0, 0), (34, .lreturn, false, 0, 0, 0)]
def prX6_put : List pm_R := [(0, .aload_n 0, false, 0, 0, 0), (1, .getfield 23, false, 4, 5, 0), (4, .iload_n 1, false, 0, 0, 0), (5, .iaload, false, 0, 0, 0), (6, .aload_n 0, false, 0, 0, 0), (7, .getfield 16, false, 4, 3, 0), (10, .if_icmp .ne 5, false, 15, 0, 0), (13, .iconst 0, false, 0, 0, 0), (14, .ireturn, false, 0, 0, 0), (15, .iload_n 2, false, 0, 0, 0), (16, .i2l, false, 0, 0, 0), (17, .bipush 56, false, 56, 0, 0), (19, .lshl, false, 0, 0, 0), (20, .iload_n 3, false, 0, 0, 0), (21, .i2l, false, 0, 0, 0), (22, .bipush 48, false, 48, 0, 0), (24, .lshl, false, 0, 0, 0), (25, .lor, false, 0, 0, 0), (26, .iload 4, false, 0, 0, 0), (28, .i2l, false, 0, 0, 0), (29, .ldc2_w 79, false, 4294967295, 0, 0), (32, .land, false, 0, 0, 0), (33, .bipush 16, false, 16, 0, 0), (35, .lshl, false, 0, 0, 0), (36, .lor, false, 0, 0, 0), (37, .iload 5, false, 0, 0, 0), (39, .i2l, false, 0, 0, 0), (40, .lor, false, 0, 0, 0), (41, .lstore 6, false, 0, 0, 0), (43, .aload_n 0, false, 0, 0, 0), (44, .lload 6, false, 0, 0, 0), (46, .invokevirtual 81, false, 69, 2, 4), (49, .istore 8, false, 0, 0, 0), (51, .iload_n 1, false, 0, 0, 0), (52, .aload_n 0, false, 0, 0, 0), (53, .getfield 23, false, 4, 5, 0), (56, .iload_n 1, false, 0, 0, 0), (57, .iaload, false, 0, 0, 0), (58, .invokestatic 85, false, 70, 2, 4), (61, .istore 9, false, 0, 0, 0), (63, .iconst 0, false, 0, 0, 0), (64, .istore 10, false, 0, 0, 0), (66, .iload 10, true, 0, 0, 0), (68, .bipush 8, false, 8, 0, 0), (70, .if_icmp .ge 35, false, 105, 0, 0), (73, .aload_n 0, false, 0, 0, 0), (74, .getfield 19, false, 4, 4, 0), (77, .iload 9, false, 0, 0, 0), (79, .iload 10, false, 0, 0, 0), (81, .iadd, false, 0, 0, 0), (82, .lload 6, false, 0, 0, 0), (84, .bipush 8, false, 8, 0, 0), (86, .bipush 7, false, 7, 0, 0), (88, .iload 10, false, 0, 0, 0), (90, .isub, false, 0, 0, 0), (91, .imul, false, 0, 0, 0), (92, .lshr, false, 0, 0, 0), (93, .ldc2_w 73, false, 255, 0, 0), (96, .land, false, 0, 0, 0), (97, .l2i, false, 0, 0, 0), (98, .iastore, false, 0, 0, 0), (99, .iinc 10 1, false, 1, 0, 0), (102, .goto (-36), false, 66, 0, 0), (105, .iconst 0, false, 0, 0, 0), (106, .istore 10, false, 0, 0, 0), (108, .iload 10, true, 0, 0, 0), (110, .iconst 4, false, 4, 0, 0), (111, .if_icmp .ge 36, false, 147, 0, 0), (114, .aload_n 0, false, 0, 0, 0), (115, .getfield 19, false, 4, 4, 0), (118, .iload 9, false, 0, 0, 0), (120, .bipush 8, false, 8, 0, 0), (122, .iadd, false, 0, 0, 0), (123, .iload 10, false, 0, 0, 0), (125, .iadd, false, 0, 0, 0), (126, .iload 8, false, 0, 0, 0), (128, .bipush 8, false, 8, 0, 0), (130, .iconst 3, false, 3, 0, 0), (131, .iload 10, false, 0, 0, 0), (133, .isub, false, 0, 0, 0), (134, .imul, false, 0, 0, 0), (135, .ishr, false, 0, 0, 0), (136, .sipush 255, false, 255, 0, 0), (139, .iand, false, 0, 0, 0), (140, .iastore, false, 0, 0, 0), (141, .iinc 10 1, false, 1, 0, 0), (144, .goto (-36), false, 108, 0, 0), (147, .aload_n 0, false, 0, 0, 0), (148, .getfield 23, false, 4, 5, 0), (151, .iload_n 1, false, 0, 0, 0), (152, .dup2, false, 0, 0, 0), (153, .iaload, false, 0, 0, 0), (154, .iconst 1, false, 1, 0, 0), (155, .iadd, false, 0, 0, 0), (156, .iastore, false, 0, 0, 0), (157, .iconst 1, false, 1, 0, 0), (158, .ireturn, false, 0, 0, 0)]
def prX6_drop : List pm_R := [(0, .aload_n 0, false, 0, 0, 0), (1, .getfield 23, false, 4, 5, 0), (4, .iload_n 1, false, 0, 0, 0), (5, .dup2, false, 0, 0, 0), (6, .iaload, false, 0, 0, 0), (7, .iconst 1, false, 1, 0, 0), (8, .isub, false, 0, 0, 0), (9, .iastore, false, 0, 0, 0), (10, .iload_n 1, false, 0, 0, 0), (11, .iconst 0, false, 0, 0, 0), (12, .invokestatic 85, false, 70, 2, 4), (15, .istore_n 2, false, 0, 0, 0), (16, .iconst 0, false, 0, 0, 0), (17, .istore_n 3, false, 0, 0, 0), (18, .iload_n 3, true, 0, 0, 0), (19, .bipush 12, false, 12, 0, 0), (21, .aload_n 0, false, 0, 0, 0), (22, .getfield 23, false, 4, 5, 0), (25, .iload_n 1, false, 0, 0, 0), (26, .iaload, false, 0, 0, 0), (27, .imul, false, 0, 0, 0), (28, .if_icmp .ge 28, false, 56, 0, 0), (31, .aload_n 0, false, 0, 0, 0), (32, .getfield 19, false, 4, 4, 0), (35, .iload_n 2, false, 0, 0, 0), (36, .iload_n 3, false, 0, 0, 0), (37, .iadd, false, 0, 0, 0), (38, .aload_n 0, false, 0, 0, 0), (39, .getfield 19, false, 4, 4, 0), (42, .iload_n 2, false, 0, 0, 0), (43, .iload_n 3, false, 0, 0, 0), (44, .iadd, false, 0, 0, 0), (45, .bipush 12, false, 12, 0, 0), (47, .iadd, false, 0, 0, 0), (48, .iaload, false, 0, 0, 0), (49, .iastore, false, 0, 0, 0), (50, .iinc 3 1, false, 1, 0, 0), (53, .goto (-35), false, 18, 0, 0), (56, .return_, false, 0, 0, 0)]
def prX6_isGood : List pm_R := [(0, .iload_n 1, false, 0, 0, 0), (1, .iconst 0, false, 0, 0, 0), (2, .invokestatic 85, false, 70, 2, 4), (5, .istore_n 2, false, 0, 0, 0), (6, .aload_n 0, false, 0, 0, 0), (7, .getfield 19, false, 4, 4, 0), (10, .iload_n 2, false, 0, 0, 0), (11, .iaload, false, 0, 0, 0), (12, .iload_n 1, false, 0, 0, 0), (13, .if_icmp .ne 31, false, 44, 0, 0), (16, .aload_n 0, false, 0, 0, 0), (17, .aload_n 0, false, 0, 0, 0), (18, .iload_n 2, false, 0, 0, 0), (19, .bipush 8, false, 8, 0, 0), (21, .invokevirtual 88, false, 71, 3, 4), (24, .invokevirtual 81, false, 69, 2, 4), (27, .aload_n 0, false, 0, 0, 0), (28, .iload_n 2, false, 0, 0, 0), (29, .bipush 8, false, 8, 0, 0), (31, .iadd, false, 0, 0, 0), (32, .iconst 4, false, 4, 0, 0), (33, .invokevirtual 88, false, 71, 3, 4), (36, .l2i, false, 0, 0, 0), (37, .if_icmp .ne 7, false, 44, 0, 0), (40, .iconst 1, false, 1, 0, 0), (41, .goto 4, false, 45, 0, 0), (44, .iconst 0, false, 0, 0, 0), (45, .ireturn, false, 0, 0, 0)]
def prX6_far : List pm_R := [(0, .iload_n 2, false, 0, 0, 0), (1, .iload_n 1, false, 0, 0, 0), (2, .isub, false, 0, 0, 0), (3, .sipush 255, false, 255, 0, 0), (6, .iand, false, 0, 0, 0), (7, .ireturn, false, 0, 0, 0)]
def prX6_send : List pm_R := [(0, .aload_n 0, false, 0, 0, 0), (1, .iconst 0, false, 0, 0, 0), (2, .putfield 48, false, 4, 0, 0), (5, .aload_n 0, false, 0, 0, 0), (6, .aload_n 0, false, 0, 0, 0), (7, .getfield 51, false, 4, 6, 0), (10, .aload_n 0, false, 0, 0, 0), (11, .getfield 54, false, 4, 7, 0), (14, .invokevirtual 92, false, 75, 3, 4), (17, .aload_n 0, false, 0, 0, 0), (18, .getfield 7, false, 4, 1, 0), (21, .if_icmp .ge 16, false, 37, 0, 0), (24, .aload_n 0, false, 0, 0, 0), (25, .getfield 23, false, 4, 5, 0), (28, .iconst 0, false, 0, 0, 0), (29, .iaload, false, 0, 0, 0), (30, .aload_n 0, false, 0, 0, 0), (31, .getfield 16, false, 4, 3, 0), (34, .if_icmp .ne 5, false, 39, 0, 0), (37, .iconst 0, false, 0, 0, 0), (38, .ireturn, false, 0, 0, 0), (39, .aload_n 0, false, 0, 0, 0), (40, .getfield 26, false, 4, 8, 0), (43, .aload_n 0, false, 0, 0, 0), (44, .getfield 54, false, 4, 7, 0), (47, .iload_n 1, false, 0, 0, 0), (48, .iastore, false, 0, 0, 0), (49, .aload_n 0, false, 0, 0, 0), (50, .getfield 29, false, 4, 9, 0), (53, .aload_n 0, false, 0, 0, 0), (54, .getfield 54, false, 4, 7, 0), (57, .iconst 0, false, 0, 0, 0), (58, .bastore, false, 0, 0, 0), (59, .aload_n 0, false, 0, 0, 0), (60, .getfield 33, false, 4, 10, 0), (63, .aload_n 0, false, 0, 0, 0), (64, .getfield 54, false, 4, 7, 0), (67, .iconst 0, false, 0, 0, 0), (68, .iastore, false, 0, 0, 0), (69, .aload_n 0, false, 0, 0, 0), (70, .iconst 0, false, 0, 0, 0), (71, .iconst 0, false, 0, 0, 0), (72, .aload_n 0, false, 0, 0, 0), (73, .getfield 54, false, 4, 7, 0), (76, .iload_n 1, false, 0, 0, 0), (77, .iconst 0, false, 0, 0, 0), (78, .invokevirtual 95, false, 72, 6, 4), (81, .istore_n 2, false, 0, 0, 0), (82, .aload_n 0, false, 0, 0, 0), (83, .aload_n 0, false, 0, 0, 0), (84, .getfield 54, false, 4, 7, 0), (87, .iconst 1, false, 1, 0, 0), (88, .iadd, false, 0, 0, 0), (89, .sipush 255, false, 255, 0, 0), (92, .iand, false, 0, 0, 0), (93, .putfield 54, false, 4, 7, 0), (96, .aload_n 0, false, 0, 0, 0), (97, .dup, false, 0, 0, 0), (98, .getfield 63, false, 4, 16, 0), (101, .iconst 1, false, 1, 0, 0), (102, .iadd, false, 0, 0, 0), (103, .putfield 63, false, 4, 16, 0), (106, .aload_n 0, false, 0, 0, 0), (107, .dup, false, 0, 0, 0), (108, .getfield 69, false, 4, 18, 0), (111, .iconst 1, false, 1, 0, 0), (112, .iadd, false, 0, 0, 0), (113, .putfield 69, false, 4, 18, 0), (116, .iload_n 2, false, 0, 0, 0), (117, .ireturn, false, 0, 0, 0)]
def prX6_tick : List pm_R := [(0, .aload_n 0, false, 0, 0, 0), (1, .iconst 0, false, 0, 0, 0), (2, .putfield 48, false, 4, 0, 0), (5, .iconst 0, false, 0, 0, 0), (6, .istore_n 1, false, 0, 0, 0), (7, .aload_n 0, false, 0, 0, 0), (8, .aload_n 0, false, 0, 0, 0), (9, .getfield 51, false, 4, 6, 0), (12, .aload_n 0, false, 0, 0, 0), (13, .getfield 54, false, 4, 7, 0), (16, .invokevirtual 92, false, 75, 3, 4), (19, .istore_n 2, false, 0, 0, 0), (20, .iconst 0, false, 0, 0, 0), (21, .istore_n 3, false, 0, 0, 0), (22, .iload_n 3, true, 0, 0, 0), (23, .iload_n 2, false, 0, 0, 0), (24, .if_icmp .ge 86, false, 110, 0, 0), (27, .aload_n 0, false, 0, 0, 0), (28, .getfield 51, false, 4, 6, 0), (31, .iload_n 3, false, 0, 0, 0), (32, .iadd, false, 0, 0, 0), (33, .sipush 255, false, 255, 0, 0), (36, .iand, false, 0, 0, 0), (37, .istore 4, false, 0, 0, 0), (39, .aload_n 0, false, 0, 0, 0), (40, .getfield 29, false, 4, 9, 0), (43, .iload 4, false, 0, 0, 0), (45, .baload, false, 0, 0, 0), (46, .ifCond .ne 58, false, 104, 0, 0), (49, .aload_n 0, false, 0, 0, 0), (50, .getfield 33, false, 4, 10, 0), (53, .iload 4, false, 0, 0, 0), (55, .dup2, false, 0, 0, 0), (56, .iaload, false, 0, 0, 0), (57, .iconst 1, false, 1, 0, 0), (58, .iadd, false, 0, 0, 0), (59, .iastore, false, 0, 0, 0), (60, .aload_n 0, false, 0, 0, 0), (61, .getfield 33, false, 4, 10, 0), (64, .iload 4, false, 0, 0, 0), (66, .iaload, false, 0, 0, 0), (67, .aload_n 0, false, 0, 0, 0), (68, .getfield 13, false, 4, 2, 0), (71, .if_icmp .lt 33, false, 104, 0, 0), (74, .aload_n 0, false, 0, 0, 0), (75, .iconst 0, false, 0, 0, 0), (76, .iconst 0, false, 0, 0, 0), (77, .iload 4, false, 0, 0, 0), (79, .aload_n 0, false, 0, 0, 0), (80, .getfield 26, false, 4, 8, 0), (83, .iload 4, false, 0, 0, 0), (85, .iaload, false, 0, 0, 0), (86, .iconst 0, false, 0, 0, 0), (87, .invokevirtual 95, false, 72, 6, 4), (90, .ifCond .eq 14, false, 104, 0, 0), (93, .aload_n 0, false, 0, 0, 0), (94, .getfield 33, false, 4, 10, 0), (97, .iload 4, false, 0, 0, 0), (99, .iconst 0, false, 0, 0, 0), (100, .iastore, false, 0, 0, 0), (101, .iinc 1 1, false, 1, 0, 0), (104, .iinc 3 1, false, 1, 0, 0), (107, .goto (-85), false, 22, 0, 0), (110, .aload_n 0, false, 0, 0, 0), (111, .aload_n 0, false, 0, 0, 0), (112, .getfield 63, false, 4, 16, 0), (115, .iload_n 1, false, 0, 0, 0), (116, .iadd, false, 0, 0, 0), (117, .putfield 63, false, 4, 16, 0), (120, .aload_n 0, false, 0, 0, 0), (121, .aload_n 0, false, 0, 0, 0), (122, .getfield 66, false, 4, 17, 0), (125, .iload_n 1, false, 0, 0, 0), (126, .iadd, false, 0, 0, 0), (127, .putfield 66, false, 4, 17, 0), (130, .iload_n 1, false, 0, 0, 0), (131, .ireturn, false, 0, 0, 0)]
def prX6_hear : List pm_R := [(0, .aload_n 0, false, 0, 0, 0), (1, .getfield 29, false, 4, 9, 0), (4, .iload_n 1, false, 0, 0, 0), (5, .baload, false, 0, 0, 0), (6, .ifCond .eq 5, false, 11, 0, 0), (9, .iconst 0, false, 0, 0, 0), (10, .ireturn, false, 0, 0, 0), (11, .aload_n 0, false, 0, 0, 0), (12, .getfield 29, false, 4, 9, 0), (15, .iload_n 1, false, 0, 0, 0), (16, .iconst 1, false, 1, 0, 0), (17, .bastore, false, 0, 0, 0), (18, .iconst 1, false, 1, 0, 0), (19, .ireturn, false, 0, 0, 0)]
def prX6_comeToA : List pm_R := [(0, .aload_n 0, false, 0, 0, 0), (1, .iconst 0, false, 0, 0, 0), (2, .putfield 48, false, 4, 0, 0), (5, .aload_n 0, false, 0, 0, 0), (6, .getfield 23, false, 4, 5, 0), (9, .iconst 1, false, 1, 0, 0), (10, .iaload, false, 0, 0, 0), (11, .ifCond .ne 5, false, 16, 0, 0), (14, .iconst (-1), false, 1, 0, 1), (15, .ireturn, false, 0, 0, 0), (16, .iconst 1, false, 1, 0, 0), (17, .iconst 0, false, 0, 0, 0), (18, .invokestatic 85, false, 70, 2, 4), (21, .istore_n 1, false, 0, 0, 0), (22, .aload_n 0, false, 0, 0, 0), (23, .iconst 1, false, 1, 0, 0), (24, .invokevirtual 99, false, 74, 2, 4), (27, .istore_n 2, false, 0, 0, 0), (28, .aload_n 0, false, 0, 0, 0), (29, .getfield 19, false, 4, 4, 0), (32, .iload_n 1, false, 0, 0, 0), (33, .iconst 1, false, 1, 0, 0), (34, .iadd, false, 0, 0, 0), (35, .iaload, false, 0, 0, 0), (36, .istore_n 3, false, 0, 0, 0), (37, .aload_n 0, false, 0, 0, 0), (38, .getfield 19, false, 4, 4, 0), (41, .iload_n 1, false, 0, 0, 0), (42, .bipush 6, false, 6, 0, 0), (44, .iadd, false, 0, 0, 0), (45, .iaload, false, 0, 0, 0), (46, .bipush 8, false, 8, 0, 0), (48, .ishl, false, 0, 0, 0), (49, .aload_n 0, false, 0, 0, 0), (50, .getfield 19, false, 4, 4, 0), (53, .iload_n 1, false, 0, 0, 0), (54, .bipush 7, false, 7, 0, 0), (56, .iadd, false, 0, 0, 0), (57, .iaload, false, 0, 0, 0), (58, .ior, false, 0, 0, 0), (59, .istore 4, false, 0, 0, 0), (61, .aload_n 0, false, 0, 0, 0), (62, .iconst 1, false, 1, 0, 0), (63, .invokevirtual 103, false, 73, 2, 4), (66, .iload_n 2, false, 0, 0, 0), (67, .ifCond .ne 6, false, 73, 0, 0), (70, .bipush (-3), false, 3, 0, 1), (72, .ireturn, false, 0, 0, 0), (73, .aload_n 0, false, 0, 0, 0), (74, .aload_n 0, false, 0, 0, 0), (75, .getfield 51, false, 4, 6, 0), (78, .aload_n 0, false, 0, 0, 0), (79, .getfield 54, false, 4, 7, 0), (82, .invokevirtual 92, false, 75, 3, 4), (85, .istore 5, false, 0, 0, 0), (87, .aload_n 0, false, 0, 0, 0), (88, .aload_n 0, false, 0, 0, 0), (89, .getfield 51, false, 4, 6, 0), (92, .iload_n 3, false, 0, 0, 0), (93, .invokevirtual 92, false, 75, 3, 4), (96, .istore 6, false, 0, 0, 0), (98, .iload 6, false, 0, 0, 0), (100, .iload 5, false, 0, 0, 0), (102, .if_icmp .le 6, false, 108, 0, 0), (105, .bipush (-2), false, 2, 0, 1), (107, .ireturn, false, 0, 0, 0), (108, .iconst 0, false, 0, 0, 0), (109, .istore 7, false, 0, 0, 0), (111, .iconst 0, false, 0, 0, 0), (112, .istore 8, false, 0, 0, 0), (114, .iload 8, true, 0, 0, 0), (116, .iload 6, false, 0, 0, 0), (118, .if_icmp .ge 29, false, 147, 0, 0), (121, .iload 7, false, 0, 0, 0), (123, .aload_n 0, false, 0, 0, 0), (124, .aload_n 0, false, 0, 0, 0), (125, .getfield 51, false, 4, 6, 0), (128, .iload 8, false, 0, 0, 0), (130, .iadd, false, 0, 0, 0), (131, .sipush 255, false, 255, 0, 0), (134, .iand, false, 0, 0, 0), (135, .invokevirtual 107, false, 78, 2, 4), (138, .iadd, false, 0, 0, 0), (139, .istore 7, false, 0, 0, 0), (141, .iinc 8 1, false, 1, 0, 0), (144, .goto (-30), false, 114, 0, 0), (147, .iconst 0, false, 0, 0, 0), (148, .istore 8, false, 0, 0, 0), (150, .iload 8, true, 0, 0, 0), (152, .bipush 16, false, 16, 0, 0), (154, .if_icmp .ge 51, false, 205, 0, 0), (157, .iload 4, false, 0, 0, 0), (159, .iload 8, false, 0, 0, 0), (161, .ishr, false, 0, 0, 0), (162, .iconst 1, false, 1, 0, 0), (163, .iand, false, 0, 0, 0), (164, .iconst 1, false, 1, 0, 0), (165, .if_icmp .ne 34, false, 199, 0, 0), (168, .iload 6, false, 0, 0, 0), (170, .iconst 1, false, 1, 0, 0), (171, .iadd, false, 0, 0, 0), (172, .iload 8, false, 0, 0, 0), (174, .iadd, false, 0, 0, 0), (175, .iload 5, false, 0, 0, 0), (177, .if_icmp .ge 22, false, 199, 0, 0), (180, .iload 7, false, 0, 0, 0), (182, .aload_n 0, false, 0, 0, 0), (183, .iload_n 3, false, 0, 0, 0), (184, .iconst 1, false, 1, 0, 0), (185, .iadd, false, 0, 0, 0), (186, .iload 8, false, 0, 0, 0), (188, .iadd, false, 0, 0, 0), (189, .sipush 255, false, 255, 0, 0), (192, .iand, false, 0, 0, 0), (193, .invokevirtual 107, false, 78, 2, 4), (196, .iadd, false, 0, 0, 0), (197, .istore 7, false, 0, 0, 0), (199, .iinc 8 1, false, 1, 0, 0), (202, .goto (-52), false, 150, 0, 0), (205, .iload 5, false, 0, 0, 0), (207, .istore 8, false, 0, 0, 0), (209, .iload 8, true, 0, 0, 0), (211, .ifCond .le 35, false, 246, 0, 0), (214, .aload_n 0, false, 0, 0, 0), (215, .getfield 29, false, 4, 9, 0), (218, .aload_n 0, false, 0, 0, 0), (219, .getfield 51, false, 4, 6, 0), (222, .baload, false, 0, 0, 0), (223, .ifCond .eq 23, false, 246, 0, 0), (226, .aload_n 0, false, 0, 0, 0), (227, .aload_n 0, false, 0, 0, 0), (228, .getfield 51, false, 4, 6, 0), (231, .iconst 1, false, 1, 0, 0), (232, .iadd, false, 0, 0, 0), (233, .sipush 255, false, 255, 0, 0), (236, .iand, false, 0, 0, 0), (237, .putfield 51, false, 4, 6, 0), (240, .iinc 8 (-1), false, 1, 0, 1), (243, .goto (-34), false, 209, 0, 0), (246, .iload 7, false, 0, 0, 0), (248, .ireturn, false, 0, 0, 0)]
def prX6_comeToB : List pm_R := [(0, .aload_n 0, false, 0, 0, 0), (1, .iconst 0, false, 0, 0, 0), (2, .putfield 48, false, 4, 0, 0), (5, .aload_n 0, false, 0, 0, 0), (6, .getfield 23, false, 4, 5, 0), (9, .iconst 0, false, 0, 0, 0), (10, .iaload, false, 0, 0, 0), (11, .ifCond .ne 5, false, 16, 0, 0), (14, .iconst (-1), false, 1, 0, 1), (15, .ireturn, false, 0, 0, 0), (16, .iconst 0, false, 0, 0, 0), (17, .iconst 0, false, 0, 0, 0), (18, .invokestatic 85, false, 70, 2, 4), (21, .istore_n 1, false, 0, 0, 0), (22, .aload_n 0, false, 0, 0, 0), (23, .iconst 0, false, 0, 0, 0), (24, .invokevirtual 99, false, 74, 2, 4), (27, .istore_n 2, false, 0, 0, 0), (28, .aload_n 0, false, 0, 0, 0), (29, .getfield 19, false, 4, 4, 0), (32, .iload_n 1, false, 0, 0, 0), (33, .iconst 1, false, 1, 0, 0), (34, .iadd, false, 0, 0, 0), (35, .iaload, false, 0, 0, 0), (36, .istore_n 3, false, 0, 0, 0), (37, .aload_n 0, false, 0, 0, 0), (38, .iload_n 1, false, 0, 0, 0), (39, .iconst 2, false, 2, 0, 0), (40, .iadd, false, 0, 0, 0), (41, .iconst 4, false, 4, 0, 0), (42, .invokevirtual 88, false, 71, 3, 4), (45, .l2i, false, 0, 0, 0), (46, .istore 4, false, 0, 0, 0), (48, .aload_n 0, false, 0, 0, 0), (49, .iconst 0, false, 0, 0, 0), (50, .invokevirtual 103, false, 73, 2, 4), (53, .iload_n 2, false, 0, 0, 0), (54, .ifCond .ne 5, false, 59, 0, 0), (57, .iconst 2, false, 2, 0, 0), (58, .ireturn, false, 0, 0, 0), (59, .aload_n 0, false, 0, 0, 0), (60, .aload_n 0, false, 0, 0, 0), (61, .getfield 57, false, 4, 11, 0), (64, .iload_n 3, false, 0, 0, 0), (65, .invokevirtual 92, false, 75, 3, 4), (68, .aload_n 0, false, 0, 0, 0), (69, .getfield 7, false, 4, 1, 0), (72, .if_icmp .ge 16, false, 88, 0, 0), (75, .aload_n 0, false, 0, 0, 0), (76, .getfield 39, false, 4, 13, 0), (79, .iload_n 3, false, 0, 0, 0), (80, .baload, false, 0, 0, 0), (81, .ifCond .ne 7, false, 88, 0, 0), (84, .iconst 1, false, 1, 0, 0), (85, .goto 4, false, 89, 0, 0), (88, .iconst 0, false, 0, 0, 0), (89, .istore 5, false, 0, 0, 0), (91, .iload 5, false, 0, 0, 0), (93, .ifCond .eq 18, false, 111, 0, 0), (96, .aload_n 0, false, 0, 0, 0), (97, .getfield 39, false, 4, 13, 0), (100, .iload_n 3, false, 0, 0, 0), (101, .iconst 1, false, 1, 0, 0), (102, .bastore, false, 0, 0, 0), (103, .aload_n 0, false, 0, 0, 0), (104, .getfield 36, false, 4, 12, 0), (107, .iload_n 3, false, 0, 0, 0), (108, .iload 4, false, 0, 0, 0), (110, .iastore, false, 0, 0, 0), (111, .aload_n 0, true, 0, 0, 0), (112, .getfield 39, false, 4, 13, 0), (115, .aload_n 0, false, 0, 0, 0), (116, .getfield 57, false, 4, 11, 0), (119, .baload, false, 0, 0, 0), (120, .ifCond .eq 62, false, 182, 0, 0), (123, .aload_n 0, false, 0, 0, 0), (124, .getfield 42, false, 4, 15, 0), (127, .aload_n 0, false, 0, 0, 0), (128, .getfield 60, false, 4, 14, 0), (131, .sipush 256, false, 256, 0, 0), (134, .irem, false, 0, 0, 0), (135, .aload_n 0, false, 0, 0, 0), (136, .getfield 36, false, 4, 12, 0), (139, .aload_n 0, false, 0, 0, 0), (140, .getfield 57, false, 4, 11, 0), (143, .iaload, false, 0, 0, 0), (144, .iastore, false, 0, 0, 0), (145, .aload_n 0, false, 0, 0, 0), (146, .dup, false, 0, 0, 0), (147, .getfield 60, false, 4, 14, 0), (150, .iconst 1, false, 1, 0, 0), (151, .iadd, false, 0, 0, 0), (152, .putfield 60, false, 4, 14, 0), (155, .aload_n 0, false, 0, 0, 0), (156, .getfield 39, false, 4, 13, 0), (159, .aload_n 0, false, 0, 0, 0), (160, .getfield 57, false, 4, 11, 0), (163, .iconst 0, false, 0, 0, 0), (164, .bastore, false, 0, 0, 0), (165, .aload_n 0, false, 0, 0, 0), (166, .aload_n 0, false, 0, 0, 0), (167, .getfield 57, false, 4, 11, 0), (170, .iconst 1, false, 1, 0, 0), (171, .iadd, false, 0, 0, 0), (172, .sipush 255, false, 255, 0, 0), (175, .iand, false, 0, 0, 0), (176, .putfield 57, false, 4, 11, 0), (179, .goto (-68), false, 111, 0, 0), (182, .iconst 0, false, 0, 0, 0), (183, .istore 6, false, 0, 0, 0), (185, .iconst 0, false, 0, 0, 0), (186, .istore 7, false, 0, 0, 0), (188, .iload 7, true, 0, 0, 0), (190, .bipush 16, false, 16, 0, 0), (192, .if_icmp .ge 44, false, 236, 0, 0), (195, .aload_n 0, false, 0, 0, 0), (196, .getfield 39, false, 4, 13, 0), (199, .aload_n 0, false, 0, 0, 0), (200, .getfield 57, false, 4, 11, 0), (203, .iconst 1, false, 1, 0, 0), (204, .iadd, false, 0, 0, 0), (205, .iload 7, false, 0, 0, 0), (207, .iadd, false, 0, 0, 0), (208, .sipush 255, false, 255, 0, 0), (211, .iand, false, 0, 0, 0), (212, .baload, false, 0, 0, 0), (213, .ifCond .eq 13, false, 226, 0, 0), (216, .iload 6, false, 0, 0, 0), (218, .iconst 1, false, 1, 0, 0), (219, .iload 7, false, 0, 0, 0), (221, .ishl, false, 0, 0, 0), (222, .ior, false, 0, 0, 0), (223, .goto 5, false, 228, 0, 0), (226, .iload 6, false, 0, 0, 0), (228, .istore 6, false, 0, 0, 0), (230, .iinc 7 1, false, 1, 0, 0), (233, .goto (-45), false, 188, 0, 0), (236, .aload_n 0, false, 0, 0, 0), (237, .iconst 1, false, 1, 0, 0), (238, .iconst 1, false, 1, 0, 0), (239, .aload_n 0, false, 0, 0, 0), (240, .getfield 57, false, 4, 11, 0), (243, .iconst 0, false, 0, 0, 0), (244, .iload 6, false, 0, 0, 0), (246, .invokevirtual 95, false, 72, 6, 4), (249, .istore 7, false, 0, 0, 0), (251, .iload 5, false, 0, 0, 0), (253, .ifCond .eq 7, false, 260, 0, 0), (256, .iconst 0, false, 0, 0, 0), (257, .goto 4, false, 261, 0, 0), (260, .iconst 1, false, 1, 0, 0), (261, .ireturn, false, 0, 0, 0)]
def prX6_noWire : List pm_R := [(0, .iload_n 1, false, 0, 0, 0), (1, .ifCond .lt 8, false, 9, 0, 0), (4, .iload_n 1, false, 0, 0, 0), (5, .iconst 1, false, 1, 0, 0), (6, .if_icmp .le 7, false, 13, 0, 0), (9, .iconst 1, false, 1, 0, 0), (10, .goto 4, false, 14, 0, 0), (13, .iconst 0, false, 0, 0, 0), (14, .ireturn, false, 0, 0, 0)]
def prX6_lose : List pm_R := [(0, .aload_n 0, false, 0, 0, 0), (1, .aload_n 0, false, 0, 0, 0), (2, .iload_n 1, false, 0, 0, 0), (3, .invokevirtual 111, false, 81, 2, 4), (6, .ifCond .eq 7, false, 13, 0, 0), (9, .iconst 1, false, 1, 0, 0), (10, .goto 4, false, 14, 0, 0), (13, .iconst 0, false, 0, 0, 0), (14, .putfield 48, false, 4, 0, 0), (17, .aload_n 0, false, 0, 0, 0), (18, .getfield 48, false, 4, 0, 0), (21, .ifCond .gt 12, false, 33, 0, 0), (24, .aload_n 0, false, 0, 0, 0), (25, .getfield 23, false, 4, 5, 0), (28, .iload_n 1, false, 0, 0, 0), (29, .iaload, false, 0, 0, 0), (30, .ifCond .ne 5, false, 35, 0, 0), (33, .iconst 0, false, 0, 0, 0), (34, .ireturn, false, 0, 0, 0), (35, .aload_n 0, false, 0, 0, 0), (36, .iload_n 1, false, 0, 0, 0), (37, .invokevirtual 103, false, 73, 2, 4), (40, .iconst 1, false, 1, 0, 0), (41, .ireturn, false, 0, 0, 0)]
def prX6_change : List pm_R := [(0, .aload_n 0, false, 0, 0, 0), (1, .aload_n 0, false, 0, 0, 0), (2, .iload_n 1, false, 0, 0, 0), (3, .invokevirtual 111, false, 81, 2, 4), (6, .ifCond .ne 13, false, 19, 0, 0), (9, .iload_n 2, false, 0, 0, 0), (10, .ifCond .lt 9, false, 19, 0, 0), (13, .iload_n 2, false, 0, 0, 0), (14, .bipush 95, false, 95, 0, 0), (16, .if_icmp .le 7, false, 23, 0, 0), (19, .iconst 1, false, 1, 0, 0), (20, .goto 4, false, 24, 0, 0), (23, .iconst 0, false, 0, 0, 0), (24, .putfield 48, false, 4, 0, 0), (27, .aload_n 0, false, 0, 0, 0), (28, .getfield 48, false, 4, 0, 0), (31, .ifCond .gt 12, false, 43, 0, 0), (34, .aload_n 0, false, 0, 0, 0), (35, .getfield 23, false, 4, 5, 0), (38, .iload_n 1, false, 0, 0, 0), (39, .iaload, false, 0, 0, 0), (40, .ifCond .ne 5, false, 45, 0, 0), (43, .iconst 0, false, 0, 0, 0), (44, .ireturn, false, 0, 0, 0), (45, .iload_n 1, false, 0, 0, 0), (46, .iconst 0, false, 0, 0, 0), (47, .invokestatic 85, false, 70, 2, 4), (50, .bipush 11, false, 11, 0, 0), (52, .iadd, false, 0, 0, 0), (53, .iload_n 2, false, 0, 0, 0), (54, .bipush 8, false, 8, 0, 0), (56, .idiv, false, 0, 0, 0), (57, .isub, false, 0, 0, 0), (58, .istore_n 3, false, 0, 0, 0), (59, .aload_n 0, false, 0, 0, 0), (60, .getfield 19, false, 4, 4, 0), (63, .iload_n 3, false, 0, 0, 0), (64, .aload_n 0, false, 0, 0, 0), (65, .getfield 19, false, 4, 4, 0), (68, .iload_n 3, false, 0, 0, 0), (69, .iaload, false, 0, 0, 0), (70, .iconst 1, false, 1, 0, 0), (71, .iload_n 2, false, 0, 0, 0), (72, .bipush 8, false, 8, 0, 0), (74, .irem, false, 0, 0, 0), (75, .ishl, false, 0, 0, 0), (76, .ixor, false, 0, 0, 0), (77, .iastore, false, 0, 0, 0), (78, .iconst 1, false, 1, 0, 0), (79, .ireturn, false, 0, 0, 0)]
def prX6_twice : List pm_R := [(0, .aload_n 0, false, 0, 0, 0), (1, .aload_n 0, false, 0, 0, 0), (2, .iload_n 1, false, 0, 0, 0), (3, .invokevirtual 111, false, 81, 2, 4), (6, .ifCond .eq 7, false, 13, 0, 0), (9, .iconst 1, false, 1, 0, 0), (10, .goto 4, false, 14, 0, 0), (13, .iconst 0, false, 0, 0, 0), (14, .putfield 48, false, 4, 0, 0), (17, .aload_n 0, false, 0, 0, 0), (18, .getfield 48, false, 4, 0, 0), (21, .ifCond .gt 25, false, 46, 0, 0), (24, .aload_n 0, false, 0, 0, 0), (25, .getfield 23, false, 4, 5, 0), (28, .iload_n 1, false, 0, 0, 0), (29, .iaload, false, 0, 0, 0), (30, .ifCond .eq 16, false, 46, 0, 0), (33, .aload_n 0, false, 0, 0, 0), (34, .getfield 23, false, 4, 5, 0), (37, .iload_n 1, false, 0, 0, 0), (38, .iaload, false, 0, 0, 0), (39, .aload_n 0, false, 0, 0, 0), (40, .getfield 16, false, 4, 3, 0), (43, .if_icmp .ne 5, false, 48, 0, 0), (46, .iconst 0, false, 0, 0, 0), (47, .ireturn, false, 0, 0, 0), (48, .iload_n 1, false, 0, 0, 0), (49, .iconst 0, false, 0, 0, 0), (50, .invokestatic 85, false, 70, 2, 4), (53, .istore_n 2, false, 0, 0, 0), (54, .bipush 12, false, 12, 0, 0), (56, .aload_n 0, false, 0, 0, 0), (57, .getfield 23, false, 4, 5, 0), (60, .iload_n 1, false, 0, 0, 0), (61, .iaload, false, 0, 0, 0), (62, .imul, false, 0, 0, 0), (63, .iconst 1, false, 1, 0, 0), (64, .isub, false, 0, 0, 0), (65, .istore_n 3, false, 0, 0, 0), (66, .iload_n 3, true, 0, 0, 0), (67, .ifCond .lt 28, false, 95, 0, 0), (70, .aload_n 0, false, 0, 0, 0), (71, .getfield 19, false, 4, 4, 0), (74, .iload_n 2, false, 0, 0, 0), (75, .iload_n 3, false, 0, 0, 0), (76, .iadd, false, 0, 0, 0), (77, .bipush 12, false, 12, 0, 0), (79, .iadd, false, 0, 0, 0), (80, .aload_n 0, false, 0, 0, 0), (81, .getfield 19, false, 4, 4, 0), (84, .iload_n 2, false, 0, 0, 0), (85, .iload_n 3, false, 0, 0, 0), (86, .iadd, false, 0, 0, 0), (87, .iaload, false, 0, 0, 0), (88, .iastore, false, 0, 0, 0), (89, .iinc 3 (-1), false, 1, 0, 1), (92, .goto (-26), false, 66, 0, 0), (95, .aload_n 0, false, 0, 0, 0), (96, .getfield 23, false, 4, 5, 0), (99, .iload_n 1, false, 0, 0, 0), (100, .dup2, false, 0, 0, 0), (101, .iaload, false, 0, 0, 0), (102, .iconst 1, false, 1, 0, 0), (103, .iadd, false, 0, 0, 0), (104, .iastore, false, 0, 0, 0), (105, .iconst 1, false, 1, 0, 0), (106, .ireturn, false, 0, 0, 0)]
def prX6_delay : List pm_R := [(0, .aload_n 0, false, 0, 0, 0), (1, .aload_n 0, false, 0, 0, 0), (2, .iload_n 1, false, 0, 0, 0), (3, .invokevirtual 111, false, 81, 2, 4), (6, .ifCond .eq 7, false, 13, 0, 0), (9, .iconst 1, false, 1, 0, 0), (10, .goto 4, false, 14, 0, 0), (13, .iconst 0, false, 0, 0, 0), (14, .putfield 48, false, 4, 0, 0), (17, .aload_n 0, false, 0, 0, 0), (18, .getfield 48, false, 4, 0, 0), (21, .ifCond .gt 13, false, 34, 0, 0), (24, .aload_n 0, false, 0, 0, 0), (25, .getfield 23, false, 4, 5, 0), (28, .iload_n 1, false, 0, 0, 0), (29, .iaload, false, 0, 0, 0), (30, .iconst 2, false, 2, 0, 0), (31, .if_icmp .ge 5, false, 36, 0, 0), (34, .iconst 0, false, 0, 0, 0), (35, .ireturn, false, 0, 0, 0), (36, .iload_n 1, false, 0, 0, 0), (37, .iconst 0, false, 0, 0, 0), (38, .invokestatic 85, false, 70, 2, 4), (41, .istore_n 2, false, 0, 0, 0), (42, .iconst 0, false, 0, 0, 0), (43, .istore_n 3, false, 0, 0, 0), (44, .iload_n 3, true, 0, 0, 0), (45, .bipush 12, false, 12, 0, 0), (47, .if_icmp .ge 23, false, 70, 0, 0), (50, .aload_n 0, false, 0, 0, 0), (51, .getfield 45, false, 4, 19, 0), (54, .iload_n 3, false, 0, 0, 0), (55, .aload_n 0, false, 0, 0, 0), (56, .getfield 19, false, 4, 4, 0), (59, .iload_n 2, false, 0, 0, 0), (60, .iload_n 3, false, 0, 0, 0), (61, .iadd, false, 0, 0, 0), (62, .iaload, false, 0, 0, 0), (63, .iastore, false, 0, 0, 0), (64, .iinc 3 1, false, 1, 0, 0), (67, .goto (-23), false, 44, 0, 0), (70, .aload_n 0, false, 0, 0, 0), (71, .iload_n 1, false, 0, 0, 0), (72, .invokevirtual 103, false, 73, 2, 4), (75, .iconst 0, false, 0, 0, 0), (76, .istore_n 3, false, 0, 0, 0), (77, .iload_n 3, true, 0, 0, 0), (78, .bipush 12, false, 12, 0, 0), (80, .if_icmp .ge 32, false, 112, 0, 0), (83, .aload_n 0, false, 0, 0, 0), (84, .getfield 19, false, 4, 4, 0), (87, .iload_n 1, false, 0, 0, 0), (88, .aload_n 0, false, 0, 0, 0), (89, .getfield 23, false, 4, 5, 0), (92, .iload_n 1, false, 0, 0, 0), (93, .iaload, false, 0, 0, 0), (94, .invokestatic 85, false, 70, 2, 4), (97, .iload_n 3, false, 0, 0, 0), (98, .iadd, false, 0, 0, 0), (99, .aload_n 0, false, 0, 0, 0), (100, .getfield 45, false, 4, 19, 0), (103, .iload_n 3, false, 0, 0, 0), (104, .iaload, false, 0, 0, 0), (105, .iastore, false, 0, 0, 0), (106, .iinc 3 1, false, 1, 0, 0), (109, .goto (-32), false, 77, 0, 0), (112, .aload_n 0, false, 0, 0, 0), (113, .getfield 23, false, 4, 5, 0), (116, .iload_n 1, false, 0, 0, 0), (117, .dup2, false, 0, 0, 0), (118, .iaload, false, 0, 0, 0), (119, .iconst 1, false, 1, 0, 0), (120, .iadd, false, 0, 0, 0), (121, .iastore, false, 0, 0, 0), (122, .iconst 1, false, 1, 0, 0), (123, .ireturn, false, 0, 0, 0)]
def prX6_delivered : List pm_R := [(0, .aload_n 0, false, 0, 0, 0), (1, .iconst 0, false, 0, 0, 0), (2, .putfield 48, false, 4, 0, 0), (5, .aload_n 0, false, 0, 0, 0), (6, .getfield 60, false, 4, 14, 0), (9, .ireturn, false, 0, 0, 0)]
def prX6_word : List pm_R := [(0, .aload_n 0, false, 0, 0, 0), (1, .iload_n 1, false, 0, 0, 0), (2, .ifCond .lt 23, false, 25, 0, 0), (5, .iload_n 1, false, 0, 0, 0), (6, .aload_n 0, false, 0, 0, 0), (7, .getfield 60, false, 4, 14, 0), (10, .if_icmp .ge 15, false, 25, 0, 0), (13, .iload_n 1, false, 0, 0, 0), (14, .aload_n 0, false, 0, 0, 0), (15, .getfield 60, false, 4, 14, 0), (18, .sipush 256, false, 256, 0, 0), (21, .isub, false, 0, 0, 0), (22, .if_icmp .ge 7, false, 29, 0, 0), (25, .iconst 1, false, 1, 0, 0), (26, .goto 4, false, 30, 0, 0), (29, .iconst 0, false, 0, 0, 0), (30, .putfield 48, false, 4, 0, 0), (33, .aload_n 0, false, 0, 0, 0), (34, .getfield 48, false, 4, 0, 0), (37, .ifCond .le 7, false, 44, 0, 0), (40, .iconst 0, false, 0, 0, 0), (41, .goto 13, false, 54, 0, 0), (44, .aload_n 0, false, 0, 0, 0), (45, .getfield 42, false, 4, 15, 0), (48, .iload_n 1, false, 0, 0, 0), (49, .sipush 256, false, 256, 0, 0), (52, .irem, false, 0, 0, 0), (53, .iaload, false, 0, 0, 0), (54, .ireturn, false, 0, 0, 0)]
def prX6_frame : List pm_R := [(0, .aload_n 0, false, 0, 0, 0), (1, .aload_n 0, false, 0, 0, 0), (2, .iload_n 1, false, 0, 0, 0), (3, .invokevirtual 111, false, 81, 2, 4), (6, .ifCond .ne 12, false, 18, 0, 0), (9, .iload_n 3, false, 0, 0, 0), (10, .ifCond .lt 8, false, 18, 0, 0), (13, .iload_n 3, false, 0, 0, 0), (14, .iconst 1, false, 1, 0, 0), (15, .if_icmp .le 7, false, 22, 0, 0), (18, .iconst 1, false, 1, 0, 0), (19, .goto 22, false, 41, 0, 0), (22, .iload_n 2, false, 0, 0, 0), (23, .ifCond .lt 13, false, 36, 0, 0), (26, .iload_n 2, false, 0, 0, 0), (27, .aload_n 0, false, 0, 0, 0), (28, .getfield 23, false, 4, 5, 0), (31, .iload_n 1, false, 0, 0, 0), (32, .iaload, false, 0, 0, 0), (33, .if_icmp .lt 7, false, 40, 0, 0), (36, .iconst 2, false, 2, 0, 0), (37, .goto 4, false, 41, 0, 0), (40, .iconst 0, false, 0, 0, 0), (41, .putfield 48, false, 4, 0, 0), (44, .aload_n 0, false, 0, 0, 0), (45, .getfield 48, false, 4, 0, 0), (48, .ifCond .le 5, false, 53, 0, 0), (51, .lconst 0, false, 0, 0, 0), (52, .lreturn, false, 0, 0, 0), (53, .iload_n 3, false, 0, 0, 0), (54, .ifCond .ne 17, false, 71, 0, 0), (57, .aload_n 0, false, 0, 0, 0), (58, .iload_n 1, false, 0, 0, 0), (59, .iload_n 2, false, 0, 0, 0), (60, .invokestatic 85, false, 70, 2, 4), (63, .bipush 8, false, 8, 0, 0), (65, .invokevirtual 88, false, 71, 3, 4), (68, .goto 16, false, 84, 0, 0), (71, .aload_n 0, false, 0, 0, 0), (72, .iload_n 1, false, 0, 0, 0), (73, .iload_n 2, false, 0, 0, 0), (74, .invokestatic 85, false, 70, 2, 4), (77, .bipush 8, false, 8, 0, 0), (79, .iadd, false, 0, 0, 0), (80, .iconst 4, false, 4, 0, 0), (81, .invokevirtual 88, false, 71, 3, 4), (84, .lreturn, false, 0, 0, 0)]
def prX6_told : List pm_R := [(0, .aload_n 0, false, 0, 0, 0), (1, .iload_n 1, false, 0, 0, 0), (2, .ifCond .lt 9, false, 11, 0, 0), (5, .iload_n 1, false, 0, 0, 0), (6, .bipush 9, false, 9, 0, 0), (8, .if_icmp .le 7, false, 15, 0, 0), (11, .iconst 1, false, 1, 0, 0), (12, .goto 4, false, 16, 0, 0), (15, .iconst 0, false, 0, 0, 0), (16, .putfield 48, false, 4, 0, 0), (19, .aload_n 0, false, 0, 0, 0), (20, .getfield 48, false, 4, 0, 0), (23, .ifCond .le 5, false, 28, 0, 0), (26, .iconst 0, false, 0, 0, 0), (27, .ireturn, false, 0, 0, 0), (28, .iconst 0, false, 0, 0, 0), (29, .istore_n 2, false, 0, 0, 0), (30, .aload_n 0, false, 0, 0, 0), (31, .aload_n 0, false, 0, 0, 0), (32, .getfield 51, false, 4, 6, 0), (35, .aload_n 0, false, 0, 0, 0), (36, .getfield 54, false, 4, 7, 0), (39, .invokevirtual 92, false, 75, 3, 4), (42, .istore_n 3, false, 0, 0, 0), (43, .iconst 0, false, 0, 0, 0), (44, .istore 4, false, 0, 0, 0), (46, .iload 4, true, 0, 0, 0), (48, .sipush 256, false, 256, 0, 0), (51, .if_icmp .ge 62, false, 113, 0, 0), (54, .iload_n 1, false, 0, 0, 0), (55, .iconst 3, false, 3, 0, 0), (56, .if_icmp .ne 28, false, 84, 0, 0), (59, .iload 4, false, 0, 0, 0), (61, .iload_n 3, false, 0, 0, 0), (62, .if_icmp .ge 22, false, 84, 0, 0), (65, .aload_n 0, false, 0, 0, 0), (66, .getfield 29, false, 4, 9, 0), (69, .aload_n 0, false, 0, 0, 0), (70, .getfield 51, false, 4, 6, 0), (73, .iload 4, false, 0, 0, 0), (75, .iadd, false, 0, 0, 0), (76, .sipush 255, false, 255, 0, 0), (79, .iand, false, 0, 0, 0), (80, .baload, false, 0, 0, 0), (81, .ifCond .eq 18, false, 99, 0, 0), (84, .iload_n 1, false, 0, 0, 0), (85, .iconst 4, false, 4, 0, 0), (86, .if_icmp .ne 19, false, 105, 0, 0), (89, .aload_n 0, false, 0, 0, 0), (90, .getfield 39, false, 4, 13, 0), (93, .iload 4, false, 0, 0, 0), (95, .baload, false, 0, 0, 0), (96, .ifCond .eq 9, false, 105, 0, 0), (99, .iload_n 2, false, 0, 0, 0), (100, .iconst 1, false, 1, 0, 0), (101, .iadd, false, 0, 0, 0), (102, .goto 4, false, 106, 0, 0), (105, .iload_n 2, false, 0, 0, 0), (106, .istore_n 2, false, 0, 0, 0), (107, .iinc 4 1, false, 1, 0, 0), (110, .goto (-64), false, 46, 0, 0), (113, .iload_n 1, false, 0, 0, 0), (114, .ifCond .ne 10, false, 124, 0, 0), (117, .aload_n 0, false, 0, 0, 0), (118, .getfield 51, false, 4, 6, 0), (121, .goto 83, false, 204, 0, 0), (124, .iload_n 1, false, 0, 0, 0), (125, .iconst 1, false, 1, 0, 0), (126, .if_icmp .ne 10, false, 136, 0, 0), (129, .aload_n 0, false, 0, 0, 0), (130, .getfield 54, false, 4, 7, 0), (133, .goto 71, false, 204, 0, 0), (136, .iload_n 1, false, 0, 0, 0), (137, .iconst 2, false, 2, 0, 0), (138, .if_icmp .ne 10, false, 148, 0, 0), (141, .aload_n 0, false, 0, 0, 0), (142, .getfield 57, false, 4, 11, 0), (145, .goto 59, false, 204, 0, 0), (148, .iload_n 1, false, 0, 0, 0), (149, .iconst 5, false, 5, 0, 0), (150, .if_icmp .ge 7, false, 157, 0, 0), (153, .iload_n 2, false, 0, 0, 0), (154, .goto 50, false, 204, 0, 0), (157, .iload_n 1, false, 0, 0, 0), (158, .bipush 7, false, 7, 0, 0), (160, .if_icmp .ge 14, false, 174, 0, 0), (163, .aload_n 0, false, 0, 0, 0), (164, .getfield 23, false, 4, 5, 0), (167, .iload_n 1, false, 0, 0, 0), (168, .iconst 5, false, 5, 0, 0), (169, .isub, false, 0, 0, 0), (170, .iaload, false, 0, 0, 0), (171, .goto 33, false, 204, 0, 0), (174, .iload_n 1, false, 0, 0, 0), (175, .bipush 7, false, 7, 0, 0), (177, .if_icmp .ne 10, false, 187, 0, 0), (180, .aload_n 0, false, 0, 0, 0), (181, .getfield 63, false, 4, 16, 0), (184, .goto 20, false, 204, 0, 0), (187, .iload_n 1, false, 0, 0, 0), (188, .bipush 8, false, 8, 0, 0), (190, .if_icmp .ne 10, false, 200, 0, 0), (193, .aload_n 0, false, 0, 0, 0), (194, .getfield 66, false, 4, 17, 0), (197, .goto 7, false, 204, 0, 0), (200, .aload_n 0, false, 0, 0, 0), (201, .getfield 69, false, 4, 18, 0), (204, .ireturn, false, 0, 0, 0)]
def prL_begin : List pm_R := [(0, .aload_n 0, false, 0, 0, 0), (1, .iload_n 1, false, 0, 0, 0), (2, .iload_n 2, false, 0, 0, 0), (3, .iload_n 3, false, 0, 0, 0), (4, .invokevirtual 7, false, 48, 4, 3), (7, .goto 7, false, 14, 0, 0), (10, .astore 4, false, 0, 0, 0), (12, .iconst 1, false, 1, 0, 0), (13, .ireturn, false, 0, 0, 0), (14, .iconst 0, false, 0, 0, 0), (15, .ireturn, false, 0, 0, 0)]
def prL_lose : List pm_R := [(0, .aload_n 2, false, 0, 0, 0), (1, .iconst 0, false, 0, 0, 0), (2, .aload_n 0, false, 0, 0, 0), (3, .iload_n 1, false, 0, 0, 0), (4, .invokevirtual 15, false, 53, 2, 3), (7, .ifCond .eq 7, false, 14, 0, 0), (10, .lconst 1, false, 0, 0, 0), (11, .goto 4, false, 15, 0, 0), (14, .lconst 0, false, 0, 0, 0), (15, .lastore, false, 0, 0, 0), (16, .goto 6, false, 22, 0, 0), (19, .astore_n 3, false, 0, 0, 0), (20, .iconst 1, false, 1, 0, 0), (21, .ireturn, false, 0, 0, 0), (22, .iconst 0, false, 0, 0, 0), (23, .ireturn, false, 0, 0, 0)]
def prL_change : List pm_R := [(0, .aload_n 3, false, 0, 0, 0), (1, .iconst 0, false, 0, 0, 0), (2, .aload_n 0, false, 0, 0, 0), (3, .iload_n 1, false, 0, 0, 0), (4, .iload_n 2, false, 0, 0, 0), (5, .invokevirtual 19, false, 54, 3, 3), (8, .ifCond .eq 7, false, 15, 0, 0), (11, .lconst 1, false, 0, 0, 0), (12, .goto 4, false, 16, 0, 0), (15, .lconst 0, false, 0, 0, 0), (16, .lastore, false, 0, 0, 0), (17, .goto 7, false, 24, 0, 0), (20, .astore 4, false, 0, 0, 0), (22, .iconst 1, false, 1, 0, 0), (23, .ireturn, false, 0, 0, 0), (24, .iconst 0, false, 0, 0, 0), (25, .ireturn, false, 0, 0, 0)]
def prL_twice : List pm_R := [(0, .aload_n 2, false, 0, 0, 0), (1, .iconst 0, false, 0, 0, 0), (2, .aload_n 0, false, 0, 0, 0), (3, .iload_n 1, false, 0, 0, 0), (4, .invokevirtual 23, false, 55, 2, 3), (7, .ifCond .eq 7, false, 14, 0, 0), (10, .lconst 1, false, 0, 0, 0), (11, .goto 4, false, 15, 0, 0), (14, .lconst 0, false, 0, 0, 0), (15, .lastore, false, 0, 0, 0), (16, .goto 6, false, 22, 0, 0), (19, .astore_n 3, false, 0, 0, 0), (20, .iconst 1, false, 1, 0, 0), (21, .ireturn, false, 0, 0, 0), (22, .iconst 0, false, 0, 0, 0), (23, .ireturn, false, 0, 0, 0)]
def prL_delay : List pm_R := [(0, .aload_n 2, false, 0, 0, 0), (1, .iconst 0, false, 0, 0, 0), (2, .aload_n 0, false, 0, 0, 0), (3, .iload_n 1, false, 0, 0, 0), (4, .invokevirtual 26, false, 56, 2, 3), (7, .ifCond .eq 7, false, 14, 0, 0), (10, .lconst 1, false, 0, 0, 0), (11, .goto 4, false, 15, 0, 0), (14, .lconst 0, false, 0, 0, 0), (15, .lastore, false, 0, 0, 0), (16, .goto 6, false, 22, 0, 0), (19, .astore_n 3, false, 0, 0, 0), (20, .iconst 1, false, 1, 0, 0), (21, .ireturn, false, 0, 0, 0), (22, .iconst 0, false, 0, 0, 0), (23, .ireturn, false, 0, 0, 0)]
def prL_word : List pm_R := [(0, .aload_n 2, false, 0, 0, 0), (1, .iconst 0, false, 0, 0, 0), (2, .aload_n 0, false, 0, 0, 0), (3, .iload_n 1, false, 0, 0, 0), (4, .invokevirtual 29, false, 58, 2, 3), (7, .i2l, false, 0, 0, 0), (8, .lastore, false, 0, 0, 0), (9, .goto 6, false, 15, 0, 0), (12, .astore_n 3, false, 0, 0, 0), (13, .iconst 1, false, 1, 0, 0), (14, .ireturn, false, 0, 0, 0), (15, .iconst 0, false, 0, 0, 0), (16, .ireturn, false, 0, 0, 0)]
def prL_frame : List pm_R := [(0, .aload 4, false, 0, 0, 0), (2, .iconst 0, false, 0, 0, 0), (3, .aload_n 0, false, 0, 0, 0), (4, .iload_n 1, false, 0, 0, 0), (5, .iload_n 2, false, 0, 0, 0), (6, .iload_n 3, false, 0, 0, 0), (7, .invokevirtual 35, false, 59, 4, 3), (10, .lastore, false, 0, 0, 0), (11, .goto 11, false, 22, 0, 0), (14, .astore 5, false, 0, 0, 0), (16, .iconst 1, false, 1, 0, 0), (17, .ireturn, false, 0, 0, 0), (18, .astore 5, false, 0, 0, 0), (20, .iconst 2, false, 2, 0, 0), (21, .ireturn, false, 0, 0, 0), (22, .iconst 0, false, 0, 0, 0), (23, .ireturn, false, 0, 0, 0)]
def prL_told : List pm_R := [(0, .aload_n 2, false, 0, 0, 0), (1, .iconst 0, false, 0, 0, 0), (2, .aload_n 0, false, 0, 0, 0), (3, .iload_n 1, false, 0, 0, 0), (4, .invokevirtual 39, false, 60, 2, 3), (7, .i2l, false, 0, 0, 0), (8, .lastore, false, 0, 0, 0), (9, .goto 6, false, 15, 0, 0), (12, .astore_n 3, false, 0, 0, 0), (13, .iconst 1, false, 1, 0, 0), (14, .ireturn, false, 0, 0, 0), (15, .iconst 0, false, 0, 0, 0), (16, .ireturn, false, 0, 0, 0)]
def prL_law : List pm_R := [(0, .new 8, false, 3, 4, 0), (3, .dup, false, 0, 0, 0), (4, .invokespecial 42, false, 47, 1, 0), (7, .astore_n 1, false, 0, 0, 0), (8, .new 43, false, 4, 20, 0), (11, .dup, false, 0, 0, 0), (12, .invokespecial 45, false, 65, 1, 0), (15, .astore_n 2, false, 0, 0, 0), (16, .iconst 1, false, 1, 0, 0), (17, .newarray .long, false, 1, 0, 0), (19, .astore_n 3, false, 0, 0, 0), (20, .iconst 0, false, 0, 0, 0), (21, .istore 4, false, 0, 0, 0), (23, .iload 4, true, 0, 0, 0), (25, .aload_n 0, false, 0, 0, 0), (26, .arraylength, false, 0, 0, 0), (27, .iconst 4, false, 4, 0, 0), (28, .isub, false, 0, 0, 0), (29, .if_icmp .gt 734, false, 763, 0, 0), (32, .aload_n 0, false, 0, 0, 0), (33, .iload 4, false, 0, 0, 0), (35, .iaload, false, 0, 0, 0), (36, .bipush 15, false, 15, 0, 0), (38, .iand, false, 0, 0, 0), (39, .tableswitch 718 0 13 #[69, 129, 154, 167, 180, 193, 256, 331, 394, 457, 470, 526, 605, 661], false, 1, 0, 0), (108, .aload_n 1, false, 0, 0, 0), (109, .aload_n 0, false, 0, 0, 0), (110, .iload 4, false, 0, 0, 0), (112, .iconst 1, false, 1, 0, 0), (113, .iadd, false, 0, 0, 0), (114, .iaload, false, 0, 0, 0), (115, .aload_n 0, false, 0, 0, 0), (116, .iload 4, false, 0, 0, 0), (118, .iconst 2, false, 2, 0, 0), (119, .iadd, false, 0, 0, 0), (120, .iaload, false, 0, 0, 0), (121, .aload_n 0, false, 0, 0, 0), (122, .iload 4, false, 0, 0, 0), (124, .iconst 3, false, 3, 0, 0), (125, .iadd, false, 0, 0, 0), (126, .iaload, false, 0, 0, 0), (127, .invokestatic 46, false, 90, 4, 0), (130, .istore 5, false, 0, 0, 0), (132, .aload_n 2, false, 0, 0, 0), (133, .aload_n 0, false, 0, 0, 0), (134, .iload 4, false, 0, 0, 0), (136, .iconst 1, false, 1, 0, 0), (137, .iadd, false, 0, 0, 0), (138, .iaload, false, 0, 0, 0), (139, .aload_n 0, false, 0, 0, 0), (140, .iload 4, false, 0, 0, 0), (142, .iconst 2, false, 2, 0, 0), (143, .iadd, false, 0, 0, 0), (144, .iaload, false, 0, 0, 0), (145, .aload_n 0, false, 0, 0, 0), (146, .iload 4, false, 0, 0, 0), (148, .iconst 3, false, 3, 0, 0), (149, .iadd, false, 0, 0, 0), (150, .iaload, false, 0, 0, 0), (151, .invokevirtual 51, false, 67, 4, 4), (154, .aload_n 2, false, 0, 0, 0), (155, .invokevirtual 52, false, 66, 1, 4), (158, .iload 5, false, 0, 0, 0), (160, .if_icmp .eq 5, false, 165, 0, 0), (163, .iconst 0, false, 0, 0, 0), (164, .ireturn, false, 0, 0, 0), (165, .goto 592, false, 757, 0, 0), (168, .aload_n 1, false, 0, 0, 0), (169, .aload_n 0, false, 0, 0, 0), (170, .iload 4, false, 0, 0, 0), (172, .iconst 1, false, 1, 0, 0), (173, .iadd, false, 0, 0, 0), (174, .iaload, false, 0, 0, 0), (175, .invokevirtual 56, false, 49, 2, 3), (178, .aload_n 2, false, 0, 0, 0), (179, .aload_n 0, false, 0, 0, 0), (180, .iload 4, false, 0, 0, 0), (182, .iconst 1, false, 1, 0, 0), (183, .iadd, false, 0, 0, 0), (184, .iaload, false, 0, 0, 0), (185, .invokevirtual 59, false, 76, 2, 4), (188, .if_icmp .eq 569, false, 757, 0, 0), (191, .iconst 0, false, 0, 0, 0), (192, .ireturn, false, 0, 0, 0), (193, .aload_n 1, false, 0, 0, 0), (194, .invokevirtual 60, false, 50, 1, 3), (197, .aload_n 2, false, 0, 0, 0), (198, .invokevirtual 63, false, 77, 1, 4), (201, .if_icmp .eq 556, false, 757, 0, 0), (204, .iconst 0, false, 0, 0, 0), (205, .ireturn, false, 0, 0, 0), (206, .aload_n 1, false, 0, 0, 0), (207, .invokevirtual 64, false, 51, 1, 3), (210, .aload_n 2, false, 0, 0, 0), (211, .invokevirtual 67, false, 80, 1, 4), (214, .if_icmp .eq 543, false, 757, 0, 0), (217, .iconst 0, false, 0, 0, 0), (218, .ireturn, false, 0, 0, 0), (219, .aload_n 1, false, 0, 0, 0), (220, .invokevirtual 68, false, 52, 1, 3), (223, .aload_n 2, false, 0, 0, 0), (224, .invokevirtual 71, false, 79, 1, 4), (227, .if_icmp .eq 530, false, 757, 0, 0), (230, .iconst 0, false, 0, 0, 0), (231, .ireturn, false, 0, 0, 0), (232, .aload_n 1, false, 0, 0, 0), (233, .aload_n 0, false, 0, 0, 0), (234, .iload 4, false, 0, 0, 0), (236, .iconst 1, false, 1, 0, 0), (237, .iadd, false, 0, 0, 0), (238, .iaload, false, 0, 0, 0), (239, .aload_n 3, false, 0, 0, 0), (240, .invokestatic 72, false, 91, 3, 0), (243, .istore 5, false, 0, 0, 0), (245, .aload_n 2, false, 0, 0, 0), (246, .aload_n 0, false, 0, 0, 0), (247, .iload 4, false, 0, 0, 0), (249, .iconst 1, false, 1, 0, 0), (250, .iadd, false, 0, 0, 0), (251, .iaload, false, 0, 0, 0), (252, .invokevirtual 75, false, 82, 2, 4), (255, .istore 6, false, 0, 0, 0), (257, .aload_n 2, false, 0, 0, 0), (258, .invokevirtual 52, false, 66, 1, 4), (261, .iload 5, false, 0, 0, 0), (263, .if_icmp .eq 5, false, 268, 0, 0), (266, .iconst 0, false, 0, 0, 0), (267, .ireturn, false, 0, 0, 0), (268, .iload 5, false, 0, 0, 0), (270, .ifCond .ne 22, false, 292, 0, 0), (273, .aload_n 3, false, 0, 0, 0), (274, .iconst 0, false, 0, 0, 0), (275, .laload, false, 0, 0, 0), (276, .iload 6, false, 0, 0, 0), (278, .ifCond .eq 7, false, 285, 0, 0), (281, .lconst 1, false, 0, 0, 0), (282, .goto 4, false, 286, 0, 0), (285, .lconst 0, false, 0, 0, 0), (286, .lcmp, false, 0, 0, 0), (287, .ifCond .eq 5, false, 292, 0, 0), (290, .iconst 0, false, 0, 0, 0), (291, .ireturn, false, 0, 0, 0), (292, .goto 465, false, 757, 0, 0), (295, .aload_n 1, false, 0, 0, 0), (296, .aload_n 0, false, 0, 0, 0), (297, .iload 4, false, 0, 0, 0), (299, .iconst 1, false, 1, 0, 0), (300, .iadd, false, 0, 0, 0), (301, .iaload, false, 0, 0, 0), (302, .aload_n 0, false, 0, 0, 0), (303, .iload 4, false, 0, 0, 0), (305, .iconst 2, false, 2, 0, 0), (306, .iadd, false, 0, 0, 0), (307, .iaload, false, 0, 0, 0), (308, .aload_n 3, false, 0, 0, 0), (309, .invokestatic 76, false, 92, 4, 0), (312, .istore 5, false, 0, 0, 0), (314, .aload_n 2, false, 0, 0, 0), (315, .aload_n 0, false, 0, 0, 0), (316, .iload 4, false, 0, 0, 0), (318, .iconst 1, false, 1, 0, 0), (319, .iadd, false, 0, 0, 0), (320, .iaload, false, 0, 0, 0), (321, .aload_n 0, false, 0, 0, 0), (322, .iload 4, false, 0, 0, 0), (324, .iconst 2, false, 2, 0, 0), (325, .iadd, false, 0, 0, 0), (326, .iaload, false, 0, 0, 0), (327, .invokevirtual 79, false, 83, 3, 4), (330, .istore 6, false, 0, 0, 0), (332, .aload_n 2, false, 0, 0, 0), (333, .invokevirtual 52, false, 66, 1, 4), (336, .iload 5, false, 0, 0, 0), (338, .if_icmp .eq 5, false, 343, 0, 0), (341, .iconst 0, false, 0, 0, 0), (342, .ireturn, false, 0, 0, 0), (343, .iload 5, false, 0, 0, 0), (345, .ifCond .ne 22, false, 367, 0, 0), (348, .aload_n 3, false, 0, 0, 0), (349, .iconst 0, false, 0, 0, 0), (350, .laload, false, 0, 0, 0), (351, .iload 6, false, 0, 0, 0), (353, .ifCond .eq 7, false, 360, 0, 0), (356, .lconst 1, false, 0, 0, 0), (357, .goto 4, false, 361, 0, 0), (360, .lconst 0, false, 0, 0, 0), (361, .lcmp, false, 0, 0, 0), (362, .ifCond .eq 5, false, 367, 0, 0), (365, .iconst 0, false, 0, 0, 0), (366, .ireturn, false, 0, 0, 0), (367, .goto 390, false, 757, 0, 0), (370, .aload_n 1, false, 0, 0, 0), (371, .aload_n 0, false, 0, 0, 0), (372, .iload 4, false, 0, 0, 0), (374, .iconst 1, false, 1, 0, 0), (375, .iadd, false, 0, 0, 0), (376, .iaload, false, 0, 0, 0), (377, .aload_n 3, false, 0, 0, 0), (378, .invokestatic 80, false, 93, 3, 0), (381, .istore 5, false, 0, 0, 0), (383, .aload_n 2, false, 0, 0, 0), (384, .aload_n 0, false, 0, 0, 0), (385, .iload 4, false, 0, 0, 0), (387, .iconst 1, false, 1, 0, 0), (388, .iadd, false, 0, 0, 0), (389, .iaload, false, 0, 0, 0), (390, .invokevirtual 82, false, 84, 2, 4), (393, .istore 6, false, 0, 0, 0), (395, .aload_n 2, false, 0, 0, 0), (396, .invokevirtual 52, false, 66, 1, 4), (399, .iload 5, false, 0, 0, 0), (401, .if_icmp .eq 5, false, 406, 0, 0), (404, .iconst 0, false, 0, 0, 0), (405, .ireturn, false, 0, 0, 0), (406, .iload 5, false, 0, 0, 0), (408, .ifCond .ne 22, false, 430, 0, 0), (411, .aload_n 3, false, 0, 0, 0), (412, .iconst 0, false, 0, 0, 0), (413, .laload, false, 0, 0, 0), (414, .iload 6, false, 0, 0, 0), (416, .ifCond .eq 7, false, 423, 0, 0), (419, .lconst 1, false, 0, 0, 0), (420, .goto 4, false, 424, 0, 0), (423, .lconst 0, false, 0, 0, 0), (424, .lcmp, false, 0, 0, 0), (425, .ifCond .eq 5, false, 430, 0, 0), (428, .iconst 0, false, 0, 0, 0), (429, .ireturn, false, 0, 0, 0), (430, .goto 327, false, 757, 0, 0), (433, .aload_n 1, false, 0, 0, 0), (434, .aload_n 0, false, 0, 0, 0), (435, .iload 4, false, 0, 0, 0), (437, .iconst 1, false, 1, 0, 0), (438, .iadd, false, 0, 0, 0), (439, .iaload, false, 0, 0, 0), (440, .aload_n 3, false, 0, 0, 0), (441, .invokestatic 83, false, 94, 3, 0), (444, .istore 5, false, 0, 0, 0), (446, .aload_n 2, false, 0, 0, 0), (447, .aload_n 0, false, 0, 0, 0), (448, .iload 4, false, 0, 0, 0), (450, .iconst 1, false, 1, 0, 0), (451, .iadd, false, 0, 0, 0), (452, .iaload, false, 0, 0, 0), (453, .invokevirtual 85, false, 85, 2, 4), (456, .istore 6, false, 0, 0, 0), (458, .aload_n 2, false, 0, 0, 0), (459, .invokevirtual 52, false, 66, 1, 4), (462, .iload 5, false, 0, 0, 0), (464, .if_icmp .eq 5, false, 469, 0, 0), (467, .iconst 0, false, 0, 0, 0), (468, .ireturn, false, 0, 0, 0), (469, .iload 5, false, 0, 0, 0), (471, .ifCond .ne 22, false, 493, 0, 0), (474, .aload_n 3, false, 0, 0, 0), (475, .iconst 0, false, 0, 0, 0), (476, .laload, false, 0, 0, 0), (477, .iload 6, false, 0, 0, 0), (479, .ifCond .eq 7, false, 486, 0, 0), (482, .lconst 1, false, 0, 0, 0), (483, .goto 4, false, 487, 0, 0), (486, .lconst 0, false, 0, 0, 0), (487, .lcmp, false, 0, 0, 0), (488, .ifCond .eq 5, false, 493, 0, 0), (491, .iconst 0, false, 0, 0, 0), (492, .ireturn, false, 0, 0, 0), (493, .goto 264, false, 757, 0, 0), (496, .aload_n 1, false, 0, 0, 0), (497, .invokevirtual 86, false, 57, 1, 3), (500, .aload_n 2, false, 0, 0, 0), (501, .invokevirtual 89, false, 86, 1, 4), (504, .if_icmp .eq 253, false, 757, 0, 0), (507, .iconst 0, false, 0, 0, 0), (508, .ireturn, false, 0, 0, 0), (509, .aload_n 1, false, 0, 0, 0), (510, .aload_n 0, false, 0, 0, 0), (511, .iload 4, false, 0, 0, 0), (513, .iconst 1, false, 1, 0, 0), (514, .iadd, false, 0, 0, 0), (515, .iaload, false, 0, 0, 0), (516, .aload_n 3, false, 0, 0, 0), (517, .invokestatic 90, false, 95, 3, 0), (520, .istore 5, false, 0, 0, 0), (522, .aload_n 2, false, 0, 0, 0), (523, .aload_n 0, false, 0, 0, 0), (524, .iload 4, false, 0, 0, 0), (526, .iconst 1, false, 1, 0, 0), (527, .iadd, false, 0, 0, 0), (528, .iaload, false, 0, 0, 0), (529, .invokevirtual 92, false, 87, 2, 4), (532, .istore 6, false, 0, 0, 0), (534, .aload_n 2, false, 0, 0, 0), (535, .invokevirtual 52, false, 66, 1, 4), (538, .iload 5, false, 0, 0, 0), (540, .if_icmp .eq 5, false, 545, 0, 0), (543, .iconst 0, false, 0, 0, 0), (544, .ireturn, false, 0, 0, 0), (545, .iload 5, false, 0, 0, 0), (547, .ifCond .ne 15, false, 562, 0, 0), (550, .aload_n 3, false, 0, 0, 0), (551, .iconst 0, false, 0, 0, 0), (552, .laload, false, 0, 0, 0), (553, .iload 6, false, 0, 0, 0), (555, .i2l, false, 0, 0, 0), (556, .lcmp, false, 0, 0, 0), (557, .ifCond .eq 5, false, 562, 0, 0), (560, .iconst 0, false, 0, 0, 0), (561, .ireturn, false, 0, 0, 0), (562, .goto 195, false, 757, 0, 0), (565, .aload_n 1, false, 0, 0, 0), (566, .aload_n 0, false, 0, 0, 0), (567, .iload 4, false, 0, 0, 0), (569, .iconst 1, false, 1, 0, 0), (570, .iadd, false, 0, 0, 0), (571, .iaload, false, 0, 0, 0), (572, .aload_n 0, false, 0, 0, 0), (573, .iload 4, false, 0, 0, 0), (575, .iconst 2, false, 2, 0, 0), (576, .iadd, false, 0, 0, 0), (577, .iaload, false, 0, 0, 0), (578, .aload_n 0, false, 0, 0, 0), (579, .iload 4, false, 0, 0, 0), (581, .iconst 3, false, 3, 0, 0), (582, .iadd, false, 0, 0, 0), (583, .iaload, false, 0, 0, 0), (584, .aload_n 3, false, 0, 0, 0), (585, .invokestatic 93, false, 96, 5, 0), (588, .istore 5, false, 0, 0, 0), (590, .aload_n 2, false, 0, 0, 0), (591, .aload_n 0, false, 0, 0, 0), (592, .iload 4, false, 0, 0, 0), (594, .iconst 1, false, 1, 0, 0), (595, .iadd, false, 0, 0, 0), (596, .iaload, false, 0, 0, 0), (597, .aload_n 0, false, 0, 0, 0), (598, .iload 4, false, 0, 0, 0), (600, .iconst 2, false, 2, 0, 0), (601, .iadd, false, 0, 0, 0), (602, .iaload, false, 0, 0, 0), (603, .aload_n 0, false, 0, 0, 0), (604, .iload 4, false, 0, 0, 0), (606, .iconst 3, false, 3, 0, 0), (607, .iadd, false, 0, 0, 0), (608, .iaload, false, 0, 0, 0), (609, .invokevirtual 96, false, 88, 4, 4), (612, .lstore 6, false, 0, 0, 0), (614, .aload_n 2, false, 0, 0, 0), (615, .invokevirtual 52, false, 66, 1, 4), (618, .iload 5, false, 0, 0, 0), (620, .if_icmp .eq 5, false, 625, 0, 0), (623, .iconst 0, false, 0, 0, 0), (624, .ireturn, false, 0, 0, 0), (625, .iload 5, false, 0, 0, 0), (627, .ifCond .ne 14, false, 641, 0, 0), (630, .aload_n 3, false, 0, 0, 0), (631, .iconst 0, false, 0, 0, 0), (632, .laload, false, 0, 0, 0), (633, .lload 6, false, 0, 0, 0), (635, .lcmp, false, 0, 0, 0), (636, .ifCond .eq 5, false, 641, 0, 0), (639, .iconst 0, false, 0, 0, 0), (640, .ireturn, false, 0, 0, 0), (641, .goto 116, false, 757, 0, 0), (644, .aload_n 1, false, 0, 0, 0), (645, .aload_n 0, false, 0, 0, 0), (646, .iload 4, false, 0, 0, 0), (648, .iconst 1, false, 1, 0, 0), (649, .iadd, false, 0, 0, 0), (650, .iaload, false, 0, 0, 0), (651, .aload_n 3, false, 0, 0, 0), (652, .invokestatic 97, false, 97, 3, 0), (655, .istore 5, false, 0, 0, 0), (657, .aload_n 2, false, 0, 0, 0), (658, .aload_n 0, false, 0, 0, 0), (659, .iload 4, false, 0, 0, 0), (661, .iconst 1, false, 1, 0, 0), (662, .iadd, false, 0, 0, 0), (663, .iaload, false, 0, 0, 0), (664, .invokevirtual 99, false, 89, 2, 4), (667, .istore 6, false, 0, 0, 0), (669, .aload_n 2, false, 0, 0, 0), (670, .invokevirtual 52, false, 66, 1, 4), (673, .iload 5, false, 0, 0, 0), (675, .if_icmp .eq 5, false, 680, 0, 0), (678, .iconst 0, false, 0, 0, 0), (679, .ireturn, false, 0, 0, 0), (680, .iload 5, false, 0, 0, 0), (682, .ifCond .ne 15, false, 697, 0, 0), (685, .aload_n 3, false, 0, 0, 0), (686, .iconst 0, false, 0, 0, 0), (687, .laload, false, 0, 0, 0), (688, .iload 6, false, 0, 0, 0), (690, .i2l, false, 0, 0, 0), (691, .lcmp, false, 0, 0, 0), (692, .ifCond .eq 5, false, 697, 0, 0), (695, .iconst 0, false, 0, 0, 0), (696, .ireturn, false, 0, 0, 0), (697, .goto 60, false, 757, 0, 0), (700, .aload_n 1, false, 0, 0, 0), (701, .aload_n 0, false, 0, 0, 0), (702, .iload 4, false, 0, 0, 0), (704, .iconst 1, false, 1, 0, 0), (705, .iadd, false, 0, 0, 0), (706, .iaload, false, 0, 0, 0), (707, .i2l, false, 0, 0, 0), (708, .bipush 32, false, 32, 0, 0), (710, .lshl, false, 0, 0, 0), (711, .aload_n 0, false, 0, 0, 0), (712, .iload 4, false, 0, 0, 0), (714, .iconst 2, false, 2, 0, 0), (715, .iadd, false, 0, 0, 0), (716, .iaload, false, 0, 0, 0), (717, .i2l, false, 0, 0, 0), (718, .ldc2_w 100, false, 4294967295, 0, 0), (721, .land, false, 0, 0, 0), (722, .lor, false, 0, 0, 0), (723, .invokevirtual 102, false, 61, 2, 3), (726, .aload_n 2, false, 0, 0, 0), (727, .aload_n 0, false, 0, 0, 0), (728, .iload 4, false, 0, 0, 0), (730, .iconst 1, false, 1, 0, 0), (731, .iadd, false, 0, 0, 0), (732, .iaload, false, 0, 0, 0), (733, .i2l, false, 0, 0, 0), (734, .bipush 32, false, 32, 0, 0), (736, .lshl, false, 0, 0, 0), (737, .aload_n 0, false, 0, 0, 0), (738, .iload 4, false, 0, 0, 0), (740, .iconst 2, false, 2, 0, 0), (741, .iadd, false, 0, 0, 0), (742, .iaload, false, 0, 0, 0), (743, .i2l, false, 0, 0, 0), (744, .ldc2_w 100, false, 4294967295, 0, 0), (747, .land, false, 0, 0, 0), (748, .lor, false, 0, 0, 0), (749, .invokevirtual 106, false, 69, 2, 4), (752, .if_icmp .eq 5, false, 757, 0, 0), (755, .iconst 0, false, 0, 0, 0), (756, .ireturn, false, 0, 0, 0), (757, .iinc 4 4, false, 4, 0, 0), (760, .goto (-737), false, 23, 0, 0), (763, .iconst 1, false, 1, 0, 0), (764, .ireturn, false, 0, 0, 0)]
def pmX0_of : pm_M := (yX0_of, cX0_of, 4, (some .long), [], prX0_of)
def pmX0_kindOf : pm_M := (yX0_kindOf, cX0_kindOf, 2, (some .int), [], prX0_kindOf)
def pmX0_numberOf : pm_M := (yX0_numberOf, cX0_numberOf, 2, (some .int), [], prX0_numberOf)
def pmX0_wordOf : pm_M := (yX0_wordOf, cX0_wordOf, 2, (some .int), [], prX0_wordOf)
def pmX0_mapOf : pm_M := (yX0_mapOf, cX0_mapOf, 2, (some .int), [], prX0_mapOf)
def pmX0_checkSum : pm_M := (yX0_checkSum, cX0_checkSum, 4, (some .int), [], prX0_checkSum)
def pmX0_withByte : pm_M := (yX0_withByte, cX0_withByte, 5, (some .int), [], prX0_withByte)
def pmX1_plus : pm_M := (yX1_plus, cX1_plus, 2, (some .int), [], prX1_plus)
def pmX1_distance : pm_M := (yX1_distance, cX1_distance, 2, (some .int), [], prX1_distance)
def pmX1_slotOf : pm_M := (yX1_slotOf, cX1_slotOf, 1, (some .int), [], prX1_slotOf)
def pmX2_init : pm_M := (yX2_init, cX2_init, 1, none, [], prX2_init)
def pmX2_clear : pm_M := (yX2_clear, cX2_clear, 3, none, [], prX2_clear)
def pmX2_accept : pm_M := (yX2_accept, cX2_accept, 4, (some .boolean), [], prX2_accept)
def pmX2_acknowledgement : pm_M := (yX2_acknowledgement, cX2_acknowledgement, 3, (some .long), [], prX2_acknowledgement)
def pmX2_behindGap : pm_M := (yX2_behindGap, cX2_behindGap, 3, (some .int), [], prX2_behindGap)
def pmX2_deliveredCount : pm_M := (yX2_deliveredCount, cX2_deliveredCount, 1, (some .int), [], prX2_deliveredCount)
def pmX2_keeps : pm_M := (yX2_keeps, cX2_keeps, 2, (some .boolean), [], prX2_keeps)
def pmX2_keptWord : pm_M := (yX2_keptWord, cX2_keptWord, 2, (some .int), [], prX2_keptWord)
def pmX2_deliver : pm_M := (yX2_deliver, cX2_deliver, 3, none, [], prX2_deliver)
def pmX3_init : pm_M := (yX3_init, cX3_init, 1, none, [], prX3_init)
def pmX3_clear : pm_M := (yX3_clear, cX3_clear, 3, none, [], prX3_clear)
def pmX3_hasRoom : pm_M := (yX3_hasRoom, cX3_hasRoom, 1, (some .boolean), [], prX3_hasRoom)
def pmX3_takeWord : pm_M := (yX3_takeWord, cX3_takeWord, 4, (some .long), [], prX3_takeWord)
def pmX3_sendAgain : pm_M := (yX3_sendAgain, cX3_sendAgain, 7, (some .int), [], prX3_sendAgain)
def pmX3_isGood : pm_M := (yX3_isGood, cX3_isGood, 2, (some .boolean), [], prX3_isGood)
def pmX3_acknowledge : pm_M := (yX3_acknowledge, cX3_acknowledge, 7, (some .int), [], prX3_acknowledge)
def pmX3_unacknowledged : pm_M := (yX3_unacknowledged, cX3_unacknowledged, 4, (some .int), [], prX3_unacknowledged)
def pmX3_held : pm_M := (yX3_held, cX3_held, 1, (some .int), [], prX3_held)
def pmX3_frameOf : pm_M := (yX3_frameOf, cX3_frameOf, 2, (some .long), [], prX3_frameOf)
def pmX3_isInMap : pm_M := (yX3_isInMap, cX3_isInMap, 2, (some .boolean), [], prX3_isInMap)
def pmX3_mark : pm_M := (yX3_mark, cX3_mark, 3, (some .int), [], prX3_mark)
def pmX3_moveBase : pm_M := (yX3_moveBase, cX3_moveBase, 3, none, [], prX3_moveBase)
def pmX4_init : pm_M := (yX4_init, cX4_init, 1, none, [], prX4_init)
def pmX4_clear : pm_M := (yX4_clear, cX4_clear, 2, none, [], prX4_clear)
def pmX4_size : pm_M := (yX4_size, cX4_size, 1, (some .int), [], prX4_size)
def pmX4_isEmpty : pm_M := (yX4_isEmpty, cX4_isEmpty, 1, (some .boolean), [], prX4_isEmpty)
def pmX4_hasRoom : pm_M := (yX4_hasRoom, cX4_hasRoom, 1, (some .boolean), [], prX4_hasRoom)
def pmX4_bytesAt : pm_M := (yX4_bytesAt, cX4_bytesAt, 2, (some .long), [], prX4_bytesAt)
def pmX4_checkSumAt : pm_M := (yX4_checkSumAt, cX4_checkSumAt, 2, (some .long), [], prX4_checkSumAt)
def pmX4_isOldestSound : pm_M := (yX4_isOldestSound, cX4_isOldestSound, 4, (some .boolean), [], prX4_isOldestSound)
def pmX4_put : pm_M := (yX4_put, cX4_put, 3, none, [], prX4_put)
def pmX4_takeOldest : pm_M := (yX4_takeOldest, cX4_takeOldest, 3, (some .long), [], prX4_takeOldest)
def pmX4_turnBitOfOldest : pm_M := (yX4_turnBitOfOldest, cX4_turnBitOfOldest, 2, none, [], prX4_turnBitOfOldest)
def pmX4_doubleOldest : pm_M := (yX4_doubleOldest, cX4_doubleOldest, 2, none, [], prX4_doubleOldest)
def pmX4_moveOldestBack : pm_M := (yX4_moveOldestBack, cX4_moveOldestBack, 2, none, [], prX4_moveOldestBack)
def pmX4_putBack : pm_M := (yX4_putBack, cX4_putBack, 5, none, [], prX4_putBack)
def pmX4_placeOf : pm_M := (yX4_placeOf, cX4_placeOf, 2, (some .int), [], prX4_placeOf)
def pmX5_init : pm_M := (yX5_init, cX5_init, 1, none, [], prX5_init)
def pmX5_begin : pm_M := (yX5_begin, cX5_begin, 4, none, [], prX5_begin)
def pmX5_send : pm_M := (yX5_send, cX5_send, 2, (some .boolean), [], prX5_send)
def pmX5_tick : pm_M := (yX5_tick, cX5_tick, 1, (some .int), [], prX5_tick)
def pmX5_comeToB : pm_M := (yX5_comeToB, cX5_comeToB, 5, (some .int), [], prX5_comeToB)
def pmX5_comeToA : pm_M := (yX5_comeToA, cX5_comeToA, 5, (some .int), [], prX5_comeToA)
def pmX5_lose : pm_M := (yX5_lose, cX5_lose, 3, (some .boolean), [], prX5_lose)
def pmX5_change : pm_M := (yX5_change, cX5_change, 4, (some .boolean), [], prX5_change)
def pmX5_twice : pm_M := (yX5_twice, cX5_twice, 3, (some .boolean), [], prX5_twice)
def pmX5_delay : pm_M := (yX5_delay, cX5_delay, 3, (some .boolean), [], prX5_delay)
def pmX5_delivered : pm_M := (yX5_delivered, cX5_delivered, 1, (some .int), [], prX5_delivered)
def pmX5_word : pm_M := (yX5_word, cX5_word, 2, (some .int), [], prX5_word)
def pmX5_frame : pm_M := (yX5_frame, cX5_frame, 5, (some .long), [], prX5_frame)
def pmX5_told : pm_M := (yX5_told, cX5_told, 2, (some .int), [], prX5_told)
def pmX5_sum : pm_M := (yX5_sum, cX5_sum, 3, (some .int), [], prX5_sum)
def pmX5_restart : pm_M := (yX5_restart, cX5_restart, 4, none, [], prX5_restart)
def pmX5_wireOf : pm_M := (yX5_wireOf, cX5_wireOf, 2, (some (.object "SelectiveLink$Wire")), [], prX5_wireOf)
def pmX5_isWithin : pm_M := (yX5_isWithin, cX5_isWithin, 3, (some .boolean), [], prX5_isWithin)
def pmX6_init : pm_M := (yX6_init, cX6_init, 1, none, [], prX6_init)
def pmX6_thrown : pm_M := (yX6_thrown, cX6_thrown, 1, (some .int), [], prX6_thrown)
def pmX6_begin : pm_M := (yX6_begin, cX6_begin, 5, none, [], prX6_begin)
def pmX6_crc : pm_M := (yX6_crc, cX6_crc, 4, (some .int), [], prX6_crc)
def pmX6_sum : pm_M := (yX6_sum, cX6_sum, 5, (some .int), [], prX6_sum)
def pmX6_at : pm_M := (yX6_at, cX6_at, 2, (some .int), [], prX6_at)
def pmX6_bytesAt : pm_M := (yX6_bytesAt, cX6_bytesAt, 6, (some .long), [], prX6_bytesAt)
def pmX6_put : pm_M := (yX6_put, cX6_put, 11, (some .boolean), [], prX6_put)
def pmX6_drop : pm_M := (yX6_drop, cX6_drop, 4, none, [], prX6_drop)
def pmX6_isGood : pm_M := (yX6_isGood, cX6_isGood, 3, (some .boolean), [], prX6_isGood)
def pmX6_far : pm_M := (yX6_far, cX6_far, 3, (some .int), [], prX6_far)
def pmX6_send : pm_M := (yX6_send, cX6_send, 3, (some .boolean), [], prX6_send)
def pmX6_tick : pm_M := (yX6_tick, cX6_tick, 5, (some .int), [], prX6_tick)
def pmX6_hear : pm_M := (yX6_hear, cX6_hear, 2, (some .int), [], prX6_hear)
def pmX6_comeToA : pm_M := (yX6_comeToA, cX6_comeToA, 9, (some .int), [], prX6_comeToA)
def pmX6_comeToB : pm_M := (yX6_comeToB, cX6_comeToB, 8, (some .int), [], prX6_comeToB)
def pmX6_noWire : pm_M := (yX6_noWire, cX6_noWire, 2, (some .boolean), [], prX6_noWire)
def pmX6_lose : pm_M := (yX6_lose, cX6_lose, 2, (some .boolean), [], prX6_lose)
def pmX6_change : pm_M := (yX6_change, cX6_change, 4, (some .boolean), [], prX6_change)
def pmX6_twice : pm_M := (yX6_twice, cX6_twice, 4, (some .boolean), [], prX6_twice)
def pmX6_delay : pm_M := (yX6_delay, cX6_delay, 4, (some .boolean), [], prX6_delay)
def pmX6_delivered : pm_M := (yX6_delivered, cX6_delivered, 1, (some .int), [], prX6_delivered)
def pmX6_word : pm_M := (yX6_word, cX6_word, 2, (some .int), [], prX6_word)
def pmX6_frame : pm_M := (yX6_frame, cX6_frame, 4, (some .long), [], prX6_frame)
def pmX6_told : pm_M := (yX6_told, cX6_told, 5, (some .int), [], prX6_told)
def pmL_begin : pm_M := (yL_begin, cL_begin, 5, (some .int), [(0, 7, 10, 13)], prL_begin)
def pmL_lose : pm_M := (yL_lose, cL_lose, 4, (some .int), [(0, 16, 19, 13)], prL_lose)
def pmL_change : pm_M := (yL_change, cL_change, 5, (some .int), [(0, 17, 20, 13)], prL_change)
def pmL_twice : pm_M := (yL_twice, cL_twice, 4, (some .int), [(0, 16, 19, 13)], prL_twice)
def pmL_delay : pm_M := (yL_delay, cL_delay, 4, (some .int), [(0, 16, 19, 13)], prL_delay)
def pmL_word : pm_M := (yL_word, cL_word, 4, (some .int), [(0, 9, 12, 33)], prL_word)
def pmL_frame : pm_M := (yL_frame, cL_frame, 6, (some .int), [(0, 11, 14, 13), (0, 11, 18, 33)], prL_frame)
def pmL_told : pm_M := (yL_told, cL_told, 4, (some .int), [(0, 9, 12, 13)], prL_told)
def pmL_law : pm_M := (yL_law, cL_law, 8, (some .boolean), [], prL_law)
def pm_at {α : Type} (z : α) : List α → Nat → α
  | [], _ => z
  | a :: _, 0 => a
  | _ :: t, n + 1 => pm_at z t n
def pm_prs : List pm_M := [pmX0_of, pmX0_kindOf, pmX0_numberOf, pmX0_wordOf, pmX0_mapOf, pmX0_checkSum, pmX0_withByte, pmX1_plus, pmX1_distance, pmX1_slotOf, pmX2_init, pmX2_clear, pmX2_accept, pmX2_acknowledgement, pmX2_behindGap, pmX2_deliveredCount, pmX2_keeps, pmX2_keptWord, pmX2_deliver, pmX3_init, pmX3_clear, pmX3_hasRoom, pmX3_takeWord, pmX3_sendAgain, pmX3_isGood, pmX3_acknowledge, pmX3_unacknowledged, pmX3_held, pmX3_frameOf, pmX3_isInMap, pmX3_mark, pmX3_moveBase, pmX4_init, pmX4_clear, pmX4_size, pmX4_isEmpty, pmX4_hasRoom, pmX4_bytesAt, pmX4_checkSumAt, pmX4_isOldestSound, pmX4_put, pmX4_takeOldest, pmX4_turnBitOfOldest, pmX4_doubleOldest, pmX4_moveOldestBack, pmX4_putBack, pmX4_placeOf, pmX5_init, pmX5_begin, pmX5_send, pmX5_tick, pmX5_comeToB, pmX5_comeToA, pmX5_lose, pmX5_change, pmX5_twice, pmX5_delay, pmX5_delivered, pmX5_word, pmX5_frame, pmX5_told, pmX5_sum, pmX5_restart, pmX5_wireOf, pmX5_isWithin, pmX6_init, pmX6_thrown, pmX6_begin, pmX6_crc, pmX6_sum, pmX6_at, pmX6_bytesAt, pmX6_put, pmX6_drop, pmX6_isGood, pmX6_far, pmX6_send, pmX6_tick, pmX6_hear, pmX6_comeToA, pmX6_comeToB, pmX6_noWire, pmX6_lose, pmX6_change, pmX6_twice, pmX6_delay, pmX6_delivered, pmX6_word, pmX6_frame, pmX6_told, pmL_begin, pmL_lose, pmL_change, pmL_twice, pmL_delay, pmL_word, pmL_frame, pmL_told, pmL_law]
def pm_pr (k : Nat) : pm_M := pm_at pmL_law pm_prs k
abbrev pm_N : Nat := 99
/-- cells and slots that a call of a method may make -/
def pm_mc (k : Nat) : Nat × Nat := pm_at (0, 0) [(0, 0), (0, 0), (0, 0), (0, 0), (0, 0), (0, 0), (0, 0), (0, 0), (0, 0), (0, 0), (3, 288), (0, 0), (0, 0), (0, 0), (0, 0), (0, 0), (0, 0), (0, 0), (0, 0), (3, 48), (0, 0), (0, 0), (0, 0), (0, 0), (0, 0), (0, 0), (0, 0), (0, 0), (0, 0), (0, 0), (0, 0), (0, 0), (2, 64), (0, 0), (0, 0), (0, 0), (0, 0), (0, 0), (0, 0), (0, 0), (0, 0), (0, 0), (0, 0), (0, 0), (0, 0), (0, 0), (0, 0), (14, 489), (1, 6), (0, 0), (0, 0), (0, 0), (0, 0), (1, 6), (2, 12), (1, 6), (1, 6), (0, 0), (1, 6), (2, 12), (1, 6), (0, 0), (0, 0), (1, 6), (0, 0), (9, 2318), (0, 0), (0, 0), (0, 0), (0, 0), (0, 0), (0, 0), (0, 0), (0, 0), (0, 0), (0, 0), (0, 0), (0, 0), (0, 0), (0, 0), (0, 0), (0, 0), (0, 0), (0, 0), (0, 0), (0, 0), (0, 0), (0, 0), (0, 0), (0, 0), (1, 6), (1, 6), (2, 12), (1, 6), (1, 6), (1, 6), (2, 12), (1, 6), (1057, 11066)] k
/-- the fields of a new object -/
def pm_df (k : Nat) : List Value := pm_at [] [[.null, .null, .null, .int 0, .int 0, .int 0], [.null, .null, .null, .int 0, .int 0, .int 0, .int 0, .int 0, .int 0], [.null, .null, .int 0, .int 0, .int 0], [.null, .null, .null, .null], [.int 0, .int 0, .int 0, .int 0, .null, .null, .int 0, .int 0, .null, .null, .null, .int 0, .null, .null, .int 0, .null, .int 0, .int 0, .int 0, .null]] k
/-- the switches: the cases, the default -/
def pm_sw (k : Nat) : List (Int32 × Nat) × Nat := pm_at ([], 0) [([(0, 56), (1, 64), (2, 72), (3, 80), (4, 88), (5, 96), (6, 104), (7, 112), (8, 128), (9, 136)], 144), ([(0, 108), (1, 168), (2, 193), (3, 206), (4, 219), (5, 232), (6, 295), (7, 370), (8, 433), (9, 496), (10, 509), (11, 565), (12, 644), (13, 700)], 757)] k
/-- the texts of the exceptions -/
def pm_ss : List (String × Nat × String) := [("SelectiveLink", 43, "a setting is out of its range"), ("SelectiveLink", 181, "there is no such wire"), ("SelectiveLink", 106, "there is no such bit"), ("SelectiveLink", 130, "this word is not kept"), ("SelectiveLink", 137, "there is no such half"), ("SelectiveLink", 139, "there is no such frame"), ("SelectiveLink", 169, "there is no such reading")]
end
section
/-! THE PICTURE MACHINE. A method's bytecode is run on pictures: a reference is a place (0: the law's script; k + 1: the k-th cell of the picture w, which lies at the address ad (k + 1)). pm_w says what a run from here must show; it comes to pm_J, the judgement over the machine itself, after its fuel and where a loop comes back, and to pm_C, a callee's contract, at each call. Everything goes on by continuations, so that evaluation leaves plain lists behind. -/
abbrev pm_V : Type := List (Option Value)
abbrev pm_D : Type := List va_E
abbrev pm_K : Type := Option Value → pm_D → Prop
abbrev pm_X : Type := String → pm_D → Prop
def pm_set {α : Type} : List α → Nat → α → (List α → Prop) → Prop
  | [], _, _, _ => False
  | _ :: t, 0, x, k => k (x :: t)
  | a :: t, n + 1, x, k => pm_set t n x (fun u => k (a :: u))
def pm_get {α : Type} : List α → Nat → (α → Prop) → Prop
  | [], _, _ => False
  | a :: _, 0, k => k a
  | _ :: t, n + 1, k => pm_get t n k
def pm_cl : Nat → Option Value → (Option Value → Prop) → Prop
  | 0, some (.long _), k => k none
  | 0, some (.double _), k => k none
  | _, a, k => k a
def pm_st1 : pm_V → Nat → Option Value → (pm_V → Prop) → Prop
  | [], _, _, _ => False
  | _ :: t, 0, v, k => k (v :: t)
  | a :: t, n + 1, v, k => pm_st1 t n v (fun u => pm_cl n a (fun b => k (b :: u)))
def pm_st2 : pm_V → Nat → Value → (pm_V → Prop) → Prop
  | [], _, _, _ => False
  | [_], _, _, _ => False
  | _ :: _ :: t, 0, v, k => k (some v :: none :: t)
  | a :: b :: t, n + 1, v, k => pm_st2 (b :: t) n v (fun u => pm_cl n a (fun b => k (b :: u)))
def pm_i1 : List Value → (Int32 → List Value → Prop) → Prop
  | .int x :: t, k => k x t
  | _, _ => False
def pm_i2 : List Value → (Int32 → Int32 → List Value → Prop) → Prop
  | .int y :: .int x :: t, k => k x y t
  | _, _ => False
def pm_l1 : List Value → (Int64 → List Value → Prop) → Prop
  | .long x :: t, k => k x t
  | _, _ => False
def pm_l2 : List Value → (Int64 → Int64 → List Value → Prop) → Prop
  | .long y :: .long x :: t, k => k x y t
  | _, _ => False
def pm_li : List Value → (Int64 → Int32 → List Value → Prop) → Prop
  | .int y :: .long x :: t, k => k x y t
  | _, _ => False
def pm_r1 : List Value → (Nat → List Value → Prop) → Prop
  | .ref r :: t, k => k r t
  | _, _ => False
def pm_ldI (L : pm_V) (i : Nat) (k : Int32 → Prop) : Prop := pm_get L i (fun o => match o with | some (.int x) => k x | _ => False)
def pm_ldJ (L : pm_V) (i : Nat) (k : Int64 → Prop) : Prop := pm_get L i (fun o => match o with | some (.long x) => k x | _ => False)
def pm_ldR (L : pm_V) (i : Nat) (k : Nat → Prop) : Prop := pm_get L i (fun o => match o with | some (.ref x) => k x | _ => False)
def pm_pop : Nat → List Value → List Value → (List Value → List Value → Prop) → Prop
  | 0, st, vs, k => k vs st
  | n + 1, v :: st, vs, k => pm_pop n st (v :: vs) k
  | _ + 1, [], _, _ => False
def pm_snoc : Nat → pm_D → va_E → (Nat → pm_D → Prop) → Prop
  | n, [], e, k => k n [e]
  | n, x :: t, e, k => pm_snoc (n + 1) t e (fun r u => k r (x :: u))
def pm_from : List pm_R → Nat → List pm_R
  | [], _ => []
  | r :: t, pc => match Nat.beq r.1 pc with
    | true => r :: t
    | false => pm_from t pc
def pm_few : List Value → Nat → Bool
  | [], _ => true
  | .long _ :: t, n + 2 => pm_few t n
  | .double _ :: t, n + 2 => pm_few t n
  | .int _ :: t, n + 1 => pm_few t n
  | .ref _ :: t, n + 1 => pm_few t n
  | .null :: t, n + 1 => pm_few t n
  | _, _ => false
def pm_cd (c : ClassFile.Cond) (x y : Int32) : Prop := match c with
  | .eq => x = y
  | .ne => ¬ x = y
  | .lt => x < y
  | .ge => y ≤ x
  | .gt => y < x
  | .le => x ≤ y
def pm_cs (x : Int32) (df : Nat) (k : Nat → Prop) : List (Int32 × Nat) → Prop
  | [] => k df
  | (v, t) :: r => (x = v → k t) ∧ (¬ x = v → pm_cs x df k r)
def pm_v (ad : Nat → Nat) : Value → Value
  | .ref k => .ref (ad k)
  | v => v
def pm_e (dA : Nat → ClassId) (ad : Nat → Nat) : va_E → va_E
  | .inl (t, a) => .inl (dA t, a)
  | .inr (ci, fs) => .inr (ci, fs.map (pm_v ad))
def pm_pf (dA : Nat → ClassId) (ad : Nat → Nat) : Nat → pm_D → va_W
  | _, [] => []
  | i, e :: t => (ad i, pm_e dA ad e) :: pm_pf dA ad (i + 1) t
abbrev pm_pic (dA : Nat → ClassId) (ad : Nat → Nat) (w : pm_D) : va_W := pm_pf dA ad 1 w
abbrev pm_tys (dA : Nat → ClassId) : List (ClassId × FieldType) := [(dA 0, .int), (dA 1, .long), (dA 2, .boolean)]
def pm_as (ad : Nat → Nat) : Nat → pm_V → List (Nat × Value)
  | _, [] => []
  | i, none :: t => pm_as ad (i + 1) t
  | i, some v :: t => (i, pm_v ad v) :: pm_as ad (i + 1) t
def pm_tb : List Cond := lw_tbl.filter goodWord
def pm_isN (w : Cond) : Bool := match w with
  | .fieldLinkNest .. => true
  | .methodLinkNest .. => true
  | .castable .. => true
  | .declares .. => true
  | _ => false
def pm_nw : List Cond := lw_tbl.filter pm_isN
def pm_IA : String := "java/lang/IllegalArgumentException"
def pm_IO : String := "java/lang/IndexOutOfBoundsException"
def pm_G (sa : Nat → Nat) (A : Nat → Prop) (U : State) (H : Heap) : Prop := (∀ w ∈ pm_nw, va_Nw w U) ∧ (∀ q ∈ pm_ss, vk_R q.1 q.2.1 q.2.2 (sa q.2.1) U) ∧ va_Nc pm_IO pm_IA U ∧ vx_Zq Bundle.tN "UNASSIGNED_STACK" Bundle.steD A U H ∧ vx_Zq Bundle.tN "SUPPRESSED_SENTINEL" Bundle.listD A U H
def pm_cc (M : pm_M) : Cond := match M.2.2.2.2.1 with
  | [] => .code M.1 M.2.1 M.2.2.1 M.2.2.2.1
  | hh => .codeWith M.1 M.2.1 M.2.2.1 M.2.2.2.1 hh
def pm_ws (me : Nat) : List Cond := pm_cc (pm_pr me) :: pm_tb
def pm_rm (d mc ms : Nat) : Room := { frames := d, cells := mc, slots := ms, locals := 34 * d }
/-- while cells are made: the next one comes at the next place -/
def pm_Al (al : Bool) (ad : Nat → Nat) (w : pm_D) (sz : Nat) : Prop := al = true → sz = ad (w.length + 1) ∧ ∀ n, ad (n + 2) = ad (n + 1) + 1
/-- the world behind a method -/
def pm_Bd (dA : Nat → ClassId) (D : va_G) (ad : Nat → Nat) (A : Nat → Prop) (al : Bool) (w : pm_D) (t : State) : Prop := va_P D vwCl (pm_pic dA ad w) t.heap ∧ va_D A (pm_pic dA ad w) ∧ pm_Al al ad w t.heap.size
def pm_Qc (dA : Nat → ClassId) (D : va_G) (ad : Nat → Nat) (A : Nat → Prop) (al : Bool) (k : pm_K) : Array Value → State → Outcome → State → Prop := fun _ st o t => (∃ (v : Option Value) (w : pm_D), o = .returned (v.map (pm_v ad)) ∧ k v w ∧ pm_Bd dA D ad A al w t) ∧ va_F A st t
def pm_XC (dA : Nat → ClassId) (D : va_G) (ad : Nat → Nat) (A : Nat → Prop) (al : Bool) (kx : pm_X) : String → State → State → Prop := fun E st t => (∃ w : pm_D, kx E w ∧ pm_Bd dA D ad A al w t) ∧ va_F A st t
def pm_Pc (dA : Nat → ClassId) (D : va_G) (ad sa : Nat → Nat) (al : Bool) (vs : List Value) (w : pm_D) (sz : Nat) : Array Value → State → Prop := va_Pc (vs.map (pm_v ad)) (fun U => U.heap.size = sz ∧ va_P D vwCl (pm_pic dA ad w) U.heap ∧ va_K D vwCl (pm_tys dA) U ∧ va_D (fun _ => True) (pm_pic dA ad w) ∧ pm_Al al ad w sz ∧ pm_G sa (va_A (pm_pic dA ad w) sz) U U.heap)
/-- THE CONTRACT of method me: from the picture w, with the arguments vs, it returns v and leaves w2 with k v w2, or it throws E and leaves w2 with kx E w2 -/
def pm_C (me d : Nat) (al : Bool) (vs : List Value) (w : pm_D) (k : pm_K) (kx : pm_X) : Prop :=
  ∀ (l : Launch) (dA : Nat → ClassId) (D : va_G) (ad sa : Nat → Nat) (sz : Nat), l.stackTraces = false →
    vx_Met l (pm_pr me).1 (pm_ws me) (pm_rm d (pm_mc me).1 (pm_mc me).2) (pm_Pc dA D ad sa al vs w sz) (pm_Qc dA D ad (va_A (pm_pic dA ad w) sz) al k) (pm_XC dA D ad (va_A (pm_pic dA ad w) sz) al kx) (pm_mc me).1 (pm_mc me).2 (va_A (pm_pic dA ad w) sz)
/-- what stays while a method runs -/
def pm_Fr (me d : Nat) (X : Option (Nat × (Nat → Int32))) (p : Program) (l : Launch) (R : Room) (s : State) (m : MethodId) (args : Array Value) (meth : Method) (c : Code) (dA : Nat → ClassId) (D : va_G) (ad sa : Nat → Nat) (A : Nat → Prop) : Prop :=
  p.tables.exec = Jvm.exec ∧ l.stackTraces = false ∧ c.code = (pm_pr me).2.1 ∧ c.maxLocals = (pm_pr me).2.2.1 ∧ meth.sig.returnType = (pm_pr me).2.2.2.1 ∧ meth.locks = false ∧ s.vm.findClass (pm_pr me).1.cls = some m.cls ∧ meth.name = (pm_pr me).1.name ∧ (∀ w ∈ pm_tb, w.before args s = true) ∧ c.exceptionTable.toList = tableOf (pm_pr me).2.2.2.2.1 ∧ va_K D vwCl (pm_tys dA) s ∧ (∀ q, s.heap.size ≤ q → A q) ∧ pm_G sa A s s.heap ∧ d ≤ R.frames ∧ 34 * d ≤ R.locals ∧ (∀ (N : Nat) (xs : Nat → Int32), X = some (N, xs) → va_X (ad 0) N xs s s.heap ∧ ad 0 < s.heap.size ∧ ¬ A (ad 0))
/-- in the law, cells are made at first and not later: its end asks nothing of them -/
def pm_qa (al : Bool) (X : Option (Nat × (Nat → Int32))) : Bool := match X with
  | none => al
  | some _ => false
theorem pm_Al.q {al : Bool} {X : Option (Nat × (Nat → Int32))} {ad : Nat → Nat} {w : pm_D} {sz : Nat} (h : pm_Al al ad w sz) : pm_Al (pm_qa al X) ad w sz := by
  cases X with
  | none => exact h
  | some _ => exact fun z => by cases z
/-- THE JUDGEMENT: the machine, in method me at pc with the locals L, the stack st, the picture w, comes to an end as k or kx say -/
def pm_J (me d : Nat) (al : Bool) (X : Option (Nat × (Nat → Int32))) (k : pm_K) (kx : pm_X) (pc : Nat) (L : pm_V) (st : List Value) (w : pm_D) (cb sb : Nat) : Prop :=
  ∀ (p : Program) (l : Launch) (e : Env) (R : Room) (s : State) (m : MethodId) (args : Array Value) (below : List Frame) (meth : Method) (c : Code) (H : Heap) (locs : List Loc) (cells slots : Nat) (dA : Nat → ClassId) (D : va_G) (ad sa : Nat → Nat) (A : Nat → Prop) (ls : Array Slot),
    pm_Fr me d X p l R s m args meth c dA D ad sa A → va_P D vwCl (pm_pic dA ad w) H → va_D A (pm_pic dA ad w) → va_S A s.heap H locs → pm_Al al ad w H.size → lv_has ls L.length (pm_as ad 0 L) → L.length = (pm_pr me).2.2.1 → cells + cb ≤ R.cells → slots + sb ≤ R.slots →
    W p l e R s m args below meth c H locs cells slots (vx_MQ below (pm_Qc dA D ad A (pm_qa al X) k) (pm_XC dA D ad A (pm_qa al X) kx) args s R.cells R.slots A) (F0 m pc ls (st.map (pm_v ad)))
/-- a field's value of the kind that the hint names -/
def pm_fv : Nat → Value → Prop → Prop
  | 0, .int _, k => k
  | 1, .long _, k => k
  | 2, .ref _, k => k
  | 2, .null, k => k
  | _, _, _ => False
def pm_en : Nat → String
  | 1 => pm_IA
  | _ => pm_IO
/-- the class that an entry of the law's pool names, of those that its tables catch -/
def pm_ct : Nat → String
  | 13 => pm_IA
  | _ => pm_IO
/-- E thrown at pc over the table: the row that takes it, or it goes on to the caller -/
def pm_ch (E : String) (pc : Nat) (go : Nat → Prop) : List (Nat × Nat × Nat × Nat) → Prop
  | [] => False
  | (a, b, h, t) :: r => match Nat.ble a pc && Nat.blt pc b with
    | false => pm_ch E pc go r
    | true => (E = pm_ct t → go h) ∧ (¬ E = pm_ct t → (E = pm_IO ∧ pm_ct t = pm_IA) ∧ pm_ch E pc go r)
def pm_br (c : ClassFile.Cond) (x y : Int32) (A B : Prop) : Prop := match c with
  | .eq => (x = y → A) ∧ (¬ x = y → B)
  | .ne => (¬ x = y → A) ∧ (x = y → B)
  | .lt => (x < y → A) ∧ (¬ x < y → B)
  | .ge => (y ≤ x → A) ∧ (¬ y ≤ x → B)
  | .gt => (y < x → A) ∧ (¬ y < x → B)
  | .le => (x ≤ y → A) ∧ (¬ x ≤ y → B)
/-- a constant, by its size and its sign -/
def pm_cn (a : Nat) : Nat → (Int32 → Prop) → Prop
  | 0, k => k (Int32.ofNat a)
  | _, k => k (-(Int32.ofNat a))
def pm_ps (v : Option Value) (t : List Value) (k : List Value → Prop) : Prop := match v with
  | none => k t
  | some u => k (u :: t)
/-- a handler: it puts the exception away -/
def pm_hn (rs : List pm_R) (L : pm_V) (k : List pm_R → pm_V → Prop) : Prop := match rs with
  | (_, .astore_n j, _, _, _, _) :: rs => pm_st1 L j.val none (fun u => k rs u)
  | (_, .astore j, _, _, _, _) :: rs => pm_st1 L j none (fun u => k rs u)
  | _ => False
section
variable (me d : Nat) (al : Bool) (X : Option (Nat × (Nat → Int32))) (k : pm_K) (kx : pm_X) (go : List pm_R → pm_V → List Value → pm_D → Nat → Nat → Prop)
/-- a call: the arguments off the stack, room, the callee's contract; behind it the rest, or a handler, or the caller's -/
def pm_cal (pc : Nat) (a b : Nat) (vt : Bool) (c : Nat) (rs : List pm_R) (L : pm_V) (st : List Value) (w : pm_D) (cb sb : Nat) : Prop := match d with
  | 0 => False
  | d + 1 => pm_pop b st [] (fun vs t => match pm_few t 8 with
    | false => False
    | true =>
      let go1 : Prop := ((pm_mc a).1 ≤ cb ∧ (pm_mc a).2 ≤ sb) ∧ pm_C a d al vs w (fun v w => pm_ps v t (fun t => go rs L t w (cb - (pm_mc a).1) (sb - (pm_mc a).2)))
        (fun E w => match (pm_pr me).2.2.2.2.1 with
          | [] => kx E w
          | hh => pm_ch E pc (fun h => pm_hn (pm_from (pm_pr me).2.2.2.2.2 h) L (fun rs L => go rs L [] w (cb - (pm_mc a).1) (sb - (pm_mc a).2))) hh)
      match vt with
      | false => go1
      | true => match vs with
        | .ref (q + 1) :: _ => pm_get w q (fun e => match e with
          | .inr (ci, _) => (match Nat.beq ci c with
            | true => go1
            | false => False)
          | .inl _ => False)
        | _ => False)
/-- ONE INSTRUCTION -/
def pm_x (pc : Nat) (i : Instr) (a b c : Nat) (rs : List pm_R) (L : pm_V) (st : List Value) (w : pm_D) (cb sb : Nat) : Prop := match i with
  | .aload_n j => pm_ldR L j.val (fun r => go rs L (.ref r :: st) w cb sb)
  | .aload j => pm_ldR L j (fun r => go rs L (.ref r :: st) w cb sb)
  | .iload_n j => pm_ldI L j.val (fun x => go rs L (.int x :: st) w cb sb)
  | .iload j => pm_ldI L j (fun x => go rs L (.int x :: st) w cb sb)
  | .lload_n j => pm_ldJ L j.val (fun x => go rs L (.long x :: st) w cb sb)
  | .lload j => pm_ldJ L j (fun x => go rs L (.long x :: st) w cb sb)
  | .astore_n j => pm_r1 st (fun r t => pm_st1 L j.val (some (.ref r)) (fun L => go rs L t w cb sb))
  | .astore j => pm_r1 st (fun r t => pm_st1 L j (some (.ref r)) (fun L => go rs L t w cb sb))
  | .istore_n j => pm_i1 st (fun x t => pm_st1 L j.val (some (.int x)) (fun L => go rs L t w cb sb))
  | .istore j => pm_i1 st (fun x t => pm_st1 L j (some (.int x)) (fun L => go rs L t w cb sb))
  | .lstore_n j => pm_l1 st (fun x t => pm_st2 L j.val (.long x) (fun L => go rs L t w cb sb))
  | .lstore j => pm_l1 st (fun x t => pm_st2 L j (.long x) (fun L => go rs L t w cb sb))
  | .iinc j _ => pm_ldI L j (fun x => pm_cn a c (fun y => pm_st1 L j (some (.int (x + y))) (fun L => go rs L st w cb sb)))
  | .iconst _ => pm_cn a c (fun y => go rs L (.int y :: st) w cb sb)
  | .bipush _ => pm_cn a c (fun y => go rs L (.int y :: st) w cb sb)
  | .sipush _ => pm_cn a c (fun y => go rs L (.int y :: st) w cb sb)
  | .ldc _ => match Nat.beq c 9 with
    | true => False
    | false => pm_cn a c (fun y => go rs L (.int y :: st) w cb sb)
  | .ldc2_w _ => go rs L (.long (Int64.ofNat a) :: st) w cb sb
  | .lconst j => go rs L (.long (Int64.ofNat j.val) :: st) w cb sb
  | .iadd => pm_i2 st (fun x y t => go rs L (.int (x + y) :: t) w cb sb)
  | .isub => pm_i2 st (fun x y t => go rs L (.int (x - y) :: t) w cb sb)
  | .imul => pm_i2 st (fun x y t => go rs L (.int (x * y) :: t) w cb sb)
  | .iand => pm_i2 st (fun x y t => go rs L (.int (x &&& y) :: t) w cb sb)
  | .ior => pm_i2 st (fun x y t => go rs L (.int (x ||| y) :: t) w cb sb)
  | .ixor => pm_i2 st (fun x y t => go rs L (.int (x ^^^ y) :: t) w cb sb)
  | .ishl => pm_i2 st (fun x y t => go rs L (.int (x <<< (y &&& 31)) :: t) w cb sb)
  | .ishr => pm_i2 st (fun x y t => go rs L (.int (x >>> (y &&& 31)) :: t) w cb sb)
  | .iushr => pm_i2 st (fun x y t => go rs L (.int (x.toUInt32 >>> (y.toUInt32 &&& Int32.toUInt32 31)).toInt32 :: t) w cb sb)
  | .idiv => pm_i2 st (fun x y t => (¬ y = 0) ∧ go rs L (.int (x / y) :: t) w cb sb)
  | .irem => pm_i2 st (fun x y t => (¬ y = 0) ∧ go rs L (.int (x - x / y * y) :: t) w cb sb)
  | .land => pm_l2 st (fun x y t => go rs L (.long (x &&& y) :: t) w cb sb)
  | .lor => pm_l2 st (fun x y t => go rs L (.long (x ||| y) :: t) w cb sb)
  | .lxor => pm_l2 st (fun x y t => go rs L (.long (x ^^^ y) :: t) w cb sb)
  | .lshl => pm_li st (fun x y t => go rs L (.long (x <<< (y.toInt64 &&& 63)) :: t) w cb sb)
  | .lshr => pm_li st (fun x y t => go rs L (.long (x >>> (y.toInt64 &&& 63)) :: t) w cb sb)
  | .lushr => pm_li st (fun x y t => go rs L (.long (x.toUInt64 >>> (y.toInt64.toUInt64 &&& Int64.toUInt64 63)).toInt64 :: t) w cb sb)
  | .i2l => pm_i1 st (fun x t => go rs L (.long x.toInt64 :: t) w cb sb)
  | .l2i => pm_l1 st (fun x t => go rs L (.int x.toInt32 :: t) w cb sb)
  | .lcmp => pm_l2 st (fun x y t => go rs L (.int (lg_cmp x y) :: t) w cb sb)
  | .dup => match st with
    | .int x :: t => go rs L (.int x :: .int x :: t) w cb sb
    | .ref r :: t => go rs L (.ref r :: .ref r :: t) w cb sb
    | _ => False
  | .dup2 => match st with
    | .int x :: .ref r :: t => go rs L (.int x :: .ref r :: .int x :: .ref r :: t) w cb sb
    | _ => False
  | .pop2 => pm_l1 st (fun _ t => go rs L t w cb sb)
  | .if_icmp c0 _ => pm_i2 st (fun x y t => pm_br c0 x y (go (pm_from (pm_pr me).2.2.2.2.2 a) L t w cb sb) (go rs L t w cb sb))
  | .ifCond c0 _ => pm_i1 st (fun x t => pm_br c0 x 0 (go (pm_from (pm_pr me).2.2.2.2.2 a) L t w cb sb) (go rs L t w cb sb))
  | .goto _ => go (pm_from (pm_pr me).2.2.2.2.2 a) L st w cb sb
  | .tableswitch _ _ _ _ => pm_i1 st (fun x t => pm_cs x (pm_sw a).2 (fun tg => go (pm_from (pm_pr me).2.2.2.2.2 tg) L t w cb sb) (pm_sw a).1)
  | .getfield _ => pm_r1 st (fun r t => match r with
    | 0 => False
    | q + 1 => pm_get w q (fun e => match e with
      | .inr (ci, fs) => (match Nat.beq ci a with
        | true => pm_get fs b (fun v => go rs L (v :: t) w cb sb)
        | false => False)
      | .inl _ => False))
  | .putfield _ => match st with
    | v :: .ref (q + 1) :: t => pm_get w q (fun e => match e with
      | .inr (ci, fs) => (match Nat.beq ci a with
        | true => pm_fv c v (pm_set fs b v (fun fs => pm_set w q (.inr (ci, fs)) (fun w => go rs L t w cb sb)))
        | false => False)
      | .inl _ => False)
    | _ => False
  | .iaload => pm_i1 st (fun j t => pm_r1 t (fun r t => match r with
    | 0 => (match X with
      | some (N, xs) => vp_in j N ∧ go rs L (.int (xs j.toNatClampNeg) :: t) w cb sb
      | none => False)
    | q + 1 => pm_get w q (fun e => match e with
      | .inl (0, N, .inl f) => vp_in j N ∧ go rs L (.int (f j.toNatClampNeg) :: t) w cb sb
      | _ => False)))
  | .baload => pm_i1 st (fun j t => pm_r1 t (fun r t => match r with
    | 0 => False
    | q + 1 => pm_get w q (fun e => match e with
      | .inl (2, N, .inl f) => vp_in j N ∧ go rs L (.int (f j.toNatClampNeg) :: t) w cb sb
      | _ => False)))
  | .laload => pm_i1 st (fun j t => pm_r1 t (fun r t => match r with
    | 0 => False
    | q + 1 => pm_get w q (fun e => match e with
      | .inl (1, N, .inr (.inl f)) => vp_in j N ∧ go rs L (.long (f j.toNatClampNeg) :: t) w cb sb
      | _ => False)))
  | .iastore => pm_i2 st (fun j x t => pm_r1 t (fun r t => match r with
    | 0 => False
    | q + 1 => pm_get w q (fun e => match e with
      | .inl (0, N, .inl f) => vp_in j N ∧ pm_set w q (.inl (0, N, .inl (upd f j.toNatClampNeg x))) (fun w => go rs L t w cb sb)
      | _ => False)))
  | .bastore => pm_i2 st (fun j x t => pm_r1 t (fun r t => match r with
    | 0 => False
    | q + 1 => pm_get w q (fun e => match e with
      | .inl (2, N, .inl f) => vp_in j N ∧ pm_set w q (.inl (2, N, .inl (upd f j.toNatClampNeg (x &&& 1)))) (fun w => go rs L t w cb sb)
      | _ => False)))
  | .lastore => pm_l1 st (fun x t => pm_i1 t (fun j t => pm_r1 t (fun r t => match r with
    | 0 => False
    | q + 1 => pm_get w q (fun e => match e with
      | .inl (1, N, .inr (.inl f)) => vp_in j N ∧ pm_set w q (.inl (1, N, .inr (.inl (vp_updL f j.toNatClampNeg x)))) (fun w => go rs L t w cb sb)
      | _ => False))))
  | .arraylength => pm_r1 st (fun r t => match r with
    | 0 => (match X with
      | some (N, _) => go rs L (.int (Int32.ofNat N) :: t) w cb sb
      | none => False)
    | _ + 1 => False)
  | .newarray ty => match al with
    | false => False
    | true => pm_i1 st (fun n t => (n = Int32.ofNat a ∧ 1 ≤ cb ∧ a ≤ sb) ∧ (match ty with
      | .int => pm_snoc 1 w (.inl (0, a, .inl (fun _ => 0))) (fun r w => go rs L (.ref r :: t) w (cb - 1) (sb - a))
      | .long => pm_snoc 1 w (.inl (1, a, .inr (.inl (fun _ => 0)))) (fun r w => go rs L (.ref r :: t) w (cb - 1) (sb - a))
      | .boolean => pm_snoc 1 w (.inl (2, a, .inl (fun _ => 0))) (fun r w => go rs L (.ref r :: t) w (cb - 1) (sb - a))
      | _ => False))
  | .new _ => match c with
    | 0 => (match al with
      | false => False
      | true => (1 ≤ cb ∧ b ≤ sb) ∧ pm_snoc 1 w (.inr (a, pm_df a)) (fun r w => go rs L (.ref r :: st) w (cb - 1) (sb - b)))
    | _ => (match al, pm_few st 8 with
      | false, true => (6 ≤ d ∧ 1 ≤ cb ∧ 6 ≤ sb) ∧ kx (pm_en a) w
      | _, _ => False)
  | .invokevirtual _ => pm_cal me d al kx go pc a b true c rs L st w cb sb
  | .invokestatic _ => pm_cal me d al kx go pc a b false c rs L st w cb sb
  | .invokespecial _ => match Nat.beq a 9999 with
    | true => pm_r1 st (fun _ t => match pm_few t 8 with
      | true => 1 ≤ d ∧ go rs L t w cb sb
      | false => False)
    | false => match Nat.beq a 9998 with
      | true => False
      | false => pm_pop b st [] (fun vs _ => match vs with
        | .ref _ :: _ => pm_cal me d al kx go pc a b false c rs L st w cb sb
        | _ => False)
  | .ireturn => match st with
    | [.int x] => (match (pm_pr me).2.2.2.1 with
      | some .int => k (some (.int x)) w
      | some .boolean => x &&& 1 = x ∧ k (some (.int x)) w
      | _ => False)
    | _ => False
  | .lreturn => match st with
    | [.long x] => (match (pm_pr me).2.2.2.1 with
      | some .long => k (some (.long x)) w
      | _ => False)
    | _ => False
  | .areturn => match st with
    | [.ref r] => (match (pm_pr me).2.2.2.1 with
      | some (.object _) => k (some (.ref r)) w
      | _ => False)
    | _ => False
  | .return_ => match st with
    | [] => (match (pm_pr me).2.2.2.1 with
      | none => k none w
      | _ => False)
    | _ => False
  | _ => False
/-- A RUN: n instructions at most, and to the next loop -/
def pm_w : Bool → Nat → List pm_R → pm_V → List Value → pm_D → Nat → Nat → Prop
  | _, 0, [], _, _, _, _, _ => False
  | _, 0, r :: _, L, st, w, cb, sb => pm_J me d al X k kx r.1 L st w cb sb
  | _, _ + 1, [], _, _, _, _, _ => False
  | f, n + 1, (pc, i, h, a, b, c) :: rs, L, st, w, cb, sb => match f, h with
    | false, true => pm_J me d al X k kx pc L st w cb sb
    | _, _ => pm_x me d al X k kx (pm_w false n) pc i a b c rs L st w cb sb
end
end
section
/-! what the machine's small words say -/
theorem pm_get_inv {α : Type} : ∀ (l : List α) (n : Nat) (k : α → Prop), pm_get l n k → ∃ a, l[n]? = some a ∧ k a
  | [], _, _, h => h.elim
  | a :: _, 0, _, h => ⟨a, rfl, h⟩
  | _ :: t, n + 1, k, h => by
    obtain ⟨a, h1, h2⟩ := pm_get_inv t n k h
    exact ⟨a, by simpa using h1, h2⟩
theorem pm_set_inv {α : Type} : ∀ (l : List α) (n : Nat) (x : α) (k : List α → Prop), pm_set l n x k → n < l.length ∧ k (l.set n x)
  | [], _, _, _, h => h.elim
  | _ :: _, 0, _, _, h => ⟨Nat.succ_pos _, h⟩
  | a :: t, n + 1, x, k, h => by
    obtain ⟨h1, h2⟩ := pm_set_inv t n x (fun u => k (a :: u)) h
    exact ⟨Nat.succ_lt_succ h1, h2⟩
theorem pm_i1_inv {st : List Value} {k : Int32 → List Value → Prop} (h : pm_i1 st k) : ∃ x t, st = .int x :: t ∧ k x t := by
  unfold pm_i1 at h
  split at h
  · exact ⟨_, _, rfl, h⟩
  · exact h.elim
theorem pm_i2_inv {st : List Value} {k : Int32 → Int32 → List Value → Prop} (h : pm_i2 st k) : ∃ x y t, st = .int y :: .int x :: t ∧ k x y t := by
  unfold pm_i2 at h
  split at h
  · exact ⟨_, _, _, rfl, h⟩
  · exact h.elim
theorem pm_l1_inv {st : List Value} {k : Int64 → List Value → Prop} (h : pm_l1 st k) : ∃ x t, st = .long x :: t ∧ k x t := by
  unfold pm_l1 at h
  split at h
  · exact ⟨_, _, rfl, h⟩
  · exact h.elim
theorem pm_l2_inv {st : List Value} {k : Int64 → Int64 → List Value → Prop} (h : pm_l2 st k) : ∃ x y t, st = .long y :: .long x :: t ∧ k x y t := by
  unfold pm_l2 at h
  split at h
  · exact ⟨_, _, _, rfl, h⟩
  · exact h.elim
theorem pm_li_inv {st : List Value} {k : Int64 → Int32 → List Value → Prop} (h : pm_li st k) : ∃ x y t, st = .int y :: .long x :: t ∧ k x y t := by
  unfold pm_li at h
  split at h
  · exact ⟨_, _, _, rfl, h⟩
  · exact h.elim
theorem pm_r1_inv {st : List Value} {k : Nat → List Value → Prop} (h : pm_r1 st k) : ∃ x t, st = .ref x :: t ∧ k x t := by
  unfold pm_r1 at h
  split at h
  · exact ⟨_, _, rfl, h⟩
  · exact h.elim
theorem pm_ldI_inv {L : pm_V} {i : Nat} {k : Int32 → Prop} (h : pm_ldI L i k) : ∃ x, L[i]? = some (some (.int x)) ∧ k x := by
  obtain ⟨o, h1, h2⟩ := pm_get_inv _ _ _ h
  split at h2
  · exact ⟨_, h1, h2⟩
  · exact h2.elim
theorem pm_ldJ_inv {L : pm_V} {i : Nat} {k : Int64 → Prop} (h : pm_ldJ L i k) : ∃ x, L[i]? = some (some (.long x)) ∧ k x := by
  obtain ⟨o, h1, h2⟩ := pm_get_inv _ _ _ h
  split at h2
  · exact ⟨_, h1, h2⟩
  · exact h2.elim
theorem pm_ldR_inv {L : pm_V} {i : Nat} {k : Nat → Prop} (h : pm_ldR L i k) : ∃ x, L[i]? = some (some (.ref x)) ∧ k x := by
  obtain ⟨o, h1, h2⟩ := pm_get_inv _ _ _ h
  split at h2
  · exact ⟨_, h1, h2⟩
  · exact h2.elim
theorem pm_pop_inv : ∀ (n : Nat) (st vs : List Value) (k : List Value → List Value → Prop), pm_pop n st vs k → ∃ us t, us.length = n ∧ st = us ++ t ∧ k (us.reverse ++ vs) t
  | 0, st, vs, k, h => ⟨[], st, rfl, rfl, h⟩
  | n + 1, v :: st, vs, k, h => by
    obtain ⟨us, t, h1, h2, h3⟩ := pm_pop_inv n st (v :: vs) k h
    exact ⟨v :: us, t, by simp [h1], by simp [h2], by simpa using h3⟩
  | _ + 1, [], _, _, h => h.elim
theorem pm_snoc_inv : ∀ (n : Nat) (w : pm_D) (e : va_E) (k : Nat → pm_D → Prop), pm_snoc n w e k → k (n + w.length) (w ++ [e])
  | n, [], e, k, h => h
  | n, x :: t, e, k, h => by
    have h1 := pm_snoc_inv (n + 1) t e (fun r u => k r (x :: u)) h
    have e1 : n + 1 + t.length = n + (x :: t).length := by simp; omega
    rw [e1] at h1
    exact h1
theorem pm_from_inv : ∀ (rs : List pm_R) (pc : Nat) (r : pm_R) (t : List pm_R), pm_from rs pc = r :: t → r.1 = pc ∧ ∃ pre, rs = pre ++ r :: t
  | [], _, _, _, h => by simp [pm_from] at h
  | q :: u, pc, r, t, h => by
    unfold pm_from at h
    split at h
    · rename_i hb
      cases h
      exact ⟨Nat.eq_of_beq_eq_true hb, [], rfl⟩
    · obtain ⟨h1, pre, h2⟩ := pm_from_inv u pc r t h
      exact ⟨h1, q :: pre, by rw [h2]; rfl⟩
theorem pm_few_inv : ∀ (st : List Value) (n : Nat), pm_few st n = true → (st.map fun v => v.category).sum ≤ n
  | [], n, _ => by simp
  | .long _ :: t, n + 2, h => by
    have h1 := pm_few_inv t n h
    rw [List.map_cons, List.sum_cons]
    show 2 + _ ≤ _
    omega
  | .double _ :: t, n + 2, h => by
    have h1 := pm_few_inv t n h
    rw [List.map_cons, List.sum_cons]
    show 2 + _ ≤ _
    omega
  | .int _ :: t, n + 1, h => by
    have h1 := pm_few_inv t n h
    rw [List.map_cons, List.sum_cons]
    show 1 + _ ≤ _
    omega
  | .ref _ :: t, n + 1, h => by
    have h1 := pm_few_inv t n h
    rw [List.map_cons, List.sum_cons]
    show 1 + _ ≤ _
    omega
  | .null :: t, n + 1, h => by
    have h1 := pm_few_inv t n h
    rw [List.map_cons, List.sum_cons]
    show 1 + _ ≤ _
    omega
  | .float _ :: _, _, h => by simp [pm_few] at h
  | .retAddr _ :: _, _, h => by simp [pm_few] at h
  | .long _ :: _, 0, h => by simp [pm_few] at h
  | .long _ :: _, 1, h => by simp [pm_few] at h
  | .double _ :: _, 0, h => by simp [pm_few] at h
  | .double _ :: _, 1, h => by simp [pm_few] at h
  | .int _ :: _, 0, h => by simp [pm_few] at h
  | .ref _ :: _, 0, h => by simp [pm_few] at h
  | .null :: _, 0, h => by simp [pm_few] at h
theorem pm_cat (ad : Nat → Nat) (v : Value) : (pm_v ad v).category = v.category := by cases v <;> rfl
theorem pm_cats (ad : Nat → Nat) (st : List Value) : ((st.map (pm_v ad)).map fun v => v.category) = st.map fun v => v.category := by
  rw [List.map_map]
  exact List.map_congr_left (fun v _ => pm_cat ad v)
/-! pictures -/
theorem pm_pf_get (dA : Nat → ClassId) (ad : Nat → Nat) : ∀ (w : pm_D) (i k : Nat), (pm_pf dA ad i w)[k]? = (w[k]?).map (fun e => (ad (i + k), pm_e dA ad e))
  | [], i, k => by simp [pm_pf]
  | e :: t, i, 0 => by simp [pm_pf]
  | e :: t, i, k + 1 => by
    have h := pm_pf_get dA ad t (i + 1) k
    simp only [pm_pf, List.getElem?_cons_succ, h]
    rw [show i + 1 + k = i + (k + 1) by omega]
theorem pm_pf_set (dA : Nat → ClassId) (ad : Nat → Nat) : ∀ (w : pm_D) (i k : Nat) (e : va_E), pm_pf dA ad i (w.set k e) = (pm_pf dA ad i w).set k (ad (i + k), pm_e dA ad e)
  | [], i, k, e => by simp [pm_pf]
  | x :: t, i, 0, e => by simp [pm_pf]
  | x :: t, i, k + 1, e => by
    have h := pm_pf_set dA ad t (i + 1) k e
    simp only [pm_pf, List.set_cons_succ, h]
    rw [show i + 1 + k = i + (k + 1) by omega]
theorem pm_pf_snoc (dA : Nat → ClassId) (ad : Nat → Nat) : ∀ (w : pm_D) (i : Nat) (e : va_E), pm_pf dA ad i (w ++ [e]) = pm_pf dA ad i w ++ [(ad (i + w.length), pm_e dA ad e)]
  | [], i, e => by simp [pm_pf]
  | x :: t, i, e => by
    have h := pm_pf_snoc dA ad t (i + 1) e
    simp only [pm_pf, List.cons_append, h]
    rw [show i + 1 + t.length = i + (x :: t).length by simp; omega]
theorem pm_pic_get {dA : Nat → ClassId} {ad : Nat → Nat} {w : pm_D} {k : Nat} {e : va_E} (h : w[k]? = some e) : (pm_pic dA ad w)[k]? = some (ad (k + 1), pm_e dA ad e) := by
  show (pm_pf dA ad 1 w)[k]? = _
  rw [pm_pf_get, h, Nat.add_comm 1 k]
  rfl
theorem pm_pic_set {dA : Nat → ClassId} {ad : Nat → Nat} {w : pm_D} {k : Nat} {e : va_E} : pm_pic dA ad (w.set k e) = (pm_pic dA ad w).set k (ad (k + 1), pm_e dA ad e) := by
  show pm_pf dA ad 1 (w.set k e) = (pm_pf dA ad 1 w).set k _
  rw [pm_pf_set, Nat.add_comm 1 k]
/-! locals -/
theorem pm_as_mem (ad : Nat → Nat) : ∀ (L : pm_V) (i j : Nat) (u : Value), (j, u) ∈ pm_as ad i L ↔ ∃ n v, j = i + n ∧ L[n]? = some (some v) ∧ u = pm_v ad v
  | [], i, j, u => by simp [pm_as]
  | none :: t, i, j, u => by
    simp only [pm_as, pm_as_mem ad t (i + 1) j u]
    constructor
    · rintro ⟨n, v, h1, h2, h3⟩
      exact ⟨n + 1, v, by omega, by simpa using h2, h3⟩
    · rintro ⟨n, v, h1, h2, h3⟩
      cases n with
      | zero => simp at h2
      | succ n => exact ⟨n, v, by omega, by simpa using h2, h3⟩
  | some x :: t, i, j, u => by
    simp only [pm_as, List.mem_cons, Prod.mk.injEq, pm_as_mem ad t (i + 1) j u]
    constructor
    · rintro (⟨h1, h2⟩ | ⟨n, v, h1, h2, h3⟩)
      · exact ⟨0, x, by omega, rfl, h2⟩
      · exact ⟨n + 1, v, by omega, by simpa using h2, h3⟩
    · rintro ⟨n, v, h1, h2, h3⟩
      cases n with
      | zero =>
        simp only [List.getElem?_cons_zero, Option.some.injEq] at h2
        exact Or.inl ⟨by omega, by rw [h3, h2]⟩
      | succ n => exact Or.inr ⟨n, v, by omega, by simpa using h2, h3⟩
theorem pm_lget {ad : Nat → Nat} {ls : Array Slot} {n : Nat} {L : pm_V} {i : Nat} {v : Value} (h : lv_has ls n (pm_as ad 0 L)) (hi : L[i]? = some (some v)) : ls[i]? = some (.val (pm_v ad v)) :=
  h.2.2 (i, pm_v ad v) ((pm_as_mem ad L 0 i _).mpr ⟨i, v, by omega, hi, rfl⟩)
theorem pm_lidx {ad : Nat → Nat} {L : pm_V} {i : Nat} {v : Value} (hi : L[i]? = some (some v)) : ∃ k : Nat, (pm_as ad 0 L)[k]? = some (i, pm_v ad v) :=
  List.getElem?_of_mem ((pm_as_mem ad L 0 i _).mpr ⟨i, v, by omega, hi, rfl⟩)
theorem pm_cl_inv {n : Nat} {a : Option Value} {k : Option Value → Prop} (h : pm_cl n a k) : ∃ b, k b ∧ ∀ u, b = some u → a = some u ∧ ¬ (n = 0 ∧ u.category = 2) := by
  unfold pm_cl at h
  split at h
  · exact ⟨none, h, fun u hu => by cases hu⟩
  · exact ⟨none, h, fun u hu => by cases hu⟩
  · rename_i h1 h2
    refine ⟨a, h, fun u hu => ⟨hu, fun ⟨hn, hc⟩ => ?_⟩⟩
    subst hn
    cases u with
    | long x => exact h1 x rfl hu
    | double x => exact h2 x rfl hu
    | _ => simp [Value.category] at hc
theorem pm_st1_inv : ∀ (L : pm_V) (i : Nat) (o : Option Value) (k : pm_V → Prop), pm_st1 L i o k → ∃ M : pm_V, k M ∧ i < L.length ∧ M.length = L.length ∧ ∀ j u, M[j]? = some (some u) → (j = i ∧ o = some u) ∨ (j ≠ i ∧ L[j]? = some (some u) ∧ ¬ (j + 1 = i ∧ u.category = 2))
  | [], _, _, _, h => h.elim
  | a :: t, 0, o, k, h => by
    refine ⟨o :: t, h, Nat.succ_pos _, rfl, fun j u hj => ?_⟩
    cases j with
    | zero => simp at hj; exact Or.inl ⟨rfl, hj⟩
    | succ j => exact Or.inr ⟨by omega, by simpa using hj, by omega⟩
  | a :: t, n + 1, o, k, h => by
    obtain ⟨M, h1, h2, h3, h4⟩ := pm_st1_inv t n o _ h
    obtain ⟨b, h5, h6⟩ := pm_cl_inv h1
    refine ⟨b :: M, h5, Nat.succ_lt_succ h2, by simp [h3], fun j u hj => ?_⟩
    cases j with
    | zero =>
      simp at hj
      obtain ⟨g1, g2⟩ := h6 u hj
      exact Or.inr ⟨by omega, by simp [g1], fun ⟨z1, z2⟩ => g2 ⟨by omega, z2⟩⟩
    | succ j =>
      rcases h4 j u (by simpa using hj) with ⟨e1, e2⟩ | ⟨e1, e2, e3⟩
      · exact Or.inl ⟨by omega, e2⟩
      · exact Or.inr ⟨by omega, by simpa using e2, fun ⟨z1, z2⟩ => e3 ⟨by omega, z2⟩⟩
theorem pm_st2_inv : ∀ (L : pm_V) (i : Nat) (v : Value) (k : pm_V → Prop), pm_st2 L i v k → ∃ M : pm_V, k M ∧ i + 1 < L.length ∧ M.length = L.length ∧ ∀ j u, M[j]? = some (some u) → (j = i ∧ v = u) ∨ (j ≠ i ∧ j ≠ i + 1 ∧ L[j]? = some (some u) ∧ ¬ (j + 1 = i ∧ u.category = 2))
  | [], _, _, _, h => h.elim
  | [_], 0, _, _, h => h.elim
  | [_], _ + 1, _, _, h => h.elim
  | a :: b :: t, 0, v, k, h => by
    refine ⟨some v :: none :: t, h, by simp, rfl, fun j u hj => ?_⟩
    match j, hj with
    | 0, hj => simp at hj; exact Or.inl ⟨rfl, hj⟩
    | 1, hj => simp at hj
    | j + 2, hj => exact Or.inr ⟨by omega, by omega, by simpa using hj, by omega⟩
  | a :: b :: t, n + 1, v, k, h => by
    obtain ⟨M, h1, h2, h3, h4⟩ := pm_st2_inv (b :: t) n v _ h
    obtain ⟨b1, h5, h6⟩ := pm_cl_inv h1
    refine ⟨b1 :: M, h5, Nat.succ_lt_succ h2, by simp [h3], fun j u hj => ?_⟩
    cases j with
    | zero =>
      simp at hj
      obtain ⟨g1, g2⟩ := h6 u hj
      exact Or.inr ⟨by omega, by omega, by simp [g1], fun ⟨z1, z2⟩ => g2 ⟨by omega, z2⟩⟩
    | succ j =>
      rcases h4 j u (by simpa using hj) with ⟨e1, e2⟩ | ⟨e1, e2, e3, e4⟩
      · exact Or.inl ⟨by omega, e2⟩
      · exact Or.inr ⟨by omega, by omega, by simpa using e3, fun ⟨z1, z2⟩ => e4 ⟨by omega, z2⟩⟩
/-- behind a store: of one slot (M: the list with o at i) -/
theorem pm_lst1 {ad : Nat → Nat} {ls : Array Slot} {nL : Nat} {L M : pm_V} {i : Nat} {v : Value} {o : Option Value} (hM : M.length = nL) (ho : ∀ u, o = some u → v = pm_v ad u)
    (h4 : ∀ j u, M[j]? = some (some u) → (j = i ∧ o = some u) ∨ (j ≠ i ∧ L[j]? = some (some u) ∧ ¬ (j + 1 = i ∧ u.category = 2)))
    (h : lv_has ls nL ((i, v) :: (pm_as ad 0 L).filter (fun q => !(q.1 == i) && !(q.1 + 1 == i && q.2.category == 2)))) : lv_has ls M.length (pm_as ad 0 M) := by
  refine ⟨by rw [hM]; exact h.1, h.2.1, fun q hq => h.2.2 q ?_⟩
  obtain ⟨j, u⟩ := q
  obtain ⟨n, x, e1, e2, e3⟩ := (pm_as_mem ad M 0 j u).mp hq
  have e4 : j = n := by omega
  subst e4
  rcases h4 j x e2 with ⟨g1, g2⟩ | ⟨g1, g2, g3⟩
  · rw [e3, g1, ho x g2]
    exact List.mem_cons_self
  · refine List.mem_cons_of_mem _ (List.mem_filter.mpr ⟨(pm_as_mem ad L 0 j u).mpr ⟨j, x, by omega, g2, e3⟩, ?_⟩)
    have c1 : (pm_v ad x).category = x.category := pm_cat ad x
    simp only [e3, c1, Bool.and_eq_true, Bool.not_eq_true', beq_eq_false_iff_ne, Bool.and_eq_false_iff, ne_eq]
    refine ⟨g1, ?_⟩
    by_cases z : j + 1 = i
    · exact Or.inr (fun z2 => g3 ⟨z, z2⟩)
    · exact Or.inl z
theorem pm_lst2 {ad : Nat → Nat} {ls : Array Slot} {nL : Nat} {L M : pm_V} {i : Nat} {v : Value} (hM : M.length = nL) (hv : pm_v ad v = v)
    (h4 : ∀ j u, M[j]? = some (some u) → (j = i ∧ v = u) ∨ (j ≠ i ∧ j ≠ i + 1 ∧ L[j]? = some (some u) ∧ ¬ (j + 1 = i ∧ u.category = 2)))
    (h : lv_has ls nL ((i, v) :: (pm_as ad 0 L).filter (fun q => !(q.1 == i) && (!(q.1 == i + 1) && !(q.1 + 1 == i && q.2.category == 2))))) : lv_has ls M.length (pm_as ad 0 M) := by
  refine ⟨by rw [hM]; exact h.1, h.2.1, fun q hq => h.2.2 q ?_⟩
  obtain ⟨j, u⟩ := q
  obtain ⟨n, x, e1, e2, e3⟩ := (pm_as_mem ad M 0 j u).mp hq
  have e4 : j = n := by omega
  subst e4
  rcases h4 j x e2 with ⟨g1, g2⟩ | ⟨g1, g1', g2, g3⟩
  · rw [e3, g1, ← g2, hv]
    exact List.mem_cons_self
  · refine List.mem_cons_of_mem _ (List.mem_filter.mpr ⟨(pm_as_mem ad L 0 j u).mpr ⟨j, x, by omega, g2, e3⟩, ?_⟩)
    have c1 : (pm_v ad x).category = x.category := pm_cat ad x
    simp only [e3, c1, Bool.and_eq_true, Bool.not_eq_true', beq_eq_false_iff_ne, Bool.and_eq_false_iff, ne_eq]
    refine ⟨g1, g1', ?_⟩
    by_cases z : j + 1 = i
    · exact Or.inr (fun z2 => g3 ⟨z, z2⟩)
    · exact Or.inl z
end
section
/-! what a row of the tables must be, decided by program -/
def pm_len : Instr → Nat := fun i => match i with
  | .aload _ => 2
  | .iload _ => 2
  | .lload _ => 2
  | .astore _ => 2
  | .istore _ => 2
  | .lstore _ => 2
  | .iinc _ _ => 3
  | .bipush _ => 2
  | .sipush _ => 3
  | .ldc _ => 2
  | .ldc2_w _ => 3
  | .if_icmp _ _ => 3
  | .ifCond _ _ => 3
  | .goto _ => 3
  | .getfield _ => 3
  | .putfield _ => 3
  | .newarray _ => 2
  | .new _ => 3
  | .invokevirtual _ => 3
  | .invokestatic _ => 3
  | .invokespecial _ => 3
  | _ => 1
def pm_end : Instr → Bool := fun i => match i with
  | .goto _ => true
  | .tableswitch _ _ _ _ => true
  | .ireturn => true
  | .lreturn => true
  | .areturn => true
  | .return_ => true
  | .athrow => true
  | _ => false
def pm_c (a c : Nat) : Int32 := match c with
  | 0 => Int32.ofNat a
  | _ => -(Int32.ofNat a)
def pm_mh (y : MethodName) : Bool := decide (y.cls ≠ "java/lang/invoke/MethodHandle") && decide (y.cls ≠ "java/lang/invoke/VarHandle")
/-- what a call needs of its callee -/
def pm_cy (M : pm_M) (n : Nat) : Bool := decide (pm_cc M ∈ pm_tb) && decide (Cond.initialized M.1.cls ∈ pm_tb) && pm_mh M.1 && decide ((parseMethodDescriptor M.1.desc).map (fun d => d.parameters.length) = some n) && decide (M.2.2.1 ≤ 15)
def pm_nms : List String := ["java/lang/RuntimeException", "java/lang/Exception"]
def pm_dc {ε : Type} (x : Except ε (Instr × Nat)) (i : Instr) : Bool := match x with
  | .ok q => decide (q.1 = i)
  | .error _ => false
def pm_swk (pc : Nat) : Int → List Int → List (Int32 × Nat) → Bool
  | _, [], [] => true
  | lo, o :: os, (v, t) :: cs => decide (v.toInt = lo) && decide ((pc : Int) + o = (t : Int)) && pm_swk pc (lo + 1) os cs
  | _, _, _ => false
def pm_ck (M : pm_M) (r : pm_R) (nx : Nat) : Bool :=
  (match r.2.1 with
  | .tableswitch df lo hi offs => pm_dc (decode M.2.1 r.1) (.tableswitch df lo hi offs) && decide (hi + 1 = lo + (offs.size : Int)) && pm_swk r.1 lo offs.toList (pm_sw r.2.2.2.1).1 && decide ((r.1 : Int) + df = ((pm_sw r.2.2.2.1).2 : Int))
  | i => decide (decode M.2.1 r.1 = .ok (i, pm_len i))) && (pm_end r.2.1 || Nat.beq nx (r.1 + pm_len r.2.1)) &&
  (match r.2.1 with
  | .if_icmp _ o => decide ((r.1 : Int) + o = (r.2.2.2.1 : Int))
  | .ifCond _ o => decide ((r.1 : Int) + o = (r.2.2.2.1 : Int))
  | .goto o => decide ((r.1 : Int) + o = (r.2.2.2.1 : Int))
  | .iconst v => decide (Int32.ofInt v = pm_c r.2.2.2.1 r.2.2.2.2.2)
  | .bipush v => decide ((Int8.ofInt v).toInt32 = pm_c r.2.2.2.1 r.2.2.2.2.2)
  | .sipush v => decide ((Int16.ofInt v).toInt32 = pm_c r.2.2.2.1 r.2.2.2.2.2)
  | .iinc _ v => decide (Int32.ofInt v = pm_c r.2.2.2.1 r.2.2.2.2.2)
  | .ldc ix => Nat.beq r.2.2.2.2.2 9 || decide (Cond.constant M.1.cls ix (pm_c r.2.2.2.1 r.2.2.2.2.2) ∈ pm_tb)
  | .ldc2_w ix => decide (Cond.constantLong M.1.cls ix (Int64.ofNat r.2.2.2.1) ∈ pm_tb)
  | .getfield ix => (match vwCl[r.2.2.2.1]? with
    | some (C, T, N) => decide (r.2.2.2.2.1 < N) && decide ((T r.2.2.2.2.1).1 = C) && (match r.2.2.2.2.2 with
      | 0 => decide (Cond.fieldLink M.1.cls ix C (T r.2.2.2.2.1).2.1 (T r.2.2.2.2.1).2.2.1 ∈ pm_tb)
      | _ => decide (Cond.fieldLinkNest M.1.cls ix C (T r.2.2.2.2.1).2.1 (T r.2.2.2.2.1).2.2.1 "SelectiveLink" ∈ pm_nw))
    | none => false)
  | .putfield ix => (match vwCl[r.2.2.2.1]? with
    | some (C, T, N) => decide (r.2.2.2.2.1 < N) && decide ((T r.2.2.2.2.1).1 = C) && decide (Cond.fieldLink M.1.cls ix C (T r.2.2.2.2.1).2.1 (T r.2.2.2.2.1).2.2.1 ∈ pm_tb)
      && (!(T r.2.2.2.2.1).2.2.2 || (decide (M.1.name = "<init>") && decide (C = M.1.cls)))
      && (match r.2.2.2.2.2, parseFieldDescriptor (T r.2.2.2.2.1).2.2.1 with
        | 0, some .int => true
        | 1, some .long => true
        | 2, some (.object _) => true
        | 2, some (.array _) => true
        | _, _ => false)
    | none => false)
  | .newarray ty => decide (Cond.arrayClass (newarray.typeOf ty) ∈ pm_tb) && decide (r.2.2.2.1 ≤ 100000)
  | .new ix => (match r.2.2.2.2.2 with
    | 0 => (match vwCl[r.2.2.2.1]? with
      | some (C, T, N) => Nat.beq N r.2.2.2.2.1 && decide (Cond.classLink M.1.cls ix C ∈ pm_tb) && decide (Cond.instantiable C N ∈ pm_tb) && decide (Cond.initialized C ∈ pm_tb)
      | none => false)
    | ic => decide (decode M.2.1 (r.1 + 3) = .ok (.dup, 1)) && decide (decode M.2.1 (r.1 + 4) = .ok (.ldc r.2.2.2.2.1, 2)) && decide (decode M.2.1 (r.1 + 6) = .ok (.invokespecial ic, 3)) && decide (decode M.2.1 (r.1 + 9) = .ok (.athrow, 1))
      && decide (Cond.classLink M.1.cls ix (pm_en r.2.2.2.1) ∈ pm_tb) && decide (Cond.initialized (pm_en r.2.2.2.1) ∈ pm_tb) && (vx_atS M.1.cls ic (pm_en r.2.2.2.1) pm_nms).all (fun w => (decide (w ∈ pm_tb) || decide (w ∈ pm_nw)) && vx_ot w)
      && vx_ot (Cond.classLink M.1.cls ix (pm_en r.2.2.2.1)) && vx_ot (Cond.initialized (pm_en r.2.2.2.1))
      && (pm_ss.any (fun q => decide (q.1 = M.1.cls) && Nat.beq q.2.1 r.2.2.2.2.1)) && M.2.2.2.2.1.isEmpty)
  | .invokevirtual ix => (match r.2.2.2.2.1 with
    | 0 => false
    | n + 1 => pm_cy (pm_pr r.2.2.2.1) n && decide (Cond.methodLink M.1.cls ix (pm_pr r.2.2.2.1).1 ∈ pm_tb) && decide (Cond.instanceMethod (pm_pr r.2.2.2.1).1 ∈ pm_tb) && decide (Cond.selects (pm_pr r.2.2.2.1).1.cls (pm_pr r.2.2.2.1).1 (pm_pr r.2.2.2.1).1 ∈ pm_tb)
      && (pm_pr r.2.2.2.1).2.2.2.2.1.isEmpty && (match vwCl[r.2.2.2.2.2]? with
        | some (C, _, _) => decide (C = (pm_pr r.2.2.2.1).1.cls)
        | none => false))
  | .invokestatic ix => pm_cy (pm_pr r.2.2.2.1) r.2.2.2.2.1 && decide (Cond.methodLink M.1.cls ix (pm_pr r.2.2.2.1).1 ∈ pm_tb) && decide (Cond.static (pm_pr r.2.2.2.1).1 ∈ pm_tb)
  | .invokespecial ix => (match Nat.beq r.2.2.2.1 9999, Nat.beq r.2.2.2.1 9998 with
    | true, _ => decide (Cond.methodLink M.1.cls ix Lib.objectInit ∈ pm_tb) && decide (Cond.instanceMethod Lib.objectInit ∈ pm_tb) && decide (Cond.code Lib.objectInit ⟨#[0xb1]⟩ 1 none ∈ pm_tb)
    | false, true => true
    | false, false => (match r.2.2.2.2.1 with
      | 0 => false
      | n + 1 => pm_cy (pm_pr r.2.2.2.1) n && decide (Cond.instanceMethod (pm_pr r.2.2.2.1).1 ∈ pm_tb) && decide ((pm_pr r.2.2.2.1).1.name = "<init>") && (pm_pr r.2.2.2.1).2.2.2.2.1.isEmpty && decide ((pm_pr r.2.2.2.1).2.2.2.1 = none)
        && (match r.2.2.2.2.2 with
          | 0 => decide (Cond.methodLink M.1.cls ix (pm_pr r.2.2.2.1).1 ∈ pm_tb)
          | _ => decide (Cond.methodLinkNest M.1.cls ix (pm_pr r.2.2.2.1).1 "SelectiveLink" ∈ pm_nw))))
  | _ => true)
def pm_ckn (M : pm_M) (nx : Nat) : List pm_R → Bool
  | [] => true
  | [r] => pm_ck M r nx
  | r :: q :: t => pm_ck M r q.1 && pm_ckn M nx (q :: t)
def pm_cks (M : pm_M) (l : List pm_R) : Bool := pm_ckn M 0 l
theorem pm_ckn_app {M : pm_M} {nx : Nat} {b : pm_R} {v : List pm_R} (hb : pm_ckn M nx (b :: v) = true) : ∀ (u : List pm_R), pm_ckn M b.1 u = true → pm_ckn M nx (u ++ b :: v) = true
  | [], _ => hb
  | [r], h => by
    show (pm_ck M r b.1 && pm_ckn M nx (b :: v)) = true
    rw [Bool.and_eq_true]
    exact ⟨h, hb⟩
  | r :: q :: t, h => by
    have h2 : (pm_ck M r q.1 && pm_ckn M b.1 (q :: t)) = true := h
    rw [Bool.and_eq_true] at h2
    show (pm_ck M r q.1 && pm_ckn M nx (q :: (t ++ b :: v))) = true
    rw [Bool.and_eq_true]
    exact ⟨h2.1, pm_ckn_app hb (q :: t) h2.2⟩
theorem pm_cks_inv {M : pm_M} {n0 : Nat} : ∀ (pre : List pm_R) (r : pm_R) (t : List pm_R), pm_ckn M n0 (pre ++ r :: t) = true → ∃ nx, pm_ck M r nx = true ∧ ∀ q u, t = q :: u → q.1 = nx
  | [], r, [], h => ⟨n0, h, fun q u hq => by cases hq⟩
  | [], r, q :: u, h => by
    have h2 : (pm_ck M r q.1 && pm_ckn M n0 (q :: u)) = true := h
    rw [Bool.and_eq_true] at h2
    exact ⟨q.1, h2.1, fun q' u' hq => by cases hq; rfl⟩
  | [x], r, t, h => by
    have h2 : (pm_ck M x r.1 && pm_ckn M n0 (r :: t)) = true := h
    rw [Bool.and_eq_true] at h2
    exact pm_cks_inv [] r t h2.2
  | x :: y :: pre, r, t, h => by
    have h2 : (pm_ck M x y.1 && pm_ckn M n0 (y :: (pre ++ r :: t))) = true := h
    rw [Bool.and_eq_true] at h2
    exact pm_cks_inv (y :: pre) r t h2.2
end
section
/-! SOUNDNESS, an instruction a lemma: what pm_x says at an instruction gives pm_J there -/
section PMS
variable {me d : Nat} {al : Bool} {X : Option (Nat × (Nat → Int32))} {k : pm_K} {kx : pm_X} {go : List pm_R → pm_V → List Value → pm_D → Nat → Nat → Prop} {pc a b c cb sb : Nat} {rs : List pm_R} {L : pm_V} {st : List Value} {w : pm_D}
/-- an instruction that turns the stack alone -/
theorem pm_stk {pc2 : Nat} {st2 : List Value} (h : pm_J me d al X k kx pc2 L st2 w cb sb)
    (hw : ∀ (p : Program) (l : Launch) (e : Env) (R : Room) (s : State) (m : MethodId) (args : Array Value) (below : List Frame) (meth : Method) (c : Code) (H : Heap) (locs : List Loc) (cells slots : Nat) (Q : State → Prop) (ls : Array Slot) (ad : Nat → Nat), p.tables.exec = Jvm.exec → c.code = (pm_pr me).2.1 → s.vm.findClass (pm_pr me).1.cls = some m.cls → (∀ w ∈ pm_tb, w.before args s = true) → lv_has ls L.length (pm_as ad 0 L) →
      W p l e R s m args below meth c H locs cells slots Q (F0 m pc2 ls (st2.map (pm_v ad))) → W p l e R s m args below meth c H locs cells slots Q (F0 m pc ls (st.map (pm_v ad)))) : pm_J me d al X k kx pc L st w cb sb := by
  intro p l e R s m args below meth c H locs cells slots dA D ad sa A ls F hP hD hS hz hl hn hc hs
  exact hw p l e R s m args below meth c H locs cells slots _ ls ad F.1 F.2.2.1 F.2.2.2.2.2.2.1 F.2.2.2.2.2.2.2.2.1 hl (h p l e R s m args below meth c H locs cells slots dA D ad sa A ls F hP hD hS hz hl hn hc hs)
theorem pm_cn_inv {f : Int32 → Prop} (h : pm_cn a c f) : f (pm_c a c) := by cases c <;> exact h
theorem px_aload_n {j : Fin 4} (hd : decode (pm_pr me).2.1 pc = .ok (.aload_n j, 1)) (hN : ∀ L st w cb sb, go rs L st w cb sb → pm_J me d al X k kx (pc + 1) L st w cb sb) (h : pm_x me d al X k kx go pc (.aload_n j) a b c rs L st w cb sb) : pm_J me d al X k kx pc L st w cb sb := by
  obtain ⟨x, h1, h⟩ := pm_ldR_inv h
  exact pm_stk (hN _ _ _ _ _ h) (fun _ _ _ _ _ _ _ _ _ _ _ _ _ _ _ _ ad hx hb hown hts hl q => lv_aload_n hx hb hd rfl (pm_lget hl h1) q)
theorem px_aload {j : Nat} (hd : decode (pm_pr me).2.1 pc = .ok (.aload j, 2)) (hN : ∀ L st w cb sb, go rs L st w cb sb → pm_J me d al X k kx (pc + 2) L st w cb sb) (h : pm_x me d al X k kx go pc (.aload j) a b c rs L st w cb sb) : pm_J me d al X k kx pc L st w cb sb := by
  obtain ⟨x, h1, h⟩ := pm_ldR_inv h
  exact pm_stk (hN _ _ _ _ _ h) (fun _ _ _ _ _ _ _ _ _ _ _ _ _ _ _ _ ad hx hb hown hts hl q => lv_aload hx hb hd (pm_lget hl h1) q)
theorem px_iload_n {j : Fin 4} (hd : decode (pm_pr me).2.1 pc = .ok (.iload_n j, 1)) (hN : ∀ L st w cb sb, go rs L st w cb sb → pm_J me d al X k kx (pc + 1) L st w cb sb) (h : pm_x me d al X k kx go pc (.iload_n j) a b c rs L st w cb sb) : pm_J me d al X k kx pc L st w cb sb := by
  obtain ⟨x, h1, h⟩ := pm_ldI_inv h
  exact pm_stk (hN _ _ _ _ _ h) (fun _ _ _ _ _ _ _ _ _ _ _ _ _ _ _ _ ad hx hb hown hts hl q => lv_iload_n hx hb hd rfl (pm_lget hl h1) q)
theorem px_iload {j : Nat} (hd : decode (pm_pr me).2.1 pc = .ok (.iload j, 2)) (hN : ∀ L st w cb sb, go rs L st w cb sb → pm_J me d al X k kx (pc + 2) L st w cb sb) (h : pm_x me d al X k kx go pc (.iload j) a b c rs L st w cb sb) : pm_J me d al X k kx pc L st w cb sb := by
  obtain ⟨x, h1, h⟩ := pm_ldI_inv h
  exact pm_stk (hN _ _ _ _ _ h) (fun _ _ _ _ _ _ _ _ _ _ _ _ _ _ _ _ ad hx hb hown hts hl q => lv_iload hx hb hd (pm_lget hl h1) q)
theorem px_lload_n {j : Fin 4} (hd : decode (pm_pr me).2.1 pc = .ok (.lload_n j, 1)) (hN : ∀ L st w cb sb, go rs L st w cb sb → pm_J me d al X k kx (pc + 1) L st w cb sb) (h : pm_x me d al X k kx go pc (.lload_n j) a b c rs L st w cb sb) : pm_J me d al X k kx pc L st w cb sb := by
  obtain ⟨x, h1, h⟩ := pm_ldJ_inv h
  exact pm_stk (hN _ _ _ _ _ h) (fun _ _ _ _ _ _ _ _ _ _ _ _ _ _ _ _ ad hx hb hown hts hl q => lv_lload_n hx hb hd rfl (pm_lget hl h1) q)
theorem px_lload {j : Nat} (hd : decode (pm_pr me).2.1 pc = .ok (.lload j, 2)) (hN : ∀ L st w cb sb, go rs L st w cb sb → pm_J me d al X k kx (pc + 2) L st w cb sb) (h : pm_x me d al X k kx go pc (.lload j) a b c rs L st w cb sb) : pm_J me d al X k kx pc L st w cb sb := by
  obtain ⟨x, h1, h⟩ := pm_ldJ_inv h
  exact pm_stk (hN _ _ _ _ _ h) (fun _ _ _ _ _ _ _ _ _ _ _ _ _ _ _ _ ad hx hb hown hts hl q => lv_lload hx hb hd (pm_lget hl h1) q)
theorem px_iconst {v : Int} (hd : decode (pm_pr me).2.1 pc = .ok (.iconst v, 1)) (hN : ∀ L st w cb sb, go rs L st w cb sb → pm_J me d al X k kx (pc + 1) L st w cb sb) (hv : Int32.ofInt v = pm_c a c) (h : pm_x me d al X k kx go pc (.iconst v) a b c rs L st w cb sb) : pm_J me d al X k kx pc L st w cb sb := by
  exact pm_stk (hN _ _ _ _ _ (pm_cn_inv h)) (fun _ _ _ _ _ _ _ _ _ _ _ _ _ _ _ _ ad hx hb hown hts hl q => lv_iconst hx hb hd hv q)
theorem px_bipush {v : Int} (hd : decode (pm_pr me).2.1 pc = .ok (.bipush v, 2)) (hN : ∀ L st w cb sb, go rs L st w cb sb → pm_J me d al X k kx (pc + 2) L st w cb sb) (hv : (Int8.ofInt v).toInt32 = pm_c a c) (h : pm_x me d al X k kx go pc (.bipush v) a b c rs L st w cb sb) : pm_J me d al X k kx pc L st w cb sb := by
  exact pm_stk (hN _ _ _ _ _ (pm_cn_inv h)) (fun _ _ _ _ _ _ _ _ _ _ _ _ _ _ _ _ ad hx hb hown hts hl q => lv_bipush hx hb hd hv q)
theorem px_sipush {v : Int} (hd : decode (pm_pr me).2.1 pc = .ok (.sipush v, 3)) (hN : ∀ L st w cb sb, go rs L st w cb sb → pm_J me d al X k kx (pc + 3) L st w cb sb) (hv : (Int16.ofInt v).toInt32 = pm_c a c) (h : pm_x me d al X k kx go pc (.sipush v) a b c rs L st w cb sb) : pm_J me d al X k kx pc L st w cb sb := by
  exact pm_stk (hN _ _ _ _ _ (pm_cn_inv h)) (fun _ _ _ _ _ _ _ _ _ _ _ _ _ _ _ _ ad hx hb hown hts hl q => lv_sipush hx hb hd hv q)
theorem px_ldc {v : Nat} (hd : decode (pm_pr me).2.1 pc = .ok (.ldc v, 2)) (hN : ∀ L st w cb sb, go rs L st w cb sb → pm_J me d al X k kx (pc + 2) L st w cb sb) (hv : Cond.constant (pm_pr me).1.cls v (pm_c a c) ∈ pm_tb) (h9 : Nat.beq c 9 = false) (h : pm_x me d al X k kx go pc (.ldc v) a b c rs L st w cb sb) : pm_J me d al X k kx pc L st w cb sb := by
  dsimp only [pm_x] at h
  rw [h9] at h
  exact pm_stk (hN _ _ _ _ _ (pm_cn_inv h)) (fun _ _ _ _ _ _ _ _ _ _ _ _ _ _ _ _ ad hx hb hown hts hl q => lv_ldc hx hb hown (hts _ hv) hd q)
theorem px_ldc2_w {v : Nat} (hd : decode (pm_pr me).2.1 pc = .ok (.ldc2_w v, 3)) (hN : ∀ L st w cb sb, go rs L st w cb sb → pm_J me d al X k kx (pc + 3) L st w cb sb) (hv : Cond.constantLong (pm_pr me).1.cls v (Int64.ofNat a) ∈ pm_tb) (h : pm_x me d al X k kx go pc (.ldc2_w v) a b c rs L st w cb sb) : pm_J me d al X k kx pc L st w cb sb := by
  exact pm_stk (hN _ _ _ _ _ h) (fun _ _ _ _ _ _ _ _ _ _ _ _ _ _ _ _ ad hx hb hown hts hl q => lv_ldc2 hx hb hown (hts _ hv) hd q)
theorem px_lconst {j : Fin 2} (hd : decode (pm_pr me).2.1 pc = .ok (.lconst j, 1)) (hN : ∀ L st w cb sb, go rs L st w cb sb → pm_J me d al X k kx (pc + 1) L st w cb sb) (h : pm_x me d al X k kx go pc (.lconst j) a b c rs L st w cb sb) : pm_J me d al X k kx pc L st w cb sb := by
  exact pm_stk (hN _ _ _ _ _ h) (fun _ _ _ _ _ _ _ _ _ _ _ _ _ _ _ _ ad hx hb hown hts hl q => lv_lconst hx hb hd rfl q)
theorem px_iadd (hd : decode (pm_pr me).2.1 pc = .ok (.iadd, 1)) (hN : ∀ L st w cb sb, go rs L st w cb sb → pm_J me d al X k kx (pc + 1) L st w cb sb) (h : pm_x me d al X k kx go pc (.iadd) a b c rs L st w cb sb) : pm_J me d al X k kx pc L st w cb sb := by
  obtain ⟨x, y, t, rfl, h⟩ := pm_i2_inv h
  exact pm_stk (hN _ _ _ _ _ h) (fun _ _ _ _ _ _ _ _ _ _ _ _ _ _ _ _ ad hx hb hown hts hl q => lv_iadd hx hb hd q)
theorem px_isub (hd : decode (pm_pr me).2.1 pc = .ok (.isub, 1)) (hN : ∀ L st w cb sb, go rs L st w cb sb → pm_J me d al X k kx (pc + 1) L st w cb sb) (h : pm_x me d al X k kx go pc (.isub) a b c rs L st w cb sb) : pm_J me d al X k kx pc L st w cb sb := by
  obtain ⟨x, y, t, rfl, h⟩ := pm_i2_inv h
  exact pm_stk (hN _ _ _ _ _ h) (fun _ _ _ _ _ _ _ _ _ _ _ _ _ _ _ _ ad hx hb hown hts hl q => lv_isub hx hb hd q)
theorem px_imul (hd : decode (pm_pr me).2.1 pc = .ok (.imul, 1)) (hN : ∀ L st w cb sb, go rs L st w cb sb → pm_J me d al X k kx (pc + 1) L st w cb sb) (h : pm_x me d al X k kx go pc (.imul) a b c rs L st w cb sb) : pm_J me d al X k kx pc L st w cb sb := by
  obtain ⟨x, y, t, rfl, h⟩ := pm_i2_inv h
  exact pm_stk (hN _ _ _ _ _ h) (fun _ _ _ _ _ _ _ _ _ _ _ _ _ _ _ _ ad hx hb hown hts hl q => lv_imul hx hb hd q)
theorem px_iand (hd : decode (pm_pr me).2.1 pc = .ok (.iand, 1)) (hN : ∀ L st w cb sb, go rs L st w cb sb → pm_J me d al X k kx (pc + 1) L st w cb sb) (h : pm_x me d al X k kx go pc (.iand) a b c rs L st w cb sb) : pm_J me d al X k kx pc L st w cb sb := by
  obtain ⟨x, y, t, rfl, h⟩ := pm_i2_inv h
  exact pm_stk (hN _ _ _ _ _ h) (fun _ _ _ _ _ _ _ _ _ _ _ _ _ _ _ _ ad hx hb hown hts hl q => lv_iand hx hb hd q)
theorem px_ior (hd : decode (pm_pr me).2.1 pc = .ok (.ior, 1)) (hN : ∀ L st w cb sb, go rs L st w cb sb → pm_J me d al X k kx (pc + 1) L st w cb sb) (h : pm_x me d al X k kx go pc (.ior) a b c rs L st w cb sb) : pm_J me d al X k kx pc L st w cb sb := by
  obtain ⟨x, y, t, rfl, h⟩ := pm_i2_inv h
  exact pm_stk (hN _ _ _ _ _ h) (fun _ _ _ _ _ _ _ _ _ _ _ _ _ _ _ _ ad hx hb hown hts hl q => lv_ior hx hb hd q)
theorem px_ixor (hd : decode (pm_pr me).2.1 pc = .ok (.ixor, 1)) (hN : ∀ L st w cb sb, go rs L st w cb sb → pm_J me d al X k kx (pc + 1) L st w cb sb) (h : pm_x me d al X k kx go pc (.ixor) a b c rs L st w cb sb) : pm_J me d al X k kx pc L st w cb sb := by
  obtain ⟨x, y, t, rfl, h⟩ := pm_i2_inv h
  exact pm_stk (hN _ _ _ _ _ h) (fun _ _ _ _ _ _ _ _ _ _ _ _ _ _ _ _ ad hx hb hown hts hl q => lv_ixor hx hb hd q)
theorem px_ishl (hd : decode (pm_pr me).2.1 pc = .ok (.ishl, 1)) (hN : ∀ L st w cb sb, go rs L st w cb sb → pm_J me d al X k kx (pc + 1) L st w cb sb) (h : pm_x me d al X k kx go pc (.ishl) a b c rs L st w cb sb) : pm_J me d al X k kx pc L st w cb sb := by
  obtain ⟨x, y, t, rfl, h⟩ := pm_i2_inv h
  exact pm_stk (hN _ _ _ _ _ h) (fun _ _ _ _ _ _ _ _ _ _ _ _ _ _ _ _ ad hx hb hown hts hl q => lv_ishl hx hb hd q)
theorem px_ishr (hd : decode (pm_pr me).2.1 pc = .ok (.ishr, 1)) (hN : ∀ L st w cb sb, go rs L st w cb sb → pm_J me d al X k kx (pc + 1) L st w cb sb) (h : pm_x me d al X k kx go pc (.ishr) a b c rs L st w cb sb) : pm_J me d al X k kx pc L st w cb sb := by
  obtain ⟨x, y, t, rfl, h⟩ := pm_i2_inv h
  exact pm_stk (hN _ _ _ _ _ h) (fun _ _ _ _ _ _ _ _ _ _ _ _ _ _ _ _ ad hx hb hown hts hl q => lv_ishr hx hb hd q)
theorem px_iushr (hd : decode (pm_pr me).2.1 pc = .ok (.iushr, 1)) (hN : ∀ L st w cb sb, go rs L st w cb sb → pm_J me d al X k kx (pc + 1) L st w cb sb) (h : pm_x me d al X k kx go pc (.iushr) a b c rs L st w cb sb) : pm_J me d al X k kx pc L st w cb sb := by
  obtain ⟨x, y, t, rfl, h⟩ := pm_i2_inv h
  exact pm_stk (hN _ _ _ _ _ h) (fun _ _ _ _ _ _ _ _ _ _ _ _ _ _ _ _ ad hx hb hown hts hl q => lv_iushr hx hb hd rfl q)
theorem px_idiv (hd : decode (pm_pr me).2.1 pc = .ok (.idiv, 1)) (hN : ∀ L st w cb sb, go rs L st w cb sb → pm_J me d al X k kx (pc + 1) L st w cb sb) (h : pm_x me d al X k kx go pc (.idiv) a b c rs L st w cb sb) : pm_J me d al X k kx pc L st w cb sb := by
  obtain ⟨x, y, t, rfl, h0, h⟩ := pm_i2_inv h
  exact pm_stk (hN _ _ _ _ _ h) (fun _ _ _ _ _ _ _ _ _ _ _ _ _ _ _ _ ad hx hb hown hts hl q => lv_idiv hx hb hd h0 q)
theorem px_irem (hd : decode (pm_pr me).2.1 pc = .ok (.irem, 1)) (hN : ∀ L st w cb sb, go rs L st w cb sb → pm_J me d al X k kx (pc + 1) L st w cb sb) (h : pm_x me d al X k kx go pc (.irem) a b c rs L st w cb sb) : pm_J me d al X k kx pc L st w cb sb := by
  obtain ⟨x, y, t, rfl, h0, h⟩ := pm_i2_inv h
  exact pm_stk (hN _ _ _ _ _ h) (fun _ _ _ _ _ _ _ _ _ _ _ _ _ _ _ _ ad hx hb hown hts hl q => lv_irem hx hb hd h0 q)
theorem px_land (hd : decode (pm_pr me).2.1 pc = .ok (.land, 1)) (hN : ∀ L st w cb sb, go rs L st w cb sb → pm_J me d al X k kx (pc + 1) L st w cb sb) (h : pm_x me d al X k kx go pc (.land) a b c rs L st w cb sb) : pm_J me d al X k kx pc L st w cb sb := by
  obtain ⟨x, y, t, rfl, h⟩ := pm_l2_inv h
  exact pm_stk (hN _ _ _ _ _ h) (fun _ _ _ _ _ _ _ _ _ _ _ _ _ _ _ _ ad hx hb hown hts hl q => lv_land hx hb hd q)
theorem px_lor (hd : decode (pm_pr me).2.1 pc = .ok (.lor, 1)) (hN : ∀ L st w cb sb, go rs L st w cb sb → pm_J me d al X k kx (pc + 1) L st w cb sb) (h : pm_x me d al X k kx go pc (.lor) a b c rs L st w cb sb) : pm_J me d al X k kx pc L st w cb sb := by
  obtain ⟨x, y, t, rfl, h⟩ := pm_l2_inv h
  exact pm_stk (hN _ _ _ _ _ h) (fun _ _ _ _ _ _ _ _ _ _ _ _ _ _ _ _ ad hx hb hown hts hl q => lv_lor hx hb hd q)
theorem px_lxor (hd : decode (pm_pr me).2.1 pc = .ok (.lxor, 1)) (hN : ∀ L st w cb sb, go rs L st w cb sb → pm_J me d al X k kx (pc + 1) L st w cb sb) (h : pm_x me d al X k kx go pc (.lxor) a b c rs L st w cb sb) : pm_J me d al X k kx pc L st w cb sb := by
  obtain ⟨x, y, t, rfl, h⟩ := pm_l2_inv h
  exact pm_stk (hN _ _ _ _ _ h) (fun _ _ _ _ _ _ _ _ _ _ _ _ _ _ _ _ ad hx hb hown hts hl q => lv_lxor hx hb hd q)
theorem px_lshl (hd : decode (pm_pr me).2.1 pc = .ok (.lshl, 1)) (hN : ∀ L st w cb sb, go rs L st w cb sb → pm_J me d al X k kx (pc + 1) L st w cb sb) (h : pm_x me d al X k kx go pc (.lshl) a b c rs L st w cb sb) : pm_J me d al X k kx pc L st w cb sb := by
  obtain ⟨x, y, t, rfl, h⟩ := pm_li_inv h
  exact pm_stk (hN _ _ _ _ _ h) (fun _ _ _ _ _ _ _ _ _ _ _ _ _ _ _ _ ad hx hb hown hts hl q => lv_lshl hx hb hd rfl q)
theorem px_lshr (hd : decode (pm_pr me).2.1 pc = .ok (.lshr, 1)) (hN : ∀ L st w cb sb, go rs L st w cb sb → pm_J me d al X k kx (pc + 1) L st w cb sb) (h : pm_x me d al X k kx go pc (.lshr) a b c rs L st w cb sb) : pm_J me d al X k kx pc L st w cb sb := by
  obtain ⟨x, y, t, rfl, h⟩ := pm_li_inv h
  exact pm_stk (hN _ _ _ _ _ h) (fun _ _ _ _ _ _ _ _ _ _ _ _ _ _ _ _ ad hx hb hown hts hl q => lv_lshr hx hb hd rfl q)
theorem px_lushr (hd : decode (pm_pr me).2.1 pc = .ok (.lushr, 1)) (hN : ∀ L st w cb sb, go rs L st w cb sb → pm_J me d al X k kx (pc + 1) L st w cb sb) (h : pm_x me d al X k kx go pc (.lushr) a b c rs L st w cb sb) : pm_J me d al X k kx pc L st w cb sb := by
  obtain ⟨x, y, t, rfl, h⟩ := pm_li_inv h
  exact pm_stk (hN _ _ _ _ _ h) (fun _ _ _ _ _ _ _ _ _ _ _ _ _ _ _ _ ad hx hb hown hts hl q => lv_lushr hx hb hd rfl q)
theorem px_i2l (hd : decode (pm_pr me).2.1 pc = .ok (.i2l, 1)) (hN : ∀ L st w cb sb, go rs L st w cb sb → pm_J me d al X k kx (pc + 1) L st w cb sb) (h : pm_x me d al X k kx go pc (.i2l) a b c rs L st w cb sb) : pm_J me d al X k kx pc L st w cb sb := by
  obtain ⟨x, t, rfl, h⟩ := pm_i1_inv h
  exact pm_stk (hN _ _ _ _ _ h) (fun _ _ _ _ _ _ _ _ _ _ _ _ _ _ _ _ ad hx hb hown hts hl q => lv_i2l hx hb hd rfl q)
theorem px_l2i (hd : decode (pm_pr me).2.1 pc = .ok (.l2i, 1)) (hN : ∀ L st w cb sb, go rs L st w cb sb → pm_J me d al X k kx (pc + 1) L st w cb sb) (h : pm_x me d al X k kx go pc (.l2i) a b c rs L st w cb sb) : pm_J me d al X k kx pc L st w cb sb := by
  obtain ⟨x, t, rfl, h⟩ := pm_l1_inv h
  exact pm_stk (hN _ _ _ _ _ h) (fun _ _ _ _ _ _ _ _ _ _ _ _ _ _ _ _ ad hx hb hown hts hl q => lv_l2i hx hb hd rfl q)
theorem px_lcmp (hd : decode (pm_pr me).2.1 pc = .ok (.lcmp, 1)) (hN : ∀ L st w cb sb, go rs L st w cb sb → pm_J me d al X k kx (pc + 1) L st w cb sb) (h : pm_x me d al X k kx go pc (.lcmp) a b c rs L st w cb sb) : pm_J me d al X k kx pc L st w cb sb := by
  obtain ⟨x, y, t, rfl, h⟩ := pm_l2_inv h
  exact pm_stk (hN _ _ _ _ _ h) (fun _ _ _ _ _ _ _ _ _ _ _ _ _ _ _ _ ad hx hb hown hts hl q => W.lcmp hx hb hd q)
theorem px_pop2 (hd : decode (pm_pr me).2.1 pc = .ok (.pop2, 1)) (hN : ∀ L st w cb sb, go rs L st w cb sb → pm_J me d al X k kx (pc + 1) L st w cb sb) (h : pm_x me d al X k kx go pc (.pop2) a b c rs L st w cb sb) : pm_J me d al X k kx pc L st w cb sb := by
  obtain ⟨x, t, rfl, h⟩ := pm_l1_inv h
  exact pm_stk (hN _ _ _ _ _ h) (fun _ _ _ _ _ _ _ _ _ _ _ _ _ _ _ _ ad hx hb hown hts hl q => lv_pop2_2 (va := .long x) hx hb hd rfl q)
theorem px_dup (hd : decode (pm_pr me).2.1 pc = .ok (.dup, 1)) (hN : ∀ L st w cb sb, go rs L st w cb sb → pm_J me d al X k kx (pc + 1) L st w cb sb) (h : pm_x me d al X k kx go pc (.dup) a b c rs L st w cb sb) : pm_J me d al X k kx pc L st w cb sb := by
  dsimp only [pm_x] at h
  split at h
  · exact pm_stk (hN _ _ _ _ _ h) (fun _ _ _ _ _ _ _ _ _ _ _ _ _ _ _ _ ad hx hb hown hts hl q => lv_dup hx hb hd rfl q)
  · exact pm_stk (hN _ _ _ _ _ h) (fun _ _ _ _ _ _ _ _ _ _ _ _ _ _ _ _ ad hx hb hown hts hl q => lv_dup hx hb hd rfl q)
  · exact h.elim
theorem px_dup2 (hd : decode (pm_pr me).2.1 pc = .ok (.dup2, 1)) (hN : ∀ L st w cb sb, go rs L st w cb sb → pm_J me d al X k kx (pc + 1) L st w cb sb) (h : pm_x me d al X k kx go pc (.dup2) a b c rs L st w cb sb) : pm_J me d al X k kx pc L st w cb sb := by
  dsimp only [pm_x] at h
  split at h
  · exact pm_stk (hN _ _ _ _ _ h) (fun _ _ _ _ _ _ _ _ _ _ _ _ _ _ _ _ ad hx hb hown hts hl q => lv_dup2_11 hx hb hd rfl rfl q)
  · exact h.elim
theorem px_goto {off : Int} (hd : decode (pm_pr me).2.1 pc = .ok (.goto off, 3)) (hT : ∀ tg L st w cb sb, go (pm_from (pm_pr me).2.2.2.2.2 tg) L st w cb sb → pm_J me d al X k kx tg L st w cb sb) (ht : (pc : Int) + off = (a : Int)) (h : pm_x me d al X k kx go pc (.goto off) a b c rs L st w cb sb) : pm_J me d al X k kx pc L st w cb sb := by
  exact pm_stk (hT _ _ _ _ _ _ h) (fun _ _ _ _ _ _ _ _ _ _ _ _ _ _ _ _ ad hx hb hown hts hl q => lv_goto hx hb hd ht q)
/-- a fork -/
theorem pm_frk {P Q9 : Prop} {pc2 pc3 : Nat} {t : List Value} (hp : P → pm_J me d al X k kx pc2 L t w cb sb) (hq : Q9 → pm_J me d al X k kx pc3 L t w cb sb)
    (hw : ∀ (p : Program) (l : Launch) (e : Env) (R : Room) (s : State) (m : MethodId) (args : Array Value) (below : List Frame) (meth : Method) (c : Code) (H : Heap) (locs : List Loc) (cells slots : Nat) (Q : State → Prop) (ls : Array Slot) (ad : Nat → Nat), p.tables.exec = Jvm.exec → c.code = (pm_pr me).2.1 →
      (P → W p l e R s m args below meth c H locs cells slots Q (F0 m pc2 ls (t.map (pm_v ad)))) → (Q9 → W p l e R s m args below meth c H locs cells slots Q (F0 m pc3 ls (t.map (pm_v ad)))) → W p l e R s m args below meth c H locs cells slots Q (F0 m pc ls (st.map (pm_v ad)))) : pm_J me d al X k kx pc L st w cb sb := by
  intro p l e R s m args below meth c H locs cells slots dA D ad sa A ls F hP hD hS hz hl hn hc hs
  exact hw p l e R s m args below meth c H locs cells slots _ ls ad F.1 F.2.2.1 (fun h => hp h p l e R s m args below meth c H locs cells slots dA D ad sa A ls F hP hD hS hz hl hn hc hs) (fun h => hq h p l e R s m args below meth c H locs cells slots dA D ad sa A ls F hP hD hS hz hl hn hc hs)
theorem px_if_icmp {c0 : ClassFile.Cond} {off : Int} (hd : decode (pm_pr me).2.1 pc = .ok (.if_icmp c0 off, 3)) (hN : ∀ L st w cb sb, go rs L st w cb sb → pm_J me d al X k kx (pc + 3) L st w cb sb) (hT : ∀ tg L st w cb sb, go (pm_from (pm_pr me).2.2.2.2.2 tg) L st w cb sb → pm_J me d al X k kx tg L st w cb sb) (ht : (pc : Int) + off = (a : Int)) (h : pm_x me d al X k kx go pc (.if_icmp c0 off) a b c rs L st w cb sb) : pm_J me d al X k kx pc L st w cb sb := by
  obtain ⟨x, y, t, rfl, h⟩ := pm_i2_inv h
  cases c0
  · exact pm_frk (fun z => hT _ _ _ _ _ _ (h.1 z)) (fun z => hN _ _ _ _ _ (h.2 z)) (fun _ _ _ _ _ _ _ _ _ _ _ _ _ _ _ _ ad hx hb q1 q2 => lv_icmp_eq hx hb hd ht q1 q2)
  · exact pm_frk (fun z => hT _ _ _ _ _ _ (h.1 z)) (fun z => hN _ _ _ _ _ (h.2 z)) (fun _ _ _ _ _ _ _ _ _ _ _ _ _ _ _ _ ad hx hb q1 q2 => lv_icmp_ne hx hb hd ht q1 q2)
  · exact pm_frk (fun z => hT _ _ _ _ _ _ (h.1 z)) (fun z => hN _ _ _ _ _ (h.2 z)) (fun _ _ _ _ _ _ _ _ _ _ _ _ _ _ _ _ ad hx hb q1 q2 => lv_icmp_lt hx hb hd ht q1 q2)
  · exact pm_frk (fun z => hT _ _ _ _ _ _ (h.1 z)) (fun z => hN _ _ _ _ _ (h.2 z)) (fun _ _ _ _ _ _ _ _ _ _ _ _ _ _ _ _ ad hx hb q1 q2 => lv_icmp_ge hx hb hd ht q1 q2)
  · exact pm_frk (fun z => hT _ _ _ _ _ _ (h.1 z)) (fun z => hN _ _ _ _ _ (h.2 z)) (fun _ _ _ _ _ _ _ _ _ _ _ _ _ _ _ _ ad hx hb q1 q2 => lv_icmp_gt hx hb hd ht q1 q2)
  · exact pm_frk (fun z => hT _ _ _ _ _ _ (h.1 z)) (fun z => hN _ _ _ _ _ (h.2 z)) (fun _ _ _ _ _ _ _ _ _ _ _ _ _ _ _ _ ad hx hb q1 q2 => lv_icmp_le hx hb hd ht q1 q2)
theorem px_ifCond {c0 : ClassFile.Cond} {off : Int} (hd : decode (pm_pr me).2.1 pc = .ok (.ifCond c0 off, 3)) (hN : ∀ L st w cb sb, go rs L st w cb sb → pm_J me d al X k kx (pc + 3) L st w cb sb) (hT : ∀ tg L st w cb sb, go (pm_from (pm_pr me).2.2.2.2.2 tg) L st w cb sb → pm_J me d al X k kx tg L st w cb sb) (ht : (pc : Int) + off = (a : Int)) (h : pm_x me d al X k kx go pc (.ifCond c0 off) a b c rs L st w cb sb) : pm_J me d al X k kx pc L st w cb sb := by
  obtain ⟨x, t, rfl, h⟩ := pm_i1_inv h
  cases c0
  · exact pm_frk (fun z => hT _ _ _ _ _ _ (h.1 z)) (fun z => hN _ _ _ _ _ (h.2 z)) (fun _ _ _ _ _ _ _ _ _ _ _ _ _ _ _ _ ad hx hb q1 q2 => lv_if_eq hx hb hd ht q1 q2)
  · exact pm_frk (fun z => hT _ _ _ _ _ _ (h.1 z)) (fun z => hN _ _ _ _ _ (h.2 z)) (fun _ _ _ _ _ _ _ _ _ _ _ _ _ _ _ _ ad hx hb q1 q2 => lv_if_ne hx hb hd ht q1 q2)
  · exact pm_frk (fun z => hT _ _ _ _ _ _ (h.1 z)) (fun z => hN _ _ _ _ _ (h.2 z)) (fun _ _ _ _ _ _ _ _ _ _ _ _ _ _ _ _ ad hx hb q1 q2 => lv_if_lt hx hb hd ht q1 q2)
  · exact pm_frk (fun z => hT _ _ _ _ _ _ (h.1 z)) (fun z => hN _ _ _ _ _ (h.2 z)) (fun _ _ _ _ _ _ _ _ _ _ _ _ _ _ _ _ ad hx hb q1 q2 => lv_if_ge hx hb hd ht q1 q2)
  · exact pm_frk (fun z => hT _ _ _ _ _ _ (h.1 z)) (fun z => hN _ _ _ _ _ (h.2 z)) (fun _ _ _ _ _ _ _ _ _ _ _ _ _ _ _ _ ad hx hb q1 q2 => lv_if_gt hx hb hd ht q1 q2)
  · exact pm_frk (fun z => hT _ _ _ _ _ _ (h.1 z)) (fun z => hN _ _ _ _ _ (h.2 z)) (fun _ _ _ _ _ _ _ _ _ _ _ _ _ _ _ _ ad hx hb q1 q2 => lv_if_le hx hb hd ht q1 q2)
theorem px_istore_n {j : Fin 4} (hd : decode (pm_pr me).2.1 pc = .ok (.istore_n j, 1)) (hN : ∀ L st w cb sb, go rs L st w cb sb → pm_J me d al X k kx (pc + 1) L st w cb sb) (h : pm_x me d al X k kx go pc (.istore_n j) a b c rs L st w cb sb) : pm_J me d al X k kx pc L st w cb sb := by
  obtain ⟨x, t, rfl, h⟩ := pm_i1_inv h
  obtain ⟨M, h, hi, hM, h4⟩ := pm_st1_inv _ _ _ _ h
  intro p l e R s m args below meth c H locs cells slots dA D ad sa A ls F hP hD hS hz hl hn hc hs
  refine lv_istore_n (nL := L.length) F.1 F.2.2.1 hd rfl hl hi rfl (fun ls2 hl2 => ?_)
  exact hN _ _ _ _ _ h p l e R s m args below meth c H locs cells slots dA D ad sa A ls2 F hP hD hS hz (pm_lst1 (o := some (.int x)) hM (fun u hu => by cases hu; rfl) h4 hl2) (hM.trans hn) hc hs
theorem px_astore_n {j : Fin 4} (hd : decode (pm_pr me).2.1 pc = .ok (.astore_n j, 1)) (hN : ∀ L st w cb sb, go rs L st w cb sb → pm_J me d al X k kx (pc + 1) L st w cb sb) (h : pm_x me d al X k kx go pc (.astore_n j) a b c rs L st w cb sb) : pm_J me d al X k kx pc L st w cb sb := by
  obtain ⟨x, t, rfl, h⟩ := pm_r1_inv h
  obtain ⟨M, h, hi, hM, h4⟩ := pm_st1_inv _ _ _ _ h
  intro p l e R s m args below meth c H locs cells slots dA D ad sa A ls F hP hD hS hz hl hn hc hs
  refine lv_astore_n (nL := L.length) F.1 F.2.2.1 hd rfl hl hi rfl (fun ls2 hl2 => ?_)
  exact hN _ _ _ _ _ h p l e R s m args below meth c H locs cells slots dA D ad sa A ls2 F hP hD hS hz (pm_lst1 (o := some (.ref x)) hM (fun u hu => by cases hu; rfl) h4 hl2) (hM.trans hn) hc hs
theorem px_istore {j : Nat} (hd : decode (pm_pr me).2.1 pc = .ok (.istore j, 2)) (hN : ∀ L st w cb sb, go rs L st w cb sb → pm_J me d al X k kx (pc + 2) L st w cb sb) (h : pm_x me d al X k kx go pc (.istore j) a b c rs L st w cb sb) : pm_J me d al X k kx pc L st w cb sb := by
  obtain ⟨x, t, rfl, h⟩ := pm_i1_inv h
  obtain ⟨M, h, hi, hM, h4⟩ := pm_st1_inv _ _ _ _ h
  intro p l e R s m args below meth c H locs cells slots dA D ad sa A ls F hP hD hS hz hl hn hc hs
  refine lv_istore (nL := L.length) F.1 F.2.2.1 hd hl hi rfl (fun ls2 hl2 => ?_)
  exact hN _ _ _ _ _ h p l e R s m args below meth c H locs cells slots dA D ad sa A ls2 F hP hD hS hz (pm_lst1 (o := some (.int x)) hM (fun u hu => by cases hu; rfl) h4 hl2) (hM.trans hn) hc hs
theorem px_astore {j : Nat} (hd : decode (pm_pr me).2.1 pc = .ok (.astore j, 2)) (hN : ∀ L st w cb sb, go rs L st w cb sb → pm_J me d al X k kx (pc + 2) L st w cb sb) (h : pm_x me d al X k kx go pc (.astore j) a b c rs L st w cb sb) : pm_J me d al X k kx pc L st w cb sb := by
  obtain ⟨x, t, rfl, h⟩ := pm_r1_inv h
  obtain ⟨M, h, hi, hM, h4⟩ := pm_st1_inv _ _ _ _ h
  intro p l e R s m args below meth c H locs cells slots dA D ad sa A ls F hP hD hS hz hl hn hc hs
  refine lv_astore (nL := L.length) F.1 F.2.2.1 hd hl hi rfl (fun ls2 hl2 => ?_)
  exact hN _ _ _ _ _ h p l e R s m args below meth c H locs cells slots dA D ad sa A ls2 F hP hD hS hz (pm_lst1 (o := some (.ref x)) hM (fun u hu => by cases hu; rfl) h4 hl2) (hM.trans hn) hc hs
theorem px_lstore_n {j : Fin 4} (hd : decode (pm_pr me).2.1 pc = .ok (.lstore_n j, 1)) (hN : ∀ L st w cb sb, go rs L st w cb sb → pm_J me d al X k kx (pc + 1) L st w cb sb) (h : pm_x me d al X k kx go pc (.lstore_n j) a b c rs L st w cb sb) : pm_J me d al X k kx pc L st w cb sb := by
  obtain ⟨x, t, rfl, h⟩ := pm_l1_inv h
  obtain ⟨M, h, hi, hM, h4⟩ := pm_st2_inv _ _ _ _ h
  intro p l e R s m args below meth c H locs cells slots dA D ad sa A ls F hP hD hS hz hl hn hc hs
  refine lv_lstore_n (nL := L.length) F.1 F.2.2.1 hd rfl hl hi rfl (fun ls2 hl2 => ?_)
  exact hN _ _ _ _ _ h p l e R s m args below meth c H locs cells slots dA D ad sa A ls2 F hP hD hS hz (pm_lst2 (v := .long x) hM rfl h4 hl2) (hM.trans hn) hc hs
theorem px_lstore {j : Nat} (hd : decode (pm_pr me).2.1 pc = .ok (.lstore j, 2)) (hN : ∀ L st w cb sb, go rs L st w cb sb → pm_J me d al X k kx (pc + 2) L st w cb sb) (h : pm_x me d al X k kx go pc (.lstore j) a b c rs L st w cb sb) : pm_J me d al X k kx pc L st w cb sb := by
  obtain ⟨x, t, rfl, h⟩ := pm_l1_inv h
  obtain ⟨M, h, hi, hM, h4⟩ := pm_st2_inv _ _ _ _ h
  intro p l e R s m args below meth c H locs cells slots dA D ad sa A ls F hP hD hS hz hl hn hc hs
  refine lv_lstore (nL := L.length) F.1 F.2.2.1 hd hl hi rfl (fun ls2 hl2 => ?_)
  exact hN _ _ _ _ _ h p l e R s m args below meth c H locs cells slots dA D ad sa A ls2 F hP hD hS hz (pm_lst2 (v := .long x) hM rfl h4 hl2) (hM.trans hn) hc hs
theorem px_iinc {j : Nat} {v : Int} (hd : decode (pm_pr me).2.1 pc = .ok (.iinc j v, 3)) (hN : ∀ L st w cb sb, go rs L st w cb sb → pm_J me d al X k kx (pc + 3) L st w cb sb) (hv : Int32.ofInt v = pm_c a c) (h : pm_x me d al X k kx go pc (.iinc j v) a b c rs L st w cb sb) : pm_J me d al X k kx pc L st w cb sb := by
  obtain ⟨x, h1, h⟩ := pm_ldI_inv h
  obtain ⟨M, h, hi, hM, h4⟩ := pm_st1_inv _ _ _ _ (pm_cn_inv h)
  intro p l e R s m args below meth c H locs cells slots dA D ad sa A ls F hP hD hS hz hl hn hc hs
  obtain ⟨k9, hk9⟩ := pm_lidx (ad := ad) h1
  refine lv_iinc (nL := L.length) F.1 F.2.2.1 hd hl hk9 (by rw [hv]) hi rfl (fun ls2 hl2 => ?_)
  exact hN _ _ _ _ _ h p l e R s m args below meth _ H locs cells slots dA D ad sa A ls2 F hP hD hS hz (pm_lst1 (o := some (.int _)) hM (fun u hu => by cases hu; rfl) h4 hl2) (hM.trans hn) hc hs
end PMS
end
section
/-! SOUNDNESS: fields, arrays, new cells, ends -/
def pm_ty (ci : Nat) : Nat → FieldType := match ci with
  | 0 => tyX2
  | 1 => tyX3
  | 2 => tyX4
  | 3 => tyX5
  | _ => tyX6
theorem pm_in0 : ∀ w ∈ u_ws RX2 TX2 6, w ∈ pm_tb := by decide +kernel
theorem pm_in1 : ∀ w ∈ u_ws RX3 TX3 9, w ∈ pm_tb := by decide +kernel
theorem pm_in2 : ∀ w ∈ u_ws RX4 TX4 5, w ∈ pm_tb := by decide +kernel
theorem pm_in3 : ∀ w ∈ u_ws RX5 TX5 4, w ∈ pm_tb := by decide +kernel
theorem pm_in4 : ∀ w ∈ u_ws RX6 TX6 20, w ∈ pm_tb := by decide +kernel
theorem pm_cls {ci : Nat} {C : String} {T : u_T} {N : Nat} (h : vwCl[ci]? = some (C, T, N)) : (∀ w ∈ u_ws C T N, w ∈ pm_tb) ∧ (∀ k, k < N → parseFieldDescriptor (T k).2.2.1 = some (pm_ty ci k)) ∧ (∀ a, a < N → ∀ b, b < N → a ≠ b → (T a).2.1 ≠ (T b).2.1) ∧ (∀ j, j < N → defaultValue (pm_ty ci j) = vp_V (pm_df ci) j) := by
  match ci, h with
  | 0, h => cases h; exact ⟨pm_in0, tyX2_ok, nmX2, by decide +kernel⟩
  | 1, h => cases h; exact ⟨pm_in1, tyX3_ok, nmX3, by decide +kernel⟩
  | 2, h => cases h; exact ⟨pm_in2, tyX4_ok, nmX4, by decide +kernel⟩
  | 3, h => cases h; exact ⟨pm_in3, tyX5_ok, nmX5, by decide +kernel⟩
  | 4, h => cases h; exact ⟨pm_in4, tyX6_ok, nmX6, by decide +kernel⟩
  | ci + 5, h => simp [vwCl] at h
/-! stores, and that the heap doesn't grow by them (after the kit's va_put, va_putF, va_iast, va_zast, va_last) -/
section PMZ
variable {p : Program} {l : Launch} {e : Env} {R : Room} {s : State} {m : MethodId} {args : Array Value} {below : List Frame} {meth : Method} {c : Code} {H : Heap} {locs : List Loc} {cells slots : Nat} {Q : State → Prop}
variable {cc : ByteArray} {pc : Nat} {ls : Array Slot} {rest : List Value} {D : va_G} {cl : List vw_C} {A : Nat → Prop} {a : Nat} {tys : List (ClassId × FieldType)} {ws : va_W} {H0 : Heap}
theorem pm_put (hexec : p.tables.exec = Jvm.exec) (hb : c.code = cc) {own ref C : String} {T : u_T} {N ci index : Nat} {Ts : List Cond} (hts : ∀ w ∈ Ts, w.before args s = true) (hin : ∀ w ∈ u_ws C T N, w ∈ Ts) (ty0 : Nat → FieldType) (hty : ∀ k, k < N → parseFieldDescriptor (T k).2.2.1 = some (ty0 k)) (hnm : ∀ a, a < N → ∀ b, b < N → a ≠ b → (T a).2.1 ≠ (T b).2.1) (hown : s.vm.findClass own = some m.cls) (hK : va_K D cl tys s) (hP : va_P D cl ws H) (hD : va_D A ws) (hS0 : va_S A H0 H locs) (q0 : Nat) {fs : List Value} (he : ws[q0]? = some (a, .inr (ci, fs))) (hc : cl[ci]? = some (C, T, N)) (k : Nat) (hk : k < N) (hlink : (Cond.fieldLink own index ref (T k).2.1 (T k).2.2.1).before args s = true) (hsame : ∀ x, s.fieldFound? (T k).1 (T k).2.1 (T k).2.2.1 = some x → s.fieldFound? ref (T k).2.1 (T k).2.2.1 = some x)
    (hfin : (T k).2.2.2 = false ∨ (meth.name = "<init>" ∧ (T k).1 = own)) {ty : FieldType} {v : Value} (hd : parseFieldDescriptor (T k).2.2.1 = some ty) (hn : narrow ty v = v) (hfit : fits ty v = true) (hl : k < fs.length)
    (hdg : decode cc pc = .ok (.putfield index, 3)) (kk : ∀ (H1 : Heap) (locs1 : List Loc), va_P D cl (ws.set q0 (a, .inr (ci, fs.set k v))) H1 → va_D A (ws.set q0 (a, .inr (ci, fs.set k v))) → va_S A H0 H1 locs1 → H1.size = H.size → W p l e R s m args below meth c H1 locs1 cells slots Q (F0 m (pc + 3) ls rest)) : W p l e R s m args below meth c H locs cells slots Q (F0 m pc ls (v :: .ref a :: rest)) := by
  have hap := va_apart (own := own) hts hin ty0 hty hnm hK hc
  obtain ⟨r, h1, cell, q1, q2, q3, q4⟩ := hP q0 _ he
  have hr : r = (C, T, N) := Option.some.inj (h1.symm.trans hc)
  subst hr
  obtain ⟨hS, hfc, kC, hkC, hkind⟩ := hK.1 ci _ hc
  obtain ⟨cf, kf, fi, f, hi, hsl⟩ := hS k hk
  have hlay := hts _ (hin _ (u_in_lay hk))
  have hst := (u_facts hfc hkC (u_lays hts hin hk) hi).1
  have fin : ∀ H' : Heap, H'[a]? = some (cell.setSlot f.slot v) → H'.size = H.size → (∀ q, q ≠ a → H'[q]? = H[q]?) → W p l e R s m args below meth c H' (locs ++ [⟨a, f.slot⟩]) cells slots Q (F0 m (pc + 3) ls rest) := by
    intro H' e1 e2 e3
    rw [hsl] at e1 ⊢
    exact kk H' _ (hP.set hD he ⟨_, hc, t_OB.to (V := updV (vp_V fs) k v) ⟨_, e1, q2, q3, t_set q4 hap hk v⟩ (fun j _ => vp_updV_set hl v j)⟩ e3) (hD.set he) (hS0.put e2 e3 (hD.2 q0 _ he)) e2
  unfold u_lay at hlay
  split at hlay
  · rename_i hf
    rcases hfin with hfin | ⟨hin2, hdecl⟩
    · rw [hfin] at hf; cases hf
    · have hcf : m.cls = cf := by
        obtain ⟨_, _, c', _, _, _, -, -, hf', -, -, -, hown2, -⟩ := Cond.laysFinal_spec hlay
        have e1 : c' = cf := by have := hi.symm.trans hf'; simp at this; exact this.1.symm
        rw [hdecl] at hown2
        rw [← e1]; exact Option.some.inj (hown.symm.trans hown2)
      have h6 := u_fits hfc hkC hkind (Or.inr hlay) hi hd hn hfit
      exact W.putFinK hexec hb hown hlink (hsame _ hi) hst hcf hin2 (by rw [q2]; exact h6) q1 q3 (by rw [hsl]; exact k2_hasslot (q4 k hk)) rfl rfl hdg fin
  · have h6 := u_store hfc hkC hkind hlay hi hd hn hfit
    exact W.putK hexec hb (f := f) ⟨hown, hlink, ⟨_, _, _, hsame _ hi⟩, hst⟩ (by rw [q2]; exact h6) q1 q3 (by rw [hsl]; exact k2_hasslot (q4 k hk)) rfl rfl hdg fin
theorem pm_iast (hexec : p.tables.exec = Jvm.exec) (hb : c.code = cc) (hK : va_K D cl tys s) (hP : va_P D cl ws H) (hD : va_D A ws) (hS : va_S A H0 H locs) (q0 t0 : Nat) {cA : ClassId} {n : Nat} {f : (Nat → Int32)} (ha : ws[q0]? = some (a, .inl (cA, n, .inl f))) (ht : tys[t0]? = some (cA, .int)) {i : Int32} {x : Int32} (hin : vp_in i n) (hdg : decode cc pc = .ok (.iastore, 1))
    (kk : ∀ (H1 : Heap) (locs1 : List Loc), va_P D cl (ws.set q0 (a, .inl (cA, n, .inl (upd f i.toNatClampNeg x)))) H1 → va_D A (ws.set q0 (a, .inl (cA, n, .inl (upd f i.toNatClampNeg x)))) → va_S A H0 H1 locs1 → H1.size = H.size → W p l e R s m args below meth c H1 locs1 cells slots Q (F0 m (pc + 1) ls rest)) : W p l e R s m args below meth c H locs cells slots Q (F0 m pc ls (.int x :: .int i :: .ref a :: rest)) := by
  refine W.iast hexec hb (hP q0 _ ha) ((hK.2 t0 _ ht).1 n (fun j => .int (f j))) (fun q => by cases q) (by show ¬ (i < 0 ∨ (arrV _ _ _).slots.size ≤ _); rw [arrV_size]; exact hin) rfl rfl hdg fun H1 e z oq => ?_
  refine kk H1 _ (hP.set hD ha ?_ oq) (hD.set ha) (hS.put z oq (hD.2 q0 _ ha)) z
  show H1[a]? = some (vp_cell _ _)
  rw [e]
  rw [vp_cell_i, vp_cell_i, arrV_store]
  congr 2
  funext q
  by_cases hq : q = i.toNatClampNeg
  · subst hq
    simp [updV, upd]
    try rfl
  · simp [updV, upd, hq]
theorem pm_zast (hexec : p.tables.exec = Jvm.exec) (hb : c.code = cc) (hK : va_K D cl tys s) (hP : va_P D cl ws H) (hD : va_D A ws) (hS : va_S A H0 H locs) (q0 t0 : Nat) {cA : ClassId} {n : Nat} {f : (Nat → Int32)} (ha : ws[q0]? = some (a, .inl (cA, n, .inl f))) (ht : tys[t0]? = some (cA, .boolean)) {i : Int32} {x : Int32} (hin : vp_in i n) (hdg : decode cc pc = .ok (.bastore, 1))
    (kk : ∀ (H1 : Heap) (locs1 : List Loc), va_P D cl (ws.set q0 (a, .inl (cA, n, .inl (upd f i.toNatClampNeg (x &&& 1))))) H1 → va_D A (ws.set q0 (a, .inl (cA, n, .inl (upd f i.toNatClampNeg (x &&& 1))))) → va_S A H0 H1 locs1 → H1.size = H.size → W p l e R s m args below meth c H1 locs1 cells slots Q (F0 m (pc + 1) ls rest)) : W p l e R s m args below meth c H locs cells slots Q (F0 m pc ls (.int x :: .int i :: .ref a :: rest)) := by
  refine W.zast hexec hb (hP q0 _ ha) ((hK.2 t0 _ ht).1 n (fun j => .int (f j))) (fun q => by cases q) (by show ¬ (i < 0 ∨ (arrV _ _ _).slots.size ≤ _); rw [arrV_size]; exact hin) rfl rfl hdg fun H1 e z oq => ?_
  refine kk H1 _ (hP.set hD ha ?_ oq) (hD.set ha) (hS.put z oq (hD.2 q0 _ ha)) z
  show H1[a]? = some (vp_cell _ _)
  rw [e]
  rw [vp_cell_i, vp_cell_i, arrV_store]
  congr 2
  funext q
  by_cases hq : q = i.toNatClampNeg
  · subst hq
    simp [updV, upd]
    try rfl
  · simp [updV, upd, hq]
theorem pm_last (hexec : p.tables.exec = Jvm.exec) (hb : c.code = cc) (hK : va_K D cl tys s) (hP : va_P D cl ws H) (hD : va_D A ws) (hS : va_S A H0 H locs) (q0 t0 : Nat) {cA : ClassId} {n : Nat} {f : (Nat → Int64)} (ha : ws[q0]? = some (a, .inl (cA, n, .inr (.inl f)))) (ht : tys[t0]? = some (cA, .long)) {i : Int32} {x : Int64} (hin : vp_in i n) (hdg : decode cc pc = .ok (.lastore, 1))
    (kk : ∀ (H1 : Heap) (locs1 : List Loc), va_P D cl (ws.set q0 (a, .inl (cA, n, .inr (.inl (vp_updL f i.toNatClampNeg x))))) H1 → va_D A (ws.set q0 (a, .inl (cA, n, .inr (.inl (vp_updL f i.toNatClampNeg x))))) → va_S A H0 H1 locs1 → H1.size = H.size → W p l e R s m args below meth c H1 locs1 cells slots Q (F0 m (pc + 1) ls rest)) : W p l e R s m args below meth c H locs cells slots Q (F0 m pc ls (.long x :: .int i :: .ref a :: rest)) := by
  refine W.last hexec hb (hP q0 _ ha) ((hK.2 t0 _ ht).1 n (fun j => .long (f j))) (fun q => by cases q) (by show ¬ (i < 0 ∨ (arrV _ _ _).slots.size ≤ _); rw [arrV_size]; exact hin) rfl rfl hdg fun H1 e z oq => ?_
  refine kk H1 _ (hP.set hD ha ?_ oq) (hD.set ha) (hS.put z oq (hD.2 q0 _ ha)) z
  show H1[a]? = some (vp_cell _ _)
  rw [e]
  rw [vp_cell_l, vp_cell_l, arrV_store]
  congr 2
  funext q
  by_cases hq : q = i.toNatClampNeg
  · subst hq
    simp [updV, vp_updL]
    try rfl
  · simp [updV, vp_updL, hq]
end PMZ
section PMH
variable {me d : Nat} {al : Bool} {X : Option (Nat × (Nat → Int32))} {k : pm_K} {kx : pm_X} {go : List pm_R → pm_V → List Value → pm_D → Nat → Nat → Prop} {pc a b c cb sb : Nat} {rs : List pm_R} {L : pm_V} {st : List Value} {w : pm_D}
theorem px_getfield {ix : Nat} {C : String} {T : u_T} {N : Nat} (hd : decode (pm_pr me).2.1 pc = .ok (.getfield ix, 3)) (hN : ∀ L st w cb sb, go rs L st w cb sb → pm_J me d al X k kx (pc + 3) L st w cb sb)
    (hc : vwCl[a]? = some (C, T, N)) (hb : b < N) (hC : (T b).1 = C) (hlk : Cond.fieldLink (pm_pr me).1.cls ix C (T b).2.1 (T b).2.2.1 ∈ pm_tb ∨ Cond.fieldLinkNest (pm_pr me).1.cls ix C (T b).2.1 (T b).2.2.1 "SelectiveLink" ∈ pm_nw)
    (h : pm_x me d al X k kx go pc (.getfield ix) a b c rs L st w cb sb) : pm_J me d al X k kx pc L st w cb sb := by
  obtain ⟨r, t, rfl, g1⟩ := pm_r1_inv h
  clear h
  cases r with
  | zero => exact g1.elim
  | succ q =>
    obtain ⟨e, he, g2⟩ := pm_get_inv _ _ _ g1
    clear g1
    cases e with
    | inl x => exact g2.elim
    | inr x =>
      obtain ⟨ci, fs⟩ := x
      cases hq : Nat.beq ci a with
      | false => simp only [hq] at g2
      | true =>
        simp only [hq] at g2
        have hq := Nat.eq_of_beq_eq_true hq
        subst hq
        obtain ⟨v, hv, g3⟩ := pm_get_inv _ _ _ g2
        intro p l e R s m args below meth c H locs cells slots dA D ad sa A ls F hP hD hS hz hl hn hcs hs
        obtain ⟨hx, htr, hbc, hml, hr, hlo, hown, hnm, hts, hex, hK, hA, hG, hfr, hlc, hX⟩ := id F
        have he2 := pm_pic_get (dA := dA) (ad := ad) he
        have hv2 : (fs.map (pm_v ad))[b]? = some (pm_v ad v) := by rw [List.getElem?_map, hv]; rfl
        have hkk := hN _ _ _ _ _ g3 p l e R s m args below meth c H locs cells slots dA D ad sa A ls F hP hD hS hz hl hn hcs hs
        rcases hlk with hlk | hlk
        · exact va_get hx hbc hts (pm_cls hc).1 hown hK hP q he2 hc b hb (hts _ hlk) (fun x hx => by rw [hC] at hx; exact hx) hv2 hd hkk
        · exact va_getN hx hbc hts (pm_cls hc).1 hown hK hP q he2 hc b hb (va_Nw.use rfl (hG.1 _ hlk)) (fun x hx => by rw [hC] at hx; exact hx) hv2 hd hkk
theorem pm_fv_inv {v : Value} {P : Prop} {ty : FieldType} (hk : (match c, some ty with
        | 0, some .int => true
        | 1, some .long => true
        | 2, some (.object _) => true
        | 2, some (.array _) => true
        | _, _ => false) = true) (ad : Nat → Nat) (h : pm_fv c v P) : P ∧ narrow ty (pm_v ad v) = pm_v ad v ∧ fits ty (pm_v ad v) = true := by
  unfold pm_fv at h
  split at h
  · cases ty <;> first | exact ⟨h, rfl, rfl⟩ | (simp at hk)
  · cases ty <;> first | exact ⟨h, rfl, rfl⟩ | (simp at hk)
  · cases ty <;> first | exact ⟨h, rfl, rfl⟩ | (simp at hk)
  · cases ty <;> first | exact ⟨h, rfl, rfl⟩ | (simp at hk)
  · exact h.elim
theorem px_putfield {ix : Nat} {C : String} {T : u_T} {N : Nat} {ty : FieldType} (hd : decode (pm_pr me).2.1 pc = .ok (.putfield ix, 3)) (hN : ∀ L st w cb sb, go rs L st w cb sb → pm_J me d al X k kx (pc + 3) L st w cb sb)
    (hc : vwCl[a]? = some (C, T, N)) (hb : b < N) (hC : (T b).1 = C) (hlk : Cond.fieldLink (pm_pr me).1.cls ix C (T b).2.1 (T b).2.2.1 ∈ pm_tb)
    (hfin : (T b).2.2.2 = false ∨ ((pm_pr me).1.name = "<init>" ∧ C = (pm_pr me).1.cls)) (hty : parseFieldDescriptor (T b).2.2.1 = some ty)
    (hk : (match c, some ty with
        | 0, some .int => true
        | 1, some .long => true
        | 2, some (.object _) => true
        | 2, some (.array _) => true
        | _, _ => false) = true)
    (h : pm_x me d al X k kx go pc (.putfield ix) a b c rs L st w cb sb) : pm_J me d al X k kx pc L st w cb sb := by
  dsimp only [pm_x] at h
  split at h
  · rename_i v q t
    obtain ⟨e, he, g2⟩ := pm_get_inv _ _ _ h
    clear h
    cases e with
    | inl x => exact g2.elim
    | inr x =>
      obtain ⟨ci, fs⟩ := x
      cases hq : Nat.beq ci a with
      | false => simp only [hq] at g2
      | true =>
        simp only [hq] at g2
        have hq := Nat.eq_of_beq_eq_true hq
        subst hq
        intro p l e R s m args below meth c H locs cells slots dA D ad sa A ls F hP hD hS hz hl hn hcs hs
        obtain ⟨g3, hn1, hf1⟩ := pm_fv_inv hk ad g2
        obtain ⟨hb2, g4⟩ := pm_set_inv _ _ _ _ g3
        obtain ⟨hq2, g5⟩ := pm_set_inv _ _ _ _ g4
        obtain ⟨hx, htr, hbc, hml, hr, hlo, hown, hnm, hts, hex, hK, hA, hG, hfr, hlc, hX⟩ := id F
        have he2 := pm_pic_get (dA := dA) (ad := ad) he
        have hbl : b < (fs.map (pm_v ad)).length := by rw [List.length_map]; exact hb2
        have eq1 : pm_pic dA ad (w.set q (.inr (ci, fs.set b v))) = (pm_pic dA ad w).set q (ad (q + 1), .inr (ci, (fs.map (pm_v ad)).set b (pm_v ad v))) := by
          rw [pm_pic_set, ← List.map_set]
          rfl
        have kk : ∀ (H1 : Heap) (locs1 : List Loc), va_P D vwCl ((pm_pic dA ad w).set q (ad (q + 1), .inr (ci, (fs.map (pm_v ad)).set b (pm_v ad v)))) H1 → va_D A ((pm_pic dA ad w).set q (ad (q + 1), .inr (ci, (fs.map (pm_v ad)).set b (pm_v ad v)))) → va_S A s.heap H1 locs1 → H1.size = H.size →
            W p l e R s m args below meth c H1 locs1 cells slots (vx_MQ below (pm_Qc dA D ad A (pm_qa al X) k) (pm_XC dA D ad A (pm_qa al X) kx) args s R.cells R.slots A) (F0 m (pc + 3) ls (t.map (pm_v ad))) := by
          intro H1 locs1 hP1 hD1 hS1 hz1
          rw [← eq1] at hP1 hD1
          exact hN _ _ _ _ _ g5 p l e R s m args below meth c H1 locs1 cells slots dA D ad sa A ls F hP1 hD1 hS1 (fun hal => by rw [hz1, List.length_set]; exact hz hal) hl hn hcs hs
        exact pm_put hx hbc hts (pm_cls hc).1 (pm_ty ci) (pm_cls hc).2.1 (pm_cls hc).2.2.1 hown hK hP hD hS q he2 hc b hb (hts _ hlk) (fun x hx => by rw [hC] at hx; exact hx) (hfin.imp id (fun z => ⟨hnm.trans z.1, hC.trans z.2⟩)) hty hn1 hf1 hbl hd kk
  · exact h.elim
theorem px_iaload (hd : decode (pm_pr me).2.1 pc = .ok (.iaload, 1)) (hN : ∀ L st w cb sb, go rs L st w cb sb → pm_J me d al X k kx (pc + 1) L st w cb sb) (h : pm_x me d al X k kx go pc (.iaload) a b c rs L st w cb sb) : pm_J me d al X k kx pc L st w cb sb := by
  obtain ⟨j, t1, rfl, g0⟩ := pm_i1_inv h
  clear h
  obtain ⟨r, t, rfl, h⟩ := pm_r1_inv g0
  clear g0
  cases r with
  | zero =>
    dsimp only at h
    split at h
    · rename_i N xs
      intro p l e R s m args below meth c H locs cells slots dA D ad sa A ls F hP hD hS hz hl hn hcs hs
      obtain ⟨hx, htr, hbc, hml, hr, hlo, hown, hnm, hts, hex, hK, hA, hG, hfr, hlc, hX⟩ := id F
      obtain ⟨g1, g2, g3⟩ := hX N xs rfl
      exact va_sld hx hbc g1 g2 g3 hS h.1 hd (hN _ _ _ _ _ h.2 p l e R s m args below meth c H locs cells slots dA D ad sa A ls F hP hD hS hz hl hn hcs hs)
    · exact h.elim
  | succ q =>
    obtain ⟨e, he, g2⟩ := pm_get_inv _ _ _ h
    clear h
    have h := g2
    clear g2
    split at h
    · intro p l e R s m args below meth c H locs cells slots dA D ad sa A ls F hP hD hS hz hl hn hcs hs
      obtain ⟨hx, htr, hbc, hml, hr, hlo, hown, hnm, hts, hex, hK, hA, hG, hfr, hlc, hX⟩ := id F
      exact va_iald hx hbc hK hP q 0 (pm_pic_get (dA := dA) (ad := ad) he) rfl h.1 hd (hN _ _ _ _ _ h.2 p l e R s m args below meth c H locs cells slots dA D ad sa A ls F hP hD hS hz hl hn hcs hs)
    · exact h.elim
theorem px_baload (hd : decode (pm_pr me).2.1 pc = .ok (.baload, 1)) (hN : ∀ L st w cb sb, go rs L st w cb sb → pm_J me d al X k kx (pc + 1) L st w cb sb) (h : pm_x me d al X k kx go pc (.baload) a b c rs L st w cb sb) : pm_J me d al X k kx pc L st w cb sb := by
  obtain ⟨j, t1, rfl, g0⟩ := pm_i1_inv h
  clear h
  obtain ⟨r, t, rfl, h⟩ := pm_r1_inv g0
  clear g0
  cases r with
  | zero => exact h.elim
  | succ q =>
    obtain ⟨e, he, g2⟩ := pm_get_inv _ _ _ h
    clear h
    have h := g2
    clear g2
    split at h
    · intro p l e R s m args below meth c H locs cells slots dA D ad sa A ls F hP hD hS hz hl hn hcs hs
      obtain ⟨hx, htr, hbc, hml, hr, hlo, hown, hnm, hts, hex, hK, hA, hG, hfr, hlc, hX⟩ := id F
      exact va_zald hx hbc hK hP q 2 (pm_pic_get (dA := dA) (ad := ad) he) rfl h.1 hd (hN _ _ _ _ _ h.2 p l e R s m args below meth c H locs cells slots dA D ad sa A ls F hP hD hS hz hl hn hcs hs)
    · exact h.elim
theorem px_laload (hd : decode (pm_pr me).2.1 pc = .ok (.laload, 1)) (hN : ∀ L st w cb sb, go rs L st w cb sb → pm_J me d al X k kx (pc + 1) L st w cb sb) (h : pm_x me d al X k kx go pc (.laload) a b c rs L st w cb sb) : pm_J me d al X k kx pc L st w cb sb := by
  obtain ⟨j, t1, rfl, g0⟩ := pm_i1_inv h
  clear h
  obtain ⟨r, t, rfl, h⟩ := pm_r1_inv g0
  clear g0
  cases r with
  | zero => exact h.elim
  | succ q =>
    obtain ⟨e, he, g2⟩ := pm_get_inv _ _ _ h
    clear h
    have h := g2
    clear g2
    split at h
    · intro p l e R s m args below meth c H locs cells slots dA D ad sa A ls F hP hD hS hz hl hn hcs hs
      obtain ⟨hx, htr, hbc, hml, hr, hlo, hown, hnm, hts, hex, hK, hA, hG, hfr, hlc, hX⟩ := id F
      exact va_lald hx hbc hK hP q 1 (pm_pic_get (dA := dA) (ad := ad) he) rfl h.1 hd (hN _ _ _ _ _ h.2 p l e R s m args below meth c H locs cells slots dA D ad sa A ls F hP hD hS hz hl hn hcs hs)
    · exact h.elim
theorem px_iastore (hd : decode (pm_pr me).2.1 pc = .ok (.iastore, 1)) (hN : ∀ L st w cb sb, go rs L st w cb sb → pm_J me d al X k kx (pc + 1) L st w cb sb) (h : pm_x me d al X k kx go pc (.iastore) a b c rs L st w cb sb) : pm_J me d al X k kx pc L st w cb sb := by
  obtain ⟨j, x, t1, rfl, g0⟩ := pm_i2_inv h
  clear h
  obtain ⟨r, t, rfl, h⟩ := pm_r1_inv g0
  clear g0
  cases r with
  | zero => exact h.elim
  | succ q =>
    obtain ⟨e, he, g2⟩ := pm_get_inv _ _ _ h
    clear h
    have h := g2
    clear g2
    split at h
    · obtain ⟨hin, g3⟩ := h
      obtain ⟨hq2, h⟩ := pm_set_inv _ _ _ _ g3
      intro p l e R s m args below meth c H locs cells slots dA D ad sa A ls F hP hD hS hz hl hn hcs hs
      obtain ⟨hx, htr, hbc, hml, hr, hlo, hown, hnm, hts, hex, hK, hA, hG, hfr, hlc, hX⟩ := id F
      refine pm_iast hx hbc hK hP hD hS q 0 (pm_pic_get (dA := dA) (ad := ad) he) rfl hin hd (fun H1 locs1 hP1 hD1 hS1 hz1 => ?_)
      exact hN _ _ _ _ _ h p l e R s m args below meth c H1 locs1 cells slots dA D ad sa A ls F (by rw [pm_pic_set]; exact hP1) (by rw [pm_pic_set]; exact hD1) hS1 (fun hal => by rw [hz1, List.length_set]; exact hz hal) hl hn hcs hs
    · exact h.elim
theorem px_bastore (hd : decode (pm_pr me).2.1 pc = .ok (.bastore, 1)) (hN : ∀ L st w cb sb, go rs L st w cb sb → pm_J me d al X k kx (pc + 1) L st w cb sb) (h : pm_x me d al X k kx go pc (.bastore) a b c rs L st w cb sb) : pm_J me d al X k kx pc L st w cb sb := by
  obtain ⟨j, x, t1, rfl, g0⟩ := pm_i2_inv h
  clear h
  obtain ⟨r, t, rfl, h⟩ := pm_r1_inv g0
  clear g0
  cases r with
  | zero => exact h.elim
  | succ q =>
    obtain ⟨e, he, g2⟩ := pm_get_inv _ _ _ h
    clear h
    have h := g2
    clear g2
    split at h
    · obtain ⟨hin, g3⟩ := h
      obtain ⟨hq2, h⟩ := pm_set_inv _ _ _ _ g3
      intro p l e R s m args below meth c H locs cells slots dA D ad sa A ls F hP hD hS hz hl hn hcs hs
      obtain ⟨hx, htr, hbc, hml, hr, hlo, hown, hnm, hts, hex, hK, hA, hG, hfr, hlc, hX⟩ := id F
      refine pm_zast hx hbc hK hP hD hS q 2 (pm_pic_get (dA := dA) (ad := ad) he) rfl hin hd (fun H1 locs1 hP1 hD1 hS1 hz1 => ?_)
      exact hN _ _ _ _ _ h p l e R s m args below meth c H1 locs1 cells slots dA D ad sa A ls F (by rw [pm_pic_set]; exact hP1) (by rw [pm_pic_set]; exact hD1) hS1 (fun hal => by rw [hz1, List.length_set]; exact hz hal) hl hn hcs hs
    · exact h.elim
theorem px_lastore (hd : decode (pm_pr me).2.1 pc = .ok (.lastore, 1)) (hN : ∀ L st w cb sb, go rs L st w cb sb → pm_J me d al X k kx (pc + 1) L st w cb sb) (h : pm_x me d al X k kx go pc (.lastore) a b c rs L st w cb sb) : pm_J me d al X k kx pc L st w cb sb := by
  obtain ⟨x, t, rfl, h⟩ := pm_l1_inv h
  obtain ⟨j, t1, rfl, g0⟩ := pm_i1_inv h
  clear h
  obtain ⟨r, t, rfl, h⟩ := pm_r1_inv g0
  clear g0
  cases r with
  | zero => exact h.elim
  | succ q =>
    obtain ⟨e, he, g2⟩ := pm_get_inv _ _ _ h
    clear h
    have h := g2
    clear g2
    split at h
    · obtain ⟨hin, g3⟩ := h
      obtain ⟨hq2, h⟩ := pm_set_inv _ _ _ _ g3
      intro p l e R s m args below meth c H locs cells slots dA D ad sa A ls F hP hD hS hz hl hn hcs hs
      obtain ⟨hx, htr, hbc, hml, hr, hlo, hown, hnm, hts, hex, hK, hA, hG, hfr, hlc, hX⟩ := id F
      refine pm_last hx hbc hK hP hD hS q 1 (pm_pic_get (dA := dA) (ad := ad) he) rfl hin hd (fun H1 locs1 hP1 hD1 hS1 hz1 => ?_)
      exact hN _ _ _ _ _ h p l e R s m args below meth c H1 locs1 cells slots dA D ad sa A ls F (by rw [pm_pic_set]; exact hP1) (by rw [pm_pic_set]; exact hD1) hS1 (fun hal => by rw [hz1, List.length_set]; exact hz hal) hl hn hcs hs
    · exact h.elim
theorem px_arraylength (hd : decode (pm_pr me).2.1 pc = .ok (.arraylength, 1)) (hN : ∀ L st w cb sb, go rs L st w cb sb → pm_J me d al X k kx (pc + 1) L st w cb sb) (h : pm_x me d al X k kx go pc .arraylength a b c rs L st w cb sb) : pm_J me d al X k kx pc L st w cb sb := by
  obtain ⟨r, t, rfl, g0⟩ := pm_r1_inv h
  clear h
  have h := g0
  clear g0
  cases r with
  | zero =>
    dsimp only at h
    split at h
    · rename_i N xs
      intro p l e R s m args below meth c H locs cells slots dA D ad sa A ls F hP hD hS hz hl hn hcs hs
      obtain ⟨hx, htr, hbc, hml, hr, hlo, hown, hnm, hts, hex, hK, hA, hG, hfr, hlc, hX⟩ := id F
      obtain ⟨g1, g2, g3⟩ := hX N xs rfl
      exact va_slen hx hbc g1 g2 g3 hS hd (hN _ _ _ _ _ h p l e R s m args below meth c H locs cells slots dA D ad sa A ls F hP hD hS hz hl hn hcs hs)
    · exact h.elim
  | succ q => exact h.elim
/-! ends -/
theorem px_ireturn (hd : decode (pm_pr me).2.1 pc = .ok (.ireturn, 1)) (h : pm_x me d al X k kx go pc .ireturn a b c rs L st w cb sb) : pm_J me d al X k kx pc L st w cb sb := by
  dsimp only [pm_x] at h
  split at h
  · rename_i x
    split at h
    · rename_i hret
      intro p l e R s m args below meth c H locs cells slots dA D ad sa A ls F hP hD hS hz hl hn hcs hs
      obtain ⟨hx, htr, hbc, hml, hr, hlo, hown, hnm, hts, hex, hK, hA, hG, hfr, hlc, hX⟩ := id F
      exact vx_ret (W.widen (k := R.cells) (n := R.slots) (by omega) (by omega) (W.iret (v := x) hx hbc (hr.trans hret) (fun t ht hW => ⟨⟨some (.int x), w, rfl, h, by rw [ht]; exact hP, hD, by rw [ht]; exact hz.q⟩, hS.F ht⟩) hS.2.2 hd hlo))
    · rename_i hret
      obtain ⟨h0, h⟩ := h
      intro p l e R s m args below meth c H locs cells slots dA D ad sa A ls F hP hD hS hz hl hn hcs hs
      obtain ⟨hx, htr, hbc, hml, hr, hlo, hown, hnm, hts, hex, hK, hA, hG, hfr, hlc, hX⟩ := id F
      exact vx_ret (W.widen (k := R.cells) (n := R.slots) (by omega) (by omega) (W.zret (v := x) (ty := .boolean) hx hbc (hr.trans hret) (by show Value.int (x &&& 1) = _; rw [h0]) (fun t ht hW => ⟨⟨some (.int x), w, rfl, h, by rw [ht]; exact hP, hD, by rw [ht]; exact hz.q⟩, hS.F ht⟩) hS.2.2 hd hlo))
    · exact h.elim
  · exact h.elim
theorem px_lreturn (hd : decode (pm_pr me).2.1 pc = .ok (.lreturn, 1)) (h : pm_x me d al X k kx go pc .lreturn a b c rs L st w cb sb) : pm_J me d al X k kx pc L st w cb sb := by
  dsimp only [pm_x] at h
  split at h
  · rename_i x
    split at h
    · rename_i hret
      intro p l e R s m args below meth c H locs cells slots dA D ad sa A ls F hP hD hS hz hl hn hcs hs
      obtain ⟨hx, htr, hbc, hml, hr, hlo, hown, hnm, hts, hex, hK, hA, hG, hfr, hlc, hX⟩ := id F
      exact vx_ret (W.widen (k := R.cells) (n := R.slots) (by omega) (by omega) (W.lret (v := x) hx hbc (hr.trans hret) (fun t ht hW => ⟨⟨some (.long x), w, rfl, h, by rw [ht]; exact hP, hD, by rw [ht]; exact hz.q⟩, hS.F ht⟩) hS.2.2 hd hlo))
    · exact h.elim
  · exact h.elim
theorem px_areturn (hd : decode (pm_pr me).2.1 pc = .ok (.areturn, 1)) (h : pm_x me d al X k kx go pc .areturn a b c rs L st w cb sb) : pm_J me d al X k kx pc L st w cb sb := by
  dsimp only [pm_x] at h
  split at h
  · rename_i x
    split at h
    · rename_i hret
      intro p l e R s m args below meth c H locs cells slots dA D ad sa A ls F hP hD hS hz hl hn hcs hs
      obtain ⟨hx, htr, hbc, hml, hr, hlo, hown, hnm, hts, hex, hK, hA, hG, hfr, hlc, hX⟩ := id F
      exact vx_ret (W.widen (k := R.cells) (n := R.slots) (by omega) (by omega) (W.aret (v := .ref (ad x)) hx hbc (hr.trans hret) (Or.inl ⟨_, rfl⟩) (Or.inr ⟨_, rfl⟩) (fun t ht hW => ⟨⟨some (.ref x), w, rfl, h, by rw [ht]; exact hP, hD, by rw [ht]; exact hz.q⟩, hS.F ht⟩) hS.2.2 hd hlo))
    · exact h.elim
  · exact h.elim
theorem px_return (hd : decode (pm_pr me).2.1 pc = .ok (.return_, 1)) (h : pm_x me d al X k kx go pc .return_ a b c rs L st w cb sb) : pm_J me d al X k kx pc L st w cb sb := by
  dsimp only [pm_x] at h
  split at h
  · split at h
    · rename_i hret
      intro p l e R s m args below meth c H locs cells slots dA D ad sa A ls F hP hD hS hz hl hn hcs hs
      obtain ⟨hx, htr, hbc, hml, hr, hlo, hown, hnm, hts, hex, hK, hA, hG, hfr, hlc, hX⟩ := id F
      exact vx_ret (W.widen (k := R.cells) (n := R.slots) (by omega) (by omega) (W.vret hx hbc (hr.trans hret) (fun t ht hW => ⟨⟨none, w, rfl, h, by rw [ht]; exact hP, hD, by rw [ht]; exact hz.q⟩, hS.F ht⟩) hS.2.2 hd hlo))
    · exact h.elim
  · exact h.elim
end PMH
end
section
/-! SOUNDNESS: new cells, throws -/
theorem pm_at_or {α : Type} (z : α) : ∀ (l : List α) (k : Nat), pm_at z l k ∈ l ∨ pm_at z l k = z
  | [], _ => Or.inr rfl
  | _ :: _, 0 => Or.inl List.mem_cons_self
  | _ :: t, k + 1 => (pm_at_or z t k).imp (List.mem_cons_of_mem _) id
def pm_nr : Value → Bool := fun v => match v with
  | .ref _ => false
  | _ => true
theorem pm_df_nr (ci : Nat) : ∀ v ∈ pm_df ci, pm_nr v = true := by
  have key : ∀ l ∈ ([[.null, .null, .null, .int 0, .int 0, .int 0], [.null, .null, .null, .int 0, .int 0, .int 0, .int 0, .int 0, .int 0], [.null, .null, .int 0, .int 0, .int 0], [.null, .null, .null, .null], [.int 0, .int 0, .int 0, .int 0, .null, .null, .int 0, .int 0, .null, .null, .null, .int 0, .null, .null, .int 0, .null, .int 0, .int 0, .int 0, .null]] : List (List Value)), ∀ v ∈ l, pm_nr v = true := by decide +kernel
  unfold pm_df
  rcases pm_at_or ([] : List Value) _ ci with h | h
  · exact key _ h
  · rw [h]
    exact fun v hv => absurd hv List.not_mem_nil
theorem pm_nw_ot {w : Cond} (h : w ∈ pm_nw) : w.onTables = true := by
  have h2 := (List.mem_filter.mp h).2
  cases w <;> first | rfl | (simp [pm_isN] at h2)
section PMN
variable {me d : Nat} {al : Bool} {X : Option (Nat × (Nat → Int32))} {k : pm_K} {kx : pm_X} {go : List pm_R → pm_V → List Value → pm_D → Nat → Nat → Prop} {pc a b c cb sb : Nat} {rs : List pm_R} {L : pm_V} {st : List Value} {w : pm_D}
/-- a new cell at the heap's end: the picture with it -/
theorem pm_grow {D : va_G} {dA : Nat → ClassId} {ad : Nat → Nat} {w : pm_D} {e : va_E} {H H1 : Heap} {A : Nat → Prop} {s : State} {locs : List Loc} (hP : va_P D vwCl (pm_pic dA ad w) H) (hD : va_D A (pm_pic dA ad w)) (hS : va_S A s.heap H locs) (hA : ∀ q, s.heap.size ≤ q → A q)
    (hz : H.size = ad (w.length + 1)) (z1 : H1.size = H.size + 1) (o1 : ∀ q, q < H.size → H1[q]? = H[q]?) (he : va_at D vwCl (ad (w.length + 1), pm_e dA ad e) H1) :
    va_P D vwCl (pm_pic dA ad (w ++ [e])) H1 ∧ va_D A (pm_pic dA ad (w ++ [e])) ∧ va_S A s.heap H1 locs := by
  have eq1 : pm_pic dA ad (w ++ [e]) = pm_pic dA ad w ++ [(ad (w.length + 1), pm_e dA ad e)] := by
    show pm_pf dA ad 1 (w ++ [e]) = _
    rw [pm_pf_snoc, Nat.add_comm 1]
  rw [eq1]
  have hk : ∀ (k : Nat) (x : Nat × va_E), (pm_pic dA ad w)[k]? = some x → H1[x.1]? = H[x.1]? := fun k x hx => o1 x.1 ((hP k x hx).lt)
  refine ⟨(hP.kept hk).app (fun k x hx => ?_), hD.push hP hz.symm (by rw [← hz]; exact hA _ hS.1), ⟨Nat.le_trans hS.1 (by omega), fun x h1 h2 => (o1 x (Nat.lt_of_lt_of_le h1 hS.1)).trans (hS.2.1 x h1 h2), hS.2.2⟩⟩
  have hz9 : k < 1 := (List.getElem?_eq_some_iff.mp hx).1
  rw [show k = 0 by omega] at hx
  cases hx
  exact he
theorem px_new {ix : Nat} {C : String} {T : u_T} {N : Nat} (hd : decode (pm_pr me).2.1 pc = .ok (.new ix, 3)) (hN : ∀ L st w cb sb, go rs L st w cb sb → pm_J me d al X k kx (pc + 3) L st w cb sb)
    (hc : vwCl[a]? = some (C, T, N)) (hb : N = b) (h1 : Cond.classLink (pm_pr me).1.cls ix C ∈ pm_tb) (h2 : Cond.instantiable C N ∈ pm_tb) (h3 : Cond.initialized C ∈ pm_tb)
    (h : pm_x me d al X k kx go pc (.new ix) a b 0 rs L st w cb sb) : pm_J me d al X k kx pc L st w cb sb := by
  cases al with
  | false => exact h.elim
  | true =>
    obtain ⟨⟨hcb, hsb⟩, h⟩ := h
    have h := pm_snoc_inv _ _ _ _ h
    intro p l e R s m args below meth c H locs cells slots dA D ad sa A ls F hP hD hS hz hl hn hcs hs
    obtain ⟨hx, htr, hbc, hml, hr, hlo, hown, hnm, hts, hex, hK, hA, hG, hfr, hlc, hX⟩ := id F
    have hKn := hK.1 a _ hc
    obtain ⟨hz0, hz2⟩ := hz rfl
    refine W.newcK hx hbc hown (hts _ h1) (hts _ h2) (hts _ h3) rfl hd (by omega) (by omega) hKn.2.1 rfl fun H1 kC hkC e1 z1 o1 => ?_
    have he : va_at D vwCl (ad (w.length + 1), pm_e dA ad (.inr (a, pm_df a))) H1 := by
      refine ⟨_, hc, (u_born (pm_ty a) hts (pm_cls hc).1 hKn hkC (by rw [← hz0]; exact e1) (pm_cls hc).2.1).to (fun j hj => ?_)⟩
      rw [(pm_cls hc).2.2.2 j hj]
      show vp_V (pm_df a) j = vp_V ((pm_df a).map (pm_v ad)) j
      unfold vp_V
      have key : ∀ v ∈ pm_df a, pm_v ad v = v := by
        intro v hv
        have h9 := pm_df_nr a v hv
        cases v <;> first | rfl | (simp [pm_nr] at h9)
      rw [List.map_congr_left (g := id) key, List.map_id]
    obtain ⟨g1, g2, g3⟩ := pm_grow hP hD hS hA hz0 z1 o1 he
    have hh := hN _ _ _ _ _ h p l e R s m args below meth c H1 locs (cells + 1) (slots + N) dA D ad sa A ls F g1 g2 g3 (fun _ => ⟨by rw [z1, hz0, List.length_append]; exact (hz2 _).symm, hz2⟩) hl hn (by omega) (by omega)
    rw [show 1 + w.length = w.length + 1 by omega] at hh
    have e9 : (Value.ref (w.length + 1) :: st).map (pm_v ad) = .ref H.size :: st.map (pm_v ad) := by rw [hz0]; rfl
    rw [e9] at hh
    exact hh
theorem pm_newa {ty : ArrayType} {ft : FieldType} (tag : Nat) (arr : vp_A) {t : List Value} (hd : decode (pm_pr me).2.1 pc = .ok (.newarray ty, 2)) (h1 : Cond.arrayClass (newarray.typeOf ty) ∈ pm_tb) (h2 : a ≤ 100000) (hft : newarray.typeOf ty = ft) (hby : componentBytes ft ≤ 8)
    (htag : ∀ dA : Nat → ClassId, (pm_tys dA)[tag]? = some (dA tag, ft)) (hra : ∀ (s : State) (cA : ClassId), va_RA s cA ft → s.vm.findClass ("[" ++ ft.toString) = some cA) (harr : ∀ cA : ClassId, vp_cell cA arr = arrV cA a (fun _ => defaultValue ft))
    (hcb : 1 ≤ cb) (hsb : a ≤ sb) (hJ : pm_J me d true X k kx (pc + 2) L (.ref (1 + w.length) :: t) (w ++ [.inl (tag, arr)]) (cb - 1) (sb - a)) : pm_J me d true X k kx pc L (.int (Int32.ofNat a) :: t) w cb sb := by
  intro p l e R s m args below meth c H locs cells slots dA D ad sa A ls F hP hD hS hz hl hn hcs hs
  obtain ⟨hx, htr, hbc, hml, hr, hlo, hown, hnm, hts, hex, hK, hA, hG, hfr, hlc, hX⟩ := id F
  obtain ⟨hz0, hz2⟩ := hz rfl
  refine va_newaK (N := a) hx hbc (hts _ h1) rfl hd rfl (nI_pos (n := a) (by omega)) (nI_clamp (n := a) (by omega)) ?_ (by omega) (by omega) rfl fun H1 cA e1 z1 o1 hAr hNm => ?_
  · rw [hft]
    exact Nat.le_trans (Nat.mul_le_mul_left a hby) (by omega)
  · rw [hft] at e1 hNm
    have hcA : cA = dA tag := Option.some.inj (hNm.symm.trans (hra _ _ (hK.2 tag _ (htag dA)).2))
    subst hcA
    have he : va_at D vwCl (ad (w.length + 1), pm_e dA ad (.inl (tag, arr))) H1 := by
      show H1[ad (w.length + 1)]? = some (vp_cell (dA tag) arr)
      rw [harr, ← hz0]
      exact e1
    obtain ⟨g1, g2, g3⟩ := pm_grow hP hD hS hA hz0 z1 o1 he
    have hh := hJ p l e R s m args below meth c H1 locs (cells + 1) (slots + a) dA D ad sa A ls F g1 g2 g3 (fun _ => ⟨by rw [z1, hz0, List.length_append]; exact (hz2 _).symm, hz2⟩) hl hn (by omega) (by omega)
    rw [show 1 + w.length = w.length + 1 by omega] at hh
    have e9 : (Value.ref (w.length + 1) :: t).map (pm_v ad) = .ref H.size :: t.map (pm_v ad) := by rw [hz0]; rfl
    rw [e9] at hh
    exact hh
theorem px_newarray {ty : ArrayType} (hd : decode (pm_pr me).2.1 pc = .ok (.newarray ty, 2)) (hN : ∀ L st w cb sb, go rs L st w cb sb → pm_J me d al X k kx (pc + 2) L st w cb sb) (h1 : Cond.arrayClass (newarray.typeOf ty) ∈ pm_tb) (h2 : a ≤ 100000)
    (h : pm_x me d al X k kx go pc (.newarray ty) a b c rs L st w cb sb) : pm_J me d al X k kx pc L st w cb sb := by
  cases al with
  | false => exact h.elim
  | true =>
    obtain ⟨n, t, rfl, ⟨rfl, hcb, hsb⟩, g⟩ := pm_i1_inv h
    cases ty with
    | int => exact pm_newa 0 (a, .inl (fun _ => 0)) hd h1 h2 rfl (by decide) (fun _ => rfl) (fun _ _ q => q) (fun _ => rfl) hcb hsb (hN _ _ _ _ _ (pm_snoc_inv _ _ _ _ g))
    | long => exact pm_newa 1 (a, .inr (.inl (fun _ => 0))) hd h1 h2 rfl (by decide) (fun _ => rfl) (fun _ _ q => q) (fun _ => rfl) hcb hsb (hN _ _ _ _ _ (pm_snoc_inv _ _ _ _ g))
    | boolean => exact pm_newa 2 (a, .inl (fun _ => 0)) hd h1 h2 rfl (by decide) (fun _ => rfl) (fun _ _ q => q) (fun _ => rfl) hcb hsb (hN _ _ _ _ _ (pm_snoc_inv _ _ _ _ g))
    | _ => exact g.elim
theorem pm_fit (n : Nat) : Bundle.fit (pm_en n) = true := by
  unfold pm_en
  split <;> decide +kernel
theorem px_throw {ix ic : Nat} {text : String} (hd : decode (pm_pr me).2.1 pc = .ok (.new ix, 3)) (d3 : decode (pm_pr me).2.1 (pc + 3) = .ok (.dup, 1)) (d4 : decode (pm_pr me).2.1 (pc + 4) = .ok (.ldc b, 2)) (d6 : decode (pm_pr me).2.1 (pc + 6) = .ok (.invokespecial (ic + 1), 3)) (d9 : decode (pm_pr me).2.1 (pc + 9) = .ok (.athrow, 1))
    (h1 : Cond.classLink (pm_pr me).1.cls ix (pm_en a) ∈ pm_tb) (h2 : Cond.initialized (pm_en a) ∈ pm_tb) (h3 : ∀ w ∈ vx_atS (pm_pr me).1.cls (ic + 1) (pm_en a) pm_nms, (w ∈ pm_tb ∨ w ∈ pm_nw) ∧ vx_ot w = true) (h4 : vx_ot (Cond.classLink (pm_pr me).1.cls ix (pm_en a)) = true) (h5 : vx_ot (Cond.initialized (pm_en a)) = true)
    (h6 : ((pm_pr me).1.cls, b, text) ∈ pm_ss) (h7 : (pm_pr me).2.2.2.2.1 = []) (h : pm_x me d al X k kx go pc (.new ix) a b (ic + 1) rs L st w cb sb) : pm_J me d al X k kx pc L st w cb sb := by
  have h8 : al = false ∧ pm_few st 8 = true ∧ (6 ≤ d ∧ 1 ≤ cb ∧ 6 ≤ sb) ∧ kx (pm_en a) w := by
    cases al with
    | true => exact h.elim
    | false =>
      have h0 : (match false, pm_few st 8 with
        | false, true => (6 ≤ d ∧ 1 ≤ cb ∧ 6 ≤ sb) ∧ kx (pm_en a) w
        | _, _ => False) := h
      cases hf : pm_few st 8 with
      | true => rw [hf] at h0; exact ⟨rfl, rfl, h0⟩
      | false => rw [hf] at h0; exact h0.elim
  clear h
  · obtain ⟨rfl, hfew, ⟨hd6, hcb, hsb⟩, hk⟩ := h8
    intro p l e R s m args below meth c H locs cells slots dA D ad sa A ls F hP hD hS hz hl hn hcs hs
    obtain ⟨hx, htr, hbc, hml, hr, hlo, hown, hnm, hts, hex, hK, hA, hG, hfr, hlc, hX⟩ := id F
    have hfew2 := pm_few_inv _ _ hfew
    refine vx_throwS (names := pm_nms) (sa := sa b) (A := A) hx hbc htr hown (pm_fit a) (by decide +kernel) (hts _ h1) (hts _ h2) (hG.2.1 _ h6) ?_ ?_ hG.2.2.2.1 hG.2.2.2.2 hS (hl.1.trans (hn.trans hml.symm)) hd d3 d4 d6 d9 ?_ ?_ ?_ (by omega) (by omega) hlo ?_ hS.2.2 (by omega) (by omega)
    · intro w9 hw9
      rcases (h3 w9 hw9).1 with q | q
      · exact hts _ q
      · exact va_tabs (pm_nw_ot q) rfl (hG.1 _ q)
    · intro w9 hw9
      rcases List.mem_cons.mp hw9 with q | q
      · rw [q]; exact h4
      · rcases List.mem_cons.mp q with q | q
        · rw [q]; exact h5
        · exact (h3 w9 q).2
    · rw [hex, h7]
      exact fun x hx => absurd hx List.not_mem_nil
    · show 2 + 3 < R.frames
      omega
    · rw [pm_cats]
      show _ + (13 * (2 + 1) + 43) ≤ R.locals
      omega
    · intro t hal hsz hsame
      refine ⟨⟨w, hk, hP.kept (fun k9 q9 hk9 => hsame _ ((hP k9 q9 hk9).lt)), hD, fun z => by cases X <;> cases z⟩, ?_⟩
      exact ⟨Nat.le_trans hS.1 hsz, fun q hq hA9 => (hsame q (Nat.lt_of_lt_of_le hq hS.1)).trans (hS.2.1 q hq hA9)⟩
end PMN
end
section
/-! SOUNDNESS: calls -/
theorem pm_tb_good {w : Cond} (h : w ∈ pm_tb) : (w.onTables && w.keeps) = true ∨ ∃ ty, w = .arrayClass ty := good_of_word (List.mem_filter.mp h).2
theorem pm_G.warm {sa : Nat → Nat} {A : Nat → Prop} {s U : State} {H : Heap} (hW : s.WarmedH U.vm) (h : pm_G sa A s H) : pm_G sa A U H := by
  obtain ⟨h1, h2, h3, h4, h5⟩ := h
  refine ⟨fun w hw => ?_, fun q hq => vk_R.warm hW (h2 q hq), h3.moved hW.alike, vx_Zq.moved hW.alike h4, vx_Zq.moved hW.alike h5⟩
  have g := h1 w hw
  have h9 := (List.mem_filter.mp hw).2
  cases w <;> first | exact va_Nw.warmF hW g | exact va_Nw.warmM hW g | exact va_Nw.warmC hW g | exact va_Nw.warmD hW g | (simp [pm_isN] at h9)
theorem pm_G.kept {sa : Nat → Nat} {A : Nat → Prop} {s : State} {H H1 : Heap} (h : pm_G sa A s H) (hq : ∀ a : Nat, a < H.size → ¬ A a → H1[a]? = H[a]?) : pm_G sa A s H1 := ⟨h.1, h.2.1, h.2.2.1, h.2.2.2.1.kept hq, h.2.2.2.2.kept hq⟩
theorem pm_G.narrow {sa : Nat → Nat} {A B : Nat → Prop} {s : State} {H : Heap} (h : pm_G sa A s H) (hAB : ∀ q, B q → A q) : pm_G sa B s H := ⟨h.1, h.2.1, h.2.2.1, h.2.2.2.1.narrow hAB, h.2.2.2.2.narrow hAB⟩
theorem pm_G.same {sa : Nat → Nat} {A : Nat → Prop} {s U : State} {H : Heap} (hv : U.vm = s.vm) (h : pm_G sa A s H) : pm_G sa A U H := by
  obtain ⟨h1, h2, h3, h4, h5⟩ := h
  have hal : s.vm.Alike U.vm := by rw [hv]; exact Vm.Alike.refl s.vm
  exact ⟨fun w hw => va_Nw.same (pm_nw_ot hw) hv.symm (h1 w hw), fun q hq => vk_R.same hv (h2 q hq), h3.moved hal, vx_Zq.moved hal h4, vx_Zq.moved hal h5⟩
section PMC
variable {p : Program} {l : Launch} {e : Env} {R : Room} {s : State} {m : MethodId} {args : Array Value} {below : List Frame} {meth : Method} {c : Code} {T : State} {locs : List Loc} {cells slots : Nat}
/-- an invocation's own step: the method is found, the entries are linked -/
def pm_Inv (p : Program) (l : Launch) (e : Env) (R : Room) (s : State) (m : MethodId) (args : Array Value) (below : List Frame) (meth : Method) (c : Code) (T : State) (locs : List Loc) (cells slots : Nat) (g : JFrame) (rest : List Value) (y : MethodName) (a : Array Value) : Prop :=
  ∃ (vm₁ : Vm) (mk : MethodId), Stand p l e R s m args below meth c (T.setVm vm₁) locs cells slots ∧ s.methodNamed? y = some mk ∧ ∀ target, (∀ acts, Steps p.tables e below (doInvoke e ((T.setVm vm₁).setTop { g with stack := rest }) acts mk a).1 target) → Steps p.tables e below (T.setTop g) target
/-- what the word on a method's code says of it -/
theorem pm_cc_spec {M : pm_M} {args : Array Value} {s : State} (h : (pm_cc M).before args s = true) : ∃ mk meth, s.methodNamed? M.1 = some mk ∧ s.vm.method? mk = some meth ∧ parseMethodDescriptor M.1.desc = some meth.sig := by
  obtain ⟨y, bytes, n, r, hh, rs⟩ := M
  cases hh with
  | nil =>
    have h : (Cond.code y bytes n r).before args s = true := h
    obtain ⟨mk, hn⟩ := Cond.code_named h
    obtain ⟨meth, c, h1, -, -, -, -, -, -, h8⟩ := Cond.code_spec hn h
    exact ⟨mk, meth, hn, h1, h8⟩
  | cons q t =>
    have h : (Cond.codeWith y bytes n r (q :: t)).before args s = true := h
    obtain ⟨mk, meth, c, h0, h1, -, -, -, -, -, -, h8⟩ := Cond.codeWith_spec h
    exact ⟨mk, meth, h0, h1, h8⟩
theorem pm_len_of {M : pm_M} {meth : Method} {n : Nat} (h : parseMethodDescriptor M.1.desc = some meth.sig) (hn : (parseMethodDescriptor M.1.desc).map (fun d => d.parameters.length) = some n) : n = meth.sig.parameters.length := by
  rw [h] at hn
  exact (Option.some.inj hn).symm
theorem pm_invV {M : pm_M} (X : Stand p l e R s m args below meth c T locs cells slots) (hexec : p.tables.exec = Jvm.exec) {own : String} {index n : Nat}
    (hown : s.vm.findClass own = some m.cls) (hlink : (Cond.methodLink own index M.1).before args s = true) (hinst : (Cond.instanceMethod M.1).before args s = true) (hsel : (Cond.selects M.1.cls M.1 M.1).before args s = true)
    (hcode : (pm_cc M).before args s = true) (hy : M.1.cls ≠ "java/lang/invoke/MethodHandle" ∧ M.1.cls ≠ "java/lang/invoke/VarHandle") (hn : (parseMethodDescriptor M.1.desc).map (fun d => d.parameters.length) = some n)
    {b : Addr} {cellB : Cell} (hcell : T.heap[b]? = some cellB) (hobj : cellB.vm.isStatics = false) (hcls : s.vm.findClass M.1.cls = some cellB.cls)
    {g : JFrame} (hg : g.method = m) {argsL rest : List Value} (hlen : argsL.length = n)
    (hstack : g.stack = argsL.reverse ++ .ref b :: rest) (hdg : decode c.code g.pc = .ok (.invokevirtual index, 3)) : pm_Inv p l e R s m args below meth c T locs cells slots g rest M.1 (Value.ref b :: argsL).toArray := by
  obtain ⟨mk, methM, hnamed, hmethM, hstM, habM⟩ := Cond.instanceMethod_spec hinst
  obtain ⟨mk', methM', hn', hmethM', hsigM⟩ := pm_cc_spec hcode
  cases hnamed.symm.trans hn'
  cases hmethM.symm.trans hmethM'
  obtain ⟨c2, r2, m2, q1, q2, q3, q4, kP, hkP, hkPi⟩ := Cond.selects_spec hsel
  cases hcls.symm.trans q1
  cases (State.methodFound?_of_named hnamed hy).symm.trans q2
  cases hnamed.symm.trans q3
  have hselP : selectMethod e.platform s.vm cellB.cls mk = .method mk := by rw [Launch.admits_selectMethod X.admits]; exact q4
  obtain ⟨vm₁, X₁, hstep₁⟩ := X.invokevirtual hexec hown hlink hnamed hmethM hstM hkP hkPi hy (a := b) (cell := cellB) hcell
    (fun z h => by rw [h] at hobj; cases hobj) hselP hmethM habM hkP hkPi (g := g) hg (argsL := argsL) (rest := rest) (hlen.trans (pm_len_of hsigM hn)) hstack hdg
  exact ⟨vm₁, mk, X₁, hnamed, hstep₁⟩
theorem pm_invS {M : pm_M} (X : Stand p l e R s m args below meth c T locs cells slots) (hexec : p.tables.exec = Jvm.exec) {own : String} {index n : Nat}
    (hown : s.vm.findClass own = some m.cls) (hlink : (Cond.methodLink own index M.1).before args s = true) (hstat : (Cond.static M.1).before args s = true) (hinit : (Cond.initialized M.1.cls).before args s = true)
    (hcode : (pm_cc M).before args s = true) (hy : M.1.cls ≠ "java/lang/invoke/MethodHandle" ∧ M.1.cls ≠ "java/lang/invoke/VarHandle") (hn : (parseMethodDescriptor M.1.desc).map (fun d => d.parameters.length) = some n)
    {g : JFrame} (hg : g.method = m) {argsL rest : List Value} (hlen : argsL.length = n)
    (hstack : g.stack = argsL.reverse ++ rest) (hdg : decode c.code g.pc = .ok (.invokestatic index, 3)) : pm_Inv p l e R s m args below meth c T locs cells slots g rest M.1 argsL.toArray := by
  obtain ⟨mk, methM, hnamed, hmethM, hsigM⟩ := pm_cc_spec hcode
  have hstatic : methM.isStatic = true := Cond.static_spec hnamed hmethM hstat
  obtain ⟨kP, hkP, -⟩ := className_of_methodNamed hnamed
  have hinitP : kP.init = .initialized := Cond.initialized_spec (findClass_of_methodNamed hnamed) hkP hinit
  obtain ⟨vm₁, X₁, hstep₁⟩ := X.invokestatic hexec hown hlink hnamed hmethM hstatic hkP hinitP hy (g := g) hg (argsL := argsL) (rest := rest) (hlen.trans (pm_len_of hsigM hn)) hstack hdg
  exact ⟨vm₁, mk, X₁, hnamed, hstep₁⟩
theorem pm_invI {y : MethodName} {bytes : ByteArray} {maxL : Nat} (X : Stand p l e R s m args below meth c T locs cells slots) (hexec : p.tables.exec = Jvm.exec) {own : String} {index n : Nat}
    (hown : s.vm.findClass own = some m.cls) (hy1 : y.name = "<init>") (hlink : (Cond.methodLink own index y).before args s = true ∨ ∃ host, (Cond.methodLinkNest own index y host).before args s = true) (hinst : (Cond.instanceMethod y).before args s = true)
    (hcode : (Cond.code y bytes maxL none).before args s = true) (hy : y.cls ≠ "java/lang/invoke/MethodHandle" ∧ y.cls ≠ "java/lang/invoke/VarHandle") (hn : (parseMethodDescriptor y.desc).map (fun d => d.parameters.length) = some n)
    {g : JFrame} (hg : g.method = m) {b : Addr} {argsL rest : List Value} (hlen : argsL.length = n)
    (hstack : g.stack = argsL.reverse ++ .ref b :: rest) (hdg : decode c.code g.pc = .ok (.invokespecial index, 3)) : pm_Inv p l e R s m args below meth c T locs cells slots g rest y (Value.ref b :: argsL).toArray := by
  subst hg
  have hpl : e.platform.magicAccessors = ({} : Platform).magicAccessors := by rw [X.admits.platform]
  have hlen2 : ∀ sig, parseMethodDescriptor y.desc = some sig → argsL.length = sig.parameters.length := fun sig h => by
    rw [h] at hn
    rw [hlen]; exact (Option.some.inj hn).symm
  rcases hlink with hlink | ⟨host, hlink⟩
  · obtain ⟨mk, methM, cM, kP, vm₁, hnamed, hmethM, hcodeM, -, hlocalsM, -, hkP, -, hW₁, hstep₁⟩ := Steps.initColdArgs (e := e) X.here hexec X.warmed hpl hown hy1 hy hlink hinst hcode (f := g) rfl hlen2 hstack hdg
    exact ⟨vm₁, mk, X.noted hW₁, hnamed, hstep₁⟩
  · obtain ⟨mk, methM, cM, kP, vm₁, hnamed, hmethM, hcodeM, -, hlocalsM, -, hkP, -, hW₁, hstep₁⟩ := Steps.initColdArgsNest (e := e) X.here hexec X.warmed hpl hown hy1 hy hlink hinst hcode (f := g) rfl hlen2 hstack hdg
    exact ⟨vm₁, mk, X.noted hW₁, hnamed, hstep₁⟩
/-- the run of a call: its own step, then the callee by its contract -/
theorem pm_vrun {H : Heap} {y : MethodName} {Pc : Array Value → State → Prop} {Qc : Array Value → State → Outcome → State → Prop} {XC : String → State → State → Prop} {mc ms : Nat} {free : Addr → Prop} {g : JFrame} {ig : Instr} {rest : List Value} {a : Array Value}
    (hK : vx_Back l R p e below s args y 3 8 (PreOf R mc ms Pc) (PostOf Qc mc ms free) (vx_Post XC mc ms free)) (hg : g.method = m) (hsize : g.locals.size = c.maxLocals) (hW : 2 * g.monitorRoom + (rest.map fun v => v.category).sum ≤ 8) (hdg : decode c.code g.pc = .ok (ig, 3))
    (hPc : ∀ U : State, U.heap = H → s.WarmedH U.vm → Pc a U) (hf : cells + mc ≤ R.cells ∧ slots + ms ≤ R.slots)
    (hi : ∀ T : State, T.heap = H → Stand p l e R s m args below meth c T locs cells slots → pm_Inv p l e R s m args below meth c T locs cells slots g rest y a) :
    vx_Run p l e R s m args below meth c H locs cells slots mc ms g rest (Qc a) XC free := by
  intro T hT X
  obtain ⟨vm₁, mk, X₁, hnamed, hstep₁⟩ := hi T hT X
  rcases hK m meth c ⟨T.setVm vm₁, locs, cells, slots⟩ { g with stack := rest } ig mk a X₁ hg hsize hdg hW (X₁.named hnamed) ⟨hf.1, hf.2, hPc (T.setVm vm₁) hT X₁.warmed⟩ with ⟨v, ⟨U', l2, c2, s2⟩, X', ⟨g', mk', t, L, e1, e2, hq, h1, hL, h2, h3⟩, hsteps⟩ | ⟨q, ⟨U', l2, c2, s2⟩, X', ⟨g', mk', t, L, E, ce, e1, e2, hq, hce, hcv, hcl, h1, hL, h2, h3⟩, hsteps⟩
  · dsimp only [Pt.U, Pt.locs, Pt.cells, Pt.slots] at X' e1 e2 h1 h2 h3 hsteps
    subst h1; subst h2; subst h3
    exact Or.inl ⟨v, (T.setVm vm₁).calling g' mk' a, t, U', L, hT, X', hL, e1, e2, hq, fun target h => hstep₁ _ fun acts => by rw [doInvoke_state]; exact hsteps.trans h⟩
  · dsimp only [Pt.U, Pt.locs, Pt.cells, Pt.slots] at X' e1 e2 h1 h2 h3 hsteps hcl
    subst h1; subst h2; subst h3
    exact Or.inr ⟨q, (T.setVm vm₁).calling g' mk' a, t, U', L, E, ce, hT, X', hL, e1, e2, hq, hce, hcv, vx_cls X₁.warmed hcl, hstep₁ _ fun acts => by rw [doInvoke_state]; exact hsteps⟩
end PMC
theorem pm_blind {dA : Nat → ClassId} {D : va_G} {ad sa : Nat → Nat} {al : Bool} {vs : List Value} {w : pm_D} {sz : Nat} : FrameBlind (pm_Pc dA D ad sa al vs w sz) := by
  intro a U g mk q
  obtain ⟨q0, q1, q2, q3, q4, q5, q6⟩ := q
  exact ⟨q0, q1, q2, va_K.moved (u := U) (U := U.calling g mk a) (Vm.Alike.refl U.vm) q3, q4, q5, pm_G.same (s := U) (U := U.calling g mk a) rfl q6⟩
/-- the contract of a callee, at a call -/
theorem pm_back {p : Program} {l : Launch} {e : Env} {R : Room} {s : State} {args : Array Value} {below : List Frame} {dA : Nat → ClassId} {D : va_G} {ad sa : Nat → Nat} {al : Bool} {vs : List Value} {w : pm_D} {sz a d : Nat} {k : pm_K} {kx : pm_X} (hC : pm_C a d al vs w k kx) (htr : l.stackTraces = false)
    (hts : ∀ w ∈ pm_tb, w.before args s = true) (hcc : pm_cc (pm_pr a) ∈ pm_tb) (hini : Cond.initialized (pm_pr a).1.cls ∈ pm_tb) (hml : (pm_pr a).2.2.1 ≤ 15) (hfr : d + 1 ≤ R.frames) (hlo : 34 * (d + 1) ≤ R.locals) :
    vx_Back l R p e below s args (pm_pr a).1 3 8 (PreOf R (pm_mc a).1 (pm_mc a).2 (pm_Pc dA D ad sa al vs w sz)) (PostOf (pm_Qc dA D ad (va_A (pm_pic dA ad w) sz) al k) (pm_mc a).1 (pm_mc a).2 (va_A (pm_pic dA ad w) sz)) (vx_Post (pm_XC dA D ad (va_A (pm_pic dA ad w) sz) al kx) (pm_mc a).1 (pm_mc a).2 (va_A (pm_pic dA ad w) sz)) := by
  have hM := hC l dA D ad sa sz htr
  have hws : ∀ w9 ∈ pm_ws a, ∀ (a' : Array Value) (U : State), s.WarmedH U.vm → w9.before a' U = true := by
    intro w9 hw9 a' U hW
    have hin : w9 ∈ pm_tb := (List.mem_cons.mp hw9).elim (fun q => by rw [q]; exact hcc) id
    exact word_at hW (pm_tb_good hin) (hts _ hin)
  have hini2 : ∀ (a' : Array Value) (U : State), s.WarmedH U.vm → (Cond.initialized (pm_pr a).1.cls).before a' U = true := fun a' U hW => word_at hW (pm_tb_good hini) (hts _ hini)
  have hin0 : pm_cc (pm_pr a) ∈ pm_ws a := List.mem_cons_self
  generalize hMe : pm_pr a = M at hM hin0 hini2 hml
  obtain ⟨y, bytes, n, r, hh, rs⟩ := M
  cases hh with
  | nil => exact vx_back (bytes := bytes) (maxL := n) (ret := r) hM pm_blind rfl rfl hfr (by show 8 + (n + 11) + 34 * d ≤ R.locals; dsimp only at hml; omega) hws hin0 hini2
  | cons q t => exact vx_backW (hh := q :: t) (bytes := bytes) (maxL := n) (ret := r) hM pm_blind rfl rfl hfr (by show 8 + (n + 11) + 34 * d ≤ R.locals; dsimp only at hml; omega) hws hin0 hini2
end
section
/-! SOUNDNESS: behind a call -/
theorem pm_castIA : Cond.castable pm_IA pm_IA ∈ pm_nw := by decide +kernel
theorem pm_castIO : Cond.castable pm_IO pm_IO ∈ pm_nw := by decide +kernel
theorem pm_castct (t : Nat) : Cond.castable (pm_ct t) (pm_ct t) ∈ pm_nw := by
  unfold pm_ct
  split
  · exact pm_castIA
  · exact pm_castIO
def pm_hck (M : pm_M) : Bool := M.2.2.2.2.1.all (fun q => decide (Cond.classLink M.1.cls q.2.2.2 (pm_ct q.2.2.2) ∈ pm_tb) && decide (q.2.2.2 ≠ 0))
set_option maxRecDepth 100000 in
theorem pm_hcks : pm_prs.all pm_hck = true := by decide +kernel
theorem pm_hok (me : Nat) : ∀ q ∈ (pm_pr me).2.2.2.2.1, Cond.classLink (pm_pr me).1.cls q.2.2.2 (pm_ct q.2.2.2) ∈ pm_tb ∧ q.2.2.2 ≠ 0 := by
  have h : pm_hck (pm_pr me) = true := by
    rcases pm_at_or pmL_law pm_prs me with h | h
    · exact List.all_eq_true.mp pm_hcks _ h
    · have h2 : pm_pr me = pmL_law := h
      rw [h2]
      exact List.all_eq_true.mp pm_hcks _ (by unfold pm_prs; simp only [List.mem_cons, true_or, or_true])
  intro q hq
  have h3 := List.all_eq_true.mp h q hq
  rw [Bool.and_eq_true, decide_eq_true_eq, decide_eq_true_eq] at h3
  exact h3
section PMB
variable {me d : Nat} {al : Bool} {X : Option (Nat × (Nat → Int32))} {k : pm_K} {kx : pm_X} {go : List pm_R → pm_V → List Value → pm_D → Nat → Nat → Prop} {pc a b cb sb : Nat} {rs : List pm_R} {L : pm_V} {w : pm_D}
variable {p : Program} {l : Launch} {e : Env} {R : Room} {s : State} {m : MethodId} {args : Array Value} {below : List Frame} {meth : Method} {c : Code} {H : Heap} {locs : List Loc} {cells slots : Nat} {dA : Nat → ClassId} {D : va_G} {ad sa : Nat → Nat} {A : Nat → Prop} {ls : Array Slot}
theorem pm_chW {Q : State → Prop} {E : String} {ce : Cell} {q : Addr} {rest : List Value} {gg : Nat → Prop} (F : pm_Fr me d X p l R s m args meth c dA D ad sa A) (hcell : H[q]? = some ce) (hv : ce.vm = .none) (hcl : s.vm.findClass E = some ce.cls)
    (hgo : ∀ hp, gg hp → W p l e R s m args below meth c H locs cells slots Q (F0 m hp ls [.ref q])) :
    ∀ (h2 h1 : List (Nat × Nat × Nat × Nat)), (pm_pr me).2.2.2.2.1 = h1 ++ h2 → (∀ z ∈ tableOf h1, covers z pc = false ∨ (z.catchType ≠ 0 ∧ ∃ nm : String, (Cond.classLink (pm_pr me).1.cls z.catchType nm).before args s = true ∧ va_Nc E nm s)) → pm_ch E pc gg h2 →
      vx_W p l e R s m args below meth c H locs cells slots Q (F0 m pc ls rest) q := by
  obtain ⟨hx, htr, hbc, hml, hr, hlo, hown, hnm, hts, hex, hK, hA, hG, hfr, hlc, hX⟩ := id F
  intro h2
  induction h2 with
  | nil => intro h1 _ _ h; exact h.elim
  | cons x t ih =>
    intro h1 hh hpass h
    obtain ⟨x1, x2, x3, x4⟩ := x
    have hmem : (x1, x2, x3, x4) ∈ (pm_pr me).2.2.2.2.1 := by rw [hh]; exact List.mem_append_right _ List.mem_cons_self
    obtain ⟨g1, g2⟩ := pm_hok me _ hmem
    unfold pm_ch at h
    cases hcov : (Nat.ble x1 pc && Nat.blt pc x2) with
    | false =>
      rw [hcov] at h
      refine ih (h1 ++ [(x1, x2, x3, x4)]) (by rw [hh, List.append_assoc]; rfl) ?_ h
      intro z hz
      unfold tableOf at hz
      rw [List.map_append] at hz
      rcases List.mem_append.mp hz with hz | hz
      · exact hpass z hz
      · rw [List.map_singleton, List.mem_singleton] at hz
        refine Or.inl ?_
        rw [hz]
        simp only [covers]
        simp only [Nat.blt, Bool.and_eq_false_iff] at hcov
        rcases hcov with hc | hc
        · have : ¬ x1 ≤ pc := fun z => by rw [Nat.ble_eq_true_of_le z] at hc; cases hc
          simp; omega
        · have : ¬ pc + 1 ≤ x2 := fun z => by rw [Nat.ble_eq_true_of_le z] at hc; cases hc
          simp; omega
    | true =>
      rw [hcov] at h
      obtain ⟨ha, hb⟩ := h
      have hcov2 : covers (⟨x1, x2, x3, x4⟩ : ExceptionTableEntry) pc = true := by
        simp only [Nat.blt, Bool.and_eq_true] at hcov
        have z1 := Nat.le_of_ble_eq_true hcov.1
        have z2 := Nat.le_of_ble_eq_true hcov.2
        simp only [covers]
        simp; omega
      by_cases hE : E = pm_ct x4
      · refine pm_catch (own := (pm_pr me).1.cls) (name := pm_ct x4) (E := E) hown (tableOf h1) ⟨x1, x2, x3, x4⟩ (tableOf t) ?_ hpass hcov2 g2 (hts _ g1) ?_ hcell hv hcl (hgo _ (ha hE))
        · rw [hex, hh]
          unfold tableOf
          rw [List.map_append]
          rfl
        · rw [hE]
          exact va_Nw.use rfl (hG.1 _ (pm_castct x4))
      · obtain ⟨⟨e1, e2⟩, hb⟩ := hb hE
        refine ih (h1 ++ [(x1, x2, x3, x4)]) (by rw [hh, List.append_assoc]; rfl) ?_ hb
        intro z hz
        unfold tableOf at hz
        rw [List.map_append] at hz
        rcases List.mem_append.mp hz with hz | hz
        · exact hpass z hz
        · rw [List.map_singleton, List.mem_singleton] at hz
          refine Or.inr ?_
          rw [hz]
          exact ⟨g2, pm_ct x4, hts _ g1, by rw [e1, e2]; exact hG.2.2.1⟩
/-- a handler begins: the exception is put away -/
theorem pm_hnW {cb2 sb2 : Nat} {w2 : pm_D} {q : Addr} {hp : Nat} (hJ : ∀ rs L st w cb sb, (∃ pre, (pm_pr me).2.2.2.2.2 = pre ++ rs) → go rs L st w cb sb → ∃ r t, rs = r :: t ∧ pm_J me d al X k kx r.1 L st w cb sb)
    (hrow : ∀ pre r t, (pm_pr me).2.2.2.2.2 = pre ++ r :: t → ∃ nx, pm_ck (pm_pr me) r nx = true ∧ ∀ q u, t = q :: u → q.1 = nx)
    (F : pm_Fr me d X p l R s m args meth c dA D ad sa A) (hP : va_P D vwCl (pm_pic dA ad w2) H) (hD : va_D A (pm_pic dA ad w2)) (hS : va_S A s.heap H locs) (hz : pm_Al al ad w2 H.size) (hl : lv_has ls L.length (pm_as ad 0 L)) (hn : L.length = (pm_pr me).2.2.1) (hcs : cells + cb2 ≤ R.cells) (hs : slots + sb2 ≤ R.slots)
    (h : pm_hn (pm_from (pm_pr me).2.2.2.2.2 hp) L (fun rs L => go rs L [] w2 cb2 sb2)) :
    W p l e R s m args below meth c H locs cells slots (vx_MQ below (pm_Qc dA D ad A (pm_qa al X) k) (pm_XC dA D ad A (pm_qa al X) kx) args s R.cells R.slots A) (F0 m hp ls [.ref q]) := by
  unfold pm_hn at h
  split at h
  · rename_i pc9 j h9 a9 b9 c9 rs9 hfrom
    obtain ⟨e1, pre, e2⟩ := pm_from_inv _ _ _ _ hfrom
    have e1 : pc9 = hp := e1
    subst e1
    obtain ⟨M, g1, hi, hM, h4⟩ := pm_st1_inv _ _ _ _ h
    obtain ⟨r, t, ht, hj⟩ := hJ _ _ _ _ _ _ ⟨pre ++ [_], by rw [e2, List.append_assoc]; rfl⟩ g1
    obtain ⟨nx, hck, hnx⟩ := hrow _ _ _ e2
    have hnx2 := hnx _ _ ht
    simp only [pm_ck, pm_len, pm_end, Bool.and_eq_true, decide_eq_true_eq, Bool.false_or] at hck
    have hd := of_decide_eq_true hck.1.1
    have hq9 : r.1 = pc9 + 1 := hnx2.trans (Nat.eq_of_beq_eq_true hck.1.2)
    rw [hq9] at hj
    refine lv_astore_n (x := q) (nL := L.length) F.1 F.2.2.1 hd rfl hl hi rfl (fun ls2 hl2 => ?_)
    exact hj p l e R s m args below meth c H locs cells slots dA D ad sa A ls2 F hP hD hS hz (pm_lst1 (o := none) hM (fun u hu => by cases hu) h4 hl2) (hM.trans hn) hcs hs
  · rename_i pc9 j h9 a9 b9 c9 rs9 hfrom
    obtain ⟨e1, pre, e2⟩ := pm_from_inv _ _ _ _ hfrom
    have e1 : pc9 = hp := e1
    subst e1
    obtain ⟨M, g1, hi, hM, h4⟩ := pm_st1_inv _ _ _ _ h
    obtain ⟨r, t, ht, hj⟩ := hJ _ _ _ _ _ _ ⟨pre ++ [_], by rw [e2, List.append_assoc]; rfl⟩ g1
    obtain ⟨nx, hck, hnx⟩ := hrow _ _ _ e2
    have hnx2 := hnx _ _ ht
    simp only [pm_ck, pm_len, pm_end, Bool.and_eq_true, decide_eq_true_eq, Bool.false_or] at hck
    have hd := of_decide_eq_true hck.1.1
    have hq9 : r.1 = pc9 + 2 := hnx2.trans (Nat.eq_of_beq_eq_true hck.1.2)
    rw [hq9] at hj
    refine lv_astore (x := q) (nL := L.length) F.1 F.2.2.1 hd hl hi rfl (fun ls2 hl2 => ?_)
    exact hj p l e R s m args below meth c H locs cells slots dA D ad sa A ls2 F hP hD hS hz (pm_lst1 (o := none) hM (fun u hu => by cases hu) h4 hl2) (hM.trans hn) hcs hs
  · exact h.elim
/-- behind a call -/
theorem pm_after {a9 : Array Value} {st0 : List Value} {mc ms : Nat} {t : List Value} {kk : pm_K} {kkx : pm_X} (hJ : ∀ rs L st w cb sb, (∃ pre, (pm_pr me).2.2.2.2.2 = pre ++ rs) → go rs L st w cb sb → ∃ r t, rs = r :: t ∧ pm_J me d al X k kx r.1 L st w cb sb)
    (hrow : ∀ pre r t, (pm_pr me).2.2.2.2.2 = pre ++ r :: t → ∃ nx, pm_ck (pm_pr me) r nx = true ∧ ∀ q u, t = q :: u → q.1 = nx)
    (F : pm_Fr me d X p l R s m args meth c dA D ad sa A) (hP : va_P D vwCl (pm_pic dA ad w) H) (hD : va_D A (pm_pic dA ad w)) (hS : va_S A s.heap H locs) (hl : lv_has ls L.length (pm_as ad 0 L)) (hn : L.length = (pm_pr me).2.2.1) (hcs : cells + cb ≤ R.cells) (hs : slots + sb ≤ R.slots) (hmc : mc ≤ cb) (hms : ms ≤ sb)
    (hr : vx_Run p l e R s m args below meth c H locs cells slots mc ms (F0 m pc ls st0) (t.map (pm_v ad)) (pm_Qc dA D ad (va_A (pm_pic dA ad w) H.size) al kk a9) (pm_XC dA D ad (va_A (pm_pic dA ad w) H.size) al kkx) (va_A (pm_pic dA ad w) H.size))
    (hk : ∀ v w2, kk v w2 → pm_ps v t (fun t => pm_J me d al X k kx (pc + 3) L t w2 (cb - mc) (sb - ms)))
    (hkx : ∀ E w2, kkx E w2 → (match (pm_pr me).2.2.2.2.1 with
          | [] => kx E w2
          | hh => pm_ch E pc (fun h => pm_hn (pm_from (pm_pr me).2.2.2.2.2 h) L (fun rs L => go rs L [] w2 (cb - mc) (sb - ms))) hh)) :
    W p l e R s m args below meth c H locs cells slots (vx_MQ below (pm_Qc dA D ad A (pm_qa al X) k) (pm_XC dA D ad A (pm_qa al X) kx) args s R.cells R.slots A) (F0 m pc ls st0) := by
  have hA1 : ∀ q, va_A (pm_pic dA ad w) H.size q → A q := by
    intro q h
    rcases h with ⟨j, e9, h⟩ | h
    · exact hD.2 j (q, e9) h
    · exact F.2.2.2.2.2.2.2.2.2.2.2.1 q (Nat.le_trans hS.1 h)
  intro T hT X0
  rcases hr T hT X0 with ⟨v, st₀, t9, T', L9, h0, X', hL, e1, e2, ⟨⟨v2, w2, hv, hkv, hP2, hD2, hz2⟩, hF⟩, st⟩ | ⟨q, st₀, t9, T', L9, E, ce, h0, X', hL, e1, e2, ⟨⟨w2, hkv, hP2, hD2, hz2⟩, hF⟩, hce, hcv, hcl, st⟩
  · obtain ⟨k1, k2, k3⟩ := vx_keep h0 e1 hS (fun q _ h => hA1 q h) hA1 hL hF
    have hq := hk v2 w2 hkv
    have hv : v = v2.map (pm_v ad) := Outcome.returned.inj hv
    subst hv
    rw [← e1] at hP2 hz2
    have hD3 := hD2.weaken (B := A) (fun _ q _ h => hA1 q.1 h)
    cases v2 with
    | none =>
      obtain ⟨t2, a1, b1⟩ := hq p l e R s m args below meth c T'.heap (locs ++ L9) (cells + mc) (slots + ms) dA D ad sa A ls F hP2 hD3 k3 hz2 hl hn (by omega) (by omega) T' rfl X'
      exact ⟨t2, st t2 a1, b1⟩
    | some u =>
      obtain ⟨t2, a1, b1⟩ := hq p l e R s m args below meth c T'.heap (locs ++ L9) (cells + mc) (slots + ms) dA D ad sa A ls F hP2 hD3 k3 hz2 hl hn (by omega) (by omega) T' rfl X'
      exact ⟨t2, st t2 a1, b1⟩
  · obtain ⟨k1, k2, k3⟩ := vx_keep h0 e1 hS (fun q _ h => hA1 q h) hA1 hL hF
    have hq := hkx E w2 hkv
    rw [← e1] at hP2 hz2
    have hD3 := hD2.weaken (B := A) (fun _ q _ h => hA1 q.1 h)
    have hce2 : T'.heap[q]? = some ce := by rw [e1]; exact hce
    have key : vx_W p l e R s m args below meth c T'.heap (locs ++ L9) (cells + mc) (slots + ms) (vx_MQ below (pm_Qc dA D ad A (pm_qa al X) k) (pm_XC dA D ad A (pm_qa al X) kx) args s R.cells R.slots A) (F0 m pc ls (t.map (pm_v ad))) q := by
      cases hh : (pm_pr me).2.2.2.2.1 with
      | nil =>
        rw [hh] at hq
        refine vx_out (E := E) (ce := ce) ?_ F.2.2.2.2.2.1 hce2 hcv hcl (fun t8 ht8 hal8 => ⟨⟨w2, hq, by rw [ht8]; exact hP2, hD3, by rw [ht8]; exact hz2.q⟩, k3.F ht8⟩) k3.2.2 (by omega) (by omega)
        rw [F.2.2.2.2.2.2.2.2.2.1, hh]
        exact fun x hx => absurd hx List.not_mem_nil
      | cons x8 t8 =>
        rw [hh] at hq
        exact pm_chW F hce2 hcv hcl (fun hp hg => pm_hnW hJ hrow F hP2 hD3 k3 hz2 hl hn (by omega) (by omega) hg) (x8 :: t8) [] hh (fun z hz => absurd hz List.not_mem_nil) hq
    obtain ⟨t2, a1, b1⟩ := key T' rfl X'
    exact ⟨t2, st.trans a1, b1⟩
end PMB
end
section
/-! SOUNDNESS: switches, calls, and all together -/
theorem pm_cs_inv {x : Int32} {df : Nat} {K : Nat → Prop} : ∀ (cs : List (Int32 × Nat)), pm_cs x df K cs → (∃ (j : Nat) (v : Int32) (t : Nat), cs[j]? = some (v, t) ∧ x = v ∧ K t) ∨ ((∀ q ∈ cs, x ≠ q.1) ∧ K df)
  | [], h => Or.inr ⟨fun q hq => absurd hq List.not_mem_nil, h⟩
  | (v, t) :: r, h => by
    by_cases hx : x = v
    · exact Or.inl ⟨0, v, t, rfl, hx, h.1 hx⟩
    · rcases pm_cs_inv r (h.2 hx) with ⟨j, v2, t2, h1, h2, h3⟩ | ⟨h1, h2⟩
      · exact Or.inl ⟨j + 1, v2, t2, by simpa using h1, h2, h3⟩
      · exact Or.inr ⟨fun q hq => (List.mem_cons.mp hq).elim (fun e => by rw [e]; exact hx) (h1 q), h2⟩
theorem pm_swk_get {pc : Nat} : ∀ (os : List Int) (cs : List (Int32 × Nat)) (lo : Int), pm_swk pc lo os cs = true → os.length = cs.length ∧ ∀ (j : Nat) (v : Int32) (t : Nat), cs[j]? = some (v, t) → v.toInt = lo + j ∧ ∃ o : Int, os[j]? = some o ∧ (pc : Int) + o = (t : Int)
  | [], [], lo, _ => ⟨rfl, fun j v t h => by simp at h⟩
  | o :: os, (v, t) :: cs, lo, h => by
    simp only [pm_swk, Bool.and_eq_true, decide_eq_true_eq] at h
    obtain ⟨h1, h2⟩ := pm_swk_get os cs (lo + 1) h.2
    refine ⟨by simp [h1], fun j v2 t2 hj => ?_⟩
    cases j with
    | zero =>
      simp at hj
      obtain ⟨e1, e2⟩ := hj
      subst e1; subst e2
      exact ⟨by simpa using h.1.1, o, rfl, h.1.2⟩
    | succ j =>
      obtain ⟨g1, o2, g2, g3⟩ := h2 j v2 t2 (by simpa using hj)
      exact ⟨by rw [g1]; omega, o2, by simpa using g2, g3⟩
  | [], _ :: _, lo, h => by simp [pm_swk] at h
  | _ :: _, [], lo, h => by simp [pm_swk] at h
section PMA
variable {me d : Nat} {al : Bool} {X : Option (Nat × (Nat → Int32))} {k : pm_K} {kx : pm_X} {go : List pm_R → pm_V → List Value → pm_D → Nat → Nat → Prop} {pc a b c cb sb : Nat} {rs : List pm_R} {L : pm_V} {st : List Value} {w : pm_D}
theorem px_tableswitch {df lo hi : Int} {offs : Array Int} {len : Nat} (hd : decode (pm_pr me).2.1 pc = .ok (.tableswitch df lo hi offs, len)) (hhi : hi + 1 = lo + (offs.size : Int)) (hk : pm_swk pc lo offs.toList (pm_sw a).1 = true) (hdf : (pc : Int) + df = ((pm_sw a).2 : Int))
    (hT : ∀ tg L st w cb sb, go (pm_from (pm_pr me).2.2.2.2.2 tg) L st w cb sb → pm_J me d al X k kx tg L st w cb sb) (h : pm_x me d al X k kx go pc (.tableswitch df lo hi offs) a b c rs L st w cb sb) : pm_J me d al X k kx pc L st w cb sb := by
  obtain ⟨x, t, rfl, g⟩ := pm_i1_inv h
  obtain ⟨hlen, hget⟩ := pm_swk_get _ _ _ hk
  have hsz : offs.size = (pm_sw a).1.length := by rw [← hlen, Array.length_toList]
  rcases pm_cs_inv _ g with ⟨j, v, tg, h1, rfl, h3⟩ | ⟨h1, h3⟩
  · obtain ⟨g1, o, g2, g3⟩ := hget j x tg h1
    have hj : j < (pm_sw a).1.length := (List.getElem?_eq_some_iff.mp h1).1
    have ho : offs[(x.toInt - lo).toNat]? = some o := by
      rw [g1, show (lo + (j : Int) - lo).toNat = j by omega, ← Array.getElem?_toList]
      exact g2
    exact pm_stk (hT _ _ _ _ _ _ h3) (fun _ _ _ _ _ _ _ _ _ _ _ _ _ _ _ _ ad hx hb hown hts hl q => lv_tableIn hx hb hd (by omega) (by omega) ho g3 q)
  · have hout : x.toInt < lo ∨ hi < x.toInt := by
      by_cases q1 : x.toInt < lo
      · exact Or.inl q1
      · by_cases q2 : hi < x.toInt
        · exact Or.inr q2
        · exfalso
          have hj : (x.toInt - lo).toNat < (pm_sw a).1.length := by omega
          rcases hq : (pm_sw a).1[(x.toInt - lo).toNat] with ⟨v, tg⟩
          have h9 : (pm_sw a).1[(x.toInt - lo).toNat]? = some (v, tg) := by rw [List.getElem?_eq_getElem hj, hq]
          obtain ⟨g1, -⟩ := hget _ v tg h9
          have hxv : x.toInt = v.toInt := by rw [g1]; omega
          exact h1 (v, tg) (List.mem_of_getElem? h9) (Int32.toInt_inj.mp hxv)
    exact pm_stk (hT _ _ _ _ _ _ h3) (fun _ _ _ _ _ _ _ _ _ _ _ _ _ _ _ _ ad hx hb hown hts hl q => lv_tableOut hx hb hd hout hdf q)
/-- a call, its own step given -/
theorem pm_callJ {ig : Instr} {vs t : List Value} {kk : pm_K} {kkx : pm_X} (hJ : ∀ rs L st w cb sb, (∃ pre, (pm_pr me).2.2.2.2.2 = pre ++ rs) → go rs L st w cb sb → ∃ r t, rs = r :: t ∧ pm_J me (d + 1) al X k kx r.1 L st w cb sb)
    (hrow : ∀ pre r t, (pm_pr me).2.2.2.2.2 = pre ++ r :: t → ∃ nx, pm_ck (pm_pr me) r nx = true ∧ ∀ q u, t = q :: u → q.1 = nx)
    (hd : decode (pm_pr me).2.1 pc = .ok (ig, 3)) (hcc : pm_cc (pm_pr a) ∈ pm_tb) (hini : Cond.initialized (pm_pr a).1.cls ∈ pm_tb) (hmx : (pm_pr a).2.2.1 ≤ 15) (hfew : pm_few t 8 = true) (hb : (pm_mc a).1 ≤ cb ∧ (pm_mc a).2 ≤ sb) (hC : pm_C a d al vs w kk kkx)
    (hk : ∀ v w2, kk v w2 → pm_ps v t (fun t => pm_J me (d + 1) al X k kx (pc + 3) L t w2 (cb - (pm_mc a).1) (sb - (pm_mc a).2)))
    (hkx : ∀ E w2, kkx E w2 → (match (pm_pr me).2.2.2.2.1 with
          | [] => kx E w2
          | hh => pm_ch E pc (fun h => pm_hn (pm_from (pm_pr me).2.2.2.2.2 h) L (fun rs L => go rs L [] w2 (cb - (pm_mc a).1) (sb - (pm_mc a).2))) hh))
    (hInv : ∀ (p : Program) (l : Launch) (e : Env) (R : Room) (s : State) (m : MethodId) (args : Array Value) (below : List Frame) (meth : Method) (c : Code) (H : Heap) (locs : List Loc) (cells slots : Nat) (dA : Nat → ClassId) (D : va_G) (ad sa : Nat → Nat) (A : Nat → Prop) (ls : Array Slot) (T : State),
      pm_Fr me (d + 1) X p l R s m args meth c dA D ad sa A → va_P D vwCl (pm_pic dA ad w) H → T.heap = H → Stand p l e R s m args below meth c T locs cells slots → pm_Inv p l e R s m args below meth c T locs cells slots (F0 m pc ls (st.map (pm_v ad))) (t.map (pm_v ad)) (pm_pr a).1 ((vs.map (pm_v ad)).toArray)) :
    pm_J me (d + 1) al X k kx pc L st w cb sb := by
  intro p l e R s m args below meth c H locs cells slots dA D ad sa A ls F hP hD hS hz hl hn hcs hs
  obtain ⟨hx, htr, hbc, hml, hr, hlo, hown, hnm, hts, hex, hK, hA, hG, hfr, hlc, hX⟩ := id F
  have hA1 : ∀ q, va_A (pm_pic dA ad w) H.size q → A q := by
    intro q h
    rcases h with ⟨j, e9, h⟩ | h
    · exact hD.2 j (q, e9) h
    · exact hA q (Nat.le_trans hS.1 h)
  refine pm_after hJ hrow F hP hD hS hl hn hcs hs hb.1 hb.2 (pm_vrun (ig := ig) (pm_back (sa := sa) (sz := H.size) hC htr hts hcc hini hmx hfr hlc) rfl (hl.1.trans (hn.trans hml.symm)) (lv_room (by rw [pm_cats]; exact pm_few_inv _ _ hfew)) (by rw [hbc]; exact hd) ?_ ⟨by omega, by omega⟩ (fun T hT XT => hInv p l e R s m args below meth c H locs cells slots dA D ad sa A ls T F hP hT XT)) hk hkx
  intro U hU hW
  refine ⟨rfl, by rw [hU], by rw [hU]; exact hP, va_K.moved hW.alike hK, hD.weaken (fun _ _ _ _ => trivial), hz, ?_⟩
  rw [hU]
  exact ((pm_G.warm hW hG).kept hS.2.1).narrow hA1
theorem px_invokestatic {ix : Nat} (hJ : ∀ rs L st w cb sb, (∃ pre, (pm_pr me).2.2.2.2.2 = pre ++ rs) → go rs L st w cb sb → ∃ r t, rs = r :: t ∧ pm_J me d al X k kx r.1 L st w cb sb)
    (hrow : ∀ pre r t, (pm_pr me).2.2.2.2.2 = pre ++ r :: t → ∃ nx, pm_ck (pm_pr me) r nx = true ∧ ∀ q u, t = q :: u → q.1 = nx)
    (hd : decode (pm_pr me).2.1 pc = .ok (.invokestatic ix, 3)) (hN : ∀ L st w cb sb, go rs L st w cb sb → pm_J me d al X k kx (pc + 3) L st w cb sb)
    (hcy : pm_cy (pm_pr a) b = true) (h1 : Cond.methodLink (pm_pr me).1.cls ix (pm_pr a).1 ∈ pm_tb) (h2 : Cond.static (pm_pr a).1 ∈ pm_tb)
    (h : pm_x me d al X k kx go pc (.invokestatic ix) a b c rs L st w cb sb) : pm_J me d al X k kx pc L st w cb sb := by
  cases d with
  | zero => exact h.elim
  | succ d =>
    obtain ⟨us, t, hus, rfl, g⟩ := pm_pop_inv _ _ _ _ h
    clear h
    cases hfew : pm_few t 8 with
    | false => rw [hfew] at g; exact g.elim
    | true =>
      rw [hfew] at g
      obtain ⟨hb, hC⟩ := g
      simp only [pm_cy, pm_mh, Bool.and_eq_true] at hcy
      obtain ⟨⟨⟨⟨y1, y2⟩, y3, y4⟩, y5⟩, y6⟩ := hcy
      refine pm_callJ hJ hrow hd (of_decide_eq_true y1) (of_decide_eq_true y2) (of_decide_eq_true y6) hfew hb hC (fun v w2 hv => ?_) (fun E w2 hv => hv) ?_
      · cases v with
        | none => exact hN _ _ _ _ _ hv
        | some u => exact hN _ _ _ _ _ hv
      · intro p l e R s m args below meth c H locs cells slots dA D ad sa A ls T F hP hT XT
        obtain ⟨hx, htr, hbc, hml, hr, hlo, hown, hnm, hts, hex, hK, hA, hG, hfr, hlc, hX⟩ := id F
        refine pm_invS (n := b) XT hx hown (hts _ h1) (hts _ h2) (hts _ (of_decide_eq_true y2)) (hts _ (of_decide_eq_true y1)) ⟨of_decide_eq_true y3, of_decide_eq_true y4⟩ (of_decide_eq_true y5) rfl (by simp [hus]) ?_ (by rw [hbc]; exact hd)
        show (us ++ t).map (pm_v ad) = _
        simp
theorem px_invokevirtual {ix n : Nat} {C : String} {Tc : u_T} {Nc : Nat} (hJ : ∀ rs L st w cb sb, (∃ pre, (pm_pr me).2.2.2.2.2 = pre ++ rs) → go rs L st w cb sb → ∃ r t, rs = r :: t ∧ pm_J me d al X k kx r.1 L st w cb sb)
    (hrow : ∀ pre r t, (pm_pr me).2.2.2.2.2 = pre ++ r :: t → ∃ nx, pm_ck (pm_pr me) r nx = true ∧ ∀ q u, t = q :: u → q.1 = nx)
    (hd : decode (pm_pr me).2.1 pc = .ok (.invokevirtual ix, 3)) (hN : ∀ L st w cb sb, go rs L st w cb sb → pm_J me d al X k kx (pc + 3) L st w cb sb)
    (hcy : pm_cy (pm_pr a) n = true) (h1 : Cond.methodLink (pm_pr me).1.cls ix (pm_pr a).1 ∈ pm_tb) (h2 : Cond.instanceMethod (pm_pr a).1 ∈ pm_tb) (h3 : Cond.selects (pm_pr a).1.cls (pm_pr a).1 (pm_pr a).1 ∈ pm_tb) (h4 : vwCl[c]? = some (C, Tc, Nc)) (h5 : C = (pm_pr a).1.cls)
    (h : pm_x me d al X k kx go pc (.invokevirtual ix) a (n + 1) c rs L st w cb sb) : pm_J me d al X k kx pc L st w cb sb := by
  cases d with
  | zero => exact h.elim
  | succ d =>
    obtain ⟨us, t, hus, rfl, g⟩ := pm_pop_inv _ _ _ _ h
    clear h
    rw [List.append_nil] at g
    generalize hvs : us.reverse = vs at g
    have hus2 : us = vs.reverse := by rw [← hvs, List.reverse_reverse]
    subst hus2
    cases hfew : pm_few t 8 with
    | false => rw [hfew] at g; exact g.elim
    | true =>
      rw [hfew] at g
      dsimp only at g
      split at g
      · rename_i q vs2
        obtain ⟨e9, he9, g2⟩ := pm_get_inv _ _ _ g
        clear g
        cases e9 with
        | inl x => exact g2.elim
        | inr x =>
          obtain ⟨ci, fs⟩ := x
          cases hq : Nat.beq ci c with
          | false => simp only [hq] at g2
          | true =>
            simp only [hq] at g2
            have hq := Nat.eq_of_beq_eq_true hq
            subst hq
            obtain ⟨hb, hC⟩ := g2
            simp only [pm_cy, pm_mh, Bool.and_eq_true] at hcy
            obtain ⟨⟨⟨⟨y1, y2⟩, y3, y4⟩, y5⟩, y6⟩ := hcy
            refine pm_callJ hJ hrow hd (of_decide_eq_true y1) (of_decide_eq_true y2) (of_decide_eq_true y6) hfew hb hC (fun v w2 hv => ?_) (fun E w2 hv => hv) ?_
            · cases v with
              | none => exact hN _ _ _ _ _ hv
              | some u => exact hN _ _ _ _ _ hv
            · intro p l e R s m args below meth c H locs cells slots dA D ad sa A ls T F hP hT XT
              obtain ⟨hx, htr, hbc, hml, hr, hlo, hown, hnm, hts, hex, hK, hA, hG, hfr, hlc, hX⟩ := id F
              obtain ⟨cell, c1, c2, c3⟩ := va_recv hK hP h4 (pm_pic_get (dA := dA) (ad := ad) he9)
              refine pm_invV (n := n) (argsL := vs2.map (pm_v ad)) XT hx hown (hts _ h1) (hts _ h2) (hts _ h3) (hts _ (of_decide_eq_true y1)) ⟨of_decide_eq_true y3, of_decide_eq_true y4⟩ (of_decide_eq_true y5) (b := ad (q + 1)) (cellB := cell) (by rw [hT]; exact c1) c2 (by rw [← h5]; exact c3) rfl (by simp at hus; simpa using hus) ?_ (by rw [hbc]; exact hd)
              show ((Value.ref (q + 1) :: vs2).reverse ++ t).map (pm_v ad) = _
              simp [pm_v]
      · exact g.elim
theorem px_invokespecial {ix n : Nat} (hJ : ∀ rs L st w cb sb, (∃ pre, (pm_pr me).2.2.2.2.2 = pre ++ rs) → go rs L st w cb sb → ∃ r t, rs = r :: t ∧ pm_J me d al X k kx r.1 L st w cb sb)
    (hrow : ∀ pre r t, (pm_pr me).2.2.2.2.2 = pre ++ r :: t → ∃ nx, pm_ck (pm_pr me) r nx = true ∧ ∀ q u, t = q :: u → q.1 = nx)
    (hd : decode (pm_pr me).2.1 pc = .ok (.invokespecial ix, 3)) (hN : ∀ L st w cb sb, go rs L st w cb sb → pm_J me d al X k kx (pc + 3) L st w cb sb) (hne : Nat.beq a 9999 = false) (hne2 : Nat.beq a 9998 = false)
    (hcy : pm_cy (pm_pr a) n = true) (h2 : Cond.instanceMethod (pm_pr a).1 ∈ pm_tb) (h3 : (pm_pr a).1.name = "<init>") (h4 : (pm_pr a).2.2.2.2.1 = []) (h5 : (pm_pr a).2.2.2.1 = none)
    (h1 : Cond.methodLink (pm_pr me).1.cls ix (pm_pr a).1 ∈ pm_tb ∨ Cond.methodLinkNest (pm_pr me).1.cls ix (pm_pr a).1 "SelectiveLink" ∈ pm_nw)
    (h : pm_x me d al X k kx go pc (.invokespecial ix) a (n + 1) c rs L st w cb sb) : pm_J me d al X k kx pc L st w cb sb := by
  dsimp only [pm_x] at h
  rw [hne] at h
  dsimp only at h
  rw [hne2] at h
  obtain ⟨us0, t0, hus0, hst0, g0⟩ := pm_pop_inv _ _ _ _ h
  clear h
  rw [List.append_nil] at g0
  generalize hvs0 : us0.reverse = vs0 at g0
  have hus20 : us0 = vs0.reverse := by rw [← hvs0, List.reverse_reverse]
  subst hus20
  split at g0
  · rename_i q0 vs2
    cases d with
    | zero => exact g0.elim
    | succ d =>
      obtain ⟨us, t, hus, hst, g⟩ := pm_pop_inv _ _ _ _ g0
      clear g0
      rw [List.append_nil] at g
      have hsame : us = (Value.ref q0 :: vs2).reverse ∧ t = t0 := by
        have h9 := hst.symm.trans hst0
        have hl9 : us.length = (Value.ref q0 :: vs2).reverse.length := by rw [hus, hus0]
        exact ⟨List.append_inj_left h9 hl9, List.append_inj_right h9 hl9⟩
      obtain ⟨rfl, rfl⟩ := hsame
      rw [List.reverse_reverse] at g
      subst hst
      clear hst0
      cases hfew : pm_few t 8 with
      | false => rw [hfew] at g; exact g.elim
      | true =>
        rw [hfew] at g
        obtain ⟨hb, hC⟩ := g
        simp only [pm_cy, pm_mh, Bool.and_eq_true] at hcy
        obtain ⟨⟨⟨⟨y1, y2⟩, y3, y4⟩, y5⟩, y6⟩ := hcy
        have hcc : pm_cc (pm_pr a) = Cond.code (pm_pr a).1 (pm_pr a).2.1 (pm_pr a).2.2.1 none := by
          unfold pm_cc
          rw [h4, h5]
        refine pm_callJ hJ hrow hd (of_decide_eq_true y1) (of_decide_eq_true y2) (of_decide_eq_true y6) hfew hb hC (fun v w2 hv => ?_) (fun E w2 hv => hv) ?_
        · cases v with
          | none => exact hN _ _ _ _ _ hv
          | some u => exact hN _ _ _ _ _ hv
        · intro p l e R s m args below meth c H locs cells slots dA D ad sa A ls T F hP hT XT
          obtain ⟨hx, htr, hbc, hml, hr, hlo, hown, hnm, hts, hex, hK, hA, hG, hfr, hlc, hX⟩ := id F
          refine pm_invI (n := n) (argsL := vs2.map (pm_v ad)) (b := ad q0) XT hx hown h3 (h1.imp (fun z => hts _ z) (fun z => ⟨_, va_Nw.use rfl (hG.1 _ z)⟩)) (hts _ h2) (by rw [← hcc]; exact hts _ (of_decide_eq_true y1)) ⟨of_decide_eq_true y3, of_decide_eq_true y4⟩ (of_decide_eq_true y5) rfl (by simp at hus; simpa using hus) ?_ (by rw [hbc]; exact hd)
          show ((Value.ref q0 :: vs2).reverse ++ t).map (pm_v ad) = _
          simp [pm_v]
  · exact g0.elim
theorem px_objInit {ix : Nat} (hd : decode (pm_pr me).2.1 pc = .ok (.invokespecial ix, 3)) (hN : ∀ L st w cb sb, go rs L st w cb sb → pm_J me d al X k kx (pc + 3) L st w cb sb) (hne : Nat.beq a 9999 = true)
    (h1 : Cond.methodLink (pm_pr me).1.cls ix Lib.objectInit ∈ pm_tb) (h2 : Cond.instanceMethod Lib.objectInit ∈ pm_tb) (h3 : Cond.code Lib.objectInit ⟨#[0xb1]⟩ 1 none ∈ pm_tb)
    (h : pm_x me d al X k kx go pc (.invokespecial ix) a b c rs L st w cb sb) : pm_J me d al X k kx pc L st w cb sb := by
  dsimp only [pm_x] at h
  rw [hne] at h
  obtain ⟨r, t, rfl, g⟩ := pm_r1_inv h
  clear h
  cases hfew : pm_few t 8 with
  | false => rw [hfew] at g; exact g.elim
  | true =>
    rw [hfew] at g
    obtain ⟨hd1, g⟩ := g
    intro p l e R s m args below meth c H locs cells slots dA D ad sa A ls F hP hD hS hz hl hn hcs hs
    obtain ⟨hx, htr, hbc, hml, hr, hlo, hown, hnm, hts, hex, hK, hA, hG, hfr, hlc, hX⟩ := id F
    have hf2 := pm_few_inv _ _ hfew
    refine W.objInit hx hbc hown (hts _ h1) (hts _ h2) (hts _ h3) rfl (hl.1.trans (hn.trans hml.symm)) rfl hd (by omega) ?_ ?_
    · show 2 * 0 + ((t.map (pm_v ad)).map fun v => v.category).sum + 12 ≤ R.locals
      rw [pm_cats]
      omega
    · exact hN _ _ _ _ _ g p l e R s m args below meth c H locs cells slots dA D ad sa A ls F hP hD hS hz hl hn hcs hs
end PMA

/-- ALL INSTRUCTIONS -/
theorem pm_and3 {x y z : Bool} (h : (x && y && z) = true) : (x = true ∧ y = true) ∧ z = true := by
  rw [Bool.and_eq_true, Bool.and_eq_true] at h
  exact h
theorem pm_and {x y : Bool} (h : (x && y) = true) : x = true ∧ y = true := by
  rw [Bool.and_eq_true] at h
  exact h
theorem pm_dc_inv {ε : Type} {x : Except ε (Instr × Nat)} {i : Instr} (h : pm_dc x i = true) : ∃ n, x = .ok (i, n) := by
  unfold pm_dc at h
  split at h
  · rename_i q
    exact ⟨q.2, by rw [← of_decide_eq_true h]⟩
  · cases h
end
section
/-! SOUNDNESS: the composition -/
set_option maxHeartbeats 4000000 in
set_option maxRecDepth 20000 in
theorem pm_x_ok {me d : Nat} {al : Bool} {X : Option (Nat × (Nat → Int32))} {k : pm_K} {kx : pm_X} {go : List pm_R → pm_V → List Value → pm_D → Nat → Nat → Prop} {pc a b c cb sb : Nat} {hh : Bool} {i : Instr} {pre rs : List pm_R} {L : pm_V} {st : List Value} {w : pm_D}
    (hJ : ∀ rs L st w cb sb, (∃ pre, (pm_pr me).2.2.2.2.2 = pre ++ rs) → go rs L st w cb sb → ∃ r t, rs = r :: t ∧ pm_J me d al X k kx r.1 L st w cb sb)
    (hrow : ∀ pre r t, (pm_pr me).2.2.2.2.2 = pre ++ r :: t → ∃ nx, pm_ck (pm_pr me) r nx = true ∧ ∀ q u, t = q :: u → q.1 = nx)
    (hpre : (pm_pr me).2.2.2.2.2 = pre ++ (pc, i, hh, a, b, c) :: rs) (h : pm_x me d al X k kx go pc i a b c rs L st w cb sb) : pm_J me d al X k kx pc L st w cb sb := by
  obtain ⟨nx, hck, hnx⟩ := hrow _ _ _ hpre
  have hN : ∀ n, nx = pc + n → ∀ L st w cb sb, go rs L st w cb sb → pm_J me d al X k kx (pc + n) L st w cb sb := by
    intro n hn L st w cb sb hg
    obtain ⟨r, t, e1, e2⟩ := hJ rs L st w cb sb ⟨pre ++ [(pc, i, hh, a, b, c)], by rw [hpre, List.append_assoc]; rfl⟩ hg
    rw [hnx r t e1, hn] at e2
    exact e2
  have hT : ∀ tg L st w cb sb, go (pm_from (pm_pr me).2.2.2.2.2 tg) L st w cb sb → pm_J me d al X k kx tg L st w cb sb := by
    intro tg L st w cb sb hg
    cases hf : pm_from (pm_pr me).2.2.2.2.2 tg with
    | nil =>
      rw [hf] at hg
      obtain ⟨r, t, e1, -⟩ := hJ [] L st w cb sb ⟨(pm_pr me).2.2.2.2.2, by rw [List.append_nil]⟩ hg
      cases e1
    | cons r t =>
      obtain ⟨e1, pre2, e2⟩ := pm_from_inv _ _ _ _ hf
      rw [hf] at hg
      obtain ⟨r2, t2, e3, e4⟩ := hJ (r :: t) L st w cb sb ⟨pre2, e2⟩ hg
      cases e3
      rw [e1] at e4
      exact e4
  cases i with
  | aload_n j =>
    obtain ⟨⟨h1, h2⟩, h3⟩ := pm_and3 hck
    exact px_aload_n (of_decide_eq_true h1) (hN 1 (Nat.eq_of_beq_eq_true h2)) h
  | aload j =>
    obtain ⟨⟨h1, h2⟩, h3⟩ := pm_and3 hck
    exact px_aload (of_decide_eq_true h1) (hN 2 (Nat.eq_of_beq_eq_true h2)) h
  | iload_n j =>
    obtain ⟨⟨h1, h2⟩, h3⟩ := pm_and3 hck
    exact px_iload_n (of_decide_eq_true h1) (hN 1 (Nat.eq_of_beq_eq_true h2)) h
  | iload j =>
    obtain ⟨⟨h1, h2⟩, h3⟩ := pm_and3 hck
    exact px_iload (of_decide_eq_true h1) (hN 2 (Nat.eq_of_beq_eq_true h2)) h
  | lload_n j =>
    obtain ⟨⟨h1, h2⟩, h3⟩ := pm_and3 hck
    exact px_lload_n (of_decide_eq_true h1) (hN 1 (Nat.eq_of_beq_eq_true h2)) h
  | lload j =>
    obtain ⟨⟨h1, h2⟩, h3⟩ := pm_and3 hck
    exact px_lload (of_decide_eq_true h1) (hN 2 (Nat.eq_of_beq_eq_true h2)) h
  | astore_n j =>
    obtain ⟨⟨h1, h2⟩, h3⟩ := pm_and3 hck
    exact px_astore_n (of_decide_eq_true h1) (hN 1 (Nat.eq_of_beq_eq_true h2)) h
  | astore j =>
    obtain ⟨⟨h1, h2⟩, h3⟩ := pm_and3 hck
    exact px_astore (of_decide_eq_true h1) (hN 2 (Nat.eq_of_beq_eq_true h2)) h
  | istore_n j =>
    obtain ⟨⟨h1, h2⟩, h3⟩ := pm_and3 hck
    exact px_istore_n (of_decide_eq_true h1) (hN 1 (Nat.eq_of_beq_eq_true h2)) h
  | istore j =>
    obtain ⟨⟨h1, h2⟩, h3⟩ := pm_and3 hck
    exact px_istore (of_decide_eq_true h1) (hN 2 (Nat.eq_of_beq_eq_true h2)) h
  | lstore_n j =>
    obtain ⟨⟨h1, h2⟩, h3⟩ := pm_and3 hck
    exact px_lstore_n (of_decide_eq_true h1) (hN 1 (Nat.eq_of_beq_eq_true h2)) h
  | lstore j =>
    obtain ⟨⟨h1, h2⟩, h3⟩ := pm_and3 hck
    exact px_lstore (of_decide_eq_true h1) (hN 2 (Nat.eq_of_beq_eq_true h2)) h
  | lconst j =>
    obtain ⟨⟨h1, h2⟩, h3⟩ := pm_and3 hck
    exact px_lconst (of_decide_eq_true h1) (hN 1 (Nat.eq_of_beq_eq_true h2)) h
  | iadd =>
    obtain ⟨⟨h1, h2⟩, h3⟩ := pm_and3 hck
    exact px_iadd (of_decide_eq_true h1) (hN 1 (Nat.eq_of_beq_eq_true h2)) h
  | isub =>
    obtain ⟨⟨h1, h2⟩, h3⟩ := pm_and3 hck
    exact px_isub (of_decide_eq_true h1) (hN 1 (Nat.eq_of_beq_eq_true h2)) h
  | imul =>
    obtain ⟨⟨h1, h2⟩, h3⟩ := pm_and3 hck
    exact px_imul (of_decide_eq_true h1) (hN 1 (Nat.eq_of_beq_eq_true h2)) h
  | iand =>
    obtain ⟨⟨h1, h2⟩, h3⟩ := pm_and3 hck
    exact px_iand (of_decide_eq_true h1) (hN 1 (Nat.eq_of_beq_eq_true h2)) h
  | ior =>
    obtain ⟨⟨h1, h2⟩, h3⟩ := pm_and3 hck
    exact px_ior (of_decide_eq_true h1) (hN 1 (Nat.eq_of_beq_eq_true h2)) h
  | ixor =>
    obtain ⟨⟨h1, h2⟩, h3⟩ := pm_and3 hck
    exact px_ixor (of_decide_eq_true h1) (hN 1 (Nat.eq_of_beq_eq_true h2)) h
  | ishl =>
    obtain ⟨⟨h1, h2⟩, h3⟩ := pm_and3 hck
    exact px_ishl (of_decide_eq_true h1) (hN 1 (Nat.eq_of_beq_eq_true h2)) h
  | ishr =>
    obtain ⟨⟨h1, h2⟩, h3⟩ := pm_and3 hck
    exact px_ishr (of_decide_eq_true h1) (hN 1 (Nat.eq_of_beq_eq_true h2)) h
  | iushr =>
    obtain ⟨⟨h1, h2⟩, h3⟩ := pm_and3 hck
    exact px_iushr (of_decide_eq_true h1) (hN 1 (Nat.eq_of_beq_eq_true h2)) h
  | idiv =>
    obtain ⟨⟨h1, h2⟩, h3⟩ := pm_and3 hck
    exact px_idiv (of_decide_eq_true h1) (hN 1 (Nat.eq_of_beq_eq_true h2)) h
  | irem =>
    obtain ⟨⟨h1, h2⟩, h3⟩ := pm_and3 hck
    exact px_irem (of_decide_eq_true h1) (hN 1 (Nat.eq_of_beq_eq_true h2)) h
  | land =>
    obtain ⟨⟨h1, h2⟩, h3⟩ := pm_and3 hck
    exact px_land (of_decide_eq_true h1) (hN 1 (Nat.eq_of_beq_eq_true h2)) h
  | lor =>
    obtain ⟨⟨h1, h2⟩, h3⟩ := pm_and3 hck
    exact px_lor (of_decide_eq_true h1) (hN 1 (Nat.eq_of_beq_eq_true h2)) h
  | lxor =>
    obtain ⟨⟨h1, h2⟩, h3⟩ := pm_and3 hck
    exact px_lxor (of_decide_eq_true h1) (hN 1 (Nat.eq_of_beq_eq_true h2)) h
  | lshl =>
    obtain ⟨⟨h1, h2⟩, h3⟩ := pm_and3 hck
    exact px_lshl (of_decide_eq_true h1) (hN 1 (Nat.eq_of_beq_eq_true h2)) h
  | lshr =>
    obtain ⟨⟨h1, h2⟩, h3⟩ := pm_and3 hck
    exact px_lshr (of_decide_eq_true h1) (hN 1 (Nat.eq_of_beq_eq_true h2)) h
  | lushr =>
    obtain ⟨⟨h1, h2⟩, h3⟩ := pm_and3 hck
    exact px_lushr (of_decide_eq_true h1) (hN 1 (Nat.eq_of_beq_eq_true h2)) h
  | i2l =>
    obtain ⟨⟨h1, h2⟩, h3⟩ := pm_and3 hck
    exact px_i2l (of_decide_eq_true h1) (hN 1 (Nat.eq_of_beq_eq_true h2)) h
  | l2i =>
    obtain ⟨⟨h1, h2⟩, h3⟩ := pm_and3 hck
    exact px_l2i (of_decide_eq_true h1) (hN 1 (Nat.eq_of_beq_eq_true h2)) h
  | lcmp =>
    obtain ⟨⟨h1, h2⟩, h3⟩ := pm_and3 hck
    exact px_lcmp (of_decide_eq_true h1) (hN 1 (Nat.eq_of_beq_eq_true h2)) h
  | dup =>
    obtain ⟨⟨h1, h2⟩, h3⟩ := pm_and3 hck
    exact px_dup (of_decide_eq_true h1) (hN 1 (Nat.eq_of_beq_eq_true h2)) h
  | dup2 =>
    obtain ⟨⟨h1, h2⟩, h3⟩ := pm_and3 hck
    exact px_dup2 (of_decide_eq_true h1) (hN 1 (Nat.eq_of_beq_eq_true h2)) h
  | pop2 =>
    obtain ⟨⟨h1, h2⟩, h3⟩ := pm_and3 hck
    exact px_pop2 (of_decide_eq_true h1) (hN 1 (Nat.eq_of_beq_eq_true h2)) h
  | iaload =>
    obtain ⟨⟨h1, h2⟩, h3⟩ := pm_and3 hck
    exact px_iaload (of_decide_eq_true h1) (hN 1 (Nat.eq_of_beq_eq_true h2)) h
  | baload =>
    obtain ⟨⟨h1, h2⟩, h3⟩ := pm_and3 hck
    exact px_baload (of_decide_eq_true h1) (hN 1 (Nat.eq_of_beq_eq_true h2)) h
  | laload =>
    obtain ⟨⟨h1, h2⟩, h3⟩ := pm_and3 hck
    exact px_laload (of_decide_eq_true h1) (hN 1 (Nat.eq_of_beq_eq_true h2)) h
  | iastore =>
    obtain ⟨⟨h1, h2⟩, h3⟩ := pm_and3 hck
    exact px_iastore (of_decide_eq_true h1) (hN 1 (Nat.eq_of_beq_eq_true h2)) h
  | bastore =>
    obtain ⟨⟨h1, h2⟩, h3⟩ := pm_and3 hck
    exact px_bastore (of_decide_eq_true h1) (hN 1 (Nat.eq_of_beq_eq_true h2)) h
  | lastore =>
    obtain ⟨⟨h1, h2⟩, h3⟩ := pm_and3 hck
    exact px_lastore (of_decide_eq_true h1) (hN 1 (Nat.eq_of_beq_eq_true h2)) h
  | arraylength =>
    obtain ⟨⟨h1, h2⟩, h3⟩ := pm_and3 hck
    exact px_arraylength (of_decide_eq_true h1) (hN 1 (Nat.eq_of_beq_eq_true h2)) h
  | iconst v =>
    obtain ⟨⟨h1, h2⟩, h3⟩ := pm_and3 hck
    exact px_iconst (of_decide_eq_true h1) (hN 1 (Nat.eq_of_beq_eq_true h2)) (of_decide_eq_true h3) h
  | bipush v =>
    obtain ⟨⟨h1, h2⟩, h3⟩ := pm_and3 hck
    exact px_bipush (of_decide_eq_true h1) (hN 2 (Nat.eq_of_beq_eq_true h2)) (of_decide_eq_true h3) h
  | sipush v =>
    obtain ⟨⟨h1, h2⟩, h3⟩ := pm_and3 hck
    exact px_sipush (of_decide_eq_true h1) (hN 3 (Nat.eq_of_beq_eq_true h2)) (of_decide_eq_true h3) h
  | iinc j v =>
    obtain ⟨⟨h1, h2⟩, h3⟩ := pm_and3 hck
    exact px_iinc (of_decide_eq_true h1) (hN 3 (Nat.eq_of_beq_eq_true h2)) (of_decide_eq_true h3) h
  | ldc v =>
    obtain ⟨⟨h1, h2⟩, h3⟩ := pm_and3 hck
    cases h9 : Nat.beq c 9 with
    | true =>
      dsimp only [pm_x] at h
      rw [h9] at h
      exact h.elim
    | false =>
      have h3 : (Nat.beq c 9 || decide (Cond.constant (pm_pr me).1.cls v (pm_c a c) ∈ pm_tb)) = true := h3
      rw [h9, Bool.false_or] at h3
      exact px_ldc (of_decide_eq_true h1) (hN 2 (Nat.eq_of_beq_eq_true h2)) (of_decide_eq_true h3) h9 h
  | ldc2_w v =>
    obtain ⟨⟨h1, h2⟩, h3⟩ := pm_and3 hck
    exact px_ldc2_w (of_decide_eq_true h1) (hN 3 (Nat.eq_of_beq_eq_true h2)) (of_decide_eq_true h3) h
  | if_icmp c0 off =>
    obtain ⟨⟨h1, h2⟩, h3⟩ := pm_and3 hck
    exact px_if_icmp (of_decide_eq_true h1) (hN 3 (Nat.eq_of_beq_eq_true h2)) hT (of_decide_eq_true h3) h
  | ifCond c0 off =>
    obtain ⟨⟨h1, h2⟩, h3⟩ := pm_and3 hck
    exact px_ifCond (of_decide_eq_true h1) (hN 3 (Nat.eq_of_beq_eq_true h2)) hT (of_decide_eq_true h3) h
  | goto off =>
    obtain ⟨⟨h1, h2⟩, h3⟩ := pm_and3 hck
    exact px_goto (of_decide_eq_true h1) hT (of_decide_eq_true h3) h
  | tableswitch df lo hi offs =>
    obtain ⟨⟨h1, h2⟩, h3⟩ := pm_and3 hck
    have h1 : (pm_dc (decode (pm_pr me).2.1 pc) (.tableswitch df lo hi offs) && decide (hi + 1 = lo + (offs.size : Int)) && pm_swk pc lo offs.toList (pm_sw a).1 && decide ((pc : Int) + df = ((pm_sw a).2 : Int))) = true := h1
    obtain ⟨⟨⟨g1, g2⟩, g3⟩, g4⟩ := (by simpa only [Bool.and_eq_true] using h1 : ((pm_dc (decode (pm_pr me).2.1 pc) (.tableswitch df lo hi offs) = true ∧ decide (hi + 1 = lo + (offs.size : Int)) = true) ∧ pm_swk pc lo offs.toList (pm_sw a).1 = true) ∧ decide ((pc : Int) + df = ((pm_sw a).2 : Int)) = true)
    obtain ⟨len, hd⟩ := pm_dc_inv g1
    exact px_tableswitch hd (of_decide_eq_true g2) g3 (of_decide_eq_true g4) hT h
  | getfield ix =>
    obtain ⟨⟨h1, h2⟩, h3⟩ := pm_and3 hck
    dsimp only at h3
    split at h3
    · rename_i C T N hc
      obtain ⟨h4, h6⟩ := pm_and h3
      obtain ⟨h4, h5⟩ := pm_and h4
      refine px_getfield (of_decide_eq_true h1) (hN 3 (Nat.eq_of_beq_eq_true h2)) hc (of_decide_eq_true h4) (of_decide_eq_true h5) ?_ h
      split at h6
      · exact Or.inl (of_decide_eq_true h6)
      · exact Or.inr (of_decide_eq_true h6)
    · cases h3
  | putfield ix =>
    obtain ⟨⟨h1, h2⟩, h3⟩ := pm_and3 hck
    dsimp only at h3
    split at h3
    · rename_i C T N hc
      obtain ⟨h4, h8⟩ := pm_and h3
      obtain ⟨h4, h7⟩ := pm_and h4
      obtain ⟨h4, h6⟩ := pm_and h4
      obtain ⟨h4, h5⟩ := pm_and h4
      have hb9 := of_decide_eq_true h4
      have hty := (pm_cls hc).2.1 b hb9
      refine px_putfield (ty := pm_ty a b) (of_decide_eq_true h1) (hN 3 (Nat.eq_of_beq_eq_true h2)) hc hb9 (of_decide_eq_true h5) (of_decide_eq_true h6) ?_ hty ?_ h
      · rw [Bool.or_eq_true, Bool.and_eq_true] at h7
        rcases h7 with h7 | h7
        · left
          cases hq : (T b).2.2.2 with
          | true => rw [hq] at h7; cases h7
          | false => rfl
        · exact Or.inr ⟨of_decide_eq_true h7.1, of_decide_eq_true h7.2⟩
      · rw [hty] at h8
        exact h8
    · cases h3
  | newarray ty =>
    obtain ⟨⟨h1, h2⟩, h3⟩ := pm_and3 hck
    obtain ⟨h4, h5⟩ := pm_and h3
    exact px_newarray (of_decide_eq_true h1) (hN 2 (Nat.eq_of_beq_eq_true h2)) (of_decide_eq_true h4) (of_decide_eq_true h5) h
  | new ix =>
    obtain ⟨⟨h1, h2⟩, h3⟩ := pm_and3 hck
    cases c with
    | zero =>
      have h3 : (match vwCl[a]? with
        | some (C, T, N) => Nat.beq N b && decide (Cond.classLink (pm_pr me).1.cls ix C ∈ pm_tb) && decide (Cond.instantiable C N ∈ pm_tb) && decide (Cond.initialized C ∈ pm_tb)
        | none => false) = true := h3
      split at h3
      · rename_i C T N hc
        obtain ⟨h4, h7⟩ := pm_and h3
        obtain ⟨h4, h6⟩ := pm_and h4
        obtain ⟨h4, h5⟩ := pm_and h4
        exact px_new (of_decide_eq_true h1) (hN 3 (Nat.eq_of_beq_eq_true h2)) hc (Nat.eq_of_beq_eq_true h4) (of_decide_eq_true h5) (of_decide_eq_true h6) (of_decide_eq_true h7) h
      · cases h3
    | succ ic =>
      obtain ⟨g, g11⟩ := pm_and h3
      obtain ⟨g, g10⟩ := pm_and g
      obtain ⟨g, g9⟩ := pm_and g
      obtain ⟨g, g8⟩ := pm_and g
      obtain ⟨g, g7⟩ := pm_and g
      obtain ⟨g, g6⟩ := pm_and g
      obtain ⟨g, g5⟩ := pm_and g
      obtain ⟨g, g4⟩ := pm_and g
      obtain ⟨g, g3⟩ := pm_and g
      obtain ⟨g1, g2⟩ := pm_and g
      obtain ⟨q, hq, hq2⟩ := List.any_eq_true.mp g10
      obtain ⟨q1, q2⟩ := pm_and hq2
      have e1 := of_decide_eq_true q1
      have e2 := Nat.eq_of_beq_eq_true q2
      obtain ⟨qa, qb, qc⟩ := q
      dsimp only at e1 e2
      subst e1; subst e2
      refine px_throw (of_decide_eq_true h1) (of_decide_eq_true g1) (of_decide_eq_true g2) (of_decide_eq_true g3) (of_decide_eq_true g4) (of_decide_eq_true g5) (of_decide_eq_true g6) ?_ g8 g9 hq (List.isEmpty_iff.mp g11) h
      intro w9 hw9
      obtain ⟨z1, z2⟩ := pm_and (List.all_eq_true.mp g7 w9 hw9)
      rw [Bool.or_eq_true] at z1
      exact ⟨z1.imp of_decide_eq_true of_decide_eq_true, z2⟩
  | invokestatic ix =>
    obtain ⟨⟨h1, h2⟩, h3⟩ := pm_and3 hck
    obtain ⟨h4, h6⟩ := pm_and h3
    obtain ⟨h4, h5⟩ := pm_and h4
    exact px_invokestatic hJ hrow (of_decide_eq_true h1) (hN 3 (Nat.eq_of_beq_eq_true h2)) h4 (of_decide_eq_true h5) (of_decide_eq_true h6) h
  | invokevirtual ix =>
    obtain ⟨⟨h1, h2⟩, h3⟩ := pm_and3 hck
    cases b with
    | zero => cases h3
    | succ n =>
      obtain ⟨g, g6⟩ := pm_and h3
      obtain ⟨g, g5⟩ := pm_and g
      obtain ⟨g, g4⟩ := pm_and g
      obtain ⟨g, g3⟩ := pm_and g
      obtain ⟨g1, g2⟩ := pm_and g
      dsimp only at g6
      split at g6
      · rename_i C T9 N9 hc
        exact px_invokevirtual hJ hrow (of_decide_eq_true h1) (hN 3 (Nat.eq_of_beq_eq_true h2)) g1 (of_decide_eq_true g2) (of_decide_eq_true g3) (of_decide_eq_true g4) hc (of_decide_eq_true g6) h
      · cases g6
  | invokespecial ix =>
    obtain ⟨⟨h1, h2⟩, h3⟩ := pm_and3 hck
    cases h9 : Nat.beq a 9999 with
    | true =>
      dsimp only at h3
      rw [h9] at h3
      obtain ⟨h4, h6⟩ := pm_and h3
      obtain ⟨h4, h5⟩ := pm_and h4
      exact px_objInit (of_decide_eq_true h1) (hN 3 (Nat.eq_of_beq_eq_true h2)) h9 (of_decide_eq_true h4) (of_decide_eq_true h5) (of_decide_eq_true h6) h
    | false =>
      dsimp only at h3
      rw [h9] at h3
      cases h8 : Nat.beq a 9998 with
      | true =>
        dsimp only [pm_x] at h
        rw [h9] at h
        dsimp only at h
        rw [h8] at h
        exact h.elim
      | false =>
        rw [h8] at h3
        cases b with
        | zero => cases h3
        | succ n =>
          obtain ⟨g, g6⟩ := pm_and h3
          obtain ⟨g, g5⟩ := pm_and g
          obtain ⟨g, g4⟩ := pm_and g
          obtain ⟨g, g3⟩ := pm_and g
          obtain ⟨g1, g2⟩ := pm_and g
          refine px_invokespecial hJ hrow (of_decide_eq_true h1) (hN 3 (Nat.eq_of_beq_eq_true h2)) h9 h8 g1 (of_decide_eq_true g2) (of_decide_eq_true g3) (List.isEmpty_iff.mp g4) (of_decide_eq_true g5) ?_ h
          split at g6
          · exact Or.inl (of_decide_eq_true g6)
          · exact Or.inr (of_decide_eq_true g6)
  | ireturn =>
    obtain ⟨⟨h1, h2⟩, h3⟩ := pm_and3 hck
    exact px_ireturn (of_decide_eq_true h1) h
  | lreturn =>
    obtain ⟨⟨h1, h2⟩, h3⟩ := pm_and3 hck
    exact px_lreturn (of_decide_eq_true h1) h
  | areturn =>
    obtain ⟨⟨h1, h2⟩, h3⟩ := pm_and3 hck
    exact px_areturn (of_decide_eq_true h1) h
  | return_ =>
    obtain ⟨⟨h1, h2⟩, h3⟩ := pm_and3 hck
    exact px_return (of_decide_eq_true h1) h
  | _ => exact h.elim
end
section
set_option maxRecDepth 100000 in
theorem k_pmX0_of : pm_cks pmX0_of pmX0_of.2.2.2.2.2 = true := by decide +kernel
set_option maxRecDepth 100000 in
theorem k_pmX0_kindOf : pm_cks pmX0_kindOf pmX0_kindOf.2.2.2.2.2 = true := by decide +kernel
set_option maxRecDepth 100000 in
theorem k_pmX0_numberOf : pm_cks pmX0_numberOf pmX0_numberOf.2.2.2.2.2 = true := by decide +kernel
set_option maxRecDepth 100000 in
theorem k_pmX0_wordOf : pm_cks pmX0_wordOf pmX0_wordOf.2.2.2.2.2 = true := by decide +kernel
set_option maxRecDepth 100000 in
theorem k_pmX0_mapOf : pm_cks pmX0_mapOf pmX0_mapOf.2.2.2.2.2 = true := by decide +kernel
set_option maxRecDepth 100000 in
theorem k_pmX0_checkSum : pm_cks pmX0_checkSum pmX0_checkSum.2.2.2.2.2 = true := by decide +kernel
set_option maxRecDepth 100000 in
theorem k_pmX0_withByte : pm_cks pmX0_withByte pmX0_withByte.2.2.2.2.2 = true := by decide +kernel
set_option maxRecDepth 100000 in
theorem k_pmX1_plus : pm_cks pmX1_plus pmX1_plus.2.2.2.2.2 = true := by decide +kernel
set_option maxRecDepth 100000 in
theorem k_pmX1_distance : pm_cks pmX1_distance pmX1_distance.2.2.2.2.2 = true := by decide +kernel
set_option maxRecDepth 100000 in
theorem k_pmX1_slotOf : pm_cks pmX1_slotOf pmX1_slotOf.2.2.2.2.2 = true := by decide +kernel
set_option maxRecDepth 100000 in
theorem k_pmX2_init : pm_cks pmX2_init pmX2_init.2.2.2.2.2 = true := by decide +kernel
set_option maxRecDepth 100000 in
theorem k_pmX2_clear : pm_cks pmX2_clear pmX2_clear.2.2.2.2.2 = true := by decide +kernel
set_option maxRecDepth 100000 in
theorem k_pmX2_accept : pm_cks pmX2_accept pmX2_accept.2.2.2.2.2 = true := by decide +kernel
set_option maxRecDepth 100000 in
theorem k_pmX2_acknowledgement : pm_cks pmX2_acknowledgement pmX2_acknowledgement.2.2.2.2.2 = true := by decide +kernel
set_option maxRecDepth 100000 in
theorem k_pmX2_behindGap : pm_cks pmX2_behindGap pmX2_behindGap.2.2.2.2.2 = true := by decide +kernel
set_option maxRecDepth 100000 in
theorem k_pmX2_deliveredCount : pm_cks pmX2_deliveredCount pmX2_deliveredCount.2.2.2.2.2 = true := by decide +kernel
set_option maxRecDepth 100000 in
theorem k_pmX2_keeps : pm_cks pmX2_keeps pmX2_keeps.2.2.2.2.2 = true := by decide +kernel
set_option maxRecDepth 100000 in
theorem k_pmX2_keptWord : pm_cks pmX2_keptWord pmX2_keptWord.2.2.2.2.2 = true := by decide +kernel
set_option maxRecDepth 100000 in
theorem k_pmX2_deliver : pm_cks pmX2_deliver pmX2_deliver.2.2.2.2.2 = true := by decide +kernel
set_option maxRecDepth 100000 in
theorem k_pmX3_init : pm_cks pmX3_init pmX3_init.2.2.2.2.2 = true := by decide +kernel
set_option maxRecDepth 100000 in
theorem k_pmX3_clear : pm_cks pmX3_clear pmX3_clear.2.2.2.2.2 = true := by decide +kernel
set_option maxRecDepth 100000 in
theorem k_pmX3_hasRoom : pm_cks pmX3_hasRoom pmX3_hasRoom.2.2.2.2.2 = true := by decide +kernel
set_option maxRecDepth 100000 in
theorem k_pmX3_takeWord : pm_cks pmX3_takeWord pmX3_takeWord.2.2.2.2.2 = true := by decide +kernel
set_option maxRecDepth 100000 in
theorem k_pmX3_sendAgain : pm_cks pmX3_sendAgain pmX3_sendAgain.2.2.2.2.2 = true := by decide +kernel
set_option maxRecDepth 100000 in
theorem k_pmX3_isGood : pm_cks pmX3_isGood pmX3_isGood.2.2.2.2.2 = true := by decide +kernel
set_option maxRecDepth 100000 in
theorem k_pmX3_acknowledge : pm_cks pmX3_acknowledge pmX3_acknowledge.2.2.2.2.2 = true := by decide +kernel
set_option maxRecDepth 100000 in
theorem k_pmX3_unacknowledged : pm_cks pmX3_unacknowledged pmX3_unacknowledged.2.2.2.2.2 = true := by decide +kernel
set_option maxRecDepth 100000 in
theorem k_pmX3_held : pm_cks pmX3_held pmX3_held.2.2.2.2.2 = true := by decide +kernel
set_option maxRecDepth 100000 in
theorem k_pmX3_frameOf : pm_cks pmX3_frameOf pmX3_frameOf.2.2.2.2.2 = true := by decide +kernel
set_option maxRecDepth 100000 in
theorem k_pmX3_isInMap : pm_cks pmX3_isInMap pmX3_isInMap.2.2.2.2.2 = true := by decide +kernel
set_option maxRecDepth 100000 in
theorem k_pmX3_mark : pm_cks pmX3_mark pmX3_mark.2.2.2.2.2 = true := by decide +kernel
set_option maxRecDepth 100000 in
theorem k_pmX3_moveBase : pm_cks pmX3_moveBase pmX3_moveBase.2.2.2.2.2 = true := by decide +kernel
set_option maxRecDepth 100000 in
theorem k_pmX4_init : pm_cks pmX4_init pmX4_init.2.2.2.2.2 = true := by decide +kernel
set_option maxRecDepth 100000 in
theorem k_pmX4_clear : pm_cks pmX4_clear pmX4_clear.2.2.2.2.2 = true := by decide +kernel
set_option maxRecDepth 100000 in
theorem k_pmX4_size : pm_cks pmX4_size pmX4_size.2.2.2.2.2 = true := by decide +kernel
set_option maxRecDepth 100000 in
theorem k_pmX4_isEmpty : pm_cks pmX4_isEmpty pmX4_isEmpty.2.2.2.2.2 = true := by decide +kernel
set_option maxRecDepth 100000 in
theorem k_pmX4_hasRoom : pm_cks pmX4_hasRoom pmX4_hasRoom.2.2.2.2.2 = true := by decide +kernel
set_option maxRecDepth 100000 in
theorem k_pmX4_bytesAt : pm_cks pmX4_bytesAt pmX4_bytesAt.2.2.2.2.2 = true := by decide +kernel
set_option maxRecDepth 100000 in
theorem k_pmX4_checkSumAt : pm_cks pmX4_checkSumAt pmX4_checkSumAt.2.2.2.2.2 = true := by decide +kernel
set_option maxRecDepth 100000 in
theorem k_pmX4_isOldestSound : pm_cks pmX4_isOldestSound pmX4_isOldestSound.2.2.2.2.2 = true := by decide +kernel
set_option maxRecDepth 100000 in
theorem k_pmX4_put : pm_cks pmX4_put pmX4_put.2.2.2.2.2 = true := by decide +kernel
set_option maxRecDepth 100000 in
theorem k_pmX4_takeOldest : pm_cks pmX4_takeOldest pmX4_takeOldest.2.2.2.2.2 = true := by decide +kernel
set_option maxRecDepth 100000 in
theorem k_pmX4_turnBitOfOldest : pm_cks pmX4_turnBitOfOldest pmX4_turnBitOfOldest.2.2.2.2.2 = true := by decide +kernel
set_option maxRecDepth 100000 in
theorem k_pmX4_doubleOldest : pm_cks pmX4_doubleOldest pmX4_doubleOldest.2.2.2.2.2 = true := by decide +kernel
set_option maxRecDepth 100000 in
theorem k_pmX4_moveOldestBack : pm_cks pmX4_moveOldestBack pmX4_moveOldestBack.2.2.2.2.2 = true := by decide +kernel
set_option maxRecDepth 100000 in
theorem k_pmX4_putBack : pm_cks pmX4_putBack pmX4_putBack.2.2.2.2.2 = true := by decide +kernel
set_option maxRecDepth 100000 in
theorem k_pmX4_placeOf : pm_cks pmX4_placeOf pmX4_placeOf.2.2.2.2.2 = true := by decide +kernel
end
section
set_option maxRecDepth 100000 in
theorem k_pmX5_init : pm_cks pmX5_init pmX5_init.2.2.2.2.2 = true := by decide +kernel
set_option maxRecDepth 100000 in
theorem k_pmX5_begin : pm_cks pmX5_begin pmX5_begin.2.2.2.2.2 = true := by decide +kernel
set_option maxRecDepth 100000 in
theorem k_pmX5_send : pm_cks pmX5_send pmX5_send.2.2.2.2.2 = true := by decide +kernel
set_option maxRecDepth 100000 in
theorem k_pmX5_tick : pm_cks pmX5_tick pmX5_tick.2.2.2.2.2 = true := by decide +kernel
set_option maxRecDepth 100000 in
theorem k_pmX5_comeToB : pm_cks pmX5_comeToB pmX5_comeToB.2.2.2.2.2 = true := by decide +kernel
set_option maxRecDepth 100000 in
theorem k_pmX5_comeToA : pm_cks pmX5_comeToA pmX5_comeToA.2.2.2.2.2 = true := by decide +kernel
set_option maxRecDepth 100000 in
theorem k_pmX5_lose : pm_cks pmX5_lose pmX5_lose.2.2.2.2.2 = true := by decide +kernel
set_option maxRecDepth 100000 in
theorem k_pmX5_change : pm_cks pmX5_change pmX5_change.2.2.2.2.2 = true := by decide +kernel
set_option maxRecDepth 100000 in
theorem k_pmX5_twice : pm_cks pmX5_twice pmX5_twice.2.2.2.2.2 = true := by decide +kernel
set_option maxRecDepth 100000 in
theorem k_pmX5_delay : pm_cks pmX5_delay pmX5_delay.2.2.2.2.2 = true := by decide +kernel
set_option maxRecDepth 100000 in
theorem k_pmX5_delivered : pm_cks pmX5_delivered pmX5_delivered.2.2.2.2.2 = true := by decide +kernel
set_option maxRecDepth 100000 in
theorem k_pmX5_word : pm_cks pmX5_word pmX5_word.2.2.2.2.2 = true := by decide +kernel
set_option maxRecDepth 100000 in
theorem k_pmX5_frame : pm_cks pmX5_frame pmX5_frame.2.2.2.2.2 = true := by decide +kernel
set_option maxRecDepth 100000 in
theorem k_pmX5_told : pm_cks pmX5_told pmX5_told.2.2.2.2.2 = true := by decide +kernel
set_option maxRecDepth 100000 in
theorem k_pmX5_sum : pm_cks pmX5_sum pmX5_sum.2.2.2.2.2 = true := by decide +kernel
set_option maxRecDepth 100000 in
theorem k_pmX5_restart : pm_cks pmX5_restart pmX5_restart.2.2.2.2.2 = true := by decide +kernel
set_option maxRecDepth 100000 in
theorem k_pmX5_wireOf : pm_cks pmX5_wireOf pmX5_wireOf.2.2.2.2.2 = true := by decide +kernel
set_option maxRecDepth 100000 in
theorem k_pmX5_isWithin : pm_cks pmX5_isWithin pmX5_isWithin.2.2.2.2.2 = true := by decide +kernel
end
section
set_option maxRecDepth 100000 in
theorem k_pmX6_init : pm_cks pmX6_init pmX6_init.2.2.2.2.2 = true := by decide +kernel
set_option maxRecDepth 100000 in
theorem k_pmX6_thrown : pm_cks pmX6_thrown pmX6_thrown.2.2.2.2.2 = true := by decide +kernel
set_option maxRecDepth 100000 in
theorem k_pmX6_begin : pm_cks pmX6_begin pmX6_begin.2.2.2.2.2 = true := by decide +kernel
set_option maxRecDepth 100000 in
theorem k_pmX6_crc : pm_cks pmX6_crc pmX6_crc.2.2.2.2.2 = true := by decide +kernel
set_option maxRecDepth 100000 in
theorem k_pmX6_sum : pm_cks pmX6_sum pmX6_sum.2.2.2.2.2 = true := by decide +kernel
set_option maxRecDepth 100000 in
theorem k_pmX6_at : pm_cks pmX6_at pmX6_at.2.2.2.2.2 = true := by decide +kernel
set_option maxRecDepth 100000 in
theorem k_pmX6_bytesAt : pm_cks pmX6_bytesAt pmX6_bytesAt.2.2.2.2.2 = true := by decide +kernel
set_option maxRecDepth 100000 in
theorem k_pmX6_put : pm_cks pmX6_put pmX6_put.2.2.2.2.2 = true := by decide +kernel
set_option maxRecDepth 100000 in
theorem k_pmX6_drop : pm_cks pmX6_drop pmX6_drop.2.2.2.2.2 = true := by decide +kernel
set_option maxRecDepth 100000 in
theorem k_pmX6_isGood : pm_cks pmX6_isGood pmX6_isGood.2.2.2.2.2 = true := by decide +kernel
set_option maxRecDepth 100000 in
theorem k_pmX6_far : pm_cks pmX6_far pmX6_far.2.2.2.2.2 = true := by decide +kernel
set_option maxRecDepth 100000 in
theorem k_pmX6_send : pm_cks pmX6_send pmX6_send.2.2.2.2.2 = true := by decide +kernel
set_option maxRecDepth 100000 in
theorem k_pmX6_tick : pm_cks pmX6_tick pmX6_tick.2.2.2.2.2 = true := by decide +kernel
set_option maxRecDepth 100000 in
theorem k_pmX6_hear : pm_cks pmX6_hear pmX6_hear.2.2.2.2.2 = true := by decide +kernel
set_option maxRecDepth 100000 in
theorem k_pmX6_comeToA : pm_cks pmX6_comeToA pmX6_comeToA.2.2.2.2.2 = true := by decide +kernel
set_option maxRecDepth 100000 in
theorem k_pmX6_comeToB : pm_cks pmX6_comeToB pmX6_comeToB.2.2.2.2.2 = true := by decide +kernel
set_option maxRecDepth 100000 in
theorem k_pmX6_noWire : pm_cks pmX6_noWire pmX6_noWire.2.2.2.2.2 = true := by decide +kernel
set_option maxRecDepth 100000 in
theorem k_pmX6_lose : pm_cks pmX6_lose pmX6_lose.2.2.2.2.2 = true := by decide +kernel
set_option maxRecDepth 100000 in
theorem k_pmX6_change : pm_cks pmX6_change pmX6_change.2.2.2.2.2 = true := by decide +kernel
set_option maxRecDepth 100000 in
theorem k_pmX6_twice : pm_cks pmX6_twice pmX6_twice.2.2.2.2.2 = true := by decide +kernel
set_option maxRecDepth 100000 in
theorem k_pmX6_delay : pm_cks pmX6_delay pmX6_delay.2.2.2.2.2 = true := by decide +kernel
set_option maxRecDepth 100000 in
theorem k_pmX6_delivered : pm_cks pmX6_delivered pmX6_delivered.2.2.2.2.2 = true := by decide +kernel
set_option maxRecDepth 100000 in
theorem k_pmX6_word : pm_cks pmX6_word pmX6_word.2.2.2.2.2 = true := by decide +kernel
set_option maxRecDepth 100000 in
theorem k_pmX6_frame : pm_cks pmX6_frame pmX6_frame.2.2.2.2.2 = true := by decide +kernel
set_option maxRecDepth 100000 in
theorem k_pmX6_told : pm_cks pmX6_told pmX6_told.2.2.2.2.2 = true := by decide +kernel
end
section
set_option maxRecDepth 100000 in
theorem k_pmL_begin : pm_cks pmL_begin pmL_begin.2.2.2.2.2 = true := by decide +kernel
set_option maxRecDepth 100000 in
theorem k_pmL_lose : pm_cks pmL_lose pmL_lose.2.2.2.2.2 = true := by decide +kernel
set_option maxRecDepth 100000 in
theorem k_pmL_change : pm_cks pmL_change pmL_change.2.2.2.2.2 = true := by decide +kernel
set_option maxRecDepth 100000 in
theorem k_pmL_twice : pm_cks pmL_twice pmL_twice.2.2.2.2.2 = true := by decide +kernel
set_option maxRecDepth 100000 in
theorem k_pmL_delay : pm_cks pmL_delay pmL_delay.2.2.2.2.2 = true := by decide +kernel
set_option maxRecDepth 100000 in
theorem k_pmL_word : pm_cks pmL_word pmL_word.2.2.2.2.2 = true := by decide +kernel
set_option maxRecDepth 100000 in
theorem k_pmL_frame : pm_cks pmL_frame pmL_frame.2.2.2.2.2 = true := by decide +kernel
set_option maxRecDepth 100000 in
theorem k_pmL_told : pm_cks pmL_told pmL_told.2.2.2.2.2 = true := by decide +kernel
end
section
def prL_law_0 : List pm_R := [(0, .new 8, false, 3, 4, 0), (3, .dup, false, 0, 0, 0), (4, .invokespecial 42, false, 47, 1, 0), (7, .astore_n 1, false, 0, 0, 0), (8, .new 43, false, 4, 20, 0), (11, .dup, false, 0, 0, 0), (12, .invokespecial 45, false, 65, 1, 0), (15, .astore_n 2, false, 0, 0, 0), (16, .iconst 1, false, 1, 0, 0), (17, .newarray .long, false, 1, 0, 0), (19, .astore_n 3, false, 0, 0, 0), (20, .iconst 0, false, 0, 0, 0), (21, .istore 4, false, 0, 0, 0), (23, .iload 4, true, 0, 0, 0), (25, .aload_n 0, false, 0, 0, 0), (26, .arraylength, false, 0, 0, 0), (27, .iconst 4, false, 4, 0, 0), (28, .isub, false, 0, 0, 0), (29, .if_icmp .gt 734, false, 763, 0, 0), (32, .aload_n 0, false, 0, 0, 0), (33, .iload 4, false, 0, 0, 0), (35, .iaload, false, 0, 0, 0), (36, .bipush 15, false, 15, 0, 0), (38, .iand, false, 0, 0, 0)]
set_option maxRecDepth 100000 in
theorem k_law_0 : pm_ckn pmL_law 39 prL_law_0 = true := by decide +kernel
def prL_law_1 : List pm_R := [(39, .tableswitch 718 0 13 #[69, 129, 154, 167, 180, 193, 256, 331, 394, 457, 470, 526, 605, 661], false, 1, 0, 0), (108, .aload_n 1, false, 0, 0, 0), (109, .aload_n 0, false, 0, 0, 0), (110, .iload 4, false, 0, 0, 0), (112, .iconst 1, false, 1, 0, 0), (113, .iadd, false, 0, 0, 0), (114, .iaload, false, 0, 0, 0), (115, .aload_n 0, false, 0, 0, 0), (116, .iload 4, false, 0, 0, 0), (118, .iconst 2, false, 2, 0, 0), (119, .iadd, false, 0, 0, 0), (120, .iaload, false, 0, 0, 0), (121, .aload_n 0, false, 0, 0, 0), (122, .iload 4, false, 0, 0, 0), (124, .iconst 3, false, 3, 0, 0), (125, .iadd, false, 0, 0, 0), (126, .iaload, false, 0, 0, 0), (127, .invokestatic 46, false, 90, 4, 0), (130, .istore 5, false, 0, 0, 0), (132, .aload_n 2, false, 0, 0, 0), (133, .aload_n 0, false, 0, 0, 0), (134, .iload 4, false, 0, 0, 0), (136, .iconst 1, false, 1, 0, 0), (137, .iadd, false, 0, 0, 0)]
set_option maxRecDepth 100000 in
theorem k_law_1 : pm_ckn pmL_law 138 prL_law_1 = true := by decide +kernel
def prL_law_2 : List pm_R := [(138, .iaload, false, 0, 0, 0), (139, .aload_n 0, false, 0, 0, 0), (140, .iload 4, false, 0, 0, 0), (142, .iconst 2, false, 2, 0, 0), (143, .iadd, false, 0, 0, 0), (144, .iaload, false, 0, 0, 0), (145, .aload_n 0, false, 0, 0, 0), (146, .iload 4, false, 0, 0, 0), (148, .iconst 3, false, 3, 0, 0), (149, .iadd, false, 0, 0, 0), (150, .iaload, false, 0, 0, 0), (151, .invokevirtual 51, false, 67, 4, 4), (154, .aload_n 2, false, 0, 0, 0), (155, .invokevirtual 52, false, 66, 1, 4), (158, .iload 5, false, 0, 0, 0), (160, .if_icmp .eq 5, false, 165, 0, 0), (163, .iconst 0, false, 0, 0, 0), (164, .ireturn, false, 0, 0, 0), (165, .goto 592, false, 757, 0, 0), (168, .aload_n 1, false, 0, 0, 0), (169, .aload_n 0, false, 0, 0, 0), (170, .iload 4, false, 0, 0, 0), (172, .iconst 1, false, 1, 0, 0), (173, .iadd, false, 0, 0, 0)]
set_option maxRecDepth 100000 in
theorem k_law_2 : pm_ckn pmL_law 174 prL_law_2 = true := by decide +kernel
def prL_law_3 : List pm_R := [(174, .iaload, false, 0, 0, 0), (175, .invokevirtual 56, false, 49, 2, 3), (178, .aload_n 2, false, 0, 0, 0), (179, .aload_n 0, false, 0, 0, 0), (180, .iload 4, false, 0, 0, 0), (182, .iconst 1, false, 1, 0, 0), (183, .iadd, false, 0, 0, 0), (184, .iaload, false, 0, 0, 0), (185, .invokevirtual 59, false, 76, 2, 4), (188, .if_icmp .eq 569, false, 757, 0, 0), (191, .iconst 0, false, 0, 0, 0), (192, .ireturn, false, 0, 0, 0), (193, .aload_n 1, false, 0, 0, 0), (194, .invokevirtual 60, false, 50, 1, 3), (197, .aload_n 2, false, 0, 0, 0), (198, .invokevirtual 63, false, 77, 1, 4), (201, .if_icmp .eq 556, false, 757, 0, 0), (204, .iconst 0, false, 0, 0, 0), (205, .ireturn, false, 0, 0, 0), (206, .aload_n 1, false, 0, 0, 0), (207, .invokevirtual 64, false, 51, 1, 3), (210, .aload_n 2, false, 0, 0, 0), (211, .invokevirtual 67, false, 80, 1, 4), (214, .if_icmp .eq 543, false, 757, 0, 0)]
set_option maxRecDepth 100000 in
theorem k_law_3 : pm_ckn pmL_law 217 prL_law_3 = true := by decide +kernel
def prL_law_4 : List pm_R := [(217, .iconst 0, false, 0, 0, 0), (218, .ireturn, false, 0, 0, 0), (219, .aload_n 1, false, 0, 0, 0), (220, .invokevirtual 68, false, 52, 1, 3), (223, .aload_n 2, false, 0, 0, 0), (224, .invokevirtual 71, false, 79, 1, 4), (227, .if_icmp .eq 530, false, 757, 0, 0), (230, .iconst 0, false, 0, 0, 0), (231, .ireturn, false, 0, 0, 0), (232, .aload_n 1, false, 0, 0, 0), (233, .aload_n 0, false, 0, 0, 0), (234, .iload 4, false, 0, 0, 0), (236, .iconst 1, false, 1, 0, 0), (237, .iadd, false, 0, 0, 0), (238, .iaload, false, 0, 0, 0), (239, .aload_n 3, false, 0, 0, 0), (240, .invokestatic 72, false, 91, 3, 0), (243, .istore 5, false, 0, 0, 0), (245, .aload_n 2, false, 0, 0, 0), (246, .aload_n 0, false, 0, 0, 0), (247, .iload 4, false, 0, 0, 0), (249, .iconst 1, false, 1, 0, 0), (250, .iadd, false, 0, 0, 0), (251, .iaload, false, 0, 0, 0)]
set_option maxRecDepth 100000 in
theorem k_law_4 : pm_ckn pmL_law 252 prL_law_4 = true := by decide +kernel
end
section
def prL_law_5 : List pm_R := [(252, .invokevirtual 75, false, 82, 2, 4), (255, .istore 6, false, 0, 0, 0), (257, .aload_n 2, false, 0, 0, 0), (258, .invokevirtual 52, false, 66, 1, 4), (261, .iload 5, false, 0, 0, 0), (263, .if_icmp .eq 5, false, 268, 0, 0), (266, .iconst 0, false, 0, 0, 0), (267, .ireturn, false, 0, 0, 0), (268, .iload 5, false, 0, 0, 0), (270, .ifCond .ne 22, false, 292, 0, 0), (273, .aload_n 3, false, 0, 0, 0), (274, .iconst 0, false, 0, 0, 0), (275, .laload, false, 0, 0, 0), (276, .iload 6, false, 0, 0, 0), (278, .ifCond .eq 7, false, 285, 0, 0), (281, .lconst 1, false, 0, 0, 0), (282, .goto 4, false, 286, 0, 0), (285, .lconst 0, false, 0, 0, 0), (286, .lcmp, false, 0, 0, 0), (287, .ifCond .eq 5, false, 292, 0, 0), (290, .iconst 0, false, 0, 0, 0), (291, .ireturn, false, 0, 0, 0), (292, .goto 465, false, 757, 0, 0), (295, .aload_n 1, false, 0, 0, 0)]
set_option maxRecDepth 100000 in
theorem k_law_5 : pm_ckn pmL_law 296 prL_law_5 = true := by decide +kernel
def prL_law_6 : List pm_R := [(296, .aload_n 0, false, 0, 0, 0), (297, .iload 4, false, 0, 0, 0), (299, .iconst 1, false, 1, 0, 0), (300, .iadd, false, 0, 0, 0), (301, .iaload, false, 0, 0, 0), (302, .aload_n 0, false, 0, 0, 0), (303, .iload 4, false, 0, 0, 0), (305, .iconst 2, false, 2, 0, 0), (306, .iadd, false, 0, 0, 0), (307, .iaload, false, 0, 0, 0), (308, .aload_n 3, false, 0, 0, 0), (309, .invokestatic 76, false, 92, 4, 0), (312, .istore 5, false, 0, 0, 0), (314, .aload_n 2, false, 0, 0, 0), (315, .aload_n 0, false, 0, 0, 0), (316, .iload 4, false, 0, 0, 0), (318, .iconst 1, false, 1, 0, 0), (319, .iadd, false, 0, 0, 0), (320, .iaload, false, 0, 0, 0), (321, .aload_n 0, false, 0, 0, 0), (322, .iload 4, false, 0, 0, 0), (324, .iconst 2, false, 2, 0, 0), (325, .iadd, false, 0, 0, 0), (326, .iaload, false, 0, 0, 0)]
set_option maxRecDepth 100000 in
theorem k_law_6 : pm_ckn pmL_law 327 prL_law_6 = true := by decide +kernel
def prL_law_7 : List pm_R := [(327, .invokevirtual 79, false, 83, 3, 4), (330, .istore 6, false, 0, 0, 0), (332, .aload_n 2, false, 0, 0, 0), (333, .invokevirtual 52, false, 66, 1, 4), (336, .iload 5, false, 0, 0, 0), (338, .if_icmp .eq 5, false, 343, 0, 0), (341, .iconst 0, false, 0, 0, 0), (342, .ireturn, false, 0, 0, 0), (343, .iload 5, false, 0, 0, 0), (345, .ifCond .ne 22, false, 367, 0, 0), (348, .aload_n 3, false, 0, 0, 0), (349, .iconst 0, false, 0, 0, 0), (350, .laload, false, 0, 0, 0), (351, .iload 6, false, 0, 0, 0), (353, .ifCond .eq 7, false, 360, 0, 0), (356, .lconst 1, false, 0, 0, 0), (357, .goto 4, false, 361, 0, 0), (360, .lconst 0, false, 0, 0, 0), (361, .lcmp, false, 0, 0, 0), (362, .ifCond .eq 5, false, 367, 0, 0), (365, .iconst 0, false, 0, 0, 0), (366, .ireturn, false, 0, 0, 0), (367, .goto 390, false, 757, 0, 0), (370, .aload_n 1, false, 0, 0, 0)]
set_option maxRecDepth 100000 in
theorem k_law_7 : pm_ckn pmL_law 371 prL_law_7 = true := by decide +kernel
def prL_law_8 : List pm_R := [(371, .aload_n 0, false, 0, 0, 0), (372, .iload 4, false, 0, 0, 0), (374, .iconst 1, false, 1, 0, 0), (375, .iadd, false, 0, 0, 0), (376, .iaload, false, 0, 0, 0), (377, .aload_n 3, false, 0, 0, 0), (378, .invokestatic 80, false, 93, 3, 0), (381, .istore 5, false, 0, 0, 0), (383, .aload_n 2, false, 0, 0, 0), (384, .aload_n 0, false, 0, 0, 0), (385, .iload 4, false, 0, 0, 0), (387, .iconst 1, false, 1, 0, 0), (388, .iadd, false, 0, 0, 0), (389, .iaload, false, 0, 0, 0), (390, .invokevirtual 82, false, 84, 2, 4), (393, .istore 6, false, 0, 0, 0), (395, .aload_n 2, false, 0, 0, 0), (396, .invokevirtual 52, false, 66, 1, 4), (399, .iload 5, false, 0, 0, 0), (401, .if_icmp .eq 5, false, 406, 0, 0), (404, .iconst 0, false, 0, 0, 0), (405, .ireturn, false, 0, 0, 0), (406, .iload 5, false, 0, 0, 0), (408, .ifCond .ne 22, false, 430, 0, 0)]
set_option maxRecDepth 100000 in
theorem k_law_8 : pm_ckn pmL_law 411 prL_law_8 = true := by decide +kernel
def prL_law_9 : List pm_R := [(411, .aload_n 3, false, 0, 0, 0), (412, .iconst 0, false, 0, 0, 0), (413, .laload, false, 0, 0, 0), (414, .iload 6, false, 0, 0, 0), (416, .ifCond .eq 7, false, 423, 0, 0), (419, .lconst 1, false, 0, 0, 0), (420, .goto 4, false, 424, 0, 0), (423, .lconst 0, false, 0, 0, 0), (424, .lcmp, false, 0, 0, 0), (425, .ifCond .eq 5, false, 430, 0, 0), (428, .iconst 0, false, 0, 0, 0), (429, .ireturn, false, 0, 0, 0), (430, .goto 327, false, 757, 0, 0), (433, .aload_n 1, false, 0, 0, 0), (434, .aload_n 0, false, 0, 0, 0), (435, .iload 4, false, 0, 0, 0), (437, .iconst 1, false, 1, 0, 0), (438, .iadd, false, 0, 0, 0), (439, .iaload, false, 0, 0, 0), (440, .aload_n 3, false, 0, 0, 0), (441, .invokestatic 83, false, 94, 3, 0), (444, .istore 5, false, 0, 0, 0), (446, .aload_n 2, false, 0, 0, 0), (447, .aload_n 0, false, 0, 0, 0)]
set_option maxRecDepth 100000 in
theorem k_law_9 : pm_ckn pmL_law 448 prL_law_9 = true := by decide +kernel
end
section
def prL_law_10 : List pm_R := [(448, .iload 4, false, 0, 0, 0), (450, .iconst 1, false, 1, 0, 0), (451, .iadd, false, 0, 0, 0), (452, .iaload, false, 0, 0, 0), (453, .invokevirtual 85, false, 85, 2, 4), (456, .istore 6, false, 0, 0, 0), (458, .aload_n 2, false, 0, 0, 0), (459, .invokevirtual 52, false, 66, 1, 4), (462, .iload 5, false, 0, 0, 0), (464, .if_icmp .eq 5, false, 469, 0, 0), (467, .iconst 0, false, 0, 0, 0), (468, .ireturn, false, 0, 0, 0), (469, .iload 5, false, 0, 0, 0), (471, .ifCond .ne 22, false, 493, 0, 0), (474, .aload_n 3, false, 0, 0, 0), (475, .iconst 0, false, 0, 0, 0), (476, .laload, false, 0, 0, 0), (477, .iload 6, false, 0, 0, 0), (479, .ifCond .eq 7, false, 486, 0, 0), (482, .lconst 1, false, 0, 0, 0), (483, .goto 4, false, 487, 0, 0), (486, .lconst 0, false, 0, 0, 0), (487, .lcmp, false, 0, 0, 0), (488, .ifCond .eq 5, false, 493, 0, 0)]
set_option maxRecDepth 100000 in
theorem k_law_10 : pm_ckn pmL_law 491 prL_law_10 = true := by decide +kernel
def prL_law_11 : List pm_R := [(491, .iconst 0, false, 0, 0, 0), (492, .ireturn, false, 0, 0, 0), (493, .goto 264, false, 757, 0, 0), (496, .aload_n 1, false, 0, 0, 0), (497, .invokevirtual 86, false, 57, 1, 3), (500, .aload_n 2, false, 0, 0, 0), (501, .invokevirtual 89, false, 86, 1, 4), (504, .if_icmp .eq 253, false, 757, 0, 0), (507, .iconst 0, false, 0, 0, 0), (508, .ireturn, false, 0, 0, 0), (509, .aload_n 1, false, 0, 0, 0), (510, .aload_n 0, false, 0, 0, 0), (511, .iload 4, false, 0, 0, 0), (513, .iconst 1, false, 1, 0, 0), (514, .iadd, false, 0, 0, 0), (515, .iaload, false, 0, 0, 0), (516, .aload_n 3, false, 0, 0, 0), (517, .invokestatic 90, false, 95, 3, 0), (520, .istore 5, false, 0, 0, 0), (522, .aload_n 2, false, 0, 0, 0), (523, .aload_n 0, false, 0, 0, 0), (524, .iload 4, false, 0, 0, 0), (526, .iconst 1, false, 1, 0, 0), (527, .iadd, false, 0, 0, 0)]
set_option maxRecDepth 100000 in
theorem k_law_11 : pm_ckn pmL_law 528 prL_law_11 = true := by decide +kernel
def prL_law_12 : List pm_R := [(528, .iaload, false, 0, 0, 0), (529, .invokevirtual 92, false, 87, 2, 4), (532, .istore 6, false, 0, 0, 0), (534, .aload_n 2, false, 0, 0, 0), (535, .invokevirtual 52, false, 66, 1, 4), (538, .iload 5, false, 0, 0, 0), (540, .if_icmp .eq 5, false, 545, 0, 0), (543, .iconst 0, false, 0, 0, 0), (544, .ireturn, false, 0, 0, 0), (545, .iload 5, false, 0, 0, 0), (547, .ifCond .ne 15, false, 562, 0, 0), (550, .aload_n 3, false, 0, 0, 0), (551, .iconst 0, false, 0, 0, 0), (552, .laload, false, 0, 0, 0), (553, .iload 6, false, 0, 0, 0), (555, .i2l, false, 0, 0, 0), (556, .lcmp, false, 0, 0, 0), (557, .ifCond .eq 5, false, 562, 0, 0), (560, .iconst 0, false, 0, 0, 0), (561, .ireturn, false, 0, 0, 0), (562, .goto 195, false, 757, 0, 0), (565, .aload_n 1, false, 0, 0, 0), (566, .aload_n 0, false, 0, 0, 0), (567, .iload 4, false, 0, 0, 0)]
set_option maxRecDepth 100000 in
theorem k_law_12 : pm_ckn pmL_law 569 prL_law_12 = true := by decide +kernel
def prL_law_13 : List pm_R := [(569, .iconst 1, false, 1, 0, 0), (570, .iadd, false, 0, 0, 0), (571, .iaload, false, 0, 0, 0), (572, .aload_n 0, false, 0, 0, 0), (573, .iload 4, false, 0, 0, 0), (575, .iconst 2, false, 2, 0, 0), (576, .iadd, false, 0, 0, 0), (577, .iaload, false, 0, 0, 0), (578, .aload_n 0, false, 0, 0, 0), (579, .iload 4, false, 0, 0, 0), (581, .iconst 3, false, 3, 0, 0), (582, .iadd, false, 0, 0, 0), (583, .iaload, false, 0, 0, 0), (584, .aload_n 3, false, 0, 0, 0), (585, .invokestatic 93, false, 96, 5, 0), (588, .istore 5, false, 0, 0, 0), (590, .aload_n 2, false, 0, 0, 0), (591, .aload_n 0, false, 0, 0, 0), (592, .iload 4, false, 0, 0, 0), (594, .iconst 1, false, 1, 0, 0), (595, .iadd, false, 0, 0, 0), (596, .iaload, false, 0, 0, 0), (597, .aload_n 0, false, 0, 0, 0), (598, .iload 4, false, 0, 0, 0)]
set_option maxRecDepth 100000 in
theorem k_law_13 : pm_ckn pmL_law 600 prL_law_13 = true := by decide +kernel
def prL_law_14 : List pm_R := [(600, .iconst 2, false, 2, 0, 0), (601, .iadd, false, 0, 0, 0), (602, .iaload, false, 0, 0, 0), (603, .aload_n 0, false, 0, 0, 0), (604, .iload 4, false, 0, 0, 0), (606, .iconst 3, false, 3, 0, 0), (607, .iadd, false, 0, 0, 0), (608, .iaload, false, 0, 0, 0), (609, .invokevirtual 96, false, 88, 4, 4), (612, .lstore 6, false, 0, 0, 0), (614, .aload_n 2, false, 0, 0, 0), (615, .invokevirtual 52, false, 66, 1, 4), (618, .iload 5, false, 0, 0, 0), (620, .if_icmp .eq 5, false, 625, 0, 0), (623, .iconst 0, false, 0, 0, 0), (624, .ireturn, false, 0, 0, 0), (625, .iload 5, false, 0, 0, 0), (627, .ifCond .ne 14, false, 641, 0, 0), (630, .aload_n 3, false, 0, 0, 0), (631, .iconst 0, false, 0, 0, 0), (632, .laload, false, 0, 0, 0), (633, .lload 6, false, 0, 0, 0), (635, .lcmp, false, 0, 0, 0), (636, .ifCond .eq 5, false, 641, 0, 0)]
set_option maxRecDepth 100000 in
theorem k_law_14 : pm_ckn pmL_law 639 prL_law_14 = true := by decide +kernel
end
section
def prL_law_15 : List pm_R := [(639, .iconst 0, false, 0, 0, 0), (640, .ireturn, false, 0, 0, 0), (641, .goto 116, false, 757, 0, 0), (644, .aload_n 1, false, 0, 0, 0), (645, .aload_n 0, false, 0, 0, 0), (646, .iload 4, false, 0, 0, 0), (648, .iconst 1, false, 1, 0, 0), (649, .iadd, false, 0, 0, 0), (650, .iaload, false, 0, 0, 0), (651, .aload_n 3, false, 0, 0, 0), (652, .invokestatic 97, false, 97, 3, 0), (655, .istore 5, false, 0, 0, 0), (657, .aload_n 2, false, 0, 0, 0), (658, .aload_n 0, false, 0, 0, 0), (659, .iload 4, false, 0, 0, 0), (661, .iconst 1, false, 1, 0, 0), (662, .iadd, false, 0, 0, 0), (663, .iaload, false, 0, 0, 0), (664, .invokevirtual 99, false, 89, 2, 4), (667, .istore 6, false, 0, 0, 0), (669, .aload_n 2, false, 0, 0, 0), (670, .invokevirtual 52, false, 66, 1, 4), (673, .iload 5, false, 0, 0, 0), (675, .if_icmp .eq 5, false, 680, 0, 0)]
set_option maxRecDepth 100000 in
theorem k_law_15 : pm_ckn pmL_law 678 prL_law_15 = true := by decide +kernel
def prL_law_16 : List pm_R := [(678, .iconst 0, false, 0, 0, 0), (679, .ireturn, false, 0, 0, 0), (680, .iload 5, false, 0, 0, 0), (682, .ifCond .ne 15, false, 697, 0, 0), (685, .aload_n 3, false, 0, 0, 0), (686, .iconst 0, false, 0, 0, 0), (687, .laload, false, 0, 0, 0), (688, .iload 6, false, 0, 0, 0), (690, .i2l, false, 0, 0, 0), (691, .lcmp, false, 0, 0, 0), (692, .ifCond .eq 5, false, 697, 0, 0), (695, .iconst 0, false, 0, 0, 0), (696, .ireturn, false, 0, 0, 0), (697, .goto 60, false, 757, 0, 0), (700, .aload_n 1, false, 0, 0, 0), (701, .aload_n 0, false, 0, 0, 0), (702, .iload 4, false, 0, 0, 0), (704, .iconst 1, false, 1, 0, 0), (705, .iadd, false, 0, 0, 0), (706, .iaload, false, 0, 0, 0), (707, .i2l, false, 0, 0, 0), (708, .bipush 32, false, 32, 0, 0), (710, .lshl, false, 0, 0, 0), (711, .aload_n 0, false, 0, 0, 0)]
set_option maxRecDepth 100000 in
theorem k_law_16 : pm_ckn pmL_law 712 prL_law_16 = true := by decide +kernel
def prL_law_17 : List pm_R := [(712, .iload 4, false, 0, 0, 0), (714, .iconst 2, false, 2, 0, 0), (715, .iadd, false, 0, 0, 0), (716, .iaload, false, 0, 0, 0), (717, .i2l, false, 0, 0, 0), (718, .ldc2_w 100, false, 4294967295, 0, 0), (721, .land, false, 0, 0, 0), (722, .lor, false, 0, 0, 0), (723, .invokevirtual 102, false, 61, 2, 3), (726, .aload_n 2, false, 0, 0, 0), (727, .aload_n 0, false, 0, 0, 0), (728, .iload 4, false, 0, 0, 0), (730, .iconst 1, false, 1, 0, 0), (731, .iadd, false, 0, 0, 0), (732, .iaload, false, 0, 0, 0), (733, .i2l, false, 0, 0, 0), (734, .bipush 32, false, 32, 0, 0), (736, .lshl, false, 0, 0, 0), (737, .aload_n 0, false, 0, 0, 0), (738, .iload 4, false, 0, 0, 0), (740, .iconst 2, false, 2, 0, 0), (741, .iadd, false, 0, 0, 0), (742, .iaload, false, 0, 0, 0), (743, .i2l, false, 0, 0, 0)]
set_option maxRecDepth 100000 in
theorem k_law_17 : pm_ckn pmL_law 744 prL_law_17 = true := by decide +kernel
def prL_law_18 : List pm_R := [(744, .ldc2_w 100, false, 4294967295, 0, 0), (747, .land, false, 0, 0, 0), (748, .lor, false, 0, 0, 0), (749, .invokevirtual 106, false, 69, 2, 4), (752, .if_icmp .eq 5, false, 757, 0, 0), (755, .iconst 0, false, 0, 0, 0), (756, .ireturn, false, 0, 0, 0), (757, .iinc 4 4, false, 4, 0, 0), (760, .goto (-737), false, 23, 0, 0), (763, .iconst 1, false, 1, 0, 0), (764, .ireturn, false, 0, 0, 0)]
set_option maxRecDepth 100000 in
theorem k_law_18 : pm_ckn pmL_law 0 prL_law_18 = true := by decide +kernel
end
section
set_option maxRecDepth 100000 in
theorem prL_law_eq : prL_law = (prL_law_0 ++ (prL_law_1 ++ (prL_law_2 ++ (prL_law_3 ++ (prL_law_4 ++ (prL_law_5 ++ (prL_law_6 ++ (prL_law_7 ++ (prL_law_8 ++ (prL_law_9 ++ (prL_law_10 ++ (prL_law_11 ++ (prL_law_12 ++ (prL_law_13 ++ (prL_law_14 ++ (prL_law_15 ++ (prL_law_16 ++ (prL_law_17 ++ prL_law_18)))))))))))))))))) := by rfl
set_option maxRecDepth 100000 in
theorem k_pmL_law : pm_cks pmL_law pmL_law.2.2.2.2.2 = true := by
  show pm_ckn pmL_law 0 prL_law = true
  rw [prL_law_eq]
  exact (pm_ckn_app (M := pmL_law) (pm_ckn_app (M := pmL_law) (pm_ckn_app (M := pmL_law) (pm_ckn_app (M := pmL_law) (pm_ckn_app (M := pmL_law) (pm_ckn_app (M := pmL_law) (pm_ckn_app (M := pmL_law) (pm_ckn_app (M := pmL_law) (pm_ckn_app (M := pmL_law) (pm_ckn_app (M := pmL_law) (pm_ckn_app (M := pmL_law) (pm_ckn_app (M := pmL_law) (pm_ckn_app (M := pmL_law) (pm_ckn_app (M := pmL_law) (pm_ckn_app (M := pmL_law) (pm_ckn_app (M := pmL_law) (pm_ckn_app (M := pmL_law) (pm_ckn_app (M := pmL_law) k_law_18 _ k_law_17) _ k_law_16) _ k_law_15) _ k_law_14) _ k_law_13) _ k_law_12) _ k_law_11) _ k_law_10) _ k_law_9) _ k_law_8) _ k_law_7) _ k_law_6) _ k_law_5) _ k_law_4) _ k_law_3) _ k_law_2) _ k_law_1) _ k_law_0)
theorem pm_prs_ok : ∀ M ∈ pm_prs, pm_cks M M.2.2.2.2.2 = true := by
  unfold pm_prs
  simp only [List.forall_mem_cons, List.not_mem_nil, false_implies, implies_true, and_true]
  exact ⟨k_pmX0_of, k_pmX0_kindOf, k_pmX0_numberOf, k_pmX0_wordOf, k_pmX0_mapOf, k_pmX0_checkSum, k_pmX0_withByte, k_pmX1_plus, k_pmX1_distance, k_pmX1_slotOf, k_pmX2_init, k_pmX2_clear, k_pmX2_accept, k_pmX2_acknowledgement, k_pmX2_behindGap, k_pmX2_deliveredCount, k_pmX2_keeps, k_pmX2_keptWord, k_pmX2_deliver, k_pmX3_init, k_pmX3_clear, k_pmX3_hasRoom, k_pmX3_takeWord, k_pmX3_sendAgain, k_pmX3_isGood, k_pmX3_acknowledge, k_pmX3_unacknowledged, k_pmX3_held, k_pmX3_frameOf, k_pmX3_isInMap, k_pmX3_mark, k_pmX3_moveBase, k_pmX4_init, k_pmX4_clear, k_pmX4_size, k_pmX4_isEmpty, k_pmX4_hasRoom, k_pmX4_bytesAt, k_pmX4_checkSumAt, k_pmX4_isOldestSound, k_pmX4_put, k_pmX4_takeOldest, k_pmX4_turnBitOfOldest, k_pmX4_doubleOldest, k_pmX4_moveOldestBack, k_pmX4_putBack, k_pmX4_placeOf, k_pmX5_init, k_pmX5_begin, k_pmX5_send, k_pmX5_tick, k_pmX5_comeToB, k_pmX5_comeToA, k_pmX5_lose, k_pmX5_change, k_pmX5_twice, k_pmX5_delay, k_pmX5_delivered, k_pmX5_word, k_pmX5_frame, k_pmX5_told, k_pmX5_sum, k_pmX5_restart, k_pmX5_wireOf, k_pmX5_isWithin, k_pmX6_init, k_pmX6_thrown, k_pmX6_begin, k_pmX6_crc, k_pmX6_sum, k_pmX6_at, k_pmX6_bytesAt, k_pmX6_put, k_pmX6_drop, k_pmX6_isGood, k_pmX6_far, k_pmX6_send, k_pmX6_tick, k_pmX6_hear, k_pmX6_comeToA, k_pmX6_comeToB, k_pmX6_noWire, k_pmX6_lose, k_pmX6_change, k_pmX6_twice, k_pmX6_delay, k_pmX6_delivered, k_pmX6_word, k_pmX6_frame, k_pmX6_told, k_pmL_begin, k_pmL_lose, k_pmL_change, k_pmL_twice, k_pmL_delay, k_pmL_word, k_pmL_frame, k_pmL_told, k_pmL_law⟩
theorem pm_ok (me : Nat) : pm_cks (pm_pr me) (pm_pr me).2.2.2.2.2 = true := by
  rcases pm_at_or pmL_law pm_prs me with h | h
  · exact pm_prs_ok _ h
  · have h2 : pm_pr me = pmL_law := h
    rw [h2]
    exact k_pmL_law
end
section
/-! RUNS AND CONTRACTS: the machine's evaluation gives the judgement; the judgement at a method's entry gives its contract -/
theorem pm_rows (me : Nat) : ∀ pre r t, (pm_pr me).2.2.2.2.2 = pre ++ r :: t → ∃ nx, pm_ck (pm_pr me) r nx = true ∧ ∀ q u, t = q :: u → q.1 = nx := by
  intro pre r t h
  have hk : pm_ckn (pm_pr me) 0 (pm_pr me).2.2.2.2.2 = true := pm_ok me
  rw [h] at hk
  exact pm_cks_inv pre r t hk
theorem pm_w_ok {me d : Nat} {al : Bool} {X : Option (Nat × (Nat → Int32))} {k : pm_K} {kx : pm_X} : ∀ (n : Nat) (f : Bool) (rs : List pm_R) (L : pm_V) (st : List Value) (w : pm_D) (cb sb : Nat), (∃ pre, (pm_pr me).2.2.2.2.2 = pre ++ rs) → pm_w me d al X k kx f n rs L st w cb sb → ∃ r t, rs = r :: t ∧ pm_J me d al X k kx r.1 L st w cb sb := by
  intro n
  induction n with
  | zero =>
    intro f rs L st w cb sb _ h
    cases rs with
    | nil => exact h.elim
    | cons r t => exact ⟨r, t, rfl, h⟩
  | succ n ih =>
    intro f rs L st w cb sb hp h
    cases rs with
    | nil => exact h.elim
    | cons r t =>
      obtain ⟨pc, i, hh, a, b, c⟩ := r
      obtain ⟨pre, hp⟩ := hp
      refine ⟨_, t, rfl, ?_⟩
      have key : pm_x me d al X k kx (pm_w me d al X k kx false n) pc i a b c t L st w cb sb → pm_J me d al X k kx pc L st w cb sb := fun q => pm_x_ok (fun rs L st w cb sb h1 h2 => ih false rs L st w cb sb h1 h2) (pm_rows me) hp q
      cases f <;> cases hh
      · exact key h
      · exact h
      · exact key h
      · exact key h
theorem pm_run {me d : Nat} {al : Bool} {X : Option (Nat × (Nat → Int32))} {k : pm_K} {kx : pm_X} {pc : Nat} {L : pm_V} {st : List Value} {w : pm_D} {cb sb : Nat} (n : Nat) (h : pm_w me d al X k kx true n (pm_from (pm_pr me).2.2.2.2.2 pc) L st w cb sb) : pm_J me d al X k kx pc L st w cb sb := by
  cases hf : pm_from (pm_pr me).2.2.2.2.2 pc with
  | nil =>
    rw [hf] at h
    cases n <;> exact h.elim
  | cons r t =>
    obtain ⟨e1, pre, e2⟩ := pm_from_inv _ _ _ _ hf
    rw [hf] at h
    obtain ⟨r2, t2, e3, e4⟩ := pm_w_ok n true _ L st w cb sb ⟨pre, e2⟩ h
    cases e3
    rw [← e1]
    exact e4
/-- more room than is asked for -/
theorem pm_J.room {me d : Nat} {al : Bool} {X : Option (Nat × (Nat → Int32))} {k : pm_K} {kx : pm_X} {pc : Nat} {L : pm_V} {st : List Value} {w : pm_D} {cb sb cb2 sb2 : Nat} (h : pm_J me d al X k kx pc L st w cb sb) (h1 : cb ≤ cb2) (h2 : sb ≤ sb2) : pm_J me d al X k kx pc L st w cb2 sb2 := by
  intro p l e R s m args below meth c H locs cells slots dA D ad sa A ls F hP hD hS hz hl hn hc hs
  exact h p l e R s m args below meth c H locs cells slots dA D ad sa A ls F hP hD hS hz hl hn (by omega) (by omega)
/-- fewer locals known -/
def pm_le : pm_V → pm_V → Prop
  | [], [] => True
  | none :: t, _ :: u => pm_le t u
  | some v :: t, o :: u => o = some v ∧ pm_le t u
  | _, _ => False
theorem pm_le_spec : ∀ (M L : pm_V), pm_le M L → M.length = L.length ∧ ∀ (j : Nat) (v : Value), M[j]? = some (some v) → L[j]? = some (some v)
  | [], [], _ => ⟨rfl, fun j v h => by simp at h⟩
  | none :: t, o :: u, h => by
    obtain ⟨h1, h2⟩ := pm_le_spec t u h
    refine ⟨by simp [h1], fun j v hj => ?_⟩
    cases j with
    | zero => simp at hj
    | succ j => simpa using h2 j v (by simpa using hj)
  | some x :: t, o :: u, h => by
    obtain ⟨h0, h⟩ := h
    obtain ⟨h1, h2⟩ := pm_le_spec t u h
    refine ⟨by simp [h1], fun j v hj => ?_⟩
    cases j with
    | zero => simp at hj; simp [h0, hj]
    | succ j => simpa using h2 j v (by simpa using hj)
  | [], _ :: _, h => h.elim
  | none :: _, [], h => h.elim
  | some _ :: _, [], h => h.elim
theorem pm_J.locals {me d : Nat} {al : Bool} {X : Option (Nat × (Nat → Int32))} {k : pm_K} {kx : pm_X} {pc : Nat} {L M : pm_V} {st : List Value} {w : pm_D} {cb sb : Nat} (h : pm_J me d al X k kx pc M st w cb sb) (hle : pm_le M L) : pm_J me d al X k kx pc L st w cb sb := by
  obtain ⟨h1, h2⟩ := pm_le_spec M L hle
  intro p l e R s m args below meth c H locs cells slots dA D ad sa A ls F hP hD hS hz hl hn hc hs
  refine h p l e R s m args below meth c H locs cells slots dA D ad sa A ls F hP hD hS hz ⟨by rw [h1]; exact hl.1, hl.2.1, fun q hq => hl.2.2 q ?_⟩ (h1.trans hn) hc hs
  obtain ⟨j, u⟩ := q
  obtain ⟨n, v, e1, e2, e3⟩ := (pm_as_mem ad M 0 j u).mp hq
  exact (pm_as_mem ad L 0 j u).mpr ⟨n, v, e1, h2 n v e2, e3⟩
/-! the locals with which a method begins -/
def pm_ent : List Value → Nat → pm_V
  | [], 0 => []
  | [], n + 1 => none :: pm_ent [] n
  | .long v :: vs, n + 2 => some (.long v) :: none :: pm_ent vs n
  | .int v :: vs, n + 1 => some (.int v) :: pm_ent vs n
  | .ref v :: vs, n + 1 => some (.ref v) :: pm_ent vs n
  | _, _ => []
def pm_eok : List Value → Nat → Bool
  | [], _ => true
  | .long _ :: vs, n + 2 => pm_eok vs n
  | .int _ :: vs, n + 1 => pm_eok vs n
  | .ref _ :: vs, n + 1 => pm_eok vs n
  | _, _ => false
theorem pm_ent_nil (ad : Nat → Nat) : ∀ (n i : Nat), (pm_ent [] n).length = n ∧ pm_as ad i (pm_ent [] n) = []
  | 0, i => ⟨rfl, rfl⟩
  | n + 1, i => by
    obtain ⟨h1, h2⟩ := pm_ent_nil ad n (i + 1)
    exact ⟨by simp [pm_ent, h1], by simpa [pm_ent, pm_as] using h2⟩
theorem pm_ent_ok (ad : Nat → Nat) : ∀ (vs : List Value) (n i : Nat), pm_eok vs n = true → (pm_ent vs n).length = n ∧ (lg_sl (vs.map (pm_v ad))).length ≤ n ∧ pm_as ad i (pm_ent vs n) = lv_args i (vs.map (pm_v ad))
  | [], n, i, _ => by
    obtain ⟨h1, h2⟩ := pm_ent_nil ad n i
    exact ⟨h1, Nat.zero_le _, h2⟩
  | .long v :: vs, n + 2, i, h => by
    obtain ⟨h1, h2, h3⟩ := pm_ent_ok ad vs n (i + 2) h
    refine ⟨by simp [pm_ent, h1], ?_, ?_⟩
    · simp only [lg_sl, List.map_cons, List.flatMap_cons, List.length_append] at h2 ⊢
      have e1 : (if (pm_v ad (Value.long v)).category = 2 then [Slot.val (pm_v ad (Value.long v)), Slot.second] else [Slot.val (pm_v ad (Value.long v))]).length = 2 := rfl
      omega
    · show (i, Value.long v) :: pm_as ad (i + 1 + 1) (pm_ent vs n) = (i, Value.long v) :: lv_args (i + 2) _
      rw [h3]
  | .int v :: vs, n + 1, i, h => by
    obtain ⟨h1, h2, h3⟩ := pm_ent_ok ad vs n (i + 1) h
    refine ⟨by simp [pm_ent, h1], ?_, ?_⟩
    · simp only [lg_sl, List.map_cons, List.flatMap_cons, List.length_append] at h2 ⊢
      have e1 : (if (pm_v ad (Value.int v)).category = 2 then [Slot.val (pm_v ad (Value.int v)), Slot.second] else [Slot.val (pm_v ad (Value.int v))]).length = 1 := rfl
      omega
    · show (i, Value.int v) :: pm_as ad (i + 1) (pm_ent vs n) = (i, Value.int v) :: lv_args (i + 1) _
      rw [h3]
  | .ref v :: vs, n + 1, i, h => by
    obtain ⟨h1, h2, h3⟩ := pm_ent_ok ad vs n (i + 1) h
    refine ⟨by simp [pm_ent, h1], ?_, ?_⟩
    · simp only [lg_sl, List.map_cons, List.flatMap_cons, List.length_append] at h2 ⊢
      have e1 : (if (pm_v ad (Value.ref v)).category = 2 then [Slot.val (pm_v ad (Value.ref v)), Slot.second] else [Slot.val (pm_v ad (Value.ref v))]).length = 1 := rfl
      omega
    · show (i, Value.ref (ad v)) :: pm_as ad (i + 1) (pm_ent vs n) = (i, Value.ref (ad v)) :: lv_args (i + 1) _
      rw [h3]
  | .int _ :: _, 0, _, h => by simp [pm_eok] at h
  | .ref _ :: _, 0, _, h => by simp [pm_eok] at h
  | .long _ :: _, 0, _, h => by simp [pm_eok] at h
  | .long _ :: _, 1, _, h => by simp [pm_eok] at h
  | .float _ :: _, _, _, h => by simp [pm_eok] at h
  | .double _ :: _, _, _, h => by simp [pm_eok] at h
  | .null :: _, _, _, h => by simp [pm_eok] at h
  | .retAddr _ :: _, _, _, h => by simp [pm_eok] at h
theorem pm_plains : pm_prs.all (fun M => plainName M.1.cls) = true := by decide +kernel
theorem pm_plain (me : Nat) : plainName (pm_pr me).1.cls = true := by
  rcases pm_at_or pmL_law pm_prs me with h | h
  · exact List.all_eq_true.mp pm_plains _ h
  · have h2 : pm_pr me = pmL_law := h
    rw [h2]
    exact List.all_eq_true.mp pm_plains pmL_law (by unfold pm_prs; simp only [List.mem_cons, true_or, or_true])
/-- THE CONTRACT OUT OF THE JUDGEMENT AT THE ENTRY -/
theorem pm_Ci {me d : Nat} {al : Bool} {vs : List Value} {w : pm_D} {k : pm_K} {kx : pm_X} (he : pm_eok vs (pm_pr me).2.2.1 = true) (hJ : pm_J me d al none k kx 0 (pm_ent vs (pm_pr me).2.2.1) [] w (pm_mc me).1 (pm_mc me).2) : pm_C me d al vs w k kx := by
  intro l dA D ad sa sz htr
  have body : ∀ (p : Program) (e : Env) (s : State) (m : MethodId) (args : Array Value) (below : List Frame) (meth : Method) (c : Code) (s₁ : State), BodyLoose p l (pm_pr me).1 (headSpec (pm_ws me) (pm_rm d (pm_mc me).1 (pm_mc me).2)) (pm_pr me).2.1 (pm_pr me).2.2.1 (pm_pr me).2.2.2.1 e s m args below meth c s₁ → c.maxLocals = (pm_pr me).2.2.1 → c.exceptionTable.toList = tableOf (pm_pr me).2.2.2.2.1 → pm_Pc dA D ad sa al vs w sz args s →
      W p l e (headSpec (pm_ws me) (pm_rm d (pm_mc me).1 (pm_mc me).2)).room s m args below meth c s.heap [] 0 0 (vx_MQ below (pm_Qc dA D ad (va_A (pm_pic dA ad w) sz) al k) (pm_XC dA D ad (va_A (pm_pic dA ad w) sz) al kx) args s (pm_mc me).1 (pm_mc me).2 (va_A (pm_pic dA ad w) sz)) (entryFrame m args (pm_pr me).2.2.1) := by
    intro p e s m args below meth c s₁ B hml hex hv
    obtain ⟨rfl, hsz, hP, hK, hD0, hz, hG⟩ := hv
    have hts : ∀ w9 ∈ pm_tb, w9.before ((vs.map (pm_v ad)).toArray) s = true := fun w9 hw9 => atoms_spec (ws := pm_ws me) B.pre w9 (List.mem_cons_of_mem _ hw9)
    subst hsz
    obtain ⟨e1, e2, e3⟩ := pm_ent_ok ad vs (pm_pr me).2.2.1 0 he
    rw [lg_entry_eq]
    have hl := lv_entry (vs.map (pm_v ad)) e2
    refine hJ p l e _ s m _ below meth c s.heap [] 0 0 dA D ad sa (va_A (pm_pic dA ad w) s.heap.size) _ ⟨B.exec, htr, B.bytes, hml, B.returns, B.notSynchronized, findClass_of_methodNamed B.named, (name_of_methodNamed B.named B.method).1, hts, hex, hK, fun q h => Or.inr h, hG, Nat.le_refl _, Nat.le_refl _, fun N xs h => by cases h⟩ hP hD0.self va_S.rf hz ?_ e1 (Nat.le_of_eq (Nat.zero_add _)) (Nat.le_of_eq (Nat.zero_add _))
    rw [e1, e3]
    exact hl
  have hpl := pm_plain me
  have hws : pm_ws me = pm_cc (pm_pr me) :: pm_tb := rfl
  generalize pm_pr me = M at body hpl hws ⊢
  obtain ⟨y, bytes, n, r, hh, rs⟩ := M
  cases hh with
  | nil => exact vx_ofW (cc := bytes) (maxL := n) (ret := r) hpl hws (fun p e s m args below meth c s₁ B hml ht hP => body p e s m args below meth c s₁ B hml (by
      show c.exceptionTable.toList = []
      cases hq : c.exceptionTable.toList with
      | nil => rfl
      | cons x t => exact (ht x (by rw [hq]; exact List.mem_cons_self)).elim) hP)
  | cons q t => exact vx_ofWH (cc := bytes) (maxL := n) (ret := r) (hh := q :: t) hpl hws (fun p e s m args below meth c s₁ B hml hP => body p e s m args below meth c s₁ B hml (vx_table (x := y) B (atoms_spec (ws := pm_ws me) B.pre _ (by rw [hws]; exact List.mem_cons_self))) hP)
end
section
/-! FRAMES: the check sum, how the first eight bytes lie in a long; numbers -/
def f_sh (m : Int32) : Int32 := (m.toUInt32 >>> ((1 : Int32).toUInt32 &&& Int32.toUInt32 31)).toInt32
def f_c1 (m : Int32) : Int32 := if m &&& 1 = 0 then f_sh m else f_sh m ^^^ (-306674912)
def f_cn : Nat → Int32 → Int32
  | 0, m => m
  | n + 1, m => f_cn n (f_c1 m)
def f_byte (x : Int64) (sh : Int32) : Int32 := (x.toUInt64 >>> (sh.toInt64.toUInt64 &&& Int64.toUInt64 63)).toInt64.toInt32 &&& 255
def f_cks (x : Int64) : Nat → Int32 → Int32
  | 0, r => r
  | n + 1, r => f_cks x n (f_cn 8 (r ^^^ f_byte x (nI (8 * n))))
/-- the check sum -/
def f_sum (x : Int64) : Int32 := f_cks x 8 (-1) ^^^ (-1)
def f_ushr (x : Int64) (n : Int32) : Int64 := (x.toUInt64 >>> (n.toInt64.toUInt64 &&& Int64.toUInt64 63)).toInt64
def f_shl (x : Int64) (n : Int32) : Int64 := x <<< (n.toInt64 &&& 63)
def f_of (kd n wd mp : Int32) : Int64 := f_shl kd.toInt64 56 ||| f_shl n.toInt64 48 ||| f_shl (wd.toInt64 &&& 4294967295) 16 ||| mp.toInt64
def f_kind (x : Int64) : Int32 := (f_ushr x 56).toInt32
def f_num (x : Int64) : Int32 := (f_ushr x 48).toInt32 &&& 255
def f_word (x : Int64) : Int32 := (f_ushr x 16).toInt32
def f_map (x : Int64) : Int32 := x.toInt32 &&& 65535
section PF
variable {d : Nat} {al : Bool} {k : pm_K} {kx : pm_X} {w : pm_D} {cb sb : Nat}
theorem l_withByte (r b : Int32) : ∀ (n t : Nat) (m : Int32), t + n = 8 → k (some (.int (f_cn n m))) w → pm_J 6 d al none k kx 6 [some (.int r), some (.int b), some (.int m), some (.int (nI t)), none] [] w cb sb := by
  intro n
  induction n with
  | zero =>
    intro t m ht hk
    have ht : t = 8 := by omega
    subst ht
    exact pm_run 20 (And.intro (fun _ => hk) (fun h => absurd (by decide +kernel) h))
  | succ n ih =>
    intro t m ht hk
    refine pm_run 60 (And.intro (fun h => absurd h (nI_ge (b := 8) (by omega) (by omega))) (fun _ => And.intro (fun (h0 : m &&& 1 = 0) => And.intro (fun _ => ?_) (fun h => absurd rfl h)) (fun (h0 : ¬ m &&& 1 = 0) => And.intro (fun h => absurd h (by decide)) (fun _ => ?_))))
    · refine pm_J.locals (M := [some (.int r), some (.int b), some (.int (f_sh m)), some (.int (nI (t + 1))), none]) (ih (t + 1) (f_sh m) (by omega) ?_) ⟨rfl, rfl, rfl, congrArg (fun z => some (Value.int z)) (nI_succ t).symm, trivial⟩
      have e : f_cn (n + 1) m = f_cn n (f_sh m) := by
        show f_cn n (f_c1 m) = _
        rw [f_c1, if_pos h0]
      rw [← e]
      exact hk
    · refine pm_J.locals (M := [some (.int r), some (.int b), some (.int (f_sh m ^^^ (-306674912))), some (.int (nI (t + 1))), none]) (ih (t + 1) _ (by omega) ?_) ⟨rfl, rfl, rfl, congrArg (fun z => some (Value.int z)) (nI_succ t).symm, trivial⟩
      have e : f_cn (n + 1) m = f_cn n (f_sh m ^^^ (-306674912)) := by
        show f_cn n (f_c1 m) = _
        rw [f_c1, if_neg h0]
      rw [← e]
      exact hk
theorem c_withByte {r b : Int32} (hk : k (some (.int (f_cn 8 (r ^^^ b)))) w) : pm_C 6 d al [.int r, .int b] w k kx :=
  pm_Ci rfl (pm_run 20 (l_withByte r b 8 0 (r ^^^ b) rfl hk))
def f_s : Nat → Int32
  | 0 => -8
  | n + 1 => nI (8 * n)
theorem f_s_step : ∀ n, n < 8 → f_s (n + 1) + (-8) = f_s n := by decide +kernel
theorem f_s_pos : ∀ n, n < 8 → ¬ f_s (n + 1) < 0 := by decide +kernel
theorem l_checkSum (x : Int64) : ∀ (n : Nat) (r : Int32), n ≤ 8 → k (some (.int (f_cks x n r ^^^ (-1)))) w → pm_J 5 (d + 1) al none k kx 5 [some (.long x), none, some (.int r), some (.int (f_s n))] [] w cb sb := by
  intro n
  induction n with
  | zero =>
    intro r _ hk
    exact pm_run 20 (And.intro (fun _ => hk) (fun h => absurd (by decide +kernel) h))
  | succ n ih =>
    intro r hn hk
    refine pm_run 60 (And.intro (fun h => absurd h (f_s_pos n (by omega))) (fun _ => And.intro ⟨Nat.zero_le _, Nat.zero_le _⟩ (c_withByte ?_)))
    refine pm_J.locals (M := [some (.long x), none, some (.int (f_cn 8 (r ^^^ f_byte x (nI (8 * n))))), some (.int (f_s n))]) (ih _ (by omega) hk) ⟨rfl, rfl, congrArg (fun z => some (Value.int z)) (f_s_step n (by omega)), trivial⟩
theorem c_checkSum {x : Int64} (hk : k (some (.int (f_sum x))) w) : pm_C 5 (d + 1) al [.long x] w k kx :=
  pm_Ci rfl (pm_run 20 (l_checkSum x 8 (-1) (Nat.le_refl 8) hk))
theorem c_of {kd n wd mp : Int32} (hk : k (some (.long (f_of kd n wd mp))) w) : pm_C 0 d al [.int kd, .int n, .int wd, .int mp] w k kx := pm_Ci rfl (pm_run 40 hk)
theorem c_kindOf {x : Int64} (hk : k (some (.int (f_kind x))) w) : pm_C 1 d al [.long x] w k kx := pm_Ci rfl (pm_run 20 hk)
theorem c_numberOf {x : Int64} (hk : k (some (.int (f_num x))) w) : pm_C 2 d al [.long x] w k kx := pm_Ci rfl (pm_run 20 hk)
theorem c_wordOf {x : Int64} (hk : k (some (.int (f_word x))) w) : pm_C 3 d al [.long x] w k kx := pm_Ci rfl (pm_run 20 hk)
theorem c_mapOf {x : Int64} (hk : k (some (.int (f_map x))) w) : pm_C 4 d al [.long x] w k kx := pm_Ci rfl (pm_run 20 hk)
theorem c_plus {x y : Int32} (hk : k (some (.int ((x + y) &&& 255))) w) : pm_C 7 d al [.int x, .int y] w k kx := pm_Ci rfl (pm_run 20 hk)
theorem c_distance {x y : Int32} (hk : k (some (.int ((y - x) &&& 255))) w) : pm_C 8 d al [.int x, .int y] w k kx := pm_Ci rfl (pm_run 20 hk)
theorem c_slotOf {x : Int32} (hk : k (some (.int (x &&& 15))) w) : pm_C 9 d al [.int x] w k kx := pm_Ci rfl (pm_run 20 hk)
end PF
end
section
/-! WIRES: the two wires' methods, each at its own places -/
theorem pw_in (z : Int32) : vp_in (z &&& 31) 32 := pk_andIn z (m := 31) 5 (by decide +kernel) (by decide)
abbrev wA (e1 : va_E) (o c r : Int32) (b : Nat → Int64) (s : Nat → Int32) (R : pm_D) : pm_D := e1 :: .inr (2, [.ref 3, .ref 4, .int o, .int c, .int r]) :: .inl (1, 32, .inr (.inl b)) :: .inl (0, 32, .inl s) :: R
abbrev wB (e1 e2 e3 e4 : va_E) (o c r : Int32) (b : Nat → Int64) (s : Nat → Int32) (R : pm_D) : pm_D := e1 :: e2 :: e3 :: e4 :: .inr (2, [.ref 6, .ref 7, .int o, .int c, .int r]) :: .inl (1, 32, .inr (.inl b)) :: .inl (0, 32, .inl s) :: R
section PW
variable {d : Nat} {al : Bool} {k : pm_K} {kx : pm_X} {e1 e2 e3 e4 : va_E} {o c r : Int32} {b : Nat → Int64} {s : Nat → Int32} {R : pm_D}
theorem c_clear_A {x : Int32} (hk : k none (wA e1 0 0 x b s R)) : pm_C 33 d al [.ref 2, .int x] (wA e1 o c r b s R) k kx := pm_Ci rfl (pm_run 40 hk)
theorem c_size_A (hk : k (some (.int c)) (wA e1 o c r b s R)) : pm_C 34 d al [.ref 2] (wA e1 o c r b s R) k kx := pm_Ci rfl (pm_run 40 hk)
theorem c_isEmpty_A (h0 : ¬ c = 0 → k (some (.int 0)) (wA e1 o c r b s R)) (h1 : c = 0 → k (some (.int 1)) (wA e1 o c r b s R)) : pm_C 35 d al [.ref 2] (wA e1 o c r b s R) k kx := pm_Ci rfl (pm_run 40 (And.intro (fun h => And.intro rfl (h0 h)) (fun h => And.intro rfl (h1 h))))
theorem c_hasRoom_A (h0 : r ≤ c → k (some (.int 0)) (wA e1 o c r b s R)) (h1 : ¬ r ≤ c → k (some (.int 1)) (wA e1 o c r b s R)) : pm_C 36 d al [.ref 2] (wA e1 o c r b s R) k kx := pm_Ci rfl (pm_run 40 (And.intro (fun h => And.intro rfl (h0 h)) (fun h => And.intro rfl (h1 h))))
theorem c_placeOf_A {x : Int32} (hk : k (some (.int ((o + x) &&& 31))) (wA e1 o c r b s R)) : pm_C 46 d al [.ref 2, .int x] (wA e1 o c r b s R) k kx := pm_Ci rfl (pm_run 40 hk)
theorem c_bytesAt_A {x : Int32} (hk : k (some (.long (b ((o + x) &&& 31).toNatClampNeg))) (wA e1 o c r b s R)) : pm_C 37 (d + 1) al [.ref 2, .int x] (wA e1 o c r b s R) k kx := pm_Ci rfl (pm_run 40 (And.intro ⟨Nat.zero_le _, Nat.zero_le _⟩ (c_placeOf_A (And.intro (pw_in _) hk))))
theorem c_checkSumAt_A {x : Int32} (hk : k (some (.long ((s ((o + x) &&& 31).toNatClampNeg).toInt64 &&& 4294967295))) (wA e1 o c r b s R)) : pm_C 38 (d + 1) al [.ref 2, .int x] (wA e1 o c r b s R) k kx := pm_Ci rfl (pm_run 40 (And.intro ⟨Nat.zero_le _, Nat.zero_le _⟩ (c_placeOf_A (And.intro (pw_in _) hk))))
theorem c_takeOldest_A (ho : vp_in o 32) (hk : k (some (.long (b o.toNatClampNeg))) (wA e1 ((o + 1) &&& 31) (c - 1) r b s R)) : pm_C 41 (d + 1) al [.ref 2] (wA e1 o c r b s R) k kx := pm_Ci rfl (pm_run 40 (And.intro ho (And.intro ⟨Nat.zero_le _, Nat.zero_le _⟩ (c_placeOf_A hk))))
theorem c_putBack_A {x : Int64} {y : Int32} (hk : k none (wA e1 o (c + 1) r (vp_updL b ((o + c) &&& 31).toNatClampNeg x) (upd s ((o + c) &&& 31).toNatClampNeg y) R)) : pm_C 45 (d + 1) al [.ref 2, .long x, .int y] (wA e1 o c r b s R) k kx := pm_Ci rfl (pm_run 60 (And.intro ⟨Nat.zero_le _, Nat.zero_le _⟩ (c_placeOf_A (And.intro (pw_in _) (And.intro (pw_in _) hk)))))
theorem c_put_A {x : Int64} (hk : k none (wA e1 o (c + 1) r (vp_updL b ((o + c) &&& 31).toNatClampNeg x) (upd s ((o + c) &&& 31).toNatClampNeg (f_sum x)) R)) : pm_C 40 (d + 2) al [.ref 2, .long x] (wA e1 o c r b s R) k kx := pm_Ci rfl (pm_run 60 (And.intro ⟨Nat.zero_le _, Nat.zero_le _⟩ (c_checkSum (And.intro ⟨Nat.zero_le _, Nat.zero_le _⟩ (c_putBack_A hk)))))
theorem c_isOldestSound_A {x : Int32} (ho : vp_in o 32) (h0 : ¬ (f_sum (b o.toNatClampNeg) = (s o.toNatClampNeg) ∧ f_kind (b o.toNatClampNeg) = x) → k (some (.int 0)) (wA e1 o c r b s R)) (h1 : f_sum (b o.toNatClampNeg) = (s o.toNatClampNeg) → f_kind (b o.toNatClampNeg) = x → k (some (.int 1)) (wA e1 o c r b s R)) : pm_C 39 (d + 2) al [.ref 2, .int x] (wA e1 o c r b s R) k kx :=
  pm_Ci rfl (pm_run 60 (And.intro ho (And.intro ⟨Nat.zero_le _, Nat.zero_le _⟩ (c_checkSum (And.intro ho (And.intro (fun h => And.intro rfl (h0 (fun z => h z.1))) (fun g => And.intro ⟨Nat.zero_le _, Nat.zero_le _⟩ (c_kindOf (And.intro (fun h => And.intro rfl (h0 (fun z => h z.2))) (fun g2 => And.intro rfl (h1 g g2)))))))))))
theorem c_turnBit_A {x : Int32} (ho : vp_in o 32) (h0 : ¬ 32 ≤ x → k none (wA e1 o c r b (upd s o.toNatClampNeg ((s o.toNatClampNeg) ^^^ ((1 : Int32) <<< (x &&& 31)))) R)) (h1 : 32 ≤ x → k none (wA e1 o c r (vp_updL b o.toNatClampNeg ((b o.toNatClampNeg) ^^^ ((1 : Int64) <<< ((x - 32).toInt64 &&& 63)))) s R)) : pm_C 42 d al [.ref 2, .int x] (wA e1 o c r b s R) k kx :=
  pm_Ci rfl (pm_run 60 (And.intro (fun h => And.intro ho (And.intro ho (h1 h))) (fun h => And.intro ho (And.intro ho (h0 h)))))
theorem c_doubleOldest_A (ho : vp_in o 32) (hk : k none (wA e1 ((o + -1) &&& 31) (c + 1) r (vp_updL b ((o + -1) &&& 31).toNatClampNeg (b o.toNatClampNeg)) (upd s ((o + -1) &&& 31).toNatClampNeg (s o.toNatClampNeg)) R)) : pm_C 43 (d + 1) al [.ref 2] (wA e1 o c r b s R) k kx := pm_Ci rfl (pm_run 80 (And.intro ⟨Nat.zero_le _, Nat.zero_le _⟩ (c_placeOf_A (And.intro ho (And.intro (pw_in _) (And.intro ho (And.intro (pw_in _) hk)))))))
theorem c_moveOldestBack_A (ho : vp_in o 32) (hk : k none (wA e1 ((o + 1) &&& 31) (c - 1 + 1) r (vp_updL b ((((o + 1) &&& 31) + (c - 1)) &&& 31).toNatClampNeg (b o.toNatClampNeg)) (upd s ((((o + 1) &&& 31) + (c - 1)) &&& 31).toNatClampNeg (s o.toNatClampNeg)) R)) : pm_C 44 (d + 2) al [.ref 2] (wA e1 o c r b s R) k kx := pm_Ci rfl (pm_run 80 (And.intro ho (And.intro ⟨Nat.zero_le _, Nat.zero_le _⟩ (c_takeOldest_A ho (And.intro ⟨Nat.zero_le _, Nat.zero_le _⟩ (c_putBack_A hk))))))
theorem c_clear_B {x : Int32} (hk : k none (wB e1 e2 e3 e4 0 0 x b s R)) : pm_C 33 d al [.ref 5, .int x] (wB e1 e2 e3 e4 o c r b s R) k kx := pm_Ci rfl (pm_run 40 hk)
theorem c_size_B (hk : k (some (.int c)) (wB e1 e2 e3 e4 o c r b s R)) : pm_C 34 d al [.ref 5] (wB e1 e2 e3 e4 o c r b s R) k kx := pm_Ci rfl (pm_run 40 hk)
theorem c_isEmpty_B (h0 : ¬ c = 0 → k (some (.int 0)) (wB e1 e2 e3 e4 o c r b s R)) (h1 : c = 0 → k (some (.int 1)) (wB e1 e2 e3 e4 o c r b s R)) : pm_C 35 d al [.ref 5] (wB e1 e2 e3 e4 o c r b s R) k kx := pm_Ci rfl (pm_run 40 (And.intro (fun h => And.intro rfl (h0 h)) (fun h => And.intro rfl (h1 h))))
theorem c_hasRoom_B (h0 : r ≤ c → k (some (.int 0)) (wB e1 e2 e3 e4 o c r b s R)) (h1 : ¬ r ≤ c → k (some (.int 1)) (wB e1 e2 e3 e4 o c r b s R)) : pm_C 36 d al [.ref 5] (wB e1 e2 e3 e4 o c r b s R) k kx := pm_Ci rfl (pm_run 40 (And.intro (fun h => And.intro rfl (h0 h)) (fun h => And.intro rfl (h1 h))))
theorem c_placeOf_B {x : Int32} (hk : k (some (.int ((o + x) &&& 31))) (wB e1 e2 e3 e4 o c r b s R)) : pm_C 46 d al [.ref 5, .int x] (wB e1 e2 e3 e4 o c r b s R) k kx := pm_Ci rfl (pm_run 40 hk)
theorem c_bytesAt_B {x : Int32} (hk : k (some (.long (b ((o + x) &&& 31).toNatClampNeg))) (wB e1 e2 e3 e4 o c r b s R)) : pm_C 37 (d + 1) al [.ref 5, .int x] (wB e1 e2 e3 e4 o c r b s R) k kx := pm_Ci rfl (pm_run 40 (And.intro ⟨Nat.zero_le _, Nat.zero_le _⟩ (c_placeOf_B (And.intro (pw_in _) hk))))
theorem c_checkSumAt_B {x : Int32} (hk : k (some (.long ((s ((o + x) &&& 31).toNatClampNeg).toInt64 &&& 4294967295))) (wB e1 e2 e3 e4 o c r b s R)) : pm_C 38 (d + 1) al [.ref 5, .int x] (wB e1 e2 e3 e4 o c r b s R) k kx := pm_Ci rfl (pm_run 40 (And.intro ⟨Nat.zero_le _, Nat.zero_le _⟩ (c_placeOf_B (And.intro (pw_in _) hk))))
theorem c_takeOldest_B (ho : vp_in o 32) (hk : k (some (.long (b o.toNatClampNeg))) (wB e1 e2 e3 e4 ((o + 1) &&& 31) (c - 1) r b s R)) : pm_C 41 (d + 1) al [.ref 5] (wB e1 e2 e3 e4 o c r b s R) k kx := pm_Ci rfl (pm_run 40 (And.intro ho (And.intro ⟨Nat.zero_le _, Nat.zero_le _⟩ (c_placeOf_B hk))))
theorem c_putBack_B {x : Int64} {y : Int32} (hk : k none (wB e1 e2 e3 e4 o (c + 1) r (vp_updL b ((o + c) &&& 31).toNatClampNeg x) (upd s ((o + c) &&& 31).toNatClampNeg y) R)) : pm_C 45 (d + 1) al [.ref 5, .long x, .int y] (wB e1 e2 e3 e4 o c r b s R) k kx := pm_Ci rfl (pm_run 60 (And.intro ⟨Nat.zero_le _, Nat.zero_le _⟩ (c_placeOf_B (And.intro (pw_in _) (And.intro (pw_in _) hk)))))
theorem c_put_B {x : Int64} (hk : k none (wB e1 e2 e3 e4 o (c + 1) r (vp_updL b ((o + c) &&& 31).toNatClampNeg x) (upd s ((o + c) &&& 31).toNatClampNeg (f_sum x)) R)) : pm_C 40 (d + 2) al [.ref 5, .long x] (wB e1 e2 e3 e4 o c r b s R) k kx := pm_Ci rfl (pm_run 60 (And.intro ⟨Nat.zero_le _, Nat.zero_le _⟩ (c_checkSum (And.intro ⟨Nat.zero_le _, Nat.zero_le _⟩ (c_putBack_B hk)))))
theorem c_isOldestSound_B {x : Int32} (ho : vp_in o 32) (h0 : ¬ (f_sum (b o.toNatClampNeg) = (s o.toNatClampNeg) ∧ f_kind (b o.toNatClampNeg) = x) → k (some (.int 0)) (wB e1 e2 e3 e4 o c r b s R)) (h1 : f_sum (b o.toNatClampNeg) = (s o.toNatClampNeg) → f_kind (b o.toNatClampNeg) = x → k (some (.int 1)) (wB e1 e2 e3 e4 o c r b s R)) : pm_C 39 (d + 2) al [.ref 5, .int x] (wB e1 e2 e3 e4 o c r b s R) k kx :=
  pm_Ci rfl (pm_run 60 (And.intro ho (And.intro ⟨Nat.zero_le _, Nat.zero_le _⟩ (c_checkSum (And.intro ho (And.intro (fun h => And.intro rfl (h0 (fun z => h z.1))) (fun g => And.intro ⟨Nat.zero_le _, Nat.zero_le _⟩ (c_kindOf (And.intro (fun h => And.intro rfl (h0 (fun z => h z.2))) (fun g2 => And.intro rfl (h1 g g2)))))))))))
theorem c_turnBit_B {x : Int32} (ho : vp_in o 32) (h0 : ¬ 32 ≤ x → k none (wB e1 e2 e3 e4 o c r b (upd s o.toNatClampNeg ((s o.toNatClampNeg) ^^^ ((1 : Int32) <<< (x &&& 31)))) R)) (h1 : 32 ≤ x → k none (wB e1 e2 e3 e4 o c r (vp_updL b o.toNatClampNeg ((b o.toNatClampNeg) ^^^ ((1 : Int64) <<< ((x - 32).toInt64 &&& 63)))) s R)) : pm_C 42 d al [.ref 5, .int x] (wB e1 e2 e3 e4 o c r b s R) k kx :=
  pm_Ci rfl (pm_run 60 (And.intro (fun h => And.intro ho (And.intro ho (h1 h))) (fun h => And.intro ho (And.intro ho (h0 h)))))
theorem c_doubleOldest_B (ho : vp_in o 32) (hk : k none (wB e1 e2 e3 e4 ((o + -1) &&& 31) (c + 1) r (vp_updL b ((o + -1) &&& 31).toNatClampNeg (b o.toNatClampNeg)) (upd s ((o + -1) &&& 31).toNatClampNeg (s o.toNatClampNeg)) R)) : pm_C 43 (d + 1) al [.ref 5] (wB e1 e2 e3 e4 o c r b s R) k kx := pm_Ci rfl (pm_run 80 (And.intro ⟨Nat.zero_le _, Nat.zero_le _⟩ (c_placeOf_B (And.intro ho (And.intro (pw_in _) (And.intro ho (And.intro (pw_in _) hk)))))))
theorem c_moveOldestBack_B (ho : vp_in o 32) (hk : k none (wB e1 e2 e3 e4 ((o + 1) &&& 31) (c - 1 + 1) r (vp_updL b ((((o + 1) &&& 31) + (c - 1)) &&& 31).toNatClampNeg (b o.toNatClampNeg)) (upd s ((((o + 1) &&& 31) + (c - 1)) &&& 31).toNatClampNeg (s o.toNatClampNeg)) R)) : pm_C 44 (d + 2) al [.ref 5] (wB e1 e2 e3 e4 o c r b s R) k kx := pm_Ci rfl (pm_run 80 (And.intro ho (And.intro ⟨Nat.zero_le _, Nat.zero_le _⟩ (c_takeOldest_B ho (And.intro ⟨Nat.zero_le _, Nat.zero_le _⟩ (c_putBack_B hk))))))
end PW
end
section
/-! RINGS: a list that lies in an array, from a place on, round the end; wires as lists of frames -/
def rg {α : Type} (m : Nat) (f : Nat → α) (b : Nat) (l : List α) : Prop := ∀ (i : Nat) (x : α), l[i]? = some x → f ((b + i) % m) = x
theorem rg_set {α : Type} {m : Nat} {f g : Nat → α} {b i : Nat} {l : List α} {x : α} (inj : ∀ i j, i < m → j < m → (b + i) % m = (b + j) % m → i = j) (hl : l.length ≤ m) (h : rg m f b l) (hi : i < m) (hg : g ((b + i) % m) = x) (hn : ∀ j, j ≠ (b + i) % m → g j = f j) : rg m g b (l.set i x) := by
  intro j y hj
  have hjl : j < l.length := by
    have := (List.getElem?_eq_some_iff.mp hj).1
    simpa using this
  by_cases hij : i = j
  · subst hij
    rw [List.getElem?_set_self hjl] at hj
    rw [hg]
    exact Option.some.inj hj
  · rw [List.getElem?_set_ne hij] at hj
    rw [hn _ (fun q => hij (inj i j hi (by omega) q.symm))]
    exact h j y hj
theorem rg_snoc {α : Type} {m : Nat} {f g : Nat → α} {b : Nat} {l : List α} {x : α} (inj : ∀ i j, i < m → j < m → (b + i) % m = (b + j) % m → i = j) (hl : l.length < m) (h : rg m f b l) (hg : g ((b + l.length) % m) = x) (hn : ∀ j, j ≠ (b + l.length) % m → g j = f j) : rg m g b (l ++ [x]) := by
  intro j y hj
  by_cases hjl : j < l.length
  · rw [List.getElem?_append_left hjl] at hj
    rw [hn _ (fun q => by have := inj j l.length (by omega) hl q; omega)]
    exact h j y hj
  · rw [List.getElem?_append_right (by omega)] at hj
    have hz : j - l.length < 1 := (List.getElem?_eq_some_iff.mp hj).1
    have hj2 : j = l.length := by omega
    subst hj2
    simp at hj
    rw [hg, hj]
theorem rg_tail {α : Type} {m : Nat} {f : Nat → α} {b : Nat} {l : List α} {x : α} (h : rg m f b (x :: l)) : f (b % m) = x ∧ rg m f (b + 1) l := by
  refine ⟨by simpa using h 0 x rfl, fun i y hi => ?_⟩
  have := h (i + 1) y (by simpa using hi)
  rw [show b + 1 + i = b + (i + 1) by omega]
  exact this
theorem rg_base {α : Type} {m : Nat} {f : Nat → α} {b b2 : Nat} {l : List α} (hb : ∀ i, (b + i) % m = (b2 + i) % m) (h : rg m f b l) : rg m f b2 l := fun i x hi => by rw [← hb i]; exact h i x hi
theorem rg_cons {α : Type} {m : Nat} {f g : Nat → α} {b b2 : Nat} {l : List α} {x : α} (inj : ∀ i j, i < m → j < m → (b + i) % m = (b + j) % m → i = j) (hb : ∀ i, (b + (i + 1)) % m = (b2 + i) % m) (hl : l.length < m) (h : rg m f b2 l) (hg : g (b % m) = x) (hn : ∀ j, j ≠ b % m → g j = f j) : rg m g b (x :: l) := by
  intro j y hj
  cases j with
  | zero => simp at hj; rw [Nat.add_zero, hg, hj]
  | succ j =>
    have hj2 : l[j]? = some y := by simpa using hj
    have hjl : j < l.length := (List.getElem?_eq_some_iff.mp hj2).1
    rw [hn _ (fun q => by
      have := inj (j + 1) 0 (by omega) (by omega) (by rw [Nat.add_zero]; exact q)
      omega), hb j]
    exact h j y hj2
theorem rg_map {α β : Type} {m : Nat} {f : Nat → β} {b : Nat} {g : α → β} {l : List α} {i : Nat} {x : α} (h : rg m f b (l.map g)) (hi : l[i]? = some x) : f ((b + i) % m) = g x := h i (g x) (by rw [List.getElem?_map, hi]; rfl)
theorem inj16 (b : Nat) : ∀ i j, i < 16 → j < 16 → (b + i) % 16 = (b + j) % 16 → i = j := by intro i j h1 h2 h3; omega
theorem inj32 (b : Nat) : ∀ i j, i < 32 → j < 32 → (b + i) % 32 = (b + j) % 32 → i = j := by intro i j h1 h2 h3; omega
theorem inj256 (b : Nat) : ∀ i j, i < 256 → j < 256 → (b + i) % 256 = (b + j) % 256 → i = j := by intro i j h1 h2 h3; omega
/-! numbers of the machine -/
theorem n31 {n : Nat} (h : n < 2 ^ 32) : nI n &&& 31 = nI (n % 32) := pk_andN h (m := 31) 5 (by decide +kernel)
theorem n15 {n : Nat} (h : n < 2 ^ 32) : nI n &&& 15 = nI (n % 16) := pk_andN h (m := 15) 4 (by decide +kernel)
theorem n255 {n : Nat} (h : n < 2 ^ 32) : nI n &&& 255 = nI (n % 256) := pk_andN h (m := 255) 8 (by decide +kernel)
theorem nsub {a b : Nat} (ha : a ≤ 256) (hb : b < 65536) : (nI b - nI a) &&& 255 = nI ((b + 256 - a) % 256) := by
  rw [pk_and (nI b - nI a) (m := 255) 8 (by decide +kernel)]
  refine congrArg nI ?_
  have e1 : (nI b).toBitVec.toNat = b := pk_tn (by omega)
  have e2 : (nI a).toBitVec.toNat = a := pk_tn (by omega)
  show (nI b - nI a).toBitVec.toNat % 256 = _
  rw [Int32.toBitVec_sub, BitVec.toNat_sub, e1, e2]
  omega
theorem nm1 {a : Nat} (h : a < 65536) : (nI a + -1) &&& 31 = nI ((a + 31) % 32) := by
  rw [pk_and (nI a + -1) (m := 31) 5 (by decide +kernel)]
  refine congrArg nI ?_
  have e1 : (nI a).toBitVec.toNat = a := pk_tn (by omega)
  have e2 : (-1 : Int32).toBitVec.toNat = 4294967295 := by decide +kernel
  show (nI a + -1).toBitVec.toNat % 32 = _
  rw [Int32.toBitVec_add, BitVec.toNat_add, e1, e2]
  omega
theorem vin {n N : Nat} (h : n < N) (hN : N < 2 ^ 31) : vp_in (nI n) N := vp_in_nI h hN
/-! wires -/
def rW (Rm : Nat) (q : List (Int64 × Int32)) (o c r : Int32) (b : Nat → Int64) (s : Nat → Int32) : Prop := ∃ O : Nat, O < 32 ∧ o = nI O ∧ c = nI q.length ∧ r = nI Rm ∧ Rm ≤ 32 ∧ q.length ≤ Rm ∧ rg 32 b O (q.map (·.1)) ∧ rg 32 s O (q.map (·.2))
theorem rW_put {Rm : Nat} {q : List (Int64 × Int32)} {o c r : Int32} {b : Nat → Int64} {s : Nat → Int32} {x : Int64} {y : Int32} (h : rW Rm q o c r b s) (hq : q.length < Rm) : rW Rm (q ++ [(x, y)]) o (c + 1) r (vp_updL b ((o + c) &&& 31).toNatClampNeg x) (upd s ((o + c) &&& 31).toNatClampNeg y) := by
  obtain ⟨O, h1, rfl, rfl, rfl, h5, h6, h7, h8⟩ := h
  have e : ((nI O + nI q.length) &&& 31).toNatClampNeg = (O + q.length) % 32 := by rw [nI_add, n31 (by omega), nI_clamp (by omega)]
  rw [e]
  refine ⟨O, h1, rfl, by rw [nI_1]; simp, rfl, h5, by simp; omega, ?_, ?_⟩
  · rw [List.map_append]
    exact rg_snoc (inj32 O) (by simp; omega) h7 (by simp [pk_uLs]) (fun j hj => pk_uLn (by simpa using hj))
  · rw [List.map_append]
    exact rg_snoc (inj32 O) (by simp; omega) h8 (by simp [pk_us]) (fun j hj => pk_un (by simpa using hj))
theorem rW_in {Rm : Nat} {q : List (Int64 × Int32)} {o c r : Int32} {b : Nat → Int64} {s : Nat → Int32} (h : rW Rm q o c r b s) : vp_in o 32 := by
  obtain ⟨O, h1, rfl, -⟩ := h
  exact vin h1 (by omega)
theorem rW_take {Rm : Nat} {f : Int64 × Int32} {q : List (Int64 × Int32)} {o c r : Int32} {b : Nat → Int64} {s : Nat → Int32} (h : rW Rm (f :: q) o c r b s) : b o.toNatClampNeg = f.1 ∧ s o.toNatClampNeg = f.2 ∧ rW Rm q ((o + 1) &&& 31) (c - 1) r b s := by
  obtain ⟨O, h1, rfl, rfl, rfl, h5, h6, h7, h8⟩ := h
  obtain ⟨g1, g2⟩ := rg_tail h7
  obtain ⟨g3, g4⟩ := rg_tail h8
  simp only [List.length_cons] at h6
  rw [Nat.mod_eq_of_lt h1] at g1 g3
  rw [nI_clamp (by omega)]
  refine ⟨g1, g3, (O + 1) % 32, by omega, ?_, ?_, rfl, h5, by omega, rg_base (fun i => by omega) g2, rg_base (fun i => by omega) g4⟩
  · rw [nI_1, n31 (by omega)]
  · simp only [List.length_cons]
    exact nI_pred _
theorem rW_double {Rm : Nat} {f : Int64 × Int32} {q : List (Int64 × Int32)} {o c r : Int32} {b : Nat → Int64} {s : Nat → Int32} (h : rW Rm (f :: q) o c r b s) (hq : q.length + 1 < Rm) : rW Rm (f :: f :: q) ((o + -1) &&& 31) (c + 1) r (vp_updL b ((o + -1) &&& 31).toNatClampNeg (b o.toNatClampNeg)) (upd s ((o + -1) &&& 31).toNatClampNeg (s o.toNatClampNeg)) := by
  obtain ⟨f1, f2, -⟩ := rW_take h
  rw [f1, f2]
  obtain ⟨O, h1, rfl, rfl, rfl, h5, h6, h7, h8⟩ := h
  have e : (nI O + -1) &&& 31 = nI ((O + 31) % 32) := nm1 (by omega)
  rw [e, nI_clamp (by omega)]
  refine ⟨(O + 31) % 32, by omega, rfl, by rw [nI_1]; simp, rfl, h5, by simp; omega, ?_, ?_⟩
  · refine rg_cons (m := 32) (f := b) (b2 := O) (inj32 _) (fun i => by omega) (by simp; omega) h7 ?_ (fun j hj => pk_uLn ?_)
    · rw [Nat.mod_mod, pk_uLs]
    · rw [Nat.mod_mod] at hj; exact hj
  · refine rg_cons (m := 32) (f := s) (b2 := O) (inj32 _) (fun i => by omega) (by simp; omega) h8 ?_ (fun j hj => pk_un ?_)
    · rw [Nat.mod_mod, pk_us]
    · rw [Nat.mod_mod] at hj; exact hj
theorem rW_turnB {Rm : Nat} {f : Int64 × Int32} {q : List (Int64 × Int32)} {o c r : Int32} {b : Nat → Int64} {s : Nat → Int32} {z : Int64} (h : rW Rm (f :: q) o c r b s) : rW Rm ((f.1 ^^^ z, f.2) :: q) o c r (vp_updL b o.toNatClampNeg (b o.toNatClampNeg ^^^ z)) s := by
  obtain ⟨f1, f2, -⟩ := rW_take h
  rw [f1]
  obtain ⟨O, h1, rfl, rfl, rfl, h5, h6, h7, h8⟩ := h
  rw [nI_clamp (by omega)]
  refine ⟨O, h1, rfl, rfl, rfl, h5, h6, ?_, h8⟩
  have := rg_set (i := 0) (x := f.1 ^^^ z) (g := vp_updL b O (f.1 ^^^ z)) (inj32 O) (by simp only [List.length_map]; omega) h7 (by omega) (by rw [Nat.add_zero, Nat.mod_eq_of_lt h1, pk_uLs]) (fun j hj => pk_uLn (by rw [Nat.add_zero, Nat.mod_eq_of_lt h1] at hj; exact hj))
  exact this
theorem rW_turnS {Rm : Nat} {f : Int64 × Int32} {q : List (Int64 × Int32)} {o c r : Int32} {b : Nat → Int64} {s : Nat → Int32} {z : Int32} (h : rW Rm (f :: q) o c r b s) : rW Rm ((f.1, f.2 ^^^ z) :: q) o c r b (upd s o.toNatClampNeg (s o.toNatClampNeg ^^^ z)) := by
  obtain ⟨f1, f2, -⟩ := rW_take h
  rw [f2]
  obtain ⟨O, h1, rfl, rfl, rfl, h5, h6, h7, h8⟩ := h
  rw [nI_clamp (by omega)]
  refine ⟨O, h1, rfl, rfl, rfl, h5, h6, h7, ?_⟩
  have := rg_set (i := 0) (x := f.2 ^^^ z) (g := upd s O (f.2 ^^^ z)) (inj32 O) (by simp only [List.length_map]; omega) h8 (by omega) (by rw [Nat.add_zero, Nat.mod_eq_of_lt h1, pk_us]) (fun j hj => pk_un (by rw [Nat.add_zero, Nat.mod_eq_of_lt h1] at hj; exact hj))
  exact this
theorem rW_move {Rm : Nat} {f : Int64 × Int32} {q : List (Int64 × Int32)} {o c r : Int32} {b : Nat → Int64} {s : Nat → Int32} (h : rW Rm (f :: q) o c r b s) : rW Rm (q ++ [f]) ((o + 1) &&& 31) (c - 1 + 1) r (vp_updL b ((((o + 1) &&& 31) + (c - 1)) &&& 31).toNatClampNeg (b o.toNatClampNeg)) (upd s ((((o + 1) &&& 31) + (c - 1)) &&& 31).toNatClampNeg (s o.toNatClampNeg)) := by
  obtain ⟨f1, f2, h2⟩ := rW_take h
  rw [f1, f2]
  refine rW_put h2 ?_
  obtain ⟨O, h1, -, -, -, -, h6, -⟩ := h
  simp only [List.length_cons] at h6
  omega
theorem rW_at {Rm : Nat} {q : List (Int64 × Int32)} {o c r : Int32} {b : Nat → Int64} {s : Nat → Int32} {i : Nat} {f : Int64 × Int32} (h : rW Rm q o c r b s) (hi : q[i]? = some f) : b ((o + nI i) &&& 31).toNatClampNeg = f.1 ∧ s ((o + nI i) &&& 31).toNatClampNeg = f.2 := by
  obtain ⟨O, h1, rfl, rfl, rfl, h5, h6, h7, h8⟩ := h
  have hil : i < q.length := (List.getElem?_eq_some_iff.mp hi).1
  rw [nI_add, n31 (by omega), nI_clamp (by omega)]
  exact ⟨rg_map h7 hi, rg_map h8 hi⟩
theorem rW_0 {Rm : Nat} (h : Rm ≤ 32) (b : Nat → Int64) (s : Nat → Int32) : rW Rm [] 0 0 (nI Rm) b s := ⟨0, by omega, rfl, rfl, rfl, h, Nat.zero_le _, fun i x hi => by simp at hi, fun i x hi => by simp at hi⟩
end
section
/-! ABSTRACT STATES: entries of the sender by their distance from base; the receiver's words by their distance from first; m is 16 in the class, 256 in the reference -/
def bI (h : Bool) : Int32 := if h then 1 else 0
theorem bI0 {h : Bool} : bI h = 0 ↔ h = false := by cases h <;> simp [bI]
theorem bI1 {h : Bool} : ¬ bI h = 0 ↔ h = true := by cases h <;> simp [bI]
abbrev Ent : Type := Int32 × Int32 × Bool
abbrev EF : Type := Nat → Ent
abbrev Qu : Type := List (Int64 × Int32)
def uE (A : EF) (k : Nat) (e : Ent) : EF := fun j => if j = k then e else A j
theorem uE_s {A : EF} {k : Nat} {e : Ent} : uE A k e k = e := if_pos rfl
theorem uE_n {A : EF} {k j : Nat} {e : Ent} (h : j ≠ k) : uE A k e j = A j := if_neg h
def rE (m B h : Nat) (A : EF) (ws ags ack : Nat → Int32) : Prop := ∀ i, i < h → ws ((B + i) % m) = (A i).1 ∧ ags ((B + i) % m) = (A i).2.1 ∧ ack ((B + i) % m) = bI (A i).2.2
def m2 (m : Nat) : Prop := m = 16 ∨ m = 256
theorem m2_ge {m : Nat} (hm : m2 m) : 16 ≤ m := by rcases hm with rfl | rfl <;> omega
theorem m2_inj {m : Nat} (hm : m2 m) (b : Nat) {i j : Nat} (hi : i < m) (hj : j < m) (h : (b + i) % m = (b + j) % m) : i = j := by rcases hm with rfl | rfl <;> omega
theorem m2_ne {m : Nat} (hm : m2 m) (b : Nat) {i j : Nat} (hi : i < 16) (hj : j < 16) (e : i ≠ j) : (b + i) % m ≠ (b + j) % m := fun q => e (m2_inj hm b (by have := m2_ge hm; omega) (by have := m2_ge hm; omega) q)
theorem m2_sh {m : Nat} (hm : m2 m) (b i : Nat) : ((b + 1) % 256 + i) % m = (b + (i + 1)) % m := by rcases hm with rfl | rfl <;> omega
section RE
variable {m B h k : Nat} {A : EF} {ws ags ack : Nat → Int32}
theorem rE_age (hm : m2 m) (hh : h ≤ 16) (hr : rE m B h A ws ags ack) (hk : k < h) (a : Int32) : rE m B h (uE A k ((A k).1, a, (A k).2.2)) ws (upd ags ((B + k) % m) a) ack := by
  intro i hi
  obtain ⟨h1, h2, h3⟩ := hr i hi
  by_cases e : i = k
  · subst e
    rw [uE_s]
    exact ⟨h1, pk_us, h3⟩
  · rw [uE_n e]
    exact ⟨h1, (pk_un (m2_ne hm B (by omega) (by omega) e)).trans h2, h3⟩
theorem rE_ack (hm : m2 m) (hh : h ≤ 16) (hr : rE m B h A ws ags ack) (hk : k < h) : rE m B h (uE A k ((A k).1, (A k).2.1, true)) ws ags (upd ack ((B + k) % m) 1) := by
  intro i hi
  obtain ⟨h1, h2, h3⟩ := hr i hi
  by_cases e : i = k
  · subst e
    rw [uE_s]
    exact ⟨h1, h2, pk_us⟩
  · rw [uE_n e]
    exact ⟨h1, h2, (pk_un (m2_ne hm B (by omega) (by omega) e)).trans h3⟩
theorem rE_shift (hm : m2 m) (hr : rE m B (h + 1) A ws ags ack) : rE m ((B + 1) % 256) h (fun i => A (i + 1)) ws ags ack := by
  intro i hi
  rw [m2_sh hm]
  exact hr (i + 1) (by omega)
theorem rE_snoc (hm : m2 m) (hh : h < 16) (hr : rE m B h A ws ags ack) (w : Int32) : rE m B (h + 1) (uE A h (w, 0, false)) (upd ws ((B + h) % m) w) (upd ags ((B + h) % m) 0) (upd ack ((B + h) % m) 0) := by
  intro i hi
  by_cases e : i = h
  · subst e
    rw [uE_s]
    exact ⟨pk_us, pk_us, pk_us⟩
  · obtain ⟨h1, h2, h3⟩ := hr i (by omega)
    have e2 := m2_ne hm B (i := i) (j := h) (by omega) (by omega) e
    rw [uE_n e]
    exact ⟨(pk_un e2).trans h1, (pk_un e2).trans h2, (pk_un e2).trans h3⟩
end RE
def fr (x : Int64) : Int64 × Int32 := (x, f_sum x)
abbrev tS : Type := EF × Qu × Nat
/-- a tick, at number k from base -/
def tk1 (T : Int32) (Rm B k : Nat) (s : tS) : tS := match (s.1 k).2.2 with
  | true => s
  | false => if T ≤ (s.1 k).2.1 + 1 ∧ s.2.1.length < Rm then (uE s.1 k ((s.1 k).1, 0, false), s.2.1 ++ [fr (f_of 0 (nI ((B + k) % 256)) (s.1 k).1 0)], s.2.2 + 1) else (uE s.1 k ((s.1 k).1, (s.1 k).2.1 + 1, false), s.2.1, s.2.2)
def tkN (T : Int32) (Rm B : Nat) : Nat → Nat → tS → tS
  | 0, _, s => s
  | r + 1, k, s => tkN T Rm B r (k + 1) (tk1 T Rm B k s)
theorem tk1_t {T : Int32} {Rm B k : Nat} {A : EF} {q : Qu} {n : Nat} (h : (A k).2.2 = true) : tk1 T Rm B k (A, q, n) = (A, q, n) := by simp only [tk1, h]
theorem tk1_s {T : Int32} {Rm B k : Nat} {A : EF} {q : Qu} {n : Nat} (h : (A k).2.2 = false) (h1 : T ≤ (A k).2.1 + 1) (h2 : q.length < Rm) : tk1 T Rm B k (A, q, n) = (uE A k ((A k).1, 0, false), q ++ [fr (f_of 0 (nI ((B + k) % 256)) (A k).1 0)], n + 1) := by simp only [tk1, h, h1, h2, and_self, if_true]
theorem tk1_n {T : Int32} {Rm B k : Nat} {A : EF} {q : Qu} {n : Nat} (h : (A k).2.2 = false) (h1 : ¬ (T ≤ (A k).2.1 + 1 ∧ q.length < Rm)) : tk1 T Rm B k (A, q, n) = (uE A k ((A k).1, (A k).2.1 + 1, false), q, n) := by simp only [tk1, h, h1, if_false]
/-- marking those that P names -/
def mk1 (P : Nat → Bool) (k : Nat) (s : EF × Nat) : EF × Nat := if P k = true ∧ (s.1 k).2.2 = false then (uE s.1 k ((s.1 k).1, (s.1 k).2.1, true), s.2 + 1) else s
def mkN (P : Nat → Bool) : Nat → Nat → EF × Nat → EF × Nat
  | 0, _, s => s
  | r + 1, k, s => mkN P r (k + 1) (mk1 P k s)
/-- base goes on -/
def mvB : Nat → Nat → EF → Nat × Nat × EF
  | 0, B, A => (0, B, A)
  | h + 1, B, A => match (A 0).2.2 with
    | true => mvB h ((B + 1) % 256) (fun i => A (i + 1))
    | false => (h + 1, B, A)
/-- how many are not acknowledged -/
def unN (A : EF) : Nat → Nat → Nat → Nat
  | 0, _, c => c
  | r + 1, k, c => unN A r (k + 1) (if (A k).2.2 then c else c + 1)
/-- the bit of the map -/
def f_bit (m i : Int32) : Int32 := (m.toUInt32 >>> (i.toUInt32 &&& Int32.toUInt32 31)).toInt32 &&& 1
/-- what an acknowledgement names: before b, or in its map -/
def akP (mp : Int32) (b k : Nat) : Bool := decide (k < b) || (decide (b < k) && !decide (f_bit mp (nI (k - b - 1)) = 0))
/-! the receiver -/
abbrev VF : Type := Nat → Option Int32
def rV (m F : Nat) (V : VF) (wd th : Nat → Int32) : Prop := ∀ i, i < m → th ((F + i) % m) = bI (V i).isSome ∧ ∀ x, V i = some x → wd ((F + i) % m) = x
def uV (V : VF) (k : Nat) (x : Int32) : VF := fun j => if j = k then some x else V j
abbrev dS : Type := VF × Nat × Nat × (Nat → Int32)
def dlv : Nat → dS → dS
  | 0, s => s
  | r + 1, s => match s.1 0 with
    | none => s
    | some x => dlv r (fun i => s.1 (i + 1), (s.2.1 + 1) % 256, s.2.2.1 + 1, upd s.2.2.2 (s.2.2.1 % 256) x)
theorem rV_put {m F k : Nat} {V : VF} {wd th : Nat → Int32} {x : Int32} (hm : m2 m) (hr : rV m F V wd th) (hk : k < m) : rV m F (uV V k x) (upd wd ((F + k) % m) x) (upd th ((F + k) % m) 1) := by
  intro i hi
  by_cases e : i = k
  · subst e
    have e2 : uV V i x i = some x := if_pos rfl
    rw [e2]
    exact ⟨pk_us, fun y hy => by rw [pk_us]; exact Option.some.inj hy⟩
  · have e2 : uV V k x i = V i := if_neg e
    have e3 : (F + i) % m ≠ (F + k) % m := fun q => e (m2_inj hm F hi hk q)
    rw [e2, pk_un e3, pk_un e3]
    exact hr i hi
theorem rV_shift {m F : Nat} {V : VF} {wd th : Nat → Int32} (hm : m2 m) (hr : rV m F V wd th) (hV : V m = none) : rV m ((F + 1) % 256) (fun i => V (i + 1)) wd (upd th (F % m) 0) := by
  intro i hi
  rw [m2_sh hm]
  by_cases e : i + 1 = m
  · have e2 : (F + (i + 1)) % m = F % m := by rw [e, Nat.add_mod_right]
    rw [e2, pk_us]
    show 0 = bI (V (i + 1)).isSome ∧ ∀ x, V (i + 1) = some x → wd (F % m) = x
    rw [e, hV]
    exact ⟨rfl, fun x hx => by cases hx⟩
  · have e3 : (F + (i + 1)) % m ≠ F % m := fun q => by
      have := m2_inj hm F (i := i + 1) (j := 0) (by omega) (by omega) (by rw [Nat.add_zero]; exact q)
      omega
    rw [pk_un e3]
    exact hr (i + 1) (by omega)
theorem mk1_y {P : Nat → Bool} {k : Nat} {A : EF} {c : Nat} (h : P k = true) (h2 : (A k).2.2 = false) : mk1 P k (A, c) = (uE A k ((A k).1, (A k).2.1, true), c + 1) := by simp [mk1, h, h2]
theorem mk1_n {P : Nat → Bool} {k : Nat} {A : EF} {c : Nat} (h : P k = false) : mk1 P k (A, c) = (A, c) := by simp [mk1, h]
theorem mk1_a {P : Nat → Bool} {k : Nat} {A : EF} {c : Nat} (h : (A k).2.2 = true) : mk1 P k (A, c) = (A, c) := by simp [mk1, h]
theorem mvB_ok {m : Nat} (hm : m2 m) {ws ags ack : Nat → Int32} : ∀ (h B : Nat) (A : EF), B < 256 → rE m B h A ws ags ack → rE m (mvB h B A).2.1 (mvB h B A).1 (mvB h B A).2.2 ws ags ack ∧ (mvB h B A).2.1 < 256 ∧ ((mvB h B A).2.1 + (mvB h B A).1) % 256 = (B + h) % 256 ∧ (mvB h B A).1 ≤ h
  | 0, B, A, hB, hr => ⟨hr, hB, rfl, Nat.le_refl _⟩
  | h + 1, B, A, hB, hr => by
    unfold mvB
    cases e : (A 0).2.2 with
    | false => exact ⟨hr, hB, rfl, Nat.le_refl _⟩
    | true =>
      obtain ⟨h1, h2, h3, h4⟩ := mvB_ok hm h ((B + 1) % 256) (fun i => A (i + 1)) (Nat.mod_lt _ (by omega)) (rE_shift hm hr)
      exact ⟨h1, h2, h3.trans (by omega), Nat.le_succ_of_le h4⟩
theorem akP_lt {mp : Int32} {b k : Nat} (h : k < b) : akP mp b k = true := by simp [akP, h]
theorem akP_eq {mp : Int32} {b : Nat} : akP mp b b = false := by simp [akP]
theorem akP_gt {mp : Int32} {b k : Nat} (h : b < k) (h0 : ¬ f_bit mp (nI (k - b - 1)) = 0) : akP mp b k = true := by simp [akP, h, h0]
theorem akP_g0 {mp : Int32} {b k : Nat} (h : b < k) (h0 : f_bit mp (nI (k - b - 1)) = 0) : akP mp b k = false := by
  have : ¬ k < b := by omega
  simp [akP, h0, this]
/-! where frames lie: wires, sender, receiver as tuples of the machine's values -/
abbrev WP : Type := Int32 × Int32 × Int32 × (Nat → Int64) × (Nat → Int32)
abbrev SP : Type := Int32 × Int32 × Int32 × Int32 × Int32 × Int32 × (Nat → Int32) × (Nat → Int32) × (Nat → Int32)
abbrev RP : Type := (Nat → Int32) × (Nat → Int32) × (Nat → Int32) × Int32 × Int32 × Int32
abbrev wL (a b : WP) (s : SP) (r : RP) (R : pm_D) : pm_D :=
  .inr (3, [.ref 2, .ref 5, .ref 8, .ref 12]) :: .inr (2, [.ref 3, .ref 4, .int a.1, .int a.2.1, .int a.2.2.1]) :: .inl (1, 32, .inr (.inl a.2.2.2.1)) :: .inl (0, 32, .inl a.2.2.2.2)
  :: .inr (2, [.ref 6, .ref 7, .int b.1, .int b.2.1, .int b.2.2.1]) :: .inl (1, 32, .inr (.inl b.2.2.2.1)) :: .inl (0, 32, .inl b.2.2.2.2)
  :: .inr (1, [.ref 9, .ref 10, .ref 11, .int s.1, .int s.2.1, .int s.2.2.1, .int s.2.2.2.1, .int s.2.2.2.2.1, .int s.2.2.2.2.2.1]) :: .inl (0, 16, .inl s.2.2.2.2.2.2.1) :: .inl (0, 16, .inl s.2.2.2.2.2.2.2.1) :: .inl (2, 16, .inl s.2.2.2.2.2.2.2.2)
  :: .inr (0, [.ref 13, .ref 14, .ref 15, .int r.2.2.2.1, .int r.2.2.2.2.1, .int r.2.2.2.2.2]) :: .inl (0, 16, .inl r.1) :: .inl (2, 16, .inl r.2.1) :: .inl (0, 256, .inl r.2.2.1) :: R
def qW (Rm : Nat) (q : Qu) (P : WP) : Prop := rW Rm q P.1 P.2.1 P.2.2.1 P.2.2.2.1 P.2.2.2.2
def qS (Wn : Nat) (T : Int32) (B h : Nat) (A : EF) (tk ag : Int32) (s : SP) : Prop := ∃ ws ags ack : Nat → Int32, s = (nI Wn, T, nI B, nI ((B + h) % 256), tk, ag, ws, ags, ack) ∧ rE 16 B h A ws ags ack
def qR (Wn F : Nat) (V : VF) (D : Nat) (LG : Nat → Int32) (r : RP) : Prop := ∃ rw th : Nat → Int32, r = (rw, th, LG, nI Wn, nI F, nI D) ∧ rV 16 F V rw th
abbrev LkP : Type := WP × WP × SP × RP
abbrev wl (P : LkP) (R : pm_D) : pm_D := wL P.1 P.2.1 P.2.2.1 P.2.2.2 R
/-- the class's cells show this state -/
def rLk (Wn Rm : Nat) (T : Int32) (qa qb : Qu) (B h : Nat) (A : EF) (tk ag : Int32) (F : Nat) (V : VF) (D : Nat) (LG : Nat → Int32) (P : LkP) : Prop := qW Rm qa P.1 ∧ qW Rm qb P.2.1 ∧ qS Wn T B h A tk ag P.2.2.1 ∧ qR Wn F V D LG P.2.2.2
/-- what holds of every state -/
def IV (Wn Rm B h F : Nat) (V : VF) : Prop := 1 ≤ Wn ∧ Wn ≤ 16 ∧ 1 ≤ Rm ∧ Rm ≤ 32 ∧ B < 256 ∧ h ≤ Wn ∧ F < 256 ∧ (∀ j, Wn ≤ j → V j = none) ∧ V 0 = none
/-! the calls -/
def lsQ : Qu → Int32 × Qu
  | [] => (0, [])
  | _ :: q => (1, q)
def twQ (Rm : Nat) : Qu → Int32 × Qu
  | [] => (0, [])
  | f :: q => if q.length + 1 < Rm then (1, f :: f :: q) else (0, f :: q)
def dyQ : Qu → Int32 × Qu
  | f :: g :: q => (1, (g :: q) ++ [f])
  | q => (0, q)
def chF (x : Int32) (f : Int64 × Int32) : Int64 × Int32 := if 32 ≤ x then (f.1 ^^^ ((1 : Int64) <<< ((x - 32).toInt64 &&& 63)), f.2) else (f.1, f.2 ^^^ ((1 : Int32) <<< (x &&& 31)))
def chQ (x : Int32) : Qu → Int32 × Qu
  | [] => (0, [])
  | f :: q => (1, chF x f :: q)
def akM (V : VF) : Nat → Nat → Int32 → Int32
  | 0, _, m => m
  | r + 1, k, m => akM V r (k + 1) (if (V (k + 1)).isSome then m ||| ((1 : Int32) <<< (nI k &&& 31)) else m)
def akQ (Rm : Nat) (q : Qu) (F : Nat) (V : VF) : Qu := if q.length < Rm then q ++ [fr (f_of 1 (nI F) 0 (akM V 16 0 0))] else q
def fN (x : Int64) : Nat := (f_num x).toNatClampNeg
theorem fN_ok (x : Int64) : f_num x = nI (fN x) ∧ fN x < 256 := by
  obtain ⟨j, hj, e⟩ := pk_andE (f_ushr x 48).toInt32 (m := 255) 8 (by decide +kernel)
  have e2 : f_num x = nI j := e
  have e3 : fN x = j := by unfold fN; rw [e2, nI_clamp (by omega)]
  rw [e3]
  exact ⟨e2, hj⟩
abbrev cBS : Type := Int32 × Qu × Qu × dS
def cB (Wn Rm : Nat) (qa qb : Qu) (s : dS) : cBS := match qa with
  | [] => (-1, [], qb, s)
  | f :: q => if f_sum f.1 = f.2 ∧ f_kind f.1 = 0 then
      (if (fN f.1 + 256 - s.2.1) % 256 < Wn ∧ (s.1 ((fN f.1 + 256 - s.2.1) % 256)).isSome = false then
        (0, q, akQ Rm qb (dlv 16 (uV s.1 ((fN f.1 + 256 - s.2.1) % 256) (f_word f.1), s.2)).2.1 (dlv 16 (uV s.1 ((fN f.1 + 256 - s.2.1) % 256) (f_word f.1), s.2)).1, dlv 16 (uV s.1 ((fN f.1 + 256 - s.2.1) % 256) (f_word f.1), s.2))
      else (1, q, akQ Rm qb s.2.1 s.1, s))
    else (2, q, qb, s)
abbrev cAS : Type := Int32 × Qu × Nat × Nat × EF
def cA (qb : Qu) (h B : Nat) (A : EF) : cAS := match qb with
  | [] => (-1, [], h, B, A)
  | f :: q => if f_sum f.1 = f.2 ∧ f_kind f.1 = 1 then
      (if h < (fN f.1 + 256 - B) % 256 then (-2, q, h, B, A)
      else (nI (mkN (akP (f_map f.1) ((fN f.1 + 256 - B) % 256)) h 0 (A, 0)).2, q, mvB h B (mkN (akP (f_map f.1) ((fN f.1 + 256 - B) % 256)) h 0 (A, 0)).1))
    else (-3, q, h, B, A)
def snd (Wn Rm : Nat) (x : Int32) (qa : Qu) (B h : Nat) (A : EF) : Int32 × Qu × Nat × EF × Int32 := if h < Wn ∧ qa.length < Rm then (1, qa ++ [fr (f_of 0 (nI ((B + h) % 256)) x 0)], h + 1, uE A h (x, 0, false), 1) else (0, qa, h, A, 0)
abbrev pPut (P : WP) (x : Int64) (y : Int32) : WP := (P.1, P.2.1 + 1, P.2.2.1, vp_updL P.2.2.2.1 ((P.1 + P.2.1) &&& 31).toNatClampNeg x, upd P.2.2.2.2 ((P.1 + P.2.1) &&& 31).toNatClampNeg y)
theorem qW_put {Rm : Nat} {q : Qu} {P : WP} {x : Int64} {y : Int32} (h : qW Rm q P) (hq : q.length < Rm) : qW Rm (q ++ [(x, y)]) (pPut P x y) := rW_put h hq
abbrev pTake (P : WP) : WP := ((P.1 + 1) &&& 31, P.2.1 - 1, P.2.2.1, P.2.2.2.1, P.2.2.2.2)
abbrev pDbl (P : WP) (j : Int32) : WP := (j, P.2.1 + 1, P.2.2.1, vp_updL P.2.2.2.1 j.toNatClampNeg (P.2.2.2.1 P.1.toNatClampNeg), upd P.2.2.2.2 j.toNatClampNeg (P.2.2.2.2 P.1.toNatClampNeg))
abbrev pTrB (P : WP) (z : Int64) : WP := (P.1, P.2.1, P.2.2.1, vp_updL P.2.2.2.1 P.1.toNatClampNeg (P.2.2.2.1 P.1.toNatClampNeg ^^^ z), P.2.2.2.2)
abbrev pTrS (P : WP) (z : Int32) : WP := (P.1, P.2.1, P.2.2.1, P.2.2.2.1, upd P.2.2.2.2 P.1.toNatClampNeg (P.2.2.2.2 P.1.toNatClampNeg ^^^ z))
abbrev pMov (P : WP) : WP := ((P.1 + 1) &&& 31, P.2.1 - 1 + 1, P.2.2.1, vp_updL P.2.2.2.1 ((((P.1 + 1) &&& 31) + (P.2.1 - 1)) &&& 31).toNatClampNeg (P.2.2.2.1 P.1.toNatClampNeg), upd P.2.2.2.2 ((((P.1 + 1) &&& 31) + (P.2.1 - 1)) &&& 31).toNatClampNeg (P.2.2.2.2 P.1.toNatClampNeg))
theorem qW_take {Rm : Nat} {f : Int64 × Int32} {q : Qu} {P : WP} (h : qW Rm (f :: q) P) : qW Rm q (pTake P) := (rW_take h).2.2
theorem qW_dbl {Rm : Nat} {f : Int64 × Int32} {q : Qu} {P : WP} {j : Int32} (hj : (P.1 + -1) &&& 31 = j) (h : qW Rm (f :: q) P) (hq : q.length + 1 < Rm) : qW Rm (f :: f :: q) (pDbl P j) := by
  obtain ⟨o, c, r, b, s⟩ := P
  have h2 := rW_double (o := o) (c := c) (r := r) (b := b) (s := s) h hq
  have hj : (o + -1) &&& 31 = j := hj
  rw [hj] at h2
  exact h2
theorem c_dbl_A {d : Nat} {al : Bool} {k : pm_K} {kx : pm_X} {e1 : va_E} {o c r j : Int32} {b : Nat → Int64} {s : Nat → Int32} {R : pm_D} (hj : (o + -1) &&& 31 = j) (ho : vp_in o 32) (hk : k none (wA e1 j (c + 1) r (vp_updL b j.toNatClampNeg (b o.toNatClampNeg)) (upd s j.toNatClampNeg (s o.toNatClampNeg)) R)) : pm_C 43 (d + 1) al [.ref 2] (wA e1 o c r b s R) k kx := by
  subst hj
  exact c_doubleOldest_A ho hk
theorem c_dbl_B {d : Nat} {al : Bool} {k : pm_K} {kx : pm_X} {e1 e2 e3 e4 : va_E} {o c r j : Int32} {b : Nat → Int64} {s : Nat → Int32} {R : pm_D} (hj : (o + -1) &&& 31 = j) (ho : vp_in o 32) (hk : k none (wB e1 e2 e3 e4 j (c + 1) r (vp_updL b j.toNatClampNeg (b o.toNatClampNeg)) (upd s j.toNatClampNeg (s o.toNatClampNeg)) R)) : pm_C 43 (d + 1) al [.ref 5] (wB e1 e2 e3 e4 o c r b s R) k kx := by
  subst hj
  exact c_doubleOldest_B ho hk
theorem qW_trB {Rm : Nat} {f : Int64 × Int32} {q : Qu} {P : WP} {z : Int64} (h : qW Rm (f :: q) P) : qW Rm ((f.1 ^^^ z, f.2) :: q) (pTrB P z) := rW_turnB h
theorem qW_trS {Rm : Nat} {f : Int64 × Int32} {q : Qu} {P : WP} {z : Int32} (h : qW Rm (f :: q) P) : qW Rm ((f.1, f.2 ^^^ z) :: q) (pTrS P z) := rW_turnS h
theorem qW_mov {Rm : Nat} {f : Int64 × Int32} {q : Qu} {P : WP} (h : qW Rm (f :: q) P) : qW Rm (q ++ [f]) (pMov P) := rW_move h
end
section
/-! THE SENDER: its methods, and what they do to the list of its entries (word, age, acknowledged) -/
theorem ps_in (z : Int32) : vp_in (z &&& 15) 16 := pk_andIn z (m := 15) 4 (by decide +kernel) (by decide)
abbrev wS (e1 e2 e3 e4 e5 e6 e7 : va_E) (W T B N tk ag : Int32) (ws ags ack : Nat → Int32) (R : pm_D) : pm_D := e1 :: e2 :: e3 :: e4 :: e5 :: e6 :: e7 :: .inr (1, [.ref 9, .ref 10, .ref 11, .int W, .int T, .int B, .int N, .int tk, .int ag]) :: .inl (0, 16, .inl ws) :: .inl (0, 16, .inl ags) :: .inl (2, 16, .inl ack) :: R
theorem pz : (0 : Nat) ≤ 0 ∧ (0 : Nat) ≤ 0 := ⟨Nat.le_refl 0, Nat.le_refl 0⟩
section PS
variable {d : Nat} {al : Bool} {k : pm_K} {kx : pm_X} {e1 e2 e3 e4 e5 e6 e7 : va_E} {W T B N tk ag : Int32} {ws ags ack : Nat → Int32} {R : pm_D} {cb sb : Nat}
theorem c_sClear {x y : Int32} (hk : k none (wS e1 e2 e3 e4 e5 e6 e7 x y 0 0 0 0 ws ags ack R)) : pm_C 20 d al [.ref 8, .int x, .int y] (wS e1 e2 e3 e4 e5 e6 e7 W T B N tk ag ws ags ack R) k kx := pm_Ci rfl (pm_run 60 hk)
theorem c_held (hk : k (some (.int ((N - B) &&& 255))) (wS e1 e2 e3 e4 e5 e6 e7 W T B N tk ag ws ags ack R)) : pm_C 27 (d + 1) al [.ref 8] (wS e1 e2 e3 e4 e5 e6 e7 W T B N tk ag ws ags ack R) k kx := pm_Ci rfl (pm_run 40 (And.intro ⟨Nat.zero_le _, Nat.zero_le _⟩ (c_distance hk)))
theorem c_sHasRoom (h0 : W ≤ (N - B) &&& 255 → k (some (.int 0)) (wS e1 e2 e3 e4 e5 e6 e7 W T B N tk ag ws ags ack R)) (h1 : ¬ W ≤ (N - B) &&& 255 → k (some (.int 1)) (wS e1 e2 e3 e4 e5 e6 e7 W T B N tk ag ws ags ack R)) : pm_C 21 (d + 2) al [.ref 8] (wS e1 e2 e3 e4 e5 e6 e7 W T B N tk ag ws ags ack R) k kx :=
  pm_Ci rfl (pm_run 40 (And.intro ⟨Nat.zero_le _, Nat.zero_le _⟩ (c_held (And.intro (fun h => And.intro rfl (h0 h)) (fun h => And.intro rfl (h1 h))))))
theorem c_frameOf {x : Int32} (hk : k (some (.long (f_of 0 x (ws (x &&& 15).toNatClampNeg) 0))) (wS e1 e2 e3 e4 e5 e6 e7 W T B N tk ag ws ags ack R)) : pm_C 28 (d + 1) al [.ref 8, .int x] (wS e1 e2 e3 e4 e5 e6 e7 W T B N tk ag ws ags ack R) k kx :=
  pm_Ci rfl (pm_run 40 (And.intro ⟨Nat.zero_le _, Nat.zero_le _⟩ (c_slotOf (And.intro (ps_in _) (And.intro ⟨Nat.zero_le _, Nat.zero_le _⟩ (c_of hk))))))
theorem c_takeWord {x : Int32} (hk : k (some (.long (f_of 0 N (upd ws (N &&& 15).toNatClampNeg x (N &&& 15).toNatClampNeg) 0))) (wS e1 e2 e3 e4 e5 e6 e7 W T B ((N + 1) &&& 255) (tk + 1) ag (upd ws (N &&& 15).toNatClampNeg x) (upd ags (N &&& 15).toNatClampNeg 0) (upd ack (N &&& 15).toNatClampNeg (0 &&& 1)) R)) : pm_C 22 (d + 2) al [.ref 8, .int x] (wS e1 e2 e3 e4 e5 e6 e7 W T B N tk ag ws ags ack R) k kx :=
  pm_Ci rfl (pm_run 80 (And.intro ⟨Nat.zero_le _, Nat.zero_le _⟩ (c_slotOf (And.intro (ps_in _) (And.intro (ps_in _) (And.intro (ps_in _) (And.intro ⟨Nat.zero_le _, Nat.zero_le _⟩ (c_plus (And.intro ⟨Nat.zero_le _, Nat.zero_le _⟩ (c_frameOf hk))))))))))
theorem c_isGood {x : Int32} (h0 : (N - B) &&& 255 < (x - B) &&& 255 → k (some (.int 0)) (wS e1 e2 e3 e4 e5 e6 e7 W T B N tk ag ws ags ack R)) (h1 : ¬ (N - B) &&& 255 < (x - B) &&& 255 → k (some (.int 1)) (wS e1 e2 e3 e4 e5 e6 e7 W T B N tk ag ws ags ack R)) : pm_C 24 (d + 2) al [.ref 8, .int x] (wS e1 e2 e3 e4 e5 e6 e7 W T B N tk ag ws ags ack R) k kx :=
  pm_Ci rfl (pm_run 40 (And.intro ⟨Nat.zero_le _, Nat.zero_le _⟩ (c_distance (And.intro ⟨Nat.zero_le _, Nat.zero_le _⟩ (c_held (And.intro (fun h => And.intro rfl (h0 h)) (fun h => And.intro rfl (h1 h))))))))
theorem c_isInMap {w : pm_D} {x y : Int32} (h1 : ¬ y < 0 → ¬ 16 ≤ y → ¬ f_bit x y = 0 → k (some (.int 1)) w) (h0 : y < 0 ∨ 16 ≤ y ∨ f_bit x y = 0 → k (some (.int 0)) w) : pm_C 29 d al [.int x, .int y] w k kx :=
  pm_Ci rfl (pm_run 40 (And.intro (fun h => And.intro rfl (h0 (Or.inl h))) (fun g1 => And.intro (fun h => And.intro rfl (h0 (Or.inr (Or.inl h)))) (fun g2 => And.intro (fun h => And.intro rfl (h0 (Or.inr (Or.inr h)))) (fun g3 => And.intro rfl (h1 g1 g2 g3))))))
theorem c_mark {x : Int32} (h1 : ack (x &&& 15).toNatClampNeg = 0 → k (some (.int 1)) (wS e1 e2 e3 e4 e5 e6 e7 W T B N tk ag ws ags (upd ack (x &&& 15).toNatClampNeg (1 &&& 1)) R)) (h0 : ¬ ack (x &&& 15).toNatClampNeg = 0 → k (some (.int 0)) (wS e1 e2 e3 e4 e5 e6 e7 W T B N tk ag ws ags ack R)) : pm_C 30 (d + 1) al [.ref 8, .int x] (wS e1 e2 e3 e4 e5 e6 e7 W T B N tk ag ws ags ack R) k kx :=
  pm_Ci rfl (pm_run 40 (And.intro ⟨Nat.zero_le _, Nat.zero_le _⟩ (c_slotOf (And.intro (ps_in _) (And.intro (fun h => And.intro (ps_in _) (h1 h)) (fun h => h0 h))))))
end PS
theorem slot16 {a i : Nat} (h : a < 65536) (hi : i < 65536) : ((nI a + nI i) &&& 255) &&& 15 = nI ((a + i) % 16) := by
  rw [nI_add, n255 (by omega), n15 (by omega)]
  refine congrArg nI ?_
  omega
theorem slot16c {a i : Nat} (h : a < 65536) (hi : i < 65536) : (((nI a + nI i) &&& 255) &&& 15).toNatClampNeg = (a + i) % 16 := by rw [slot16 h hi, nI_clamp (by omega)]
theorem plus256 {a i : Nat} (h : a < 65536) (hi : i < 65536) : (nI a + nI i) &&& 255 = nI ((a + i) % 256) := by rw [nI_add, n255 (by omega)]
theorem held_eq {B h : Nat} (hB : B < 256) (hh : h ≤ 16) : (nI ((B + h) % 256) - nI B) &&& 255 = nI h := by
  rw [nsub (by omega) (by omega)]
  refine congrArg nI ?_
  omega
theorem rW_room {Rm : Nat} {q : Qu} {o c r : Int32} {b : Nat → Int64} {s : Nat → Int32} (h : rW Rm q o c r b s) : (r ≤ c ↔ Rm ≤ q.length) := by
  obtain ⟨O, h1, rfl, rfl, rfl, h5, h6, h7, h8⟩ := h
  exact nI_leI (by omega) (by omega)
theorem rW_emp {Rm : Nat} {q : Qu} {o c r : Int32} {b : Nat → Int64} {s : Nat → Int32} (h : rW Rm q o c r b s) : (c = 0 ↔ q = []) := by
  obtain ⟨O, h1, rfl, rfl, rfl, h5, h6, h7, h8⟩ := h
  rw [← nI_0, nI_eq (by omega) (by omega), List.length_eq_zero_iff]
section PS2
variable {d : Nat} {al : Bool} {k : pm_K} {kx : pm_X} {cb sb : Nat} {R : pm_D}
theorem l_unack {e1 e2 e3 e4 e5 e6 e7 : va_E} {W T N tk ag : Int32} {ws ags ack : Nat → Int32} {B h : Nat} {A : EF} (hB : B < 256) (hh : h ≤ 16) (hr : rE 16 B h A ws ags ack) : ∀ (r i c : Nat), i + r = h → k (some (.int (nI (unN A r i c)))) (wS e1 e2 e3 e4 e5 e6 e7 W T (nI B) N tk ag ws ags ack R) →
    pm_J 26 (d + 1) al none k kx 9 [some (.ref 8), some (.int (nI c)), some (.int (nI h)), some (.int (nI i))] [] (wS e1 e2 e3 e4 e5 e6 e7 W T (nI B) N tk ag ws ags ack R) cb sb := by
  intro r
  induction r with
  | zero =>
    intro i c hi hk
    exact pm_run 40 (And.intro (fun _ => hk) (fun h => absurd (nI_le (by omega) (by omega)) h))
  | succ r ih =>
    intro i c hi hk
    obtain ⟨-, -, hv⟩ := hr i (by omega)
    refine pm_run 80 (And.intro (fun h => absurd h (nI_ge (by omega) (by omega))) (fun _ => And.intro ⟨Nat.zero_le _, Nat.zero_le _⟩ (c_plus (And.intro ⟨Nat.zero_le _, Nat.zero_le _⟩ (c_slotOf (And.intro (ps_in _) (And.intro (fun h => ?_) (fun h => ?_))))))))
    · rw [slot16c (by omega) (by omega), hv, bI1] at h
      refine pm_J.locals (M := [some (.ref 8), some (.int (nI c)), some (.int (nI _)), some (.int (nI (i + 1)))]) (ih (i + 1) c (by omega) ?_) ⟨rfl, rfl, rfl, congrArg (fun z => some (Value.int z)) (nI_succ i).symm, trivial⟩
      have e9 : unN A (r + 1) i c = unN A r (i + 1) c := by simp only [unN, if_pos h]
      rw [e9] at hk
      exact hk
    · rw [slot16c (by omega) (by omega), hv, bI0] at h
      refine pm_J.locals (M := [some (.ref 8), some (.int (nI (c + 1))), some (.int (nI _)), some (.int (nI (i + 1)))]) (ih (i + 1) (c + 1) (by omega) ?_) ⟨rfl, congrArg (fun z => some (Value.int z)) (nI_succ c).symm, rfl, congrArg (fun z => some (Value.int z)) (nI_succ i).symm, trivial⟩
      have e9 : unN A (r + 1) i c = unN A r (i + 1) (c + 1) := by simp [unN, h]
      rw [e9] at hk
      exact hk
theorem c_unack {e1 e2 e3 e4 e5 e6 e7 : va_E} {W T N tk ag : Int32} {ws ags ack : Nat → Int32} {B h : Nat} {A : EF} (hB : B < 256) (hh : h ≤ 16) (hN : N = nI ((B + h) % 256)) (hr : rE 16 B h A ws ags ack) (hk : k (some (.int (nI (unN A h 0 0)))) (wS e1 e2 e3 e4 e5 e6 e7 W T (nI B) N tk ag ws ags ack R)) : pm_C 26 (d + 2) al [.ref 8] (wS e1 e2 e3 e4 e5 e6 e7 W T (nI B) N tk ag ws ags ack R) k kx := by
  refine pm_Ci rfl (pm_run 40 (And.intro ⟨Nat.zero_le _, Nat.zero_le _⟩ (c_held ?_)))
  rw [hN, held_eq hB hh, ← hN]
  exact l_unack (d := d + 1) hB hh hr h 0 0 (by omega) hk
theorem l_move {e1 e2 e3 e4 e5 e6 e7 : va_E} {W T N tk ag : Int32} {ws ags ack : Nat → Int32} {h0 : Nat} (hh : h0 ≤ 16) : ∀ (h i B : Nat) (A : EF), i + h = h0 → B < 256 → rE 16 B h A ws ags ack → k none (wS e1 e2 e3 e4 e5 e6 e7 W T (nI (mvB h B A).2.1) N tk ag ws ags ack R) →
    pm_J 31 (d + 1) al none k kx 7 [some (.ref 8), some (.int (nI h0)), some (.int (nI i))] [] (wS e1 e2 e3 e4 e5 e6 e7 W T (nI B) N tk ag ws ags ack R) cb sb := by
  intro h
  induction h with
  | zero =>
    intro i B A hi hB hr hk
    exact pm_run 40 (And.intro (fun _ => hk) (fun h => absurd (nI_le (by omega) (by omega)) h))
  | succ h ih =>
    intro i B A hi hB hr hk
    obtain ⟨-, -, hv⟩ := hr 0 (by omega)
    have e15 : (nI B &&& 15).toNatClampNeg = (B + 0) % 16 := by rw [n15 (by omega), nI_clamp (by omega)]; rfl
    refine pm_run 80 (And.intro (fun h => absurd h (nI_ge (by omega) (by omega))) (fun _ => And.intro ⟨Nat.zero_le _, Nat.zero_le _⟩ (c_slotOf (And.intro (ps_in _) (And.intro (fun h => ?_) (fun h => And.intro ⟨Nat.zero_le _, Nat.zero_le _⟩ (c_plus ?_)))))))
    · rw [e15, hv, bI0] at h
      unfold mvB at hk
      rw [h] at hk
      exact hk
    · rw [e15, hv, bI1] at h
      have e2 : (nI B + 1) &&& 255 = nI ((B + 1) % 256) := by rw [nI_1, n255 (by omega)]
      unfold mvB at hk
      rw [h] at hk
      refine pm_J.locals (M := [some (.ref 8), some (.int (nI h0)), some (.int (nI (i + 1)))]) ?_ ⟨rfl, rfl, congrArg (fun z => some (Value.int z)) (nI_succ i).symm, trivial⟩
      have := ih (i + 1) ((B + 1) % 256) (fun i => A (i + 1)) (by omega) (Nat.mod_lt _ (by omega)) (rE_shift (Or.inl rfl) hr) hk
      rw [← e2] at this
      exact this
theorem c_move {e1 e2 e3 e4 e5 e6 e7 : va_E} {W T N tk ag : Int32} {ws ags ack : Nat → Int32} {B h : Nat} {A : EF} (hB : B < 256) (hh : h ≤ 16) (hN : N = nI ((B + h) % 256)) (hr : rE 16 B h A ws ags ack) (hk : k none (wS e1 e2 e3 e4 e5 e6 e7 W T (nI (mvB h B A).2.1) N tk ag ws ags ack R)) : pm_C 31 (d + 2) al [.ref 8] (wS e1 e2 e3 e4 e5 e6 e7 W T (nI B) N tk ag ws ags ack R) k kx := by
  refine pm_Ci rfl (pm_run 40 (And.intro ⟨Nat.zero_le _, Nat.zero_le _⟩ (c_held ?_)))
  rw [hN, held_eq hB hh, ← hN]
  exact l_move (d := d + 1) hh h 0 B A (by omega) hB hr hk
theorem l_ack {e1 e2 e3 e4 e5 e6 e7 : va_E} {W T N tk ag mp : Int32} {ws ags : Nat → Int32} {B h b : Nat} (hB : B < 256) (hh : h ≤ 16) (hb : b ≤ h) (hN : N = nI ((B + h) % 256)) : ∀ (r i : Nat) (A : EF) (c : Nat) (ack : Nat → Int32), i + r = h → rE 16 B h A ws ags ack → (∀ ack' : Nat → Int32, rE 16 B h (mkN (akP mp b) r i (A, c)).1 ws ags ack' → k (some (.int (nI (mkN (akP mp b) r i (A, c)).2))) (wS e1 e2 e3 e4 e5 e6 e7 W T (nI (mvB h B (mkN (akP mp b) r i (A, c)).1).2.1) N tk ag ws ags ack' R)) →
    pm_J 25 (d + 3) al none k kx 21 [some (.ref 8), none, some (.int mp), some (.int (nI h)), some (.int (nI b)), some (.int (nI c)), some (.int (nI i))] [] (wS e1 e2 e3 e4 e5 e6 e7 W T (nI B) N tk ag ws ags ack R) cb sb := by
  intro r
  induction r with
  | zero =>
    intro i A c ack hi hr hk
    exact pm_run 40 (And.intro (fun _ => And.intro ⟨Nat.zero_le _, Nat.zero_le _⟩ (c_move hB hh hN hr (hk ack hr))) (fun h => absurd (nI_le (by omega) (by omega)) h))
  | succ r ih =>
    intro i A c ack hi hr hk
    obtain ⟨-, -, hv⟩ := hr i (by omega)
    refine pm_run 80 (And.intro (fun h => absurd h (nI_ge (by omega) (by omega))) (fun _ => And.intro (fun hlt => ?_) (fun hlt => And.intro ⟨Nat.zero_le _, Nat.zero_le _⟩ (c_isInMap (fun g1 g2 g3 => And.intro (fun h => absurd h (by decide)) (fun _ => ?_)) (fun g => And.intro (fun _ => ?_) (fun h => absurd rfl h))))))
    · -- mark: below
      have hP : akP mp b i = true := akP_lt ((nI_ltI (by omega) (by omega)).mp hlt)
      refine And.intro ⟨Nat.zero_le _, Nat.zero_le _⟩ (c_plus (And.intro ⟨Nat.zero_le _, Nat.zero_le _⟩ (c_mark (fun h => ?_) (fun h => ?_))))
      · rw [slot16c (by omega) (by omega), hv, bI0] at h
        refine pm_J.locals (M := [some (.ref 8), none, some (.int mp), some (.int (nI _)), some (.int (nI b)), some (.int (nI (c + 1))), some (.int (nI (i + 1)))]) (ih (i + 1) _ (c + 1) _ (by omega) (by rw [slot16c (by omega) (by omega)]; exact rE_ack (Or.inl rfl) hh hr (by omega)) ?_) ⟨rfl, rfl, rfl, rfl, congrArg (fun z => some (Value.int z)) (nI_succ c).symm, congrArg (fun z => some (Value.int z)) (nI_succ i).symm, trivial⟩
        have e9 : mkN (akP mp b) (r + 1) i (A, c) = mkN (akP mp b) r (i + 1) (uE A i ((A i).1, (A i).2.1, true), c + 1) := by rw [mkN, mk1_y hP h]
        rw [e9] at hk
        exact hk
      · rw [slot16c (by omega) (by omega), hv, bI1] at h
        refine pm_J.locals (M := [some (.ref 8), none, some (.int mp), some (.int (nI _)), some (.int (nI b)), some (.int (nI c)), some (.int (nI (i + 1)))]) (ih (i + 1) A c ack (by omega) hr ?_) ⟨rfl, rfl, rfl, rfl, congrArg (fun z => some (Value.int z)) (Int32.add_zero _), congrArg (fun z => some (Value.int z)) (nI_succ i).symm, trivial⟩
        have e9 : mkN (akP mp b) (r + 1) i (A, c) = mkN (akP mp b) r (i + 1) (A, c) := by rw [mkN, mk1_a h]
        rw [e9] at hk
        exact hk
    · -- mark: in the map
      have hP : akP mp b i = true := by
        have hlt : ¬ i < b := fun q => hlt ((nI_ltI (by omega) (by omega)).mpr q)
        by_cases e : i = b
        · subst e
          exact absurd (by rw [Int32.sub_self]; decide) g1
        · have e3 : nI i - nI b - Int32.ofNat 1 = nI (i - b - 1) := by rw [pk_sub (by omega)]; exact pk_sub (b := 1) (by omega)
          rw [e3] at g3
          exact akP_gt (by omega) g3
      refine And.intro ⟨Nat.zero_le _, Nat.zero_le _⟩ (c_plus (And.intro ⟨Nat.zero_le _, Nat.zero_le _⟩ (c_mark (fun h => ?_) (fun h => ?_))))
      · rw [slot16c (by omega) (by omega), hv, bI0] at h
        refine pm_J.locals (M := [some (.ref 8), none, some (.int mp), some (.int (nI _)), some (.int (nI b)), some (.int (nI (c + 1))), some (.int (nI (i + 1)))]) (ih (i + 1) _ (c + 1) _ (by omega) (by rw [slot16c (by omega) (by omega)]; exact rE_ack (Or.inl rfl) hh hr (by omega)) ?_) ⟨rfl, rfl, rfl, rfl, congrArg (fun z => some (Value.int z)) (nI_succ c).symm, congrArg (fun z => some (Value.int z)) (nI_succ i).symm, trivial⟩
        have e9 : mkN (akP mp b) (r + 1) i (A, c) = mkN (akP mp b) r (i + 1) (uE A i ((A i).1, (A i).2.1, true), c + 1) := by rw [mkN, mk1_y hP h]
        rw [e9] at hk
        exact hk
      · rw [slot16c (by omega) (by omega), hv, bI1] at h
        refine pm_J.locals (M := [some (.ref 8), none, some (.int mp), some (.int (nI _)), some (.int (nI b)), some (.int (nI c)), some (.int (nI (i + 1)))]) (ih (i + 1) A c ack (by omega) hr ?_) ⟨rfl, rfl, rfl, rfl, congrArg (fun z => some (Value.int z)) (Int32.add_zero _), congrArg (fun z => some (Value.int z)) (nI_succ i).symm, trivial⟩
        have e9 : mkN (akP mp b) (r + 1) i (A, c) = mkN (akP mp b) r (i + 1) (A, c) := by rw [mkN, mk1_a h]
        rw [e9] at hk
        exact hk
    · have hlt : ¬ i < b := fun q => hlt ((nI_ltI (by omega) (by omega)).mpr q)
      have hP : akP mp b i = false := by
        by_cases e : i = b
        · subst e
          exact akP_eq
        · have e3 : nI i - nI b - Int32.ofNat 1 = nI (i - b - 1) := by rw [pk_sub (by omega)]; exact pk_sub (b := 1) (by omega)
          rw [e3] at g
          rcases g with g | g | g
          · exact absurd g (nI_pos (by omega))
          · exact absurd g (nI_ge (b := 16) (by omega) (by omega))
          · exact akP_g0 (by omega) g
      refine pm_J.locals (M := [some (.ref 8), none, some (.int mp), some (.int (nI _)), some (.int (nI b)), some (.int (nI c)), some (.int (nI (i + 1)))]) (ih (i + 1) A c ack (by omega) hr ?_) ⟨rfl, rfl, rfl, rfl, rfl, congrArg (fun z => some (Value.int z)) (nI_succ i).symm, trivial⟩
      have e9 : mkN (akP mp b) (r + 1) i (A, c) = mkN (akP mp b) r (i + 1) (A, c) := by rw [mkN, mk1_n hP]
      rw [e9] at hk
      exact hk
theorem c_ack {e1 e2 e3 e4 e5 e6 e7 : va_E} {W T N tk ag x mp : Int32} {ws ags ack : Nat → Int32} {B h b : Nat} {A : EF} (hB : B < 256) (hh : h ≤ 16) (hN : N = nI ((B + h) % 256)) (hx : (x - nI B) &&& 255 = nI b) (hb : b ≤ h) (hr : rE 16 B h A ws ags ack)
    (hk : ∀ ack' : Nat → Int32, rE 16 B h (mkN (akP mp b) h 0 (A, 0)).1 ws ags ack' → k (some (.int (nI (mkN (akP mp b) h 0 (A, 0)).2))) (wS e1 e2 e3 e4 e5 e6 e7 W T (nI (mvB h B (mkN (akP mp b) h 0 (A, 0)).1).2.1) N tk ag ws ags ack' R)) : pm_C 25 (d + 4) al [.ref 8, .int x, .int mp] (wS e1 e2 e3 e4 e5 e6 e7 W T (nI B) N tk ag ws ags ack R) k kx := by
  refine pm_Ci rfl (pm_run 40 (And.intro ⟨Nat.zero_le _, Nat.zero_le _⟩ (c_held ?_)))
  rw [hN, held_eq hB hh, ← hN]
  refine And.intro ⟨Nat.zero_le _, Nat.zero_le _⟩ (c_distance ?_)
  rw [hx]
  exact pm_J.locals (l_ack (d := d + 1) hB hh hb hN h 0 A 0 ack (by omega) hr hk) ⟨rfl, rfl, rfl, rfl, rfl, rfl, trivial⟩
abbrev wAS (e1 e5 e6 e7 : va_E) (a : WP) (W T B N tk ag : Int32) (ws ags ack : Nat → Int32) (R : pm_D) : pm_D := wS e1 (.inr (2, [.ref 3, .ref 4, .int a.1, .int a.2.1, .int a.2.2.1])) (.inl (1, 32, .inr (.inl a.2.2.2.1))) (.inl (0, 32, .inl a.2.2.2.2)) e5 e6 e7 W T B N tk ag ws ags ack R
theorem l_again {e1 e5 e6 e7 : va_E} {W T N tk ag : Int32} {ws ack : Nat → Int32} {Rm B h : Nat} (hB : B < 256) (hh : h ≤ 16) : ∀ (r i : Nat) (A : EF) (q : Qu) (n : Nat) (P : WP) (ags : Nat → Int32), i + r = h → qW Rm q P → rE 16 B h A ws ags ack → (∀ (P' : WP) (ags' : Nat → Int32), qW Rm (tkN T Rm B r i (A, q, n)).2.1 P' → rE 16 B h (tkN T Rm B r i (A, q, n)).1 ws ags' ack → k (some (.int (nI (tkN T Rm B r i (A, q, n)).2.2))) (wAS e1 e5 e6 e7 P' W T (nI B) N tk (ag + nI (tkN T Rm B r i (A, q, n)).2.2) ws ags' ack R)) →
    pm_J 23 (d + 3) al none k kx 10 [some (.ref 8), some (.ref 2), some (.int (nI n)), some (.int (nI h)), some (.int (nI i)), none, none] [] (wAS e1 e5 e6 e7 P W T (nI B) N tk ag ws ags ack R) cb sb := by
  intro r
  induction r with
  | zero =>
    intro i A q n P ags hi hw hr hk
    exact pm_run 40 (And.intro (fun _ => hk P ags hw hr) (fun h => absurd (nI_le (by omega) (by omega)) h))
  | succ r ih =>
    intro i A q n P ags hi hw hr hk
    obtain ⟨hv1, hv2, hv⟩ := hr i (by omega)
    have es : (((nI B + nI i) &&& 255) &&& 15).toNatClampNeg = (B + i) % 16 := slot16c (by omega) (by omega)
    have en : (nI B + nI i) &&& 255 = nI ((B + i) % 256) := plus256 (by omega) (by omega)
    have ea : upd ags ((B + i) % 16) (ags ((B + i) % 16) + 1) ((B + i) % 16) = (A i).2.1 + 1 := by rw [pk_us, hv2]
    refine pm_run 120 (And.intro (fun h => absurd h (nI_ge (by omega) (by omega))) (fun _ => And.intro ⟨Nat.zero_le _, Nat.zero_le _⟩ (c_plus (And.intro ⟨Nat.zero_le _, Nat.zero_le _⟩ (c_slotOf (And.intro (ps_in _) (And.intro (fun h0 => And.intro (ps_in _) (And.intro (ps_in _) (And.intro (ps_in _) (And.intro (fun hT => ?_) (fun hT => And.intro ⟨Nat.zero_le _, Nat.zero_le _⟩ (c_hasRoom_A (fun hq => And.intro (fun _ => ?_) (fun h => absurd rfl h)) (fun hq => And.intro (fun h => absurd h (by decide)) (fun _ => And.intro ⟨Nat.zero_le _, Nat.zero_le _⟩ (c_frameOf (And.intro ⟨Nat.zero_le _, Nat.zero_le _⟩ (c_put_A (And.intro (ps_in _) ?_)))))))))))) (fun h0 => ?_))))))))
    · rw [es, hv, bI0] at h0
      rw [es] at hT
      have hT : ¬ T ≤ (A i).2.1 + 1 := by rw [← ea]; exact Int32.not_le.mpr hT
      refine pm_J.locals (M := [some (.ref 8), some (.ref 2), some (.int (nI n)), some (.int (nI h)), some (.int (nI (i + 1))), none, none]) (ih (i + 1) _ q n P _ (by omega) hw (by rw [es]; exact rE_age (Or.inl rfl) hh hr (by omega) _) ?_) ⟨rfl, rfl, rfl, rfl, congrArg (fun z => some (Value.int z)) (nI_succ i).symm, trivial⟩
      have e9 : tkN T Rm B (r + 1) i (A, q, n) = tkN T Rm B r (i + 1) (uE A i ((A i).1, ags ((B + i) % 16) + 1, (A i).2.2), q, n) := by rw [tkN, tk1_n h0 (fun z => hT z.1), hv2, h0]
      rw [e9] at hk
      exact hk
    · rw [es, hv, bI0] at h0
      have hq : Rm ≤ q.length := (rW_room hw).mp hq
      refine pm_J.locals (M := [some (.ref 8), some (.ref 2), some (.int (nI n)), some (.int (nI h)), some (.int (nI (i + 1))), none, none]) (ih (i + 1) _ q n P _ (by omega) hw (by rw [es]; exact rE_age (Or.inl rfl) hh hr (by omega) _) ?_) ⟨rfl, rfl, rfl, rfl, congrArg (fun z => some (Value.int z)) (nI_succ i).symm, trivial⟩
      have e9 : tkN T Rm B (r + 1) i (A, q, n) = tkN T Rm B r (i + 1) (uE A i ((A i).1, ags ((B + i) % 16) + 1, (A i).2.2), q, n) := by rw [tkN, tk1_n h0 (fun z => absurd z.2 (by omega)), hv2, h0]
      rw [e9] at hk
      exact hk
    · rw [es, hv, bI0] at h0
      rw [es] at hT
      have hT : T ≤ (A i).2.1 + 1 := by rw [← ea]; exact Int32.not_lt.mp hT
      have hq : q.length < Rm := Nat.lt_of_not_le (fun z => hq ((rW_room hw).mpr z))
      refine pm_J.locals (M := [some (.ref 8), some (.ref 2), some (.int (nI (n + 1))), some (.int (nI h)), some (.int (nI (i + 1))), none, none]) (ih (i + 1) _ _ (n + 1) (pPut P (f_of 0 ((nI B + nI i) &&& 255) (ws ((((nI B + nI i) &&& 255) &&& 15).toNatClampNeg)) 0) (f_sum (f_of 0 ((nI B + nI i) &&& 255) (ws ((((nI B + nI i) &&& 255) &&& 15).toNatClampNeg)) 0))) (upd (upd ags ((((nI B + nI i) &&& 255) &&& 15).toNatClampNeg) (ags ((((nI B + nI i) &&& 255) &&& 15).toNatClampNeg) + 1)) ((((nI B + nI i) &&& 255) &&& 15).toNatClampNeg) 0) (by omega) (qW_put hw hq) (by rw [es]; exact rE_age (Or.inl rfl) hh (rE_age (Or.inl rfl) hh hr (by omega) _) (by omega) _) ?_) ⟨rfl, rfl, congrArg (fun z => some (Value.int z)) (nI_succ n).symm, rfl, congrArg (fun z => some (Value.int z)) (nI_succ i).symm, trivial⟩
      rw [es, en, hv1]
      have e8 : uE (uE A i ((A i).1, ags ((B + i) % 16) + 1, (A i).2.2)) i ((uE A i ((A i).1, ags ((B + i) % 16) + 1, (A i).2.2) i).1, 0, (uE A i ((A i).1, ags ((B + i) % 16) + 1, (A i).2.2) i).2.2) = uE A i ((A i).1, 0, false) := by
        rw [uE_s, h0]
        funext j
        unfold uE
        by_cases e : j = i <;> simp [e]
      have e9 : tkN T Rm B (r + 1) i (A, q, n) = tkN T Rm B r (i + 1) (uE A i ((A i).1, 0, false), q ++ [fr (f_of 0 (nI ((B + i) % 256)) (A i).1 0)], n + 1) := by rw [tkN, tk1_s h0 hT hq]
      rw [e9, ← e8] at hk
      exact hk
    · rw [es, hv, bI1] at h0
      refine pm_J.locals (M := [some (.ref 8), some (.ref 2), some (.int (nI n)), some (.int (nI h)), some (.int (nI (i + 1))), none, none]) (ih (i + 1) A q n P ags (by omega) hw hr ?_) ⟨rfl, rfl, rfl, rfl, congrArg (fun z => some (Value.int z)) (nI_succ i).symm, trivial⟩
      have e9 : tkN T Rm B (r + 1) i (A, q, n) = tkN T Rm B r (i + 1) (A, q, n) := by rw [tkN, tk1_t h0]
      rw [e9] at hk
      exact hk
theorem c_again {e1 e5 e6 e7 : va_E} {W T N tk ag : Int32} {ws ags ack : Nat → Int32} {Rm B h : Nat} {A : EF} {q : Qu} {P : WP} (hB : B < 256) (hh : h ≤ 16) (hN : N = nI ((B + h) % 256)) (hw : qW Rm q P) (hr : rE 16 B h A ws ags ack)
    (hk : ∀ (P' : WP) (ags' : Nat → Int32), qW Rm (tkN T Rm B h 0 (A, q, 0)).2.1 P' → rE 16 B h (tkN T Rm B h 0 (A, q, 0)).1 ws ags' ack → k (some (.int (nI (tkN T Rm B h 0 (A, q, 0)).2.2))) (wAS e1 e5 e6 e7 P' W T (nI B) N tk (ag + nI (tkN T Rm B h 0 (A, q, 0)).2.2) ws ags' ack R)) : pm_C 23 (d + 4) al [.ref 8, .ref 2] (wAS e1 e5 e6 e7 P W T (nI B) N tk ag ws ags ack R) k kx := by
  refine pm_Ci rfl (pm_run 40 (And.intro ⟨Nat.zero_le _, Nat.zero_le _⟩ (c_held ?_)))
  rw [hN, held_eq hB hh, ← hN]
  exact pm_J.locals (l_again (d := d + 1) hB hh h 0 A q 0 P ags (by omega) hw hr hk) ⟨rfl, rfl, rfl, rfl, rfl, trivial⟩
end PS2
end
section
/-! THE RECEIVER -/
theorem pr_in (z : Int32) : vp_in (z &&& 255) 256 := pk_andIn z (m := 255) 8 (by decide +kernel) (by decide)
abbrev wR (e1 e2 e3 e4 e5 e6 e7 e8 e9 e10 e11 : va_E) (W F D : Int32) (rw th kp : Nat → Int32) (R : pm_D) : pm_D := e1 :: e2 :: e3 :: e4 :: e5 :: e6 :: e7 :: e8 :: e9 :: e10 :: e11 :: .inr (0, [.ref 13, .ref 14, .ref 15, .int W, .int F, .int D]) :: .inl (0, 16, .inl rw) :: .inl (2, 16, .inl th) :: .inl (0, 256, .inl kp) :: R
theorem akM_none {V : VF} : ∀ (r k : Nat) (m : Int32), (∀ j, k < j → V j = none) → akM V r k m = m
  | 0, _, _, _ => rfl
  | r + 1, k, m, h => by
    unfold akM
    rw [h (k + 1) (by omega)]
    exact akM_none r (k + 1) m (fun j hj => h j (by omega))
theorem akM_add {V : VF} : ∀ (a b k : Nat) (m : Int32), (∀ j, k + a < j → V j = none) → akM V (a + b) k m = akM V a k m
  | 0, b, k, m, h => by
    rw [Nat.zero_add]
    exact akM_none b k m (fun j hj => h j (by omega))
  | a + 1, b, k, m, h => by
    rw [show a + 1 + b = (a + b) + 1 by omega]
    unfold akM
    exact akM_add a b (k + 1) _ (fun j hj => h j (by omega))
def smN (g : Nat → Nat) : Nat → Nat
  | 0 => 0
  | n + 1 => smN g n + g n
theorem smN_sh (g : Nat → Nat) : ∀ n, smN (fun i => g (i + 1)) n + g 0 = smN g (n + 1)
  | 0 => by simp [smN]
  | n + 1 => by
    have := smN_sh g n
    rw [smN, smN]
    omega
theorem smN_ext {g f : Nat → Nat} : ∀ n, (∀ i, i < n → g i = f i) → smN g n = smN f n
  | 0, _ => rfl
  | n + 1, h => by rw [smN, smN, smN_ext n (fun i hi => h i (by omega)), h n (by omega)]
theorem smN_rot (g : Nat → Nat) (m : Nat) (hm : 0 < m) : ∀ F, smN (fun i => g ((F + i) % m)) m = smN g m
  | 0 => smN_ext m (fun i hi => by show g ((0 + i) % m) = g i; rw [Nat.zero_add, Nat.mod_eq_of_lt hi])
  | F + 1 => by
    have h1 : smN (fun i => g ((F + (i + 1)) % m)) m + g ((F + 0) % m) = smN (fun i => g ((F + i) % m)) m + g ((F + m) % m) := smN_sh (fun i => g ((F + i) % m)) m
    have h2 := smN_rot g m hm F
    have h3 : g ((F + m) % m) = g ((F + 0) % m) := by rw [Nat.add_mod_right, Nat.add_zero]
    have h4 : smN (fun i => g ((F + 1 + i) % m)) m = smN (fun i => g ((F + (i + 1)) % m)) m := smN_ext m (fun i _ => by show g ((F + 1 + i) % m) = g ((F + (i + 1)) % m); rw [show F + 1 + i = F + (i + 1) by omega])
    rw [h4]
    omega
theorem smN_0 {g : Nat → Nat} : ∀ (a b : Nat), (∀ i, a ≤ i → g i = 0) → smN g (a + b) = smN g a
  | a, 0, _ => rfl
  | a, b + 1, h => by
    show smN g (a + b) + g (a + b) = _
    rw [h (a + b) (by omega), Nat.add_zero]
    exact smN_0 a b h
def cV (V : VF) (n : Nat) : Nat := smN (fun i => if (V i).isSome then 1 else 0) n
theorem rV_cnt {m F : Nat} {V : VF} {wd th : Nat → Int32} (hm : m2 m) (hr : rV m F V wd th) (hV : ∀ j, 16 ≤ j → V j = none) : smN (fun j => if th j = 0 then 0 else 1) m = cV V 16 := by
  have h0 : 0 < m := by have := m2_ge hm; omega
  rw [← smN_rot _ m h0 F]
  have e1 : smN (fun i => if th ((F + i) % m) = 0 then 0 else 1) m = cV V m := smN_ext m (fun i hi => by
    show (if th ((F + i) % m) = 0 then 0 else 1) = if (V i).isSome then 1 else 0
    rw [(hr i hi).1]
    cases (V i).isSome <;> rfl)
  rw [e1]
  obtain ⟨c, rfl⟩ : ∃ c, m = 16 + c := ⟨m - 16, by have := m2_ge hm; omega⟩
  exact smN_0 16 c (fun i hi => by show (if (V i).isSome then 1 else 0) = 0; rw [hV i hi]; rfl)
theorem dlv_ok : ∀ (r : Nat) (s : dS), s.2.1 < 256 → (∀ j, 16 ≤ j → s.1 j = none) → (dlv r s).2.1 < 256 ∧ (∀ j, 16 ≤ j → (dlv r s).1 j = none) ∧ (dlv r s).2.2.1 ≤ s.2.2.1 + r
  | 0, s, h, hV => ⟨h, hV, Nat.le_refl _⟩
  | r + 1, s, h, hV => by
    unfold dlv
    cases e : s.1 0 with
    | none => exact ⟨h, hV, by simp only; omega⟩
    | some x =>
      obtain ⟨h1, h2, h3⟩ := dlv_ok r (fun i => s.1 (i + 1), (s.2.1 + 1) % 256, s.2.2.1 + 1, upd s.2.2.2 (s.2.2.1 % 256) x) (Nat.mod_lt _ (by omega)) (fun j hj => hV (j + 1) (by omega))
      exact ⟨h1, h2, by simp only at h3 ⊢; omega⟩
/-- nothing at the window's end or behind it stays so -/
theorem dlv_win {n : Nat} : ∀ (r : Nat) (s : dS), (∀ j, n ≤ j → s.1 j = none) → ∀ j, n ≤ j → (dlv r s).1 j = none
  | 0, s, h => h
  | r + 1, s, h => by
    unfold dlv
    cases e : s.1 0 with
    | none => exact h
    | some x => exact dlv_win r _ (fun j hj => h (j + 1) (by omega))
section PR
variable {d : Nat} {al : Bool} {k : pm_K} {kx : pm_X} {cb sb : Nat} {R : pm_D} {e1 e2 e3 e4 e5 e6 e7 e8 e9 e10 e11 : va_E} {W F D : Int32} {rw th kp : Nat → Int32}
theorem l_rClear : ∀ (r i : Nat) (th : Nat → Int32), i + r = 16 → (∀ j, j < i → th j = 0) → (∀ th' : Nat → Int32, (∀ j, j < 16 → th' j = 0) → k none (wR e1 e2 e3 e4 e5 e6 e7 e8 e9 e10 e11 W F D rw th' kp R)) →
    pm_J 11 d al none k kx 17 [some (.ref 12), none, some (.int (nI i))] [] (wR e1 e2 e3 e4 e5 e6 e7 e8 e9 e10 e11 W F D rw th kp R) cb sb := by
  intro r
  induction r with
  | zero =>
    intro i th hi h0 hk
    exact pm_run 40 (And.intro (fun _ => hk th (fun j hj => h0 j (by omega))) (fun h => absurd (nI_le (a := 16) (by omega) (by omega)) h))
  | succ r ih =>
    intro i th hi h0 hk
    refine pm_run 40 (And.intro (fun h => absurd h (nI_ge (b := 16) (by omega) (by omega))) (fun _ => And.intro (vin (by omega) (by omega)) ?_))
    refine pm_J.locals (M := [some (.ref 12), none, some (.int (nI (i + 1)))]) (ih (i + 1) _ (by omega) (fun j hj => ?_) hk) ⟨rfl, congrArg (fun z => some (Value.int z)) (nI_succ i).symm, trivial⟩
    rw [nI_clamp (by omega)]
    by_cases e : j = i
    · subst e
      exact pk_us
    · rw [pk_un e]
      exact h0 j (by omega)
theorem c_rClear {x : Int32} (hk : ∀ th' : Nat → Int32, (∀ j, j < 16 → th' j = 0) → k none (wR e1 e2 e3 e4 e5 e6 e7 e8 e9 e10 e11 x 0 0 rw th' kp R)) : pm_C 11 d al [.ref 12, .int x] (wR e1 e2 e3 e4 e5 e6 e7 e8 e9 e10 e11 W F D rw th kp R) k kx :=
  pm_Ci rfl (pm_run 40 (pm_J.locals (l_rClear 16 0 th rfl (fun j hj => absurd hj (by omega)) hk) ⟨rfl, rfl, trivial⟩))
theorem l_dlv : ∀ (r i : Nat) (V : VF) (F D : Nat) (kp th : Nat → Int32), i + r = 16 → F < 256 → D + r < 2 ^ 31 → rV 16 F V rw th → (∀ j, 16 ≤ j → V j = none) → (∀ th' : Nat → Int32, rV 16 (dlv r (V, F, D, kp)).2.1 (dlv r (V, F, D, kp)).1 rw th' → k none (wR e1 e2 e3 e4 e5 e6 e7 e8 e9 e10 e11 W (nI (dlv r (V, F, D, kp)).2.1) (nI (dlv r (V, F, D, kp)).2.2.1) rw th' (dlv r (V, F, D, kp)).2.2.2 R)) →
    pm_J 18 (d + 1) al none k kx 2 [some (.ref 12), some (.int (nI i)), none] [] (wR e1 e2 e3 e4 e5 e6 e7 e8 e9 e10 e11 W (nI F) (nI D) rw th kp R) cb sb := by
  intro r
  induction r with
  | zero =>
    intro i V F D kp th hi hF hD hr hV hk
    exact pm_run 40 (And.intro (fun _ => hk th hr) (fun h => absurd (nI_le (a := 16) (by omega) (by omega)) h))
  | succ r ih =>
    intro i V F D kp th hi hF hD hr hV hk
    obtain ⟨hv, hw⟩ := hr 0 (by omega)
    have e15 : (nI F &&& 15).toNatClampNeg = (F + 0) % 16 := by rw [n15 (by omega), nI_clamp (by omega)]; rfl
    refine pm_run 120 (And.intro (fun h => absurd h (nI_ge (b := 16) (by omega) (by omega))) (fun _ => And.intro ⟨Nat.zero_le _, Nat.zero_le _⟩ (c_slotOf (And.intro (ps_in _) (And.intro (fun h => ?_) (fun h => And.intro ⟨Nat.zero_le _, Nat.zero_le _⟩ (c_slotOf (And.intro (ps_in _) (And.intro (ps_in _) (And.intro (pr_in _) (And.intro ⟨Nat.zero_le _, Nat.zero_le _⟩ (c_plus ?_)))))))))))) 
    · rw [e15, hv, bI0] at h
      have hn : V 0 = none := Option.isSome_eq_false_iff.mp h |> Option.isNone_iff_eq_none.mp
      unfold dlv at hk
      simp only [hn] at hk
      exact hk th hr
    · rw [e15, hv, bI1] at h
      obtain ⟨x, hx⟩ := Option.isSome_iff_exists.mp h
      have e2 : (nI F + 1) &&& 255 = nI ((F + 1) % 256) := by rw [nI_1, n255 (by omega)]
      have e3 : (nI D &&& Int32.ofNat 255).toNatClampNeg = D % 256 := by
        show (nI D &&& 255).toNatClampNeg = _
        rw [n255 (by omega), nI_clamp (by omega)]
      unfold dlv at hk
      simp only [hx] at hk
      have hs := rV_shift (Or.inl rfl) hr (hV 16 (by omega))
      have := ih (i + 1) (fun i => V (i + 1)) ((F + 1) % 256) (D + 1) (upd kp (D % 256) x) (upd th (F % 16) 0) (by omega) (Nat.mod_lt _ (by omega)) (by omega) hs (fun j hj => hV (j + 1) (by omega)) hk
      refine pm_J.locals (M := [some (.ref 12), some (.int (nI (i + 1))), none]) ?_ ⟨rfl, congrArg (fun z => some (Value.int z)) (nI_succ i).symm, trivial⟩
      rw [e15, e3, hw x hx]
      rw [← e2, nI_succ D] at this
      exact this
theorem c_dlv {V : VF} {F D : Nat} (hF : F < 256) (hD : D + 16 < 2 ^ 31) (hr : rV 16 F V rw th) (hV : ∀ j, 16 ≤ j → V j = none) (hk : ∀ th' : Nat → Int32, rV 16 (dlv 16 (V, F, D, kp)).2.1 (dlv 16 (V, F, D, kp)).1 rw th' → k none (wR e1 e2 e3 e4 e5 e6 e7 e8 e9 e10 e11 W (nI (dlv 16 (V, F, D, kp)).2.1) (nI (dlv 16 (V, F, D, kp)).2.2.1) rw th' (dlv 16 (V, F, D, kp)).2.2.2 R)) :
    pm_C 18 (d + 1) al [.ref 12] (wR e1 e2 e3 e4 e5 e6 e7 e8 e9 e10 e11 W (nI F) (nI D) rw th kp R) k kx :=
  pm_Ci rfl (pm_run 40 (l_dlv 16 0 V F D kp th rfl hF hD hr hV hk))
theorem c_accept {V : VF} {F D n b Wn : Nat} {x : Int32} (hF : F < 256) (hn : n < 256) (hb : b = (n + 256 - F) % 256) (hW : Wn ≤ 16) (hD : D + 16 < 2 ^ 31) (hr : rV 16 F V rw th) (hV : ∀ j, 16 ≤ j → V j = none)
    (h0 : Wn ≤ b ∨ (V b).isSome = true → k (some (.int 0)) (wR e1 e2 e3 e4 e5 e6 e7 e8 e9 e10 e11 (nI Wn) (nI F) (nI D) rw th kp R))
    (h1 : b < Wn → V b = none → ∀ rw' th' : Nat → Int32, rV 16 (dlv 16 (uV V b x, F, D, kp)).2.1 (dlv 16 (uV V b x, F, D, kp)).1 rw' th' → k (some (.int 1)) (wR e1 e2 e3 e4 e5 e6 e7 e8 e9 e10 e11 (nI Wn) (nI (dlv 16 (uV V b x, F, D, kp)).2.1) (nI (dlv 16 (uV V b x, F, D, kp)).2.2.1) rw' th' (dlv 16 (uV V b x, F, D, kp)).2.2.2 R)) :
    pm_C 12 (d + 2) al [.ref 12, .int (nI n), .int x] (wR e1 e2 e3 e4 e5 e6 e7 e8 e9 e10 e11 (nI Wn) (nI F) (nI D) rw th kp R) k kx := by
  have eb : (nI n - nI F) &&& 255 = nI b := by rw [nsub (by omega) (by omega), hb]
  have es : (nI n &&& 15).toNatClampNeg = (F + b) % 16 := by
    rw [n15 (by omega), nI_clamp (by omega), hb]
    omega
  refine pm_Ci rfl (pm_run 80 (And.intro ⟨Nat.zero_le _, Nat.zero_le _⟩ (c_slotOf (And.intro ⟨Nat.zero_le _, Nat.zero_le _⟩ (c_distance (And.intro (fun h => And.intro rfl (h0 (Or.inl ?_))) (fun h => And.intro (ps_in _) (And.intro (fun g => And.intro (ps_in _) (And.intro (ps_in _) (And.intro ⟨Nat.zero_le _, Nat.zero_le _⟩ ?_))) (fun g => And.intro rfl (h0 (Or.inr ?_)))))))))))
  · rw [eb] at h
    exact (nI_leI (by omega) (by omega)).mp h
  · rw [eb] at h
    have hlt : b < Wn := Nat.lt_of_not_le (fun z => h ((nI_leI (by omega) (by omega)).mpr z))
    rw [es, (hr b (by omega)).1, bI0] at g
    have hnn : V b = none := Option.isSome_eq_false_iff.mp g |> Option.isNone_iff_eq_none.mp
    rw [es]
    refine c_dlv (V := uV V b x) hF hD (rV_put (Or.inl rfl) hr (by omega)) (fun j hj => ?_) (fun th' ht => And.intro rfl (h1 hlt hnn _ th' ht))
    have e : uV V b x j = V j := if_neg (by omega)
    rw [e]
    exact hV j hj
  · rw [eb] at h
    have hlt : b < Wn := Nat.lt_of_not_le (fun z => h ((nI_leI (by omega) (by omega)).mpr z))
    rw [es, (hr b (by omega)).1, bI1] at g
    exact g
theorem l_akm {V : VF} {F Wn : Nat} (hF : F < 256) (hW : Wn ≤ 16) (hr : rV 16 F V rw th) : ∀ (r i : Nat) (m : Int32), i + r = Wn → k (some (.long (f_of 1 (nI F) 0 (akM V r i m)))) (wR e1 e2 e3 e4 e5 e6 e7 e8 e9 e10 e11 (nI (Wn + 1)) (nI F) D rw th kp R) → Wn < 16 →
    pm_J 13 (d + 1) al none k kx 4 [some (.ref 12), some (.int m), some (.int (nI i))] [] (wR e1 e2 e3 e4 e5 e6 e7 e8 e9 e10 e11 (nI (Wn + 1)) (nI F) D rw th kp R) cb sb := by
  intro r
  induction r with
  | zero =>
    intro i m hi hk h16
    refine pm_run 60 (And.intro (fun _ => And.intro ⟨Nat.zero_le _, Nat.zero_le _⟩ (c_of hk)) (fun h => absurd ?_ h))
    show nI (Wn + 1) - 1 ≤ nI i
    rw [nI_pred]
    exact nI_le (by omega) (by omega)
  | succ r ih =>
    intro i m hi hk h16
    obtain ⟨hv, -⟩ := hr (i + 1) (by omega)
    have es : (((nI F + ((1 : Int32) + nI i)) &&& 255) &&& 15).toNatClampNeg = (F + (i + 1)) % 16 := by
      rw [show (1 : Int32) + nI i = nI (i + 1) from (Int32.add_comm _ _).trans (nI_1 i)]
      exact slot16c (by omega) (by omega)
    refine pm_run 80 (And.intro (fun h => absurd h ?_) (fun _ => And.intro ⟨Nat.zero_le _, Nat.zero_le _⟩ (c_plus (And.intro ⟨Nat.zero_le _, Nat.zero_le _⟩ (c_slotOf (And.intro (ps_in _) (And.intro (fun h => ?_) (fun h => ?_))))))))
    · show ¬ nI (Wn + 1) - 1 ≤ nI i
      rw [nI_pred]
      exact nI_ge (by omega) (by omega)
    · have h : (V (i + 1)).isSome = false := bI0.mp (hv.symm.trans ((congrArg th es.symm).trans h))
      refine pm_J.locals (M := [some (.ref 12), some (.int m), some (.int (nI (i + 1)))]) (ih (i + 1) m (by omega) ?_ h16) ⟨rfl, rfl, congrArg (fun z => some (Value.int z)) (nI_succ i).symm, trivial⟩
      unfold akM at hk
      rw [h] at hk
      exact hk
    · have h : (V (i + 1)).isSome = true := bI1.mp (fun q => h ((congrArg th es).trans (hv.trans q)))
      refine pm_J.locals (M := [some (.ref 12), some (.int (m ||| ((1 : Int32) <<< (nI i &&& 31)))), some (.int (nI (i + 1)))]) (ih (i + 1) _ (by omega) ?_ h16) ⟨rfl, rfl, congrArg (fun z => some (Value.int z)) (nI_succ i).symm, trivial⟩
      unfold akM at hk
      rw [h] at hk
      exact hk
theorem c_akm {V : VF} {F Wn : Nat} (hF : F < 256) (hW1 : 1 ≤ Wn) (hW : Wn ≤ 16) (hr : rV 16 F V rw th) (hV : ∀ j, Wn ≤ j → V j = none) (hk : k (some (.long (f_of 1 (nI F) 0 (akM V 16 0 0)))) (wR e1 e2 e3 e4 e5 e6 e7 e8 e9 e10 e11 (nI Wn) (nI F) D rw th kp R)) : pm_C 13 (d + 1) al [.ref 12] (wR e1 e2 e3 e4 e5 e6 e7 e8 e9 e10 e11 (nI Wn) (nI F) D rw th kp R) k kx := by
  obtain ⟨n, rfl⟩ : ∃ n, Wn = n + 1 := ⟨Wn - 1, by omega⟩
  have e : akM V 16 0 0 = akM V n 0 0 := by
    rw [show (16 : Nat) = n + (16 - n) by omega]
    exact akM_add n (16 - n) 0 0 (fun j hj => hV j (by omega))
  rw [e] at hk
  exact pm_Ci rfl (pm_run 40 (l_akm hF (by omega) hr n 0 0 (by omega) hk (by omega)))
theorem l_gap : ∀ (r i : Nat), i + r = 16 → k (some (.int (nI (smN (fun j => if th j = 0 then 0 else 1) 16)))) (wR e1 e2 e3 e4 e5 e6 e7 e8 e9 e10 e11 W F D rw th kp R) →
    pm_J 14 d al none k kx 4 [some (.ref 12), some (.int (nI (smN (fun j => if th j = 0 then 0 else 1) i))), some (.int (nI i))] [] (wR e1 e2 e3 e4 e5 e6 e7 e8 e9 e10 e11 W F D rw th kp R) cb sb := by
  intro r
  induction r with
  | zero =>
    intro i hi hk
    have hi : i = 16 := by omega
    subst hi
    exact pm_run 40 (And.intro (fun _ => hk) (fun h => absurd (nI_le (a := 16) (by omega) (by omega)) h))
  | succ r ih =>
    intro i hi hk
    refine pm_run 60 (And.intro (fun h => absurd h (nI_ge (b := 16) (by omega) (by omega))) (fun _ => And.intro (vin (by omega) (by omega)) (And.intro (fun h => ?_) (fun h => ?_))))
    · rw [nI_clamp (by omega)] at h
      refine pm_J.locals (ih (i + 1) (by omega) hk) ⟨rfl, congrArg (fun z => some (Value.int z)) ?_, congrArg (fun z => some (Value.int z)) (nI_succ i).symm, trivial⟩
      rw [smN, if_pos h]
      rfl
    · rw [nI_clamp (by omega)] at h
      refine pm_J.locals (ih (i + 1) (by omega) hk) ⟨rfl, congrArg (fun z => some (Value.int z)) ?_, congrArg (fun z => some (Value.int z)) (nI_succ i).symm, trivial⟩
      rw [smN, if_neg h]
      exact (nI_succ _).symm
theorem c_gap (hk : k (some (.int (nI (smN (fun j => if th j = 0 then 0 else 1) 16)))) (wR e1 e2 e3 e4 e5 e6 e7 e8 e9 e10 e11 W F D rw th kp R)) : pm_C 14 d al [.ref 12] (wR e1 e2 e3 e4 e5 e6 e7 e8 e9 e10 e11 W F D rw th kp R) k kx :=
  pm_Ci rfl (pm_run 40 (l_gap 16 0 rfl hk))
theorem c_dCount (hk : k (some (.int D)) (wR e1 e2 e3 e4 e5 e6 e7 e8 e9 e10 e11 W F D rw th kp R)) : pm_C 15 d al [.ref 12] (wR e1 e2 e3 e4 e5 e6 e7 e8 e9 e10 e11 W F D rw th kp R) k kx := pm_Ci rfl (pm_run 40 hk)
theorem c_keeps {x : Int32} (h1 : ¬ x < 0 → ¬ D ≤ x → ¬ x < D - 256 → k (some (.int 1)) (wR e1 e2 e3 e4 e5 e6 e7 e8 e9 e10 e11 W F D rw th kp R)) (h0 : x < 0 ∨ D ≤ x ∨ x < D - 256 → k (some (.int 0)) (wR e1 e2 e3 e4 e5 e6 e7 e8 e9 e10 e11 W F D rw th kp R)) : pm_C 16 d al [.ref 12, .int x] (wR e1 e2 e3 e4 e5 e6 e7 e8 e9 e10 e11 W F D rw th kp R) k kx :=
  pm_Ci rfl (pm_run 40 (And.intro (fun h => And.intro rfl (h0 (Or.inl h))) (fun g1 => And.intro (fun h => And.intro rfl (h0 (Or.inr (Or.inl h)))) (fun g2 => And.intro (fun h => And.intro rfl (h0 (Or.inr (Or.inr h)))) (fun g3 => And.intro rfl (h1 g1 g2 g3))))))
theorem c_kept {x : Int32} (hk : k (some (.int (kp (x &&& 255).toNatClampNeg))) (wR e1 e2 e3 e4 e5 e6 e7 e8 e9 e10 e11 W F D rw th kp R)) : pm_C 17 d al [.ref 12, .int x] (wR e1 e2 e3 e4 e5 e6 e7 e8 e9 e10 e11 W F D rw th kp R) k kx := pm_Ci rfl (pm_run 40 (And.intro (pr_in _) hk))
end PR
end
section
/-! THE LINK: its methods over the abstract state -/
section PL
variable {d : Nat} {al : Bool} {k : pm_K} {kx : pm_X} {cb sb : Nat} {R : pm_D} {Wn Rm B h F D : Nat} {T tk ag : Int32} {qa qb : Qu} {A : EF} {V : VF} {LG : Nat → Int32} {P : LkP}
theorem c_within {w : pm_D} {x y z : Int32} (h1 : ¬ x < y → ¬ z < x → k (some (.int 1)) w) (h0 : x < y ∨ z < x → k (some (.int 0)) w) : pm_C 64 d al [.int x, .int y, .int z] w k kx :=
  pm_Ci rfl (pm_run 40 (And.intro (fun h => And.intro rfl (h0 (Or.inl h))) (fun g => And.intro (fun h => And.intro rfl (h0 (Or.inr h))) (fun g2 => And.intro rfl (h1 g g2)))))
theorem c_restart {y : Int32} (hL : P.2.2.2.2.2.1 = LG) (hR : Rm ≤ 32) (hk : ∀ P', rLk Wn Rm y [] [] 0 0 A 0 0 0 (fun _ => none) 0 LG P' → k none (wl P' R)) : pm_C 62 (d + 1) al [.ref 1, .int (nI Wn), .int y, .int (nI Rm)] (wl P R) k kx := by
  obtain ⟨⟨oa, ca, ra, ba, sa⟩, ⟨ob, cb, rb, bb, sb⟩, ⟨W, T', B', N, tk', ag', ws, ags, ack⟩, ⟨rw, th, kp, W2, F', D'⟩⟩ := P
  have hL : kp = LG := hL
  subst hL
  refine pm_Ci rfl (pm_run 60 (And.intro ⟨Nat.zero_le _, Nat.zero_le _⟩ (c_clear_A (And.intro ⟨Nat.zero_le _, Nat.zero_le _⟩ (c_clear_B (And.intro ⟨Nat.zero_le _, Nat.zero_le _⟩ (c_sClear (And.intro ⟨Nat.zero_le _, Nat.zero_le _⟩ (c_rClear (fun th' ht => hk ((0, 0, nI Rm, ba, sa), (0, 0, nI Rm, bb, sb), (nI Wn, y, 0, 0, 0, 0, ws, ags, ack), (rw, th', kp, nI Wn, 0, 0)) ⟨rW_0 hR _ _, rW_0 hR _ _, ⟨ws, ags, ack, rfl, fun i hi => absurd hi (by omega)⟩, ⟨rw, th', rfl, fun i hi => ⟨?_, fun x hx => by cases hx⟩⟩⟩))))))))))
  rw [Nat.zero_add, Nat.mod_eq_of_lt hi]
  exact ht i hi
theorem c_begin {x y z : Int32} (hL : P.2.2.2.2.2.1 = LG) (hx : x < 1 ∨ 16 < x ∨ y < 1 ∨ 50 < y ∨ z < 1 ∨ 32 < z → kx pm_IA (wl P R)) (hk : ∀ Wn Rm : Nat, x = nI Wn → z = nI Rm → 1 ≤ Wn → Wn ≤ 16 → 1 ≤ Rm → Rm ≤ 32 → ¬ y < 1 → ¬ 50 < y → ∀ P', rLk Wn Rm y [] [] 0 0 A 0 0 0 (fun _ => none) 0 LG P' → k none (wl P' R)) : pm_C 48 (d + 6) false [.ref 1, .int x, .int y, .int z] (wl P R) k kx := by
  refine pm_Ci rfl (pm_run 60 (And.intro ⟨Nat.zero_le _, Nat.zero_le _⟩ (c_within (fun g1 g2 => And.intro (fun h => absurd h (by decide)) (fun _ => And.intro ⟨Nat.zero_le _, Nat.zero_le _⟩ (c_within (fun g3 g4 => And.intro (fun h => absurd h (by decide)) (fun _ => And.intro ⟨Nat.zero_le _, Nat.zero_le _⟩ (c_within (fun g5 g6 => And.intro (fun _ => ?_) (fun h => absurd h (by decide))) (fun g => And.intro (fun h => absurd rfl h) (fun _ => And.intro ⟨Nat.le_add_left _ _, by decide, by decide⟩ (hx (Or.inr (Or.inr (Or.inr (Or.inr g)))))))))) (fun g => And.intro (fun _ => And.intro ⟨Nat.le_add_left _ _, by decide, by decide⟩ (hx (Or.inr (Or.inr (g.elim Or.inl (fun z => Or.inr (Or.inl z))))))) (fun h => absurd rfl h))))) (fun g => And.intro (fun _ => And.intro ⟨Nat.le_add_left _ _, by decide, by decide⟩ (hx (g.elim Or.inl (fun z => Or.inr (Or.inl z))))) (fun h => absurd rfl h)))))
  obtain ⟨a, ha, e1⟩ := nI_of2 (n := 16) (M := 16) (by decide) (fun q => g1 (Int32.lt_trans q (by decide))) (Int32.not_lt.mp g2)
  obtain ⟨c, hc, e2⟩ := nI_of2 (n := 32) (M := 32) (by decide) (fun q => g5 (Int32.lt_trans q (by decide))) (Int32.not_lt.mp g6)
  subst e1 e2
  have ha1 : 1 ≤ a := Nat.le_of_not_lt (fun q => g1 (nI_lt (b := 1) q (by omega)))
  have hc1 : 1 ≤ c := Nat.le_of_not_lt (fun q => g5 (nI_lt (b := 1) q (by omega)))
  exact And.intro ⟨Nat.zero_le _, Nat.zero_le _⟩ (c_restart (A := A) hL hc (hk a c rfl rfl ha1 ha hc1 hc g3 g4))
theorem c_send {x : Int32} (iv : IV Wn Rm B h F V) (hL : rLk Wn Rm T qa qb B h A tk ag F V D LG P) (hk : ∀ P', rLk Wn Rm T (snd Wn Rm x qa B h A).2.1 qb B (snd Wn Rm x qa B h A).2.2.1 (snd Wn Rm x qa B h A).2.2.2.1 (tk + (snd Wn Rm x qa B h A).2.2.2.2) ag F V D LG P' → k (some (.int (snd Wn Rm x qa B h A).1)) (wl P' R)) : pm_C 49 (d + 3) al [.ref 1, .int x] (wl P R) k kx := by
  obtain ⟨i1, i2, i3, i4, i5, i6, i7, i8, i9⟩ := iv
  obtain ⟨a, b, s, r⟩ := P
  have hL' := hL
  obtain ⟨ha, hb, ⟨ws, ags, ack, rfl, hE⟩, hr⟩ := hL
  have eh : (nI ((B + h) % 256) - nI B) &&& 255 = nI h := held_eq i5 (by omega)
  have no : ¬ (h < Wn ∧ qa.length < Rm) → k (some (.int 0)) (wl (a, b, (nI Wn, T, nI B, nI ((B + h) % 256), tk, ag, ws, ags, ack), r) R) := fun z => by
    have e : snd Wn Rm x qa B h A = (0, qa, h, A, 0) := if_neg z
    rw [e] at hk
    exact hk _ (by simp only [Int32.add_zero]; exact hL')
  refine pm_Ci rfl (pm_run 80 (And.intro ⟨Nat.zero_le _, Nat.zero_le _⟩ (c_sHasRoom (fun g => And.intro (fun _ => And.intro rfl (no ?_)) (fun h => absurd rfl h)) (fun g => And.intro (fun h => absurd h (by decide)) (fun _ => And.intro ⟨Nat.zero_le _, Nat.zero_le _⟩ (c_hasRoom_A (fun g2 => And.intro (fun h => absurd rfl h) (fun _ => And.intro rfl (no ?_))) (fun g2 => And.intro (fun _ => And.intro ⟨Nat.zero_le _, Nat.zero_le _⟩ (c_takeWord (And.intro ⟨Nat.zero_le _, Nat.zero_le _⟩ (c_put_A (And.intro rfl ?_))))) (fun h => absurd h (by decide)))))))))
  · intro z
    rw [eh] at g
    exact nI_ge z.1 (by omega) g
  · intro z
    have := (rW_room ha).mp g2
    omega
  · rw [eh] at g
    have hlt : h < Wn := Nat.lt_of_not_le (fun z => g (nI_le z (by omega)))
    have hq : qa.length < Rm := Nat.lt_of_not_le (fun z => g2 ((rW_room ha).mpr z))
    have e : snd Wn Rm x qa B h A = (1, qa ++ [fr (f_of 0 (nI ((B + h) % 256)) x 0)], h + 1, uE A h (x, 0, false), 1) := if_pos ⟨hlt, hq⟩
    have es : (nI ((B + h) % 256) &&& 15).toNatClampNeg = (B + h) % 16 := by
      rw [n15 (by omega), nI_clamp (by omega)]
      omega
    have en : (nI ((B + h) % 256) + 1) &&& 255 = nI ((B + (h + 1)) % 256) := by
      rw [nI_1, n255 (by omega)]
      refine congrArg nI ?_
      omega
    rw [e] at hk
    refine hk (pPut a _ _, b, (_, _, _, _, _, _, upd ws (nI ((B + h) % 256) &&& 15).toNatClampNeg x, upd ags (nI ((B + h) % 256) &&& 15).toNatClampNeg 0, upd ack (nI ((B + h) % 256) &&& 15).toNatClampNeg (0 &&& 1)), r) ⟨?_, hb, ⟨_, _, _, by rw [← en], by rw [es]; exact rE_snoc (Or.inl rfl) (by omega) hE x⟩, hr⟩
    rw [pk_us]
    exact qW_put ha hq
theorem c_tick (iv : IV Wn Rm B h F V) (hL : rLk Wn Rm T qa qb B h A tk ag F V D LG P) (hk : ∀ P', rLk Wn Rm T (tkN T Rm B h 0 (A, qa, 0)).2.1 qb B h (tkN T Rm B h 0 (A, qa, 0)).1 tk (ag + nI (tkN T Rm B h 0 (A, qa, 0)).2.2) F V D LG P' → k (some (.int (nI (tkN T Rm B h 0 (A, qa, 0)).2.2))) (wl P' R)) : pm_C 50 (d + 5) al [.ref 1] (wl P R) k kx := by
  obtain ⟨i1, i2, i3, i4, i5, i6, i7, i8, i9⟩ := iv
  obtain ⟨a, b, s, r⟩ := P
  obtain ⟨ha, hb, ⟨ws, ags, ack, rfl, hE⟩, hr⟩ := hL
  exact pm_Ci rfl (pm_run 40 (And.intro ⟨Nat.zero_le _, Nat.zero_le _⟩ (c_again (P := a) i5 (by omega) rfl ha hE (fun P' ags' h1 h2 => hk (P', b, (nI Wn, T, nI B, nI ((B + h) % 256), tk, ag + nI (tkN T Rm B h 0 (A, qa, 0)).2.2, ws, ags', ack), r) ⟨h1, hb, ⟨_, _, _, rfl, h2⟩, hr⟩))))
theorem c_comeB (iv : IV Wn Rm B h F V) (hD : D + 16 < 2 ^ 31) (hL : rLk Wn Rm T qa qb B h A tk ag F V D LG P) (hk : ∀ P', rLk Wn Rm T (cB Wn Rm qa qb (V, F, D, LG)).2.1 (cB Wn Rm qa qb (V, F, D, LG)).2.2.1 B h A tk ag (cB Wn Rm qa qb (V, F, D, LG)).2.2.2.2.1 (cB Wn Rm qa qb (V, F, D, LG)).2.2.2.1 (cB Wn Rm qa qb (V, F, D, LG)).2.2.2.2.2.1 (cB Wn Rm qa qb (V, F, D, LG)).2.2.2.2.2.2 P' → k (some (.int (cB Wn Rm qa qb (V, F, D, LG)).1)) (wl P' R)) : pm_C 51 (d + 3) al [.ref 1] (wl P R) k kx := by
  obtain ⟨i1, i2, i3, i4, i5, i6, i7, i8, i9⟩ := iv
  obtain ⟨a, b, s, r⟩ := P
  have hL' := hL
  obtain ⟨ha, hb, hs, ⟨rw, th, rfl, hV⟩⟩ := hL
  cases qa with
  | nil =>
    exact pm_Ci rfl (pm_run 120 (And.intro ⟨Nat.zero_le _, Nat.zero_le _⟩ (c_isEmpty_A (fun g => absurd ((rW_emp ha).mpr rfl) g) (fun g => And.intro (fun h => absurd h (by decide)) (fun _ => hk _ hL')))))
  | cons f q =>
    obtain ⟨t1, t2, t3⟩ := rW_take ha
    obtain ⟨en, hn⟩ := fN_ok f.1
    refine pm_Ci rfl (pm_run 120 (And.intro ⟨Nat.zero_le _, Nat.zero_le _⟩ (c_isEmpty_A (fun g => And.intro (fun _ => And.intro ⟨Nat.zero_le _, Nat.zero_le _⟩ (c_isOldestSound_A (rW_in ha) (fun g2 => And.intro ⟨Nat.zero_le _, Nat.zero_le _⟩ (c_takeOldest_A (rW_in ha) (And.intro (fun h => absurd rfl h) (fun _ => ?_)))) (fun g2 g3 => And.intro ⟨Nat.zero_le _, Nat.zero_le _⟩ (c_takeOldest_A (rW_in ha) (And.intro (fun _ => And.intro ⟨Nat.zero_le _, Nat.zero_le _⟩ (c_numberOf (And.intro ⟨Nat.zero_le _, Nat.zero_le _⟩ (c_wordOf (And.intro ⟨Nat.zero_le _, Nat.zero_le _⟩ ?_))))) (fun h => absurd h (by decide))))))) (fun h => absurd rfl h)) (fun g => absurd ((rW_emp ha).mp g) (by simp)))))
    · rw [t1, t2] at g2
      have e : cB Wn Rm (f :: q) qb (V, F, D, LG) = (2, q, qb, V, F, D, LG) := if_neg g2
      rw [e] at hk
      exact hk (pTake a, b, s, _) ⟨qW_take ha, hb, hs, ⟨rw, th, rfl, hV⟩⟩
    · rw [t1, t2] at g2
      rw [t1] at g3
      rw [t1, en]
      have e0 : cB Wn Rm (f :: q) qb (V, F, D, LG) = if (fN f.1 + 256 - F) % 256 < Wn ∧ (V ((fN f.1 + 256 - F) % 256)).isSome = false then
        (0, q, akQ Rm qb (dlv 16 (uV V ((fN f.1 + 256 - F) % 256) (f_word f.1), F, D, LG)).2.1 (dlv 16 (uV V ((fN f.1 + 256 - F) % 256) (f_word f.1), F, D, LG)).1, dlv 16 (uV V ((fN f.1 + 256 - F) % 256) (f_word f.1), F, D, LG))
      else (1, q, akQ Rm qb F V, V, F, D, LG) := if_pos ⟨g2, g3⟩
      have hV16 : ∀ j, 16 ≤ j → V j = none := fun j hj => i8 j (by omega)
      refine c_accept (b := (fN f.1 + 256 - F) % 256) i7 hn rfl i2 hD hV hV16 (fun g4 => ?_) (fun g4 g5 rw' th' g6 => ?_)
      · have e : cB Wn Rm (f :: q) qb (V, F, D, LG) = (1, q, akQ Rm qb F V, V, F, D, LG) := by
          rw [e0]
          refine if_neg (fun z => ?_)
          rcases g4 with g4 | g4
          · omega
          · rw [g4] at z
            exact absurd z.2 (by decide)
        rw [e] at hk
        refine And.intro ⟨Nat.zero_le _, Nat.zero_le _⟩ (c_hasRoom_B (fun g7 => And.intro (fun _ => And.intro (fun _ => ?_) (fun h => absurd rfl h)) (fun h => absurd rfl h)) (fun g7 => And.intro (fun h => absurd h (by decide)) (fun _ => And.intro ⟨Nat.zero_le _, Nat.zero_le _⟩ (c_akm i7 i1 i2 hV i8 (And.intro ⟨Nat.zero_le _, Nat.zero_le _⟩ (c_put_B (And.intro (fun _ => ?_) (fun h => absurd rfl h))))))))
        · have e2 : akQ Rm qb F V = qb := if_neg (by have := (rW_room hb).mp g7; omega)
          rw [e2] at hk
          exact hk (pTake a, b, s, _) ⟨qW_take ha, hb, hs, ⟨rw, th, rfl, hV⟩⟩
        · have hq : qb.length < Rm := Nat.lt_of_not_le (fun z => g7 ((rW_room hb).mpr z))
          have e2 : akQ Rm qb F V = qb ++ [fr (f_of 1 (nI F) 0 (akM V 16 0 0))] := if_pos hq
          rw [e2] at hk
          exact hk (pTake a, pPut b _ _, s, _) ⟨qW_take ha, qW_put hb hq, hs, ⟨rw, th, rfl, hV⟩⟩
      · have e : cB Wn Rm (f :: q) qb (V, F, D, LG) = (0, q, akQ Rm qb (dlv 16 (uV V ((fN f.1 + 256 - F) % 256) (f_word f.1), F, D, LG)).2.1 (dlv 16 (uV V ((fN f.1 + 256 - F) % 256) (f_word f.1), F, D, LG)).1, dlv 16 (uV V ((fN f.1 + 256 - F) % 256) (f_word f.1), F, D, LG)) := by
          rw [e0]
          exact if_pos ⟨g4, by rw [g5]; rfl⟩
        rw [e] at hk
        have hw : ∀ j, Wn ≤ j → uV V ((fN f.1 + 256 - F) % 256) (f_word f.1) j = none := fun j hj => (if_neg (by omega)).trans (i8 j hj)
        obtain ⟨k1, k2, k3⟩ := dlv_ok 16 (uV V ((fN f.1 + 256 - F) % 256) (f_word f.1), F, D, LG) i7 (fun j hj => hw j (by omega))
        have k4 := dlv_win (n := Wn) 16 (uV V ((fN f.1 + 256 - F) % 256) (f_word f.1), F, D, LG) hw
        generalize dlv 16 (uV V ((fN f.1 + 256 - F) % 256) (f_word f.1), F, D, LG) = S at hk k1 k2 k3 k4 g6 ⊢
        obtain ⟨V2, F2, D2, L2⟩ := S
        refine And.intro ⟨Nat.zero_le _, Nat.zero_le _⟩ (c_hasRoom_B (fun g7 => And.intro (fun _ => And.intro (fun h => absurd h (by decide)) (fun _ => ?_)) (fun h => absurd rfl h)) (fun g7 => And.intro (fun h => absurd h (by decide)) (fun _ => And.intro ⟨Nat.zero_le _, Nat.zero_le _⟩ (c_akm k1 i1 i2 g6 k4 (And.intro ⟨Nat.zero_le _, Nat.zero_le _⟩ (c_put_B (And.intro (fun h => absurd h (by decide)) (fun _ => ?_))))))))
        · have e2 : akQ Rm qb F2 V2 = qb := if_neg (by have := (rW_room hb).mp g7; omega)
          simp only [e2] at hk
          exact hk (pTake a, b, s, (rw', th', L2, nI Wn, nI F2, nI D2)) ⟨qW_take ha, hb, hs, ⟨rw', th', rfl, g6⟩⟩
        · have hq : qb.length < Rm := Nat.lt_of_not_le (fun z => g7 ((rW_room hb).mpr z))
          have e2 : akQ Rm qb F2 V2 = qb ++ [fr (f_of 1 (nI F2) 0 (akM V2 16 0 0))] := if_pos hq
          simp only [e2] at hk
          exact hk (pTake a, pPut b _ _, s, (rw', th', L2, nI Wn, nI F2, nI D2)) ⟨qW_take ha, qW_put hb hq, hs, ⟨rw', th', rfl, g6⟩⟩
theorem c_comeA (iv : IV Wn Rm B h F V) (hL : rLk Wn Rm T qa qb B h A tk ag F V D LG P) (hk : ∀ P', rLk Wn Rm T qa (cA qb h B A).2.1 (cA qb h B A).2.2.2.1 (cA qb h B A).2.2.1 (cA qb h B A).2.2.2.2 tk ag F V D LG P' → k (some (.int (cA qb h B A).1)) (wl P' R)) : pm_C 52 (d + 5) al [.ref 1] (wl P R) k kx := by
  obtain ⟨i1, i2, i3, i4, i5, i6, i7, i8, i9⟩ := iv
  obtain ⟨a, b, s, r⟩ := P
  have hL' := hL
  obtain ⟨ha, hb, ⟨ws, ags, ack, rfl, hE⟩, hr⟩ := hL
  cases qb with
  | nil =>
    exact pm_Ci rfl (pm_run 120 (And.intro ⟨Nat.zero_le _, Nat.zero_le _⟩ (c_isEmpty_B (fun g => absurd ((rW_emp hb).mpr rfl) g) (fun g => And.intro (fun h => absurd h (by decide)) (fun _ => hk _ hL')))))
  | cons f q =>
    obtain ⟨t1, t2, t3⟩ := rW_take hb
    obtain ⟨en, hn⟩ := fN_ok f.1
    have eh : (nI ((B + h) % 256) - nI B) &&& 255 = nI h := held_eq i5 (by omega)
    have eb : (nI (fN f.1) - nI B) &&& 255 = nI ((fN f.1 + 256 - B) % 256) := nsub (by omega) (by omega)
    refine pm_Ci rfl (pm_run 120 (And.intro ⟨Nat.zero_le _, Nat.zero_le _⟩ (c_isEmpty_B (fun g => And.intro (fun _ => And.intro ⟨Nat.zero_le _, Nat.zero_le _⟩ (c_isOldestSound_B (rW_in hb) (fun g2 => And.intro ⟨Nat.zero_le _, Nat.zero_le _⟩ (c_takeOldest_B (rW_in hb) (And.intro (fun h => absurd rfl h) (fun _ => ?_)))) (fun g2 g3 => And.intro ⟨Nat.zero_le _, Nat.zero_le _⟩ (c_takeOldest_B (rW_in hb) (And.intro (fun _ => And.intro ⟨Nat.zero_le _, Nat.zero_le _⟩ (c_numberOf (And.intro ⟨Nat.zero_le _, Nat.zero_le _⟩ (c_isGood (fun g4 => And.intro (fun h => absurd rfl h) (fun _ => ?_)) (fun g4 => And.intro (fun _ => And.intro ⟨Nat.zero_le _, Nat.zero_le _⟩ (c_mapOf (And.intro ⟨Nat.zero_le _, Nat.zero_le _⟩ ?_))) (fun h => absurd h (by decide))))))) (fun h => absurd h (by decide))))))) (fun h => absurd rfl h)) (fun g => absurd ((rW_emp hb).mp g) (by simp)))))
    · rw [t1, t2] at g2
      have e : cA (f :: q) h B A = (-3, q, h, B, A) := if_neg g2
      rw [e] at hk
      exact hk (a, pTake b, (nI Wn, T, nI B, nI ((B + h) % 256), tk, ag, ws, ags, ack), r) ⟨ha, qW_take hb, ⟨ws, ags, ack, rfl, hE⟩, hr⟩
    · rw [t1, t2] at g2
      rw [t1] at g3
      rw [t1, en, eb, eh] at g4
      have g4 : h < (fN f.1 + 256 - B) % 256 := (nI_ltI (by omega) (by omega)).mp g4
      have e : cA (f :: q) h B A = (-2, q, h, B, A) := (if_pos ⟨g2, g3⟩).trans (if_pos g4)
      rw [e] at hk
      exact hk (a, pTake b, (nI Wn, T, nI B, nI ((B + h) % 256), tk, ag, ws, ags, ack), r) ⟨ha, qW_take hb, ⟨ws, ags, ack, rfl, hE⟩, hr⟩
    · rw [t1, t2] at g2
      rw [t1] at g3
      rw [t1, en, eb, eh] at g4
      have g4 : ¬ h < (fN f.1 + 256 - B) % 256 := fun z => g4 ((nI_ltI (by omega) (by omega)).mpr z)
      have e : cA (f :: q) h B A = (nI (mkN (akP (f_map f.1) ((fN f.1 + 256 - B) % 256)) h 0 (A, 0)).2, q, mvB h B (mkN (akP (f_map f.1) ((fN f.1 + 256 - B) % 256)) h 0 (A, 0)).1) := (if_pos ⟨g2, g3⟩).trans (if_neg g4)
      rw [e] at hk
      rw [t1, en]
      refine c_ack (b := (fN f.1 + 256 - B) % 256) (A := A) i5 (by omega) rfl eb (by omega) hE (fun ack' h2 => ?_)
      obtain ⟨k1, k2, k3, k4⟩ := mvB_ok (Or.inl rfl) h B (mkN (akP (f_map f.1) ((fN f.1 + 256 - B) % 256)) h 0 (A, 0)).1 i5 h2
      exact hk (a, pTake b, (nI Wn, T, nI (mvB h B (mkN (akP (f_map f.1) ((fN f.1 + 256 - B) % 256)) h 0 (A, 0)).1).2.1, nI ((B + h) % 256), tk, ag, ws, ags, ack'), r) ⟨ha, qW_take hb, ⟨ws, ags, ack', by rw [← k3], k1⟩, hr⟩
theorem c_wireOf {x : Int32} (hx : x < 0 ∨ 1 < x → kx pm_IA (wl P R)) (h0 : x = 0 → k (some (.ref 2)) (wl P R)) (h1 : x = 1 → k (some (.ref 5)) (wl P R)) : pm_C 63 (d + 6) false [.ref 1, .int x] (wl P R) k kx := by
  refine pm_Ci rfl (pm_run 60 (And.intro ⟨Nat.zero_le _, Nat.zero_le _⟩ (c_within (fun g1 g2 => And.intro (fun _ => And.intro (fun g3 => h1 ?_) (fun g3 => h0 g3)) (fun h => absurd h (by decide))) (fun g => And.intro (fun h => absurd rfl h) (fun _ => And.intro ⟨Nat.le_add_left _ _, by decide, by decide⟩ (hx g))))))
  obtain ⟨a, ha, e1⟩ := nI_of2 (n := 1) (M := 1) (by decide) g1 (Int32.not_lt.mp g2)
  subst e1
  rcases Nat.lt_or_ge a 1 with h | h
  · have : a = 0 := by omega
    subst this
    exact absurd rfl g3
  · have : a = 1 := by omega
    subst this
    rfl
theorem c_loseA {x : Int32} (hx : x = 0) (hL : rLk Wn Rm T qa qb B h A tk ag F V D LG P) (hk : ∀ P', rLk Wn Rm T (lsQ qa).2 qb B h A tk ag F V D LG P' → k (some (.int (lsQ qa).1)) (wl P' R)) : pm_C 53 (d + 7) false [.ref 1, .int x] (wl P R) k kx := by
  obtain ⟨a, b, s, r⟩ := P
  have hL' := hL
  obtain ⟨ha, hb, hs, hr⟩ := hL
  have hw := ha
  cases qa with
  | nil => exact pm_Ci rfl (pm_run 80 (And.intro ⟨by decide, by decide⟩ (c_wireOf (fun z => absurd z (by rw [hx]; decide)) (fun _ => And.intro ⟨Nat.zero_le _, Nat.zero_le _⟩ (c_isEmpty_A (fun g => absurd ((rW_emp hw).mpr rfl) g) (fun g => And.intro (fun h => absurd h (by decide)) (fun _ => And.intro rfl (hk _ hL'))))) (fun z => absurd (hx.symm.trans z) (by decide)))))
  | cons f q => exact pm_Ci rfl (pm_run 80 (And.intro ⟨by decide, by decide⟩ (c_wireOf (fun z => absurd z (by rw [hx]; decide)) (fun _ => And.intro ⟨Nat.zero_le _, Nat.zero_le _⟩ (c_isEmpty_A (fun g => And.intro (fun _ => And.intro ⟨Nat.zero_le _, Nat.zero_le _⟩ (c_takeOldest_A (rW_in hw) (And.intro rfl (hk ((pTake a), b, s, r) ⟨qW_take hw, hb, hs, hr⟩)))) (fun h => absurd rfl h)) (fun g => absurd ((rW_emp hw).mp g) (by simp)))) (fun z => absurd (hx.symm.trans z) (by decide)))))
theorem c_twiceA {x : Int32} (hx : x = 0) (hL : rLk Wn Rm T qa qb B h A tk ag F V D LG P) (hk : ∀ P', rLk Wn Rm T (twQ Rm qa).2 qb B h A tk ag F V D LG P' → k (some (.int (twQ Rm qa).1)) (wl P' R)) : pm_C 55 (d + 7) false [.ref 1, .int x] (wl P R) k kx := by
  obtain ⟨a, b, s, r⟩ := P
  have hL' := hL
  obtain ⟨ha, hb, hs, hr⟩ := hL
  have hw := ha
  cases qa with
  | nil => exact pm_Ci rfl (pm_run 80 (And.intro ⟨by decide, by decide⟩ (c_wireOf (fun z => absurd z (by rw [hx]; decide)) (fun _ => And.intro ⟨Nat.zero_le _, Nat.zero_le _⟩ (c_isEmpty_A (fun g => absurd ((rW_emp hw).mpr rfl) g) (fun g => And.intro (fun _ => And.intro rfl (hk _ hL')) (fun h => absurd h (by decide))))) (fun z => absurd (hx.symm.trans z) (by decide)))))
  | cons f q =>
    obtain ⟨j, hj⟩ : ∃ j : Int32, (a.1 + -1) &&& 31 = j := ⟨_, rfl⟩
    refine pm_Ci rfl (pm_run 80 (And.intro ⟨by decide, by decide⟩ (c_wireOf (fun z => absurd z (by rw [hx]; decide)) (fun _ => And.intro ⟨Nat.zero_le _, Nat.zero_le _⟩ (c_isEmpty_A (fun g => And.intro (fun h => absurd rfl h) (fun _ => And.intro ⟨Nat.zero_le _, Nat.zero_le _⟩ (c_hasRoom_A (fun g2 => And.intro (fun h => absurd rfl h) (fun _ => And.intro rfl ?_)) (fun g2 => And.intro (fun _ => And.intro ⟨Nat.zero_le _, Nat.zero_le _⟩ (c_dbl_A hj (rW_in hw) (And.intro rfl ?_))) (fun h => absurd h (by decide)))))) (fun g => absurd ((rW_emp hw).mp g) (by simp)))) (fun z => absurd (hx.symm.trans z) (by decide)))))
    · have e : twQ Rm (f :: q) = (0, f :: q) := if_neg (by have := (rW_room hw).mp g2; simp only [List.length_cons] at this; omega)
      rw [e] at hk
      exact hk _ hL'
    · have hq : q.length + 1 < Rm := Nat.lt_of_not_le (fun z => g2 ((rW_room hw).mpr (by simpa using z)))
      have e : twQ Rm (f :: q) = (1, f :: f :: q) := if_pos hq
      rw [e] at hk
      exact hk ((pDbl a j), b, s, r) ⟨qW_dbl hj hw hq, hb, hs, hr⟩
theorem c_delayA {x : Int32} (iv : IV Wn Rm B h F V) (hx : x = 0) (hL : rLk Wn Rm T qa qb B h A tk ag F V D LG P) (hk : ∀ P', rLk Wn Rm T (dyQ qa).2 qb B h A tk ag F V D LG P' → k (some (.int (dyQ qa).1)) (wl P' R)) : pm_C 56 (d + 7) false [.ref 1, .int x] (wl P R) k kx := by
  obtain ⟨a, b, s, r⟩ := P
  have hL' := hL
  obtain ⟨ha, hb, hs, hr⟩ := hL
  have hw := ha
  obtain ⟨O, w1, w2, w3, w4, w5, w6, w7, w8⟩ := hw
  have ec : (a.2.1 : Int32) = nI qa.length := w3
  refine pm_Ci rfl (pm_run 80 (And.intro ⟨by decide, by decide⟩ (c_wireOf (fun z => absurd z (by rw [hx]; decide)) (fun _ => And.intro ⟨Nat.zero_le _, Nat.zero_le _⟩ (c_size_A (And.intro (fun g => And.intro ⟨Nat.zero_le _, Nat.zero_le _⟩ (c_moveOldestBack_A (rW_in ha) (And.intro rfl ?_))) (fun g => And.intro rfl ?_)))) (fun z => absurd (hx.symm.trans z) (by decide)))))
  · have g : nI 2 ≤ a.2.1 := g
    rw [ec, nI_leI (by omega) (by omega)] at g
    match qa, g, hk, ha with
    | f :: g2 :: q, _, hk, hw => exact hk ((pMov a), b, s, r) ⟨qW_mov hw, hb, hs, hr⟩
  · have g : ¬ nI 2 ≤ a.2.1 := g
    rw [ec, nI_leI (by omega) (by omega)] at g
    have e : dyQ qa = (0, qa) := by
      match qa, g with
      | [], _ => rfl
      | [f], _ => rfl
      | f :: g2 :: q, g => exact absurd (by simp) g
    rw [e] at hk
    exact hk _ hL'
theorem c_changeA {x y : Int32} (hx : x = 0) (hy : y < 0 ∨ 95 < y → kx pm_IA (wl P R)) (hL : rLk Wn Rm T qa qb B h A tk ag F V D LG P) (hk : ¬ y < 0 → ¬ 95 < y → ∀ P', rLk Wn Rm T (chQ y qa).2 qb B h A tk ag F V D LG P' → k (some (.int (chQ y qa).1)) (wl P' R)) : pm_C 54 (d + 7) false [.ref 1, .int x, .int y] (wl P R) k kx := by
  obtain ⟨a, b, s, r⟩ := P
  have hL' := hL
  obtain ⟨ha, hb, hs, hr⟩ := hL
  have hw := ha
  refine pm_Ci rfl (pm_run 80 (And.intro ⟨by decide, by decide⟩ (c_wireOf (fun z => absurd z (by rw [hx]; decide)) (fun _ => And.intro ⟨Nat.zero_le _, Nat.zero_le _⟩ (c_within (fun g1 g2 => And.intro (fun _ => And.intro ⟨Nat.zero_le _, Nat.zero_le _⟩ ?_) (fun h => absurd h (by decide))) (fun g => And.intro (fun h => absurd rfl h) (fun _ => And.intro ⟨Nat.le_trans (by decide) (Nat.le_add_left _ _), by decide, by decide⟩ (hy g))))) (fun z => absurd (hx.symm.trans z) (by decide)))))
  cases qa with
  | nil => exact c_isEmpty_A (fun g => absurd ((rW_emp hw).mpr rfl) g) (fun g => And.intro (fun h => absurd h (by decide)) (fun _ => And.intro rfl (hk g1 g2 _ hL')))
  | cons f q =>
    refine c_isEmpty_A (fun g => And.intro (fun _ => And.intro ⟨Nat.zero_le _, Nat.zero_le _⟩ (c_turnBit_A (rW_in hw) (fun g3 => And.intro rfl ?_) (fun g3 => And.intro rfl ?_))) (fun h => absurd rfl h)) (fun g => absurd ((rW_emp hw).mp g) (by simp))
    · have e : chQ y (f :: q) = (1, (f.1, f.2 ^^^ ((1 : Int32) <<< (y &&& 31))) :: q) := by simp only [chQ, chF, if_neg g3]
      rw [e] at hk
      exact hk g1 g2 ((pTrS a ((1 : Int32) <<< (y &&& 31))), b, s, r) ⟨qW_trS hw, hb, hs, hr⟩
    · have e : chQ y (f :: q) = (1, (f.1 ^^^ ((1 : Int64) <<< ((y - 32).toInt64 &&& 63)), f.2) :: q) := by simp only [chQ, chF, if_pos g3]
      rw [e] at hk
      exact hk g1 g2 ((pTrB a ((1 : Int64) <<< ((y - 32).toInt64 &&& 63))), b, s, r) ⟨qW_trB hw, hb, hs, hr⟩
theorem c_frameA {x y z : Int32} (iv : IV Wn Rm B h F V) (hx : x = 0) (hz : z < 0 ∨ 1 < z → kx pm_IA (wl P R)) (hy : ¬ (z < 0 ∨ 1 < z) → (y < 0 ∨ nI qa.length ≤ y) → kx pm_IO (wl P R)) (hL : rLk Wn Rm T qa qb B h A tk ag F V D LG P) (hk0 : z = 0 → ∀ (i : Nat) (f : Int64 × Int32), y = nI i → qa[i]? = some f → k (some (.long f.1)) (wl P R)) (hk1 : z = 1 → ∀ (i : Nat) (f : Int64 × Int32), y = nI i → qa[i]? = some f → k (some (.long (f.2.toInt64 &&& 4294967295))) (wl P R)) : pm_C 59 (d + 7) false [.ref 1, .int x, .int y, .int z] (wl P R) k kx := by
  obtain ⟨i1, i2, i3, i4, i5, i6, i7, i8, i9⟩ := iv
  obtain ⟨a, b, s, r⟩ := P
  have hL' := hL
  obtain ⟨ha, hb, hs, hr⟩ := hL
  have hw := ha
  have hlen : qa.length ≤ 32 := by
    obtain ⟨O, w1, w2, w3, w4, w5, w6, w7, w8⟩ := hw
    omega
  have ec : (a.2.1 : Int32) = nI qa.length := by
    obtain ⟨O, w1, w2, w3, w4, w5, w6, w7, w8⟩ := hw
    exact w3
  refine pm_Ci rfl (pm_run 80 (And.intro ⟨by decide, by decide⟩ (c_wireOf (fun z => absurd z (by rw [hx]; decide)) (fun _ => And.intro ⟨Nat.zero_le _, Nat.zero_le _⟩ (c_within (fun g1 g2 => And.intro (fun _ => And.intro ⟨Nat.zero_le _, Nat.zero_le _⟩ (c_size_A (And.intro ⟨Nat.zero_le _, Nat.zero_le _⟩ ?_))) (fun h => absurd h (by decide))) (fun g => And.intro (fun h => absurd rfl h) (fun _ => And.intro ⟨Nat.le_trans (by decide) (Nat.le_add_left _ _), by decide, by decide⟩ (hz g))))) (fun z => absurd (hx.symm.trans z) (by decide)))))
  have hz2 : ¬ (z < 0 ∨ 1 < z) := fun q => q.elim g1 g2
  refine c_within (fun g3 g4 => And.intro (fun _ => ?_) (fun h => absurd h (by decide))) (fun g => And.intro (fun h => absurd rfl h) (fun _ => And.intro ⟨Nat.le_trans (by decide) (Nat.le_add_left _ _), by decide, by decide⟩ (hy hz2 ?_)))
  · obtain ⟨i, hi, rfl⟩ := nI_of g3
    have g4 : ¬ a.2.1 - 1 < nI i := g4
    have hil : i < qa.length := by
      rw [ec] at g4
      rcases Nat.lt_or_ge i qa.length with q | q
      · exact q
      · exfalso
        apply g4
        rw [Int32.lt_iff_toInt_lt, show nI qa.length - 1 = nI qa.length - nI 1 from rfl, pk_sub_toInt (by omega) (by omega), nI_toInt hi]
        omega
    obtain ⟨f, hf⟩ : ∃ f, qa[i]? = some f := ⟨_, List.getElem?_eq_getElem hil⟩
    obtain ⟨r1, r2⟩ := rW_at hw hf
    refine And.intro (fun g5 => And.intro ⟨Nat.zero_le _, Nat.zero_le _⟩ (c_checkSumAt_A ?_)) (fun g5 => And.intro ⟨Nat.zero_le _, Nat.zero_le _⟩ (c_bytesAt_A ?_))
    · have hz1 : z = 1 := by
        obtain ⟨j, hj, rfl⟩ := nI_of2 (n := 1) (M := 1) (by decide) g1 (Int32.not_lt.mp g2)
        rcases Nat.lt_or_ge j 1 with h | h
        · have : j = 0 := by omega
          subst this
          exact absurd rfl g5
        · have : j = 1 := by omega
          subst this
          rfl
      rw [r2]
      exact hk1 hz1 i f rfl hf
    · rw [r1]
      exact hk0 g5 i f rfl hf
  · rcases g with g | g
    · exact Or.inl g
    · refine Or.inr ?_
      have g : a.2.1 - 1 < y := g
      rw [ec, Int32.lt_iff_toInt_lt, show nI qa.length - 1 = nI qa.length - nI 1 from rfl, pk_sub_toInt (by omega) (by omega)] at g
      rw [Int32.le_iff_toInt_le, nI_toInt (by omega)]
      omega
theorem c_loseB {x : Int32} (hx : x = 1) (hL : rLk Wn Rm T qa qb B h A tk ag F V D LG P) (hk : ∀ P', rLk Wn Rm T qa (lsQ qb).2 B h A tk ag F V D LG P' → k (some (.int (lsQ qb).1)) (wl P' R)) : pm_C 53 (d + 7) false [.ref 1, .int x] (wl P R) k kx := by
  obtain ⟨a, b, s, r⟩ := P
  have hL' := hL
  obtain ⟨ha, hb, hs, hr⟩ := hL
  have hw := hb
  cases qb with
  | nil => exact pm_Ci rfl (pm_run 80 (And.intro ⟨by decide, by decide⟩ (c_wireOf (fun z => absurd z (by rw [hx]; decide)) (fun z => absurd (hx.symm.trans z) (by decide)) (fun _ => And.intro ⟨Nat.zero_le _, Nat.zero_le _⟩ (c_isEmpty_B (fun g => absurd ((rW_emp hw).mpr rfl) g) (fun g => And.intro (fun h => absurd h (by decide)) (fun _ => And.intro rfl (hk _ hL'))))))))
  | cons f q => exact pm_Ci rfl (pm_run 80 (And.intro ⟨by decide, by decide⟩ (c_wireOf (fun z => absurd z (by rw [hx]; decide)) (fun z => absurd (hx.symm.trans z) (by decide)) (fun _ => And.intro ⟨Nat.zero_le _, Nat.zero_le _⟩ (c_isEmpty_B (fun g => And.intro (fun _ => And.intro ⟨Nat.zero_le _, Nat.zero_le _⟩ (c_takeOldest_B (rW_in hw) (And.intro rfl (hk (a, (pTake b), s, r) ⟨ha, qW_take hw, hs, hr⟩)))) (fun h => absurd rfl h)) (fun g => absurd ((rW_emp hw).mp g) (by simp)))))))
theorem c_twiceB {x : Int32} (hx : x = 1) (hL : rLk Wn Rm T qa qb B h A tk ag F V D LG P) (hk : ∀ P', rLk Wn Rm T qa (twQ Rm qb).2 B h A tk ag F V D LG P' → k (some (.int (twQ Rm qb).1)) (wl P' R)) : pm_C 55 (d + 7) false [.ref 1, .int x] (wl P R) k kx := by
  obtain ⟨a, b, s, r⟩ := P
  have hL' := hL
  obtain ⟨ha, hb, hs, hr⟩ := hL
  have hw := hb
  cases qb with
  | nil => exact pm_Ci rfl (pm_run 80 (And.intro ⟨by decide, by decide⟩ (c_wireOf (fun z => absurd z (by rw [hx]; decide)) (fun z => absurd (hx.symm.trans z) (by decide)) (fun _ => And.intro ⟨Nat.zero_le _, Nat.zero_le _⟩ (c_isEmpty_B (fun g => absurd ((rW_emp hw).mpr rfl) g) (fun g => And.intro (fun _ => And.intro rfl (hk _ hL')) (fun h => absurd h (by decide))))))))
  | cons f q =>
    obtain ⟨j, hj⟩ : ∃ j : Int32, (b.1 + -1) &&& 31 = j := ⟨_, rfl⟩
    refine pm_Ci rfl (pm_run 80 (And.intro ⟨by decide, by decide⟩ (c_wireOf (fun z => absurd z (by rw [hx]; decide)) (fun z => absurd (hx.symm.trans z) (by decide)) (fun _ => And.intro ⟨Nat.zero_le _, Nat.zero_le _⟩ (c_isEmpty_B (fun g => And.intro (fun h => absurd rfl h) (fun _ => And.intro ⟨Nat.zero_le _, Nat.zero_le _⟩ (c_hasRoom_B (fun g2 => And.intro (fun h => absurd rfl h) (fun _ => And.intro rfl ?_)) (fun g2 => And.intro (fun _ => And.intro ⟨Nat.zero_le _, Nat.zero_le _⟩ (c_dbl_B hj (rW_in hw) (And.intro rfl ?_))) (fun h => absurd h (by decide)))))) (fun g => absurd ((rW_emp hw).mp g) (by simp)))))))
    · have e : twQ Rm (f :: q) = (0, f :: q) := if_neg (by have := (rW_room hw).mp g2; simp only [List.length_cons] at this; omega)
      rw [e] at hk
      exact hk _ hL'
    · have hq : q.length + 1 < Rm := Nat.lt_of_not_le (fun z => g2 ((rW_room hw).mpr (by simpa using z)))
      have e : twQ Rm (f :: q) = (1, f :: f :: q) := if_pos hq
      rw [e] at hk
      exact hk (a, (pDbl b j), s, r) ⟨ha, qW_dbl hj hw hq, hs, hr⟩
theorem c_delayB {x : Int32} (iv : IV Wn Rm B h F V) (hx : x = 1) (hL : rLk Wn Rm T qa qb B h A tk ag F V D LG P) (hk : ∀ P', rLk Wn Rm T qa (dyQ qb).2 B h A tk ag F V D LG P' → k (some (.int (dyQ qb).1)) (wl P' R)) : pm_C 56 (d + 7) false [.ref 1, .int x] (wl P R) k kx := by
  obtain ⟨a, b, s, r⟩ := P
  have hL' := hL
  obtain ⟨ha, hb, hs, hr⟩ := hL
  have hw := hb
  obtain ⟨O, w1, w2, w3, w4, w5, w6, w7, w8⟩ := hw
  have ec : (b.2.1 : Int32) = nI qb.length := w3
  refine pm_Ci rfl (pm_run 80 (And.intro ⟨by decide, by decide⟩ (c_wireOf (fun z => absurd z (by rw [hx]; decide)) (fun z => absurd (hx.symm.trans z) (by decide)) (fun _ => And.intro ⟨Nat.zero_le _, Nat.zero_le _⟩ (c_size_B (And.intro (fun g => And.intro ⟨Nat.zero_le _, Nat.zero_le _⟩ (c_moveOldestBack_B (rW_in hb) (And.intro rfl ?_))) (fun g => And.intro rfl ?_)))))))
  · have g : nI 2 ≤ b.2.1 := g
    rw [ec, nI_leI (by omega) (by omega)] at g
    match qb, g, hk, hb with
    | f :: g2 :: q, _, hk, hw => exact hk (a, (pMov b), s, r) ⟨ha, qW_mov hw, hs, hr⟩
  · have g : ¬ nI 2 ≤ b.2.1 := g
    rw [ec, nI_leI (by omega) (by omega)] at g
    have e : dyQ qb = (0, qb) := by
      match qb, g with
      | [], _ => rfl
      | [f], _ => rfl
      | f :: g2 :: q, g => exact absurd (by simp) g
    rw [e] at hk
    exact hk _ hL'
theorem c_changeB {x y : Int32} (hx : x = 1) (hy : y < 0 ∨ 95 < y → kx pm_IA (wl P R)) (hL : rLk Wn Rm T qa qb B h A tk ag F V D LG P) (hk : ¬ y < 0 → ¬ 95 < y → ∀ P', rLk Wn Rm T qa (chQ y qb).2 B h A tk ag F V D LG P' → k (some (.int (chQ y qb).1)) (wl P' R)) : pm_C 54 (d + 7) false [.ref 1, .int x, .int y] (wl P R) k kx := by
  obtain ⟨a, b, s, r⟩ := P
  have hL' := hL
  obtain ⟨ha, hb, hs, hr⟩ := hL
  have hw := hb
  refine pm_Ci rfl (pm_run 80 (And.intro ⟨by decide, by decide⟩ (c_wireOf (fun z => absurd z (by rw [hx]; decide)) (fun z => absurd (hx.symm.trans z) (by decide)) (fun _ => And.intro ⟨Nat.zero_le _, Nat.zero_le _⟩ (c_within (fun g1 g2 => And.intro (fun _ => And.intro ⟨Nat.zero_le _, Nat.zero_le _⟩ ?_) (fun h => absurd h (by decide))) (fun g => And.intro (fun h => absurd rfl h) (fun _ => And.intro ⟨Nat.le_trans (by decide) (Nat.le_add_left _ _), by decide, by decide⟩ (hy g))))))))
  cases qb with
  | nil => exact c_isEmpty_B (fun g => absurd ((rW_emp hw).mpr rfl) g) (fun g => And.intro (fun h => absurd h (by decide)) (fun _ => And.intro rfl (hk g1 g2 _ hL')))
  | cons f q =>
    refine c_isEmpty_B (fun g => And.intro (fun _ => And.intro ⟨Nat.zero_le _, Nat.zero_le _⟩ (c_turnBit_B (rW_in hw) (fun g3 => And.intro rfl ?_) (fun g3 => And.intro rfl ?_))) (fun h => absurd rfl h)) (fun g => absurd ((rW_emp hw).mp g) (by simp))
    · have e : chQ y (f :: q) = (1, (f.1, f.2 ^^^ ((1 : Int32) <<< (y &&& 31))) :: q) := by simp only [chQ, chF, if_neg g3]
      rw [e] at hk
      exact hk g1 g2 (a, (pTrS b ((1 : Int32) <<< (y &&& 31))), s, r) ⟨ha, qW_trS hw, hs, hr⟩
    · have e : chQ y (f :: q) = (1, (f.1 ^^^ ((1 : Int64) <<< ((y - 32).toInt64 &&& 63)), f.2) :: q) := by simp only [chQ, chF, if_pos g3]
      rw [e] at hk
      exact hk g1 g2 (a, (pTrB b ((1 : Int64) <<< ((y - 32).toInt64 &&& 63))), s, r) ⟨ha, qW_trB hw, hs, hr⟩
theorem c_frameB {x y z : Int32} (iv : IV Wn Rm B h F V) (hx : x = 1) (hz : z < 0 ∨ 1 < z → kx pm_IA (wl P R)) (hy : ¬ (z < 0 ∨ 1 < z) → (y < 0 ∨ nI qb.length ≤ y) → kx pm_IO (wl P R)) (hL : rLk Wn Rm T qa qb B h A tk ag F V D LG P) (hk0 : z = 0 → ∀ (i : Nat) (f : Int64 × Int32), y = nI i → qb[i]? = some f → k (some (.long f.1)) (wl P R)) (hk1 : z = 1 → ∀ (i : Nat) (f : Int64 × Int32), y = nI i → qb[i]? = some f → k (some (.long (f.2.toInt64 &&& 4294967295))) (wl P R)) : pm_C 59 (d + 7) false [.ref 1, .int x, .int y, .int z] (wl P R) k kx := by
  obtain ⟨i1, i2, i3, i4, i5, i6, i7, i8, i9⟩ := iv
  obtain ⟨a, b, s, r⟩ := P
  have hL' := hL
  obtain ⟨ha, hb, hs, hr⟩ := hL
  have hw := hb
  have hlen : qb.length ≤ 32 := by
    obtain ⟨O, w1, w2, w3, w4, w5, w6, w7, w8⟩ := hw
    omega
  have ec : (b.2.1 : Int32) = nI qb.length := by
    obtain ⟨O, w1, w2, w3, w4, w5, w6, w7, w8⟩ := hw
    exact w3
  refine pm_Ci rfl (pm_run 80 (And.intro ⟨by decide, by decide⟩ (c_wireOf (fun z => absurd z (by rw [hx]; decide)) (fun z => absurd (hx.symm.trans z) (by decide)) (fun _ => And.intro ⟨Nat.zero_le _, Nat.zero_le _⟩ (c_within (fun g1 g2 => And.intro (fun _ => And.intro ⟨Nat.zero_le _, Nat.zero_le _⟩ (c_size_B (And.intro ⟨Nat.zero_le _, Nat.zero_le _⟩ ?_))) (fun h => absurd h (by decide))) (fun g => And.intro (fun h => absurd rfl h) (fun _ => And.intro ⟨Nat.le_trans (by decide) (Nat.le_add_left _ _), by decide, by decide⟩ (hz g))))))))
  have hz2 : ¬ (z < 0 ∨ 1 < z) := fun q => q.elim g1 g2
  refine c_within (fun g3 g4 => And.intro (fun _ => ?_) (fun h => absurd h (by decide))) (fun g => And.intro (fun h => absurd rfl h) (fun _ => And.intro ⟨Nat.le_trans (by decide) (Nat.le_add_left _ _), by decide, by decide⟩ (hy hz2 ?_)))
  · obtain ⟨i, hi, rfl⟩ := nI_of g3
    have g4 : ¬ b.2.1 - 1 < nI i := g4
    have hil : i < qb.length := by
      rw [ec] at g4
      rcases Nat.lt_or_ge i qb.length with q | q
      · exact q
      · exfalso
        apply g4
        rw [Int32.lt_iff_toInt_lt, show nI qb.length - 1 = nI qb.length - nI 1 from rfl, pk_sub_toInt (by omega) (by omega), nI_toInt hi]
        omega
    obtain ⟨f, hf⟩ : ∃ f, qb[i]? = some f := ⟨_, List.getElem?_eq_getElem hil⟩
    obtain ⟨r1, r2⟩ := rW_at hw hf
    refine And.intro (fun g5 => And.intro ⟨Nat.zero_le _, Nat.zero_le _⟩ (c_checkSumAt_B ?_)) (fun g5 => And.intro ⟨Nat.zero_le _, Nat.zero_le _⟩ (c_bytesAt_B ?_))
    · have hz1 : z = 1 := by
        obtain ⟨j, hj, rfl⟩ := nI_of2 (n := 1) (M := 1) (by decide) g1 (Int32.not_lt.mp g2)
        rcases Nat.lt_or_ge j 1 with h | h
        · have : j = 0 := by omega
          subst this
          exact absurd rfl g5
        · have : j = 1 := by omega
          subst this
          rfl
      rw [r2]
      exact hk1 hz1 i f rfl hf
    · rw [r1]
      exact hk0 g5 i f rfl hf
  · rcases g with g | g
    · exact Or.inl g
    · refine Or.inr ?_
      have g : b.2.1 - 1 < y := g
      rw [ec, Int32.lt_iff_toInt_lt, show nI qb.length - 1 = nI qb.length - nI 1 from rfl, pk_sub_toInt (by omega) (by omega)] at g
      rw [Int32.le_iff_toInt_le, nI_toInt (by omega)]
      omega

theorem c_noWire {x : Int32} (hx : x < 0 ∨ 1 < x) (hk : kx pm_IA (wl P R)) : pm_C 53 (d + 7) false [.ref 1, .int x] (wl P R) k kx ∧ pm_C 55 (d + 7) false [.ref 1, .int x] (wl P R) k kx ∧ pm_C 56 (d + 7) false [.ref 1, .int x] (wl P R) k kx ∧ (∀ y, pm_C 54 (d + 7) false [.ref 1, .int x, .int y] (wl P R) k kx) ∧ ∀ y z, pm_C 59 (d + 7) false [.ref 1, .int x, .int y, .int z] (wl P R) k kx := by
  have n0 : ¬ x = 0 := fun z => absurd hx (by rw [z]; decide)
  have n1 : ¬ x = 1 := fun z => absurd hx (by rw [z]; decide)
  exact ⟨pm_Ci rfl (pm_run 80 (And.intro ⟨by decide, by decide⟩ (c_wireOf (fun _ => hk) (fun z => absurd z n0) (fun z => absurd z n1)))),
    pm_Ci rfl (pm_run 80 (And.intro ⟨by decide, by decide⟩ (c_wireOf (fun _ => hk) (fun z => absurd z n0) (fun z => absurd z n1)))),
    pm_Ci rfl (pm_run 80 (And.intro ⟨by decide, by decide⟩ (c_wireOf (fun _ => hk) (fun z => absurd z n0) (fun z => absurd z n1)))),
    fun y => pm_Ci rfl (pm_run 80 (And.intro ⟨by decide, by decide⟩ (c_wireOf (fun _ => hk) (fun z => absurd z n0) (fun z => absurd z n1)))),
    fun y z => pm_Ci rfl (pm_run 80 (And.intro ⟨by decide, by decide⟩ (c_wireOf (fun _ => hk) (fun z => absurd z n0) (fun z => absurd z n1))))⟩
end PL
end
section
/-! BYTES OF FRAMES: the kit's rows on bits (given for pasting), and how the bytes of a frame make up its parts -/
/-! ===== lN n to 2^64: shifts, and, or, masks, one bit ===== -/
theorem wb_tb (n : Nat) : (lN n).toBitVec = BitVec.ofNat 64 n := rfl
theorem wb_inj {a b : Int64} (h : a.toBitVec = b.toBitVec) : a = b := Int64.toBitVec_inj.mp h
theorem wb_tn {n : Nat} (h : n < 2 ^ 64) : (lN n).toBitVec.toNat = n := by rw [wb_tb, BitVec.toNat_ofNat, Nat.mod_eq_of_lt h]
theorem wb_of (x : Int64) : ∃ n, n < 2 ^ 64 ∧ x = lN n := ⟨x.toBitVec.toNat, x.toBitVec.isLt, wb_inj (by rw [wb_tb]; simp)⟩
theorem wb_of32 (x : Int32) : ∃ n, n < 2 ^ 32 ∧ x = nI n := ⟨x.toBitVec.toNat, x.toBitVec.isLt, Int32.toBitVec_inj.mp (by show _ = BitVec.ofNat 32 _; simp)⟩
theorem wb_c : ∀ k, k < 64 → ((nI k).toInt64 &&& 63) = lN k := by decide +kernel
theorem wb_cu : ∀ k, k < 64 → ((nI k).toInt64.toUInt64 &&& Int64.toUInt64 63) = UInt64.ofNat k := by decide +kernel
theorem wb_sm : ∀ k, k < 64 → (BitVec.ofNat 64 k).smod 64 = BitVec.ofNat 64 k := by decide +kernel
theorem wb_pw {a b : Nat} (h : a ≤ b) : 2 ^ b = 2 ^ a * 2 ^ (b - a) := by rw [← Nat.pow_add]; congr 1; omega
theorem wb_lt2 {a b : Nat} (h : a < b) : 2 ^ a < 2 ^ b := Nat.pow_lt_pow_right (by decide) h
theorem wb_mod (n : Nat) : lN n = lN (n % 2 ^ 64) := wb_inj (by rw [wb_tb, wb_tb]; apply BitVec.eq_of_toNat_eq; rw [BitVec.toNat_ofNat, BitVec.toNat_ofNat, Nat.mod_mod])
theorem wb_shr {n k : Nat} (hn : n < 2 ^ 64) (hk : k < 64) : ((lN n).toUInt64 >>> ((nI k).toInt64.toUInt64 &&& Int64.toUInt64 63)).toInt64 = lN (n / 2 ^ k) := by
  rw [wb_cu k hk]
  apply wb_inj
  apply BitVec.eq_of_toNat_eq
  show ((lN n).toUInt64 >>> UInt64.ofNat k).toNat = (BitVec.ofNat 64 _).toNat
  have h1 : (UInt64.ofNat k).toNat = k := by
    show (BitVec.ofNat 64 k).toNat = k
    rw [BitVec.toNat_ofNat, Nat.mod_eq_of_lt (by omega)]
  have h2 : (lN n).toUInt64.toNat = n := wb_tn hn
  rw [UInt64.toNat_shiftRight, h1, h2, Nat.mod_eq_of_lt hk, Nat.shiftRight_eq_div_pow, BitVec.toNat_ofNat, Nat.mod_eq_of_lt (Nat.lt_of_le_of_lt (Nat.div_le_self _ _) hn)]
theorem wb_shl (n : Nat) {k : Nat} (hk : k < 64) : lN n <<< ((nI k).toInt64 &&& 63) = lN (n * 2 ^ k) := by
  rw [wb_c k hk]
  apply wb_inj
  rw [Int64.toBitVec_shiftLeft, wb_tb, wb_tb, wb_tb, wb_sm k hk]
  apply BitVec.eq_of_toNat_eq
  rw [BitVec.shiftLeft_eq', BitVec.toNat_shiftLeft, BitVec.toNat_ofNat, BitVec.toNat_ofNat, BitVec.toNat_ofNat, Nat.mod_eq_of_lt (show k < 2 ^ 64 by omega), Nat.shiftLeft_eq, Nat.mul_mod, Nat.mod_mod, ← Nat.mul_mod]
theorem wb_and {a b : Nat} (ha : a < 2 ^ 64) (hb : b < 2 ^ 64) : lN a &&& lN b = lN (a &&& b) := by
  apply wb_inj
  rw [Int64.toBitVec_and, wb_tb, wb_tb, wb_tb]
  apply BitVec.eq_of_toNat_eq
  rw [BitVec.toNat_and, BitVec.toNat_ofNat, BitVec.toNat_ofNat, BitVec.toNat_ofNat, Nat.mod_eq_of_lt ha, Nat.mod_eq_of_lt hb, Nat.mod_eq_of_lt (Nat.and_lt_two_pow _ hb)]
theorem wb_or {a b : Nat} (ha : a < 2 ^ 64) (hb : b < 2 ^ 64) : lN a ||| lN b = lN (a ||| b) := by
  apply wb_inj
  rw [Int64.toBitVec_or, wb_tb, wb_tb, wb_tb]
  apply BitVec.eq_of_toNat_eq
  rw [BitVec.toNat_or, BitVec.toNat_ofNat, BitVec.toNat_ofNat, BitVec.toNat_ofNat, Nat.mod_eq_of_lt ha, Nat.mod_eq_of_lt hb, Nat.mod_eq_of_lt (Nat.or_lt_two_pow ha hb)]
theorem wb_mask {n k : Nat} (hn : n < 2 ^ 64) (hk : k < 64) : lN n &&& lN (2 ^ k - 1) = lN (n % 2 ^ k) := by
  rw [wb_and hn (by have := wb_lt2 hk; omega), Nat.and_two_pow_sub_one_eq_mod]
theorem wb_a1 {n : Nat} (hn : n < 2 ^ 64) : lN n &&& 1 = lN (n % 2) := wb_mask (k := 1) hn (by decide)
theorem wb_bit {n k : Nat} (hn : n < 2 ^ 64) (hk : k < 64) : ((lN n).toUInt64 >>> ((nI k).toInt64.toUInt64 &&& Int64.toUInt64 63)).toInt64 &&& 1 = lN (n / 2 ^ k % 2) := by
  rw [wb_shr hn hk, wb_a1 (Nat.lt_of_le_of_lt (Nat.div_le_self _ _) hn)]
theorem wb_xor {q k : Nat} (hk : k < 63) (h : 2 ^ k ≤ q) (h2 : q < 2 ^ (k + 1)) : lN q ^^^ lN (2 ^ k) = lN (q - 2 ^ k) := by
  obtain ⟨r, rfl⟩ : ∃ r, q = 2 ^ k + r := ⟨q - 2 ^ k, by omega⟩
  have hr : r < 2 ^ k := by rw [Nat.pow_succ] at h2; omega
  have hx : (2 ^ k + r) ^^^ 2 ^ k = r := by
    apply Nat.eq_of_testBit_eq
    intro i
    rw [Nat.testBit_xor, Nat.testBit_two_pow]
    rcases Nat.lt_trichotomy i k with h | h | h
    · rw [Nat.testBit_two_pow_add_gt h]
      simp [show ¬ k = i by omega]
    · subst h
      rw [Nat.testBit_two_pow_add_eq]
      simp
    · have a1 : 2 ^ (k + 1) ≤ 2 ^ i := Nat.pow_le_pow_right (by decide) h
      rw [Nat.testBit_lt_two_pow (show 2 ^ k + r < 2 ^ i by omega), Nat.testBit_lt_two_pow (show r < 2 ^ i by omega)]
      simp [show ¬ k = i by omega]
  have b1 := wb_lt2 (show k + 1 < 64 by omega)
  have b2 := wb_lt2 (show k < 64 by omega)
  apply wb_inj
  rw [Int64.toBitVec_xor, wb_tb, wb_tb, wb_tb]
  apply BitVec.eq_of_toNat_eq
  rw [BitVec.toNat_xor, BitVec.toNat_ofNat, BitVec.toNat_ofNat, BitVec.toNat_ofNat, Nat.mod_eq_of_lt (by omega : 2 ^ k + r < 2 ^ 64), Nat.mod_eq_of_lt b2, hx, Nat.add_sub_cancel_left, Nat.mod_eq_of_lt (by omega)]
/-! ===== lN: masks, 'or' of parts that don't overlap is a sum ===== -/
theorem u_tn {n : Nat} (h : n < 2 ^ 64) : (UInt64.ofNat n).toNat = n := Nat.mod_eq_of_lt h
theorem g_and {a b c : Nat} (ha : a < 2 ^ 64) (hb : b < 2 ^ 64) (hc : a &&& b = c) : lN a &&& lN b = lN c := by
  subst hc
  have h : UInt64.ofNat a &&& UInt64.ofNat b = UInt64.ofNat (a &&& b) := UInt64.toNat_inj.mp (by rw [UInt64.toNat_and, u_tn ha, u_tn hb, u_tn (Nat.and_lt_two_pow a hb)])
  have h2 := congrArg UInt64.toInt64 h
  exact h2
theorem g_and1 {a : Nat} (ha : a < 2 ^ 64) : lN a &&& 1 = lN (a % 2) := g_and (b := 1) ha (by decide) (Nat.and_two_pow_sub_one_eq_mod a 1)
theorem g_mask {a s p : Nat} (hp : 2 ^ s = p) (hs : s < 64) (ha : a < 2 ^ 64) : lN a &&& lN (p - 1) = lN (a % p) := by
  subst hp
  have := Nat.pow_lt_pow_right (show 1 < 2 by decide) hs
  exact g_and ha (by omega) (Nat.and_two_pow_sub_one_eq_mod a s)
theorem g_or {k p a b : Nat} (hp : 2 ^ k = p) (ha : a < p) (h : b * p + a < 2 ^ 64) : lN (b * p) ||| lN a = lN (b * p + a) := by
  subst hp
  have h1 : b * 2 ^ k ||| a = b * 2 ^ k + a := by rw [← Nat.shiftLeft_eq, Nat.shiftLeft_add_eq_or_of_lt ha]
  have h3 : UInt64.ofNat (b * 2 ^ k) ||| UInt64.ofNat a = UInt64.ofNat (b * 2 ^ k + a) := UInt64.toNat_inj.mp (by rw [UInt64.toNat_or, u_tn (by omega), u_tn (by omega), u_tn h, h1])
  have h2 := congrArg UInt64.toInt64 h3
  exact h2
theorem g_or' {k p a b : Nat} (hp : 2 ^ k = p) (ha : a < p) (h : a + b * p < 2 ^ 64) : lN a ||| lN (b * p) = lN (a + b * p) := by
  rw [Int64.or_comm, g_or hp ha (by omega), Nat.add_comm]
theorem g_ushr {a k p : Nat} {y : UInt64} (hy : y = UInt64.ofNat k) (hk : k < 64) (hp : 2 ^ k = p) (ha : a < 2 ^ 64) : ((lN a).toUInt64 >>> y).toInt64 = lN (a / p) := by
  subst hy hp
  have h : UInt64.ofNat a >>> UInt64.ofNat k = UInt64.ofNat (a / 2 ^ k) := UInt64.toNat_inj.mp (by rw [UInt64.toNat_shiftRight, u_tn ha, u_tn (by omega), u_tn (Nat.lt_of_le_of_lt (Nat.div_le_self _ _) ha), Nat.mod_eq_of_lt hk, Nat.shiftRight_eq_div_pow])
  have h2 := congrArg UInt64.toInt64 h
  exact h2
theorem g_shl {a k p : Nat} {y : Int64} (hy : y.toBitVec.smod 64 = BitVec.ofNat 64 k) (hk : k < 64) (hp : 2 ^ k = p) (ha : a < 2 ^ 64) : lN a <<< y = lN (a * p) := by
  subst hp
  apply Int64.toBitVec_inj.mp
  rw [Int64.toBitVec_shiftLeft, hy]
  apply BitVec.eq_of_toNat_eq
  have hb : (lN a).toBitVec.toNat = a := Nat.mod_eq_of_lt ha
  have hk' : (BitVec.ofNat 64 k).toNat = k := Nat.mod_eq_of_lt (by omega)
  have h : ((lN a).toBitVec <<< BitVec.ofNat 64 k).toNat = (a * 2 ^ k) % 2 ^ 64 := by simp only [BitVec.shiftLeft_eq', BitVec.toNat_shiftLeft, hb, hk', Nat.shiftLeft_eq]
  exact h

theorem s_l : ∀ n, n < 32 → ((nI n &&& 31).toBitVec.smod 32).toNat = n := by decide +kernel
theorem s_u : ∀ n, n < 32 → (((nI n).toUInt32 &&& Int32.toUInt32 31).toBitVec % 32).toNat = n := by decide +kernel
theorem nI_tn (n : Nat) : (nI n).toBitVec.toNat = n % 2 ^ 32 := rfl
theorem nI_of32 (y : Int32) : nI y.toBitVec.toNat = y := Int32.toBitVec_inj.mp (by show BitVec.ofNat 32 _ = _; simp)
theorem lN_of64 (x : Int64) : lN x.toBitVec.toNat = x := wb_inj (by rw [wb_tb]; simp)
theorem nI_mod (n : Nat) : nI (n % 2 ^ 32) = nI n := Int32.toBitVec_inj.mp (BitVec.eq_of_toNat_eq (by rw [nI_tn, nI_tn, Nat.mod_mod]))
theorem nI_255 (n : Nat) : nI n &&& 255 = nI (n % 256) := by
  rw [pk_and (nI n) (m := 255) 8 (by decide +kernel), nI_tn]
  refine congrArg nI ?_
  omega
theorem nI_65535 (n : Nat) : nI n &&& 65535 = nI (n % 65536) := by
  rw [pk_and (nI n) (m := 65535) 16 (by decide +kernel), nI_tn]
  refine congrArg nI ?_
  omega
theorem nI_and1 (n : Nat) : nI n &&& 1 = nI (n % 2) := by
  rw [pk_and (nI n) (m := 1) 1 (by decide +kernel), nI_tn]
  refine congrArg nI ?_
  omega
theorem lN_w (n : Nat) : (lN n).toInt32 = nI n := by
  apply Int32.toBitVec_inj.mp
  show (lN n).toBitVec.signExtend 32 = BitVec.ofNat 32 n
  rw [BitVec.signExtend_eq_setWidth_of_le _ (by decide), wb_tb]
  apply BitVec.eq_of_toNat_eq
  rw [BitVec.toNat_setWidth, BitVec.toNat_ofNat, BitVec.toNat_ofNat]
  omega
theorem m255 : ∀ i, i < 64 → (255 : Int64).toBitVec.getLsbD i = decide (i < 8) := by decide +kernel
theorem m32 : ∀ i, i < 64 → (4294967295 : Int64).toBitVec.getLsbD i = decide (i < 32) := by decide +kernel
theorem m255i : ∀ i, i < 32 → (255 : Int32).toBitVec.getLsbD i = decide (i < 8) := by decide +kernel
theorem l_sar {X s : Nat} (hX : X < 2 ^ 64) (hs : s ≤ 56) : (lN X >>> ((nI s).toInt64 &&& 63)) &&& 255 = lN (X / 2 ^ s % 256) := by
  rw [wb_c s (by omega)]
  apply wb_inj
  apply BitVec.eq_of_getLsbD_eq
  intro i hi
  rw [Int64.toBitVec_and, BitVec.getLsbD_and, m255 i hi, Int64.toBitVec_shiftRight]
  show (((lN X).toBitVec.sshiftRight ((lN s).toBitVec.smod 64).toNat).getLsbD i && decide (i < 8)) = _
  have e : ((lN s).toBitVec.smod 64).toNat = s := by
    rw [wb_tb, wb_sm s (by omega)]
    exact Nat.mod_eq_of_lt (by omega)
  rw [e, BitVec.getLsbD_sshiftRight, wb_tb, wb_tb, BitVec.getLsbD_ofNat, BitVec.getLsbD_ofNat, show (256 : Nat) = 2 ^ 8 from rfl, Nat.testBit_mod_two_pow, Nat.testBit_div_two_pow]
  by_cases h8 : i < 8
  · rw [if_pos (by omega)]
    simp [h8, show i < 64 from hi, show s + i < 64 by omega, Nat.add_comm]
  · simp [h8]
theorem i_sar {Y s : Nat} (hY : Y < 2 ^ 32) (hs : s ≤ 24) : (nI Y >>> (nI s &&& 31)) &&& 255 = nI (Y / 2 ^ s % 256) := by
  apply Int32.toBitVec_inj.mp
  apply BitVec.eq_of_getLsbD_eq
  intro i hi
  rw [Int32.toBitVec_and, BitVec.getLsbD_and, m255i i hi, Int32.toBitVec_shiftRight]
  show (((nI Y).toBitVec.sshiftRight ((nI s &&& 31).toBitVec.smod 32).toNat).getLsbD i && decide (i < 8)) = (BitVec.ofNat 32 (Y / 2 ^ s % 256)).getLsbD i
  rw [s_l s (by omega), BitVec.getLsbD_sshiftRight, BitVec.getLsbD_ofNat, show (256 : Nat) = 2 ^ 8 from rfl, Nat.testBit_mod_two_pow, Nat.testBit_div_two_pow]
  by_cases h8 : i < 8
  · rw [if_pos (by omega)]
    show ((!decide (32 ≤ i) && (BitVec.ofNat 32 Y).getLsbD (s + i)) && decide (i < 8)) = _
    rw [BitVec.getLsbD_ofNat]
    simp [h8, show i < 32 from hi, show s + i < 32 by omega, Nat.add_comm]
  · simp [h8]
theorem l_mask (y : Int32) : y.toInt64 &&& 4294967295 = lN y.toBitVec.toNat := by
  apply wb_inj
  apply BitVec.eq_of_getLsbD_eq
  intro i hi
  rw [Int64.toBitVec_and, BitVec.getLsbD_and, m32 i hi]
  show ((y.toBitVec.signExtend 64).getLsbD i && decide (i < 32)) = (BitVec.ofNat 64 y.toBitVec.toNat).getLsbD i
  rw [BitVec.getLsbD_signExtend, BitVec.getLsbD_ofNat]
  by_cases h : i < 32
  · rw [if_pos h]
    simp [h, show i < 64 from hi, BitVec.testBit_toNat]
  · have : y.toBitVec.toNat.testBit i = false := Nat.testBit_lt_two_pow (Nat.lt_of_lt_of_le y.toBitVec.isLt (Nat.pow_le_pow_right (by decide) (by omega)))
    simp [h, this]
/-! bytes -/
def fB (f : Int64 × Int32) (j : Nat) : Nat := if j < 8 then f.1.toBitVec.toNat / 2 ^ (8 * (7 - j)) % 256 else f.2.toBitVec.toNat / 2 ^ (8 * (11 - j)) % 256
theorem fB_lt (f : Int64 × Int32) (j : Nat) : fB f j < 256 := by
  unfold fB
  split <;> exact Nat.mod_lt _ (by decide)
theorem f_byteN (x : Int64) {n : Nat} (h : n < 8) : f_byte x (nI (8 * n)) = nI (x.toBitVec.toNat / 2 ^ (8 * n) % 256) := by
  obtain ⟨X, hX, rfl⟩ := wb_of x
  unfold f_byte
  rw [wb_shr hX (by omega), lN_w, nI_255, wb_tn hX]
theorem m_byteN (x : Int64) {n : Nat} (h : n < 8) : ((x >>> ((nI (8 * n)).toInt64 &&& 63)) &&& 255).toInt32 = nI (x.toBitVec.toNat / 2 ^ (8 * n) % 256) := by
  obtain ⟨X, hX, rfl⟩ := wb_of x
  rw [l_sar hX (by omega), lN_w, wb_tn hX]
theorem m_chkN (y : Int32) {n : Nat} (h : n < 4) : (y >>> (nI (8 * n) &&& 31)) &&& 255 = nI (y.toBitVec.toNat / 2 ^ (8 * n) % 256) := by
  obtain ⟨Y, hY, rfl⟩ := wb_of32 y
  rw [i_sar hY (by omega), nI_tn, Nat.mod_eq_of_lt hY]
def acN (g : Nat → Nat) : Nat → Nat
  | 0 => 0
  | k + 1 => acN g k * 256 + g k
theorem acN_ext {g f : Nat → Nat} : ∀ n, (∀ k, k < n → g k = f k) → acN g n = acN f n
  | 0, _ => rfl
  | n + 1, h => by rw [acN, acN, acN_ext n (fun k hk => h k (by omega)), h n (by omega)]
theorem acN_eq (X t : Nat) : ∀ n, n ≤ t + 1 → acN (fun k => X / 2 ^ (8 * (t - k)) % 256) n = X / 2 ^ (8 * (t + 1 - n)) % 2 ^ (8 * n)
  | 0, _ => by simp [acN, Nat.mod_one]
  | n + 1, h => by
    rw [acN, acN_eq X t n (by omega), show t + 1 - (n + 1) = t - n by omega, show 8 * (t + 1 - n) = 8 * (t - n) + 8 by omega, Nat.pow_add, ← Nat.div_div_eq_div_mul, show 8 * (n + 1) = 8 + 8 * n by omega, Nat.pow_add]
    generalize X / 2 ^ (8 * (t - n)) = Z
    rw [Nat.mod_mul, Nat.add_comm, Nat.mul_comm]
theorem acN_lt {g : Nat → Nat} (hg : ∀ k, g k < 256) : ∀ n, acN g n < 2 ^ (8 * n)
  | 0 => by simp [acN]
  | n + 1 => by
    have h1 := acN_lt hg n
    have h2 := hg n
    rw [acN, show 8 * (n + 1) = 8 * n + 8 by omega, Nat.pow_add]
    omega
theorem b_step {v b : Nat} (hb : b < 256) (hv : v * 256 + b < 2 ^ 64) : (lN v <<< ((8 : Int32).toInt64 &&& 63)) ||| (nI b).toInt64 = lN (v * 256 + b) := by
  rw [nI_l (by omega), show (8 : Int32) = nI 8 from rfl, wb_shl v (by decide)]
  exact g_or (k := 8) rfl hb hv
theorem ac8 (f : Int64 × Int32) : lN (acN (fun k => fB f (0 + k)) 8) = f.1 := by
  have e : acN (fun k => fB f (0 + k)) 8 = acN (fun k => f.1.toBitVec.toNat / 2 ^ (8 * (7 - k)) % 256) 8 := acN_ext 8 (fun k hk => by
    show fB f (0 + k) = _
    rw [Nat.zero_add, fB, if_pos hk])
  rw [e, acN_eq _ 7 8 (by omega)]
  have h := f.1.toBitVec.isLt
  have e2 : f.1.toBitVec.toNat / 2 ^ (8 * (7 + 1 - 8)) % 2 ^ (8 * 8) = f.1.toBitVec.toNat := by omega
  rw [e2, lN_of64]
theorem ac4 (f : Int64 × Int32) : acN (fun k => fB f (8 + k)) 4 = f.2.toBitVec.toNat := by
  have e : acN (fun k => fB f (8 + k)) 4 = acN (fun k => f.2.toBitVec.toNat / 2 ^ (8 * (3 - k)) % 256) 4 := acN_ext 4 (fun k hk => by
    show fB f (8 + k) = _
    rw [fB, if_neg (by omega), show 11 - (8 + k) = 3 - k by omega])
  rw [e, acN_eq _ 3 4 (by omega)]
  have h := f.2.toBitVec.isLt
  omega
theorem acW (f : Int64 × Int32) : (lN (acN (fun k => fB f (2 + k)) 4)).toInt32 = f_word f.1 := by
  have e : acN (fun k => fB f (2 + k)) 4 = acN (fun k => f.1.toBitVec.toNat / 2 ^ (8 * (5 - k)) % 256) 4 := acN_ext 4 (fun k hk => by
    show fB f (2 + k) = _
    rw [fB, if_pos (by omega), show 7 - (2 + k) = 5 - k by omega])
  rw [e, acN_eq _ 5 4 (by omega), lN_w]
  obtain ⟨⟨x, y⟩, rfl⟩ : ∃ g : Int64 × Int32, f = g := ⟨f, rfl⟩
  obtain ⟨X, hX, rfl⟩ := wb_of x
  show nI ((lN X).toBitVec.toNat / 2 ^ 16 % 2 ^ 32) = (f_ushr (lN X) 16).toInt32
  unfold f_ushr
  rw [show (16 : Int32) = nI 16 from rfl, wb_shr hX (by decide), lN_w, wb_tn hX, nI_mod]
theorem fB_num (f : Int64 × Int32) : nI (fB f 1) = f_num f.1 := by
  obtain ⟨x, y⟩ := f
  obtain ⟨X, hX, rfl⟩ := wb_of x
  show nI ((lN X).toBitVec.toNat / 2 ^ 48 % 256) = (f_ushr (lN X) 48).toInt32 &&& 255
  unfold f_ushr
  rw [show (48 : Int32) = nI 48 from rfl, wb_shr hX (by decide), lN_w, wb_tn hX, nI_255]
theorem fB_kind (f : Int64 × Int32) : nI (fB f 0) = f_kind f.1 := by
  obtain ⟨x, y⟩ := f
  obtain ⟨X, hX, rfl⟩ := wb_of x
  show nI ((lN X).toBitVec.toNat / 2 ^ 56 % 256) = (f_ushr (lN X) 56).toInt32
  unfold f_ushr
  rw [show (56 : Int32) = nI 56 from rfl, wb_shr hX (by decide), lN_w, wb_tn hX, Nat.mod_eq_of_lt (by omega)]
theorem nI_or8 {a b : Nat} (hb : b < 256) : nI (a * 256) ||| nI b = nI (a * 256 + b) := by
  apply Int32.toBitVec_inj.mp
  show BitVec.ofNat 32 (a * 256) ||| BitVec.ofNat 32 b = BitVec.ofNat 32 (a * 256 + b)
  rw [← BitVec.ofNat_or]
  have h1 : a * 256 ||| b = a * 256 + b := by rw [show a * 256 = a <<< 8 from (Nat.shiftLeft_eq a 8).symm, Nat.shiftLeft_add_eq_or_of_lt (i := 8) hb]
  rw [h1]
theorem fB_map (f : Int64 × Int32) : (nI (fB f 6) <<< ((8 : Int32) &&& 31)) ||| nI (fB f 7) = f_map f.1 := by
  rw [pk_shlN (n := fB f 6) ((8 : Int32) &&& 31) 8 (by decide) (by have := fB_lt f 6; omega), nI_or8 (fB_lt f 7)]
  obtain ⟨x, y⟩ := f
  obtain ⟨X, hX, rfl⟩ := wb_of x
  show nI ((lN X).toBitVec.toNat / 2 ^ 8 % 256 * 256 + (lN X).toBitVec.toNat / 2 ^ 0 % 256) = (lN X).toInt32 &&& 65535
  rw [lN_w, nI_65535, wb_tn hX]
  refine congrArg nI ?_
  omega
theorem f_mapN (x : Int64) : ∃ M, M < 65536 ∧ f_map x = nI M := by
  obtain ⟨X, hX, rfl⟩ := wb_of x
  exact ⟨X % 65536, Nat.mod_lt _ (by decide), by unfold f_map; rw [lN_w, nI_65535]⟩
theorem f_bitN {M i : Nat} (hM : M < 65536) (hi : i < 16) : f_bit (nI M) (nI i) = nI (M / 2 ^ i % 2) := by
  unfold f_bit
  rw [pk_ushrN (by omega) (nI i) i (s_u i (by omega)), nI_and1]
theorem m_bitN {M i : Nat} (hM : M < 65536) (hi : i < 16) : (nI M >>> (nI i &&& 31)) &&& 1 = nI (M / 2 ^ i % 2) := by
  rw [pk_shrN (by omega) (nI i &&& 31) i (s_l i (by omega)), nI_and1]
/-! a bit turned -/
theorem x_byte (X b k : Nat) : (X ^^^ 2 ^ b) / 2 ^ (8 * k) % 256 = if k = b / 8 then (X / 2 ^ (8 * k) % 256) ^^^ 2 ^ (b % 8) else X / 2 ^ (8 * k) % 256 := by
  apply Nat.eq_of_testBit_eq
  intro i
  rw [show (256 : Nat) = 2 ^ 8 from rfl, Nat.testBit_mod_two_pow, Nat.testBit_div_two_pow, Nat.testBit_xor, Nat.testBit_two_pow]
  split
  · rename_i h
    rw [Nat.testBit_xor, Nat.testBit_mod_two_pow, Nat.testBit_div_two_pow, Nat.testBit_two_pow]
    by_cases h8 : i < 8
    · have : (b = i + 8 * k) ↔ (b % 8 = i) := by omega
      simp [h8, this]
    · have : ¬ b % 8 = i := by omega
      simp [h8, this]
  · rename_i h
    rw [Nat.testBit_mod_two_pow, Nat.testBit_div_two_pow]
    by_cases h8 : i < 8
    · have : ¬ b = i + 8 * k := by omega
      simp [h8, this]
    · simp [h8]
theorem nI_xor (a b : Nat) : nI a ^^^ nI b = nI (a ^^^ b) := by
  apply Int32.toBitVec_inj.1
  show BitVec.ofNat 32 a ^^^ BitVec.ofNat 32 b = BitVec.ofNat 32 (a ^^^ b)
  apply BitVec.eq_of_getLsbD_eq
  intro i hi
  simp [hi]
theorem one_shl : ∀ b, b < 32 → (1 : Int32) <<< (nI b &&& 31) = nI (2 ^ b) := by decide +kernel
theorem one_shlL : ∀ b, b < 64 → (1 : Int64) <<< ((nI b).toInt64 &&& 63) = lN (2 ^ b) := by decide +kernel
theorem fB_ch (f : Int64 × Int32) {b j : Nat} (hb : b < 96) (hj : j < 12) : fB (chF (nI b) f) j = if j = 11 - b / 8 then fB f j ^^^ 2 ^ (b % 8) else fB f j := by
  obtain ⟨x, y⟩ := f
  unfold chF
  by_cases h : b < 32
  · have h9 : ¬ (32 : Int32) ≤ nI b := nI_ge (b := 32) h (by decide)
    rw [if_neg h9, one_shl b h]
    obtain ⟨Y, hY, rfl⟩ := wb_of32 y
    have e : (nI Y ^^^ nI (2 ^ b)).toBitVec.toNat = Y ^^^ 2 ^ b := by
      rw [nI_xor, nI_tn, Nat.mod_eq_of_lt]
      exact Nat.xor_lt_two_pow hY (Nat.pow_lt_pow_right (by decide) h)
    unfold fB
    by_cases h8 : j < 8
    · rw [if_pos h8, if_pos h8, if_neg (by omega)]
    · rw [if_neg h8, if_neg h8]
      show (nI Y ^^^ nI (2 ^ b)).toBitVec.toNat / 2 ^ (8 * (11 - j)) % 256 = _
      rw [e, x_byte, nI_tn, Nat.mod_eq_of_lt hY]
      have : (11 - j = b / 8) ↔ (j = 11 - b / 8) := by omega
      simp only [this]
  · have h9 : (32 : Int32) ≤ nI b := nI_le (a := 32) (by omega) (by omega)
    rw [if_pos h9, show nI b - 32 = nI (b - 32) from pk_sub (b := 32) (by omega), one_shlL (b - 32) (by omega)]
    obtain ⟨X, hX, rfl⟩ := wb_of x
    have hp : 2 ^ (b - 32) < 2 ^ 64 := Nat.pow_lt_pow_right (by decide) (by omega)
    have e : (lN X ^^^ lN (2 ^ (b - 32))).toBitVec.toNat = X ^^^ 2 ^ (b - 32) := by
      rw [Int64.toBitVec_xor, BitVec.toNat_xor, wb_tn hX, wb_tn hp]
    unfold fB
    by_cases h8 : j < 8
    · rw [if_pos h8, if_pos h8]
      show (lN X ^^^ lN (2 ^ (b - 32))).toBitVec.toNat / 2 ^ (8 * (7 - j)) % 256 = _
      rw [e, x_byte, wb_tn hX, show (b - 32) % 8 = b % 8 by omega]
      have : (7 - j = (b - 32) / 8) ↔ (j = 11 - b / 8) := by omega
      simp only [this]
    · rw [if_neg h8, if_neg h8, if_neg (by omega)]
end
section
/-! THE REFERENCE: its small methods -/
abbrev wm (P : LkP) (t W T Rr B N F D we ag tk : Int32) (wi ma wo he ae ca tr lo hd : Nat → Int32) (R : pm_D) : pm_D :=
  wl P (.inr (4, [.int t, .int W, .int T, .int Rr, .ref 17, .ref 18, .int B, .int N, .ref 19, .ref 20, .ref 21, .int F, .ref 22, .ref 23, .int D, .ref 24, .int we, .int ag, .int tk, .ref 25])
  :: .inl (0, 768, .inl wi) :: .inl (0, 2, .inl ma) :: .inl (0, 256, .inl wo) :: .inl (2, 256, .inl he) :: .inl (0, 256, .inl ae) :: .inl (0, 256, .inl ca) :: .inl (2, 256, .inl tr) :: .inl (0, 256, .inl lo) :: .inl (0, 12, .inl hd) :: R)
theorem ix2 {a b N : Nat} (h : a + b < N) (hN : N < 2 ^ 31) : vp_in (nI a + nI b) N := by rw [nI_add]; exact vin h hN
theorem ix3 {a b c N : Nat} (h : a + b + c < N) (hN : N < 2 ^ 31) : vp_in (nI a + nI b + nI c) N := by rw [nI_add, nI_add]; exact vin h hN
theorem cl2 {a b : Nat} (h : a + b < 2 ^ 31) : (nI a + nI b).toNatClampNeg = a + b := by rw [nI_add, nI_clamp h]
theorem cl3 {a b c : Nat} (h : a + b + c < 2 ^ 31) : (nI a + nI b + nI c).toNatClampNeg = a + b + c := by rw [nI_add, nI_add, nI_clamp h]
/-! arrays that are written in a loop -/
def wr (f : Nat → Int32) (a : Nat) (g : Nat → Int32) (n : Nat) : Nat → Int32 := fun j => if a ≤ j ∧ j < a + n then g (j - a) else f j
theorem wr_0 {f : Nat → Int32} {a : Nat} {g : Nat → Int32} : wr f a g 0 = f := funext fun j => if_neg (by omega)
theorem wr_s {f : Nat → Int32} {a : Nat} {g : Nat → Int32} {n : Nat} : upd (wr f a g n) (a + n) (g n) = wr f a g (n + 1) := by
  funext j
  by_cases e : j = a + n
  · subst e
    rw [pk_us]
    unfold wr
    rw [if_pos (by omega), Nat.add_sub_cancel_left]
  · rw [pk_un e]
    unfold wr
    by_cases h : a ≤ j ∧ j < a + n
    · rw [if_pos h, if_pos (by omega)]
    · rw [if_neg h, if_neg (by omega)]
theorem wr_in {f : Nat → Int32} {a : Nat} {g : Nat → Int32} {n j : Nat} (h : j < n) : wr f a g n (a + j) = g j := by
  unfold wr
  rw [if_pos (by omega), Nat.add_sub_cancel_left]
theorem wr_out {f : Nat → Int32} {a : Nat} {g : Nat → Int32} {n j : Nat} (h : j < a ∨ a + n ≤ j) : wr f a g n j = f j := if_neg (by omega)
def cp (f : Nat → Int32) (a n : Nat) : Nat → Int32 := fun j => if a ≤ j ∧ j < a + n then f (j + 12) else f j
theorem cp_0 {f : Nat → Int32} {a : Nat} : cp f a 0 = f := funext fun j => if_neg (by omega)
theorem cp_s {f : Nat → Int32} {a n : Nat} : upd (cp f a n) (a + n) (cp f a n (a + n + 12)) = cp f a (n + 1) := by
  funext j
  by_cases e : j = a + n
  · subst e
    rw [pk_us]
    unfold cp
    rw [if_neg (by omega), if_pos (by omega)]
  · rw [pk_un e]
    unfold cp
    by_cases h : a ≤ j ∧ j < a + n
    · rw [if_pos h, if_pos (by omega)]
    · rw [if_neg h, if_neg (by omega)]
/-- moved up by 12, from the end on: those from n to N are done -/
def up (f : Nat → Int32) (a n N : Nat) : Nat → Int32 := fun j => if a + 12 + n ≤ j ∧ j < a + 12 + N then f (j - 12) else f j
theorem up_0 {f : Nat → Int32} {a N : Nat} : up f a N N = f := funext fun j => if_neg (by omega)
theorem up_s {f : Nat → Int32} {a n N : Nat} (h : n < N) : upd (up f a (n + 1) N) (a + n + 12) (up f a (n + 1) N (a + n)) = up f a n N := by
  funext j
  by_cases e : j = a + n + 12
  · subst e
    rw [pk_us]
    unfold up
    rw [if_neg (by omega), if_pos (by omega), Nat.add_sub_cancel]
  · rw [pk_un e]
    unfold up
    by_cases h : a + 12 + (n + 1) ≤ j ∧ j < a + 12 + N
    · rw [if_pos h, if_pos (by omega)]
    · rw [if_neg h, if_neg (by omega)]
/-! the wires' bytes -/
def rB (wi : Nat → Int32) (w : Nat) (q : Qu) : Prop := ∀ (i : Nat) (f : Int64 × Int32), q[i]? = some f → ∀ j, j < 12 → wi (384 * w + 12 * i + j) = nI (fB f j)
def rQ (Rm : Nat) (Q : Nat → Qu) (wi ma : Nat → Int32) : Prop := ∀ w, w < 2 → rB wi w (Q w) ∧ ma w = nI (Q w).length ∧ (Q w).length ≤ Rm
def uQ (Q : Nat → Qu) (w : Nat) (q : Qu) : Nat → Qu := fun v => if v = w then q else Q v
theorem rQ_upd {Rm : Nat} {Q : Nat → Qu} {wi ma wi' ma' : Nat → Int32} {w : Nat} {q : Qu} (h : rQ Rm Q wi ma) (hR : Rm ≤ 32) (hq : q.length ≤ Rm) (hb : rB wi' w q) (hm : ma' w = nI q.length) (hm2 : ∀ v, v < 2 → v ≠ w → ma' v = ma v) (ho : ∀ j, (j < 384 * w ∨ 384 * w + 384 ≤ j) → wi' j = wi j) : rQ Rm (uQ Q w q) wi' ma' := by
  intro v hv
  by_cases e : v = w
  · subst e
    have e2 : uQ Q v q v = q := if_pos rfl
    rw [e2]
    exact ⟨hb, hm, hq⟩
  · have e2 : uQ Q w q v = Q v := if_neg e
    rw [e2, hm2 v hv e]
    obtain ⟨h1, h2, h3⟩ := h v hv
    refine ⟨fun i f hi j hj => ?_, h2, h3⟩
    have hil : i < (Q v).length := (List.getElem?_eq_some_iff.mp hi).1
    rw [ho _ (by omega)]
    exact h1 i f hi j hj
theorem rB_put {wi : Nat → Int32} {w : Nat} {q : Qu} {f : Int64 × Int32} (h : rB wi w q) : rB (wr wi (384 * w + 12 * q.length) (fun j => nI (fB f j)) 12) w (q ++ [f]) := by
  intro i g hi j hj
  rcases Nat.lt_or_ge i q.length with hl | hl
  · rw [List.getElem?_append_left hl] at hi
    rw [wr_out (by omega)]
    exact h i g hi j hj
  · rw [List.getElem?_append_right hl] at hi
    have h0 : i - q.length < 1 := (List.getElem?_eq_some_iff.mp hi).1
    have hi2 : i = q.length := by omega
    subst hi2
    rw [Nat.sub_self] at hi
    have : f = g := by simpa using hi
    subst this
    rw [wr_in hj]
theorem rB_cp {wi : Nat → Int32} {w : Nat} {q : Qu} {f : Int64 × Int32} (h : rB wi w (f :: q)) : rB (cp wi (384 * w) (12 * q.length)) w q := by
  intro i g hi j hj
  have hl : i < q.length := (List.getElem?_eq_some_iff.mp hi).1
  have := h (i + 1) g (by simpa using hi) j hj
  unfold cp
  rw [if_pos (by omega), ← this]
  exact congrArg wi (by omega)
theorem rB_up {wi : Nat → Int32} {w : Nat} {q : Qu} {f : Int64 × Int32} (h : rB wi w (f :: q)) : rB (up wi (384 * w) 0 (12 * (q.length + 1))) w (f :: f :: q) := by
  intro i g hi j hj
  have hl : i < q.length + 2 := by
    have := (List.getElem?_eq_some_iff.mp hi).1
    simpa using this
  cases i with
  | zero =>
    unfold up
    rw [if_neg (by omega)]
    exact h 0 g (by simpa using hi) j hj
  | succ i =>
    have := h i g (by simpa using hi) j hj
    unfold up
    rw [if_pos (by omega), ← this]
    exact congrArg wi (by omega)
section PM1
variable {d : Nat} {al : Bool} {k : pm_K} {kx : pm_X} {cb sb : Nat} {R : pm_D} {P : LkP} {t W T Rr B N F D we ag tk : Int32} {wi ma wo he ae ca tr lo hd : Nat → Int32}
theorem c_thrown (hk : k (some (.int t)) (wm P t W T Rr B N F D we ag tk wi ma wo he ae ca tr lo hd R)) : pm_C 66 d al [.ref 16] (wm P t W T Rr B N F D we ag tk wi ma wo he ae ca tr lo hd R) k kx := pm_Ci rfl (pm_run 40 hk)
theorem l_crc {w : pm_D} (a b : Int32) : ∀ (n i : Nat) (m : Int32), i + n = 8 → k (some (.int (f_cn n m))) w → pm_J 68 d al none k kx 6 [some (.int a), some (.int b), some (.int m), some (.int (nI i))] [] w cb sb := by
  intro n
  induction n with
  | zero =>
    intro i m hi hk
    exact pm_run 40 (And.intro (fun _ => hk) (fun h => absurd (nI_le (a := 8) (by omega) (by omega)) h))
  | succ n ih =>
    intro i m hi hk
    refine pm_run 60 (And.intro (fun h => absurd h (nI_ge (b := 8) (by omega) (by omega))) (fun _ => And.intro (fun (h0 : ¬ m &&& 1 = 1) => ?_) (fun (h0 : m &&& 1 = 1) => ?_)))
    · have h1 : m &&& 1 = 0 := by
        obtain ⟨j, hj, e⟩ := pk_andE m (m := 1) 1 (by decide +kernel)
        rw [e] at h0 ⊢
        rcases Nat.lt_or_ge j 1 with h | h
        · have : j = 0 := by omega
          subst this
          rfl
        · have : j = 1 := by omega
          subst this
          exact absurd rfl h0
      refine pm_J.locals (M := [some (.int a), some (.int b), some (.int (f_sh m)), some (.int (nI (i + 1)))]) (ih (i + 1) (f_sh m) (by omega) ?_) ⟨rfl, rfl, rfl, congrArg (fun z => some (Value.int z)) (nI_succ i).symm, trivial⟩
      have e : f_cn (n + 1) m = f_cn n (f_sh m) := by
        show f_cn n (f_c1 m) = _
        rw [f_c1, if_pos h1]
      rw [← e]
      exact hk
    · have h1 : ¬ m &&& 1 = 0 := by rw [h0]; decide
      refine pm_J.locals (M := [some (.int a), some (.int b), some (.int (f_sh m ^^^ (-306674912))), some (.int (nI (i + 1)))]) (ih (i + 1) _ (by omega) ?_) ⟨rfl, rfl, rfl, congrArg (fun z => some (Value.int z)) (nI_succ i).symm, trivial⟩
      have e : f_cn (n + 1) m = f_cn n (f_sh m ^^^ (-306674912)) := by
        show f_cn n (f_c1 m) = _
        rw [f_c1, if_neg h1]
      rw [← e]
      exact hk
theorem c_crc {w : pm_D} {a b : Int32} (hk : k (some (.int (f_cn 8 (a ^^^ b)))) w) : pm_C 68 d al [.int a, .int b] w k kx := pm_Ci rfl (pm_run 40 (l_crc a b 8 0 _ rfl hk))
def f_k : Nat → Int32
  | 0 => -1
  | n + 1 => nI n
theorem f_k_step : ∀ n, n < 400 → f_k (n + 1) + (-1) = f_k n := by decide +kernel
theorem f_k_pos (n : Nat) (h : n < 400) : ¬ f_k (n + 1) < 0 := nI_pos (by omega)
theorem l_msum (x : Int64) : ∀ (n : Nat) (r : Int32), n ≤ 8 → k (some (.int (f_cks x n r ^^^ (-1)))) (wm P t W T Rr B N F D we ag tk wi ma wo he ae ca tr lo hd R) → pm_J 69 (d + 1) al none k kx 11 [some (.ref 16), some (.long x), none, some (.int r), some (.int (f_k n))] [] (wm P t W T Rr B N F D we ag tk wi ma wo he ae ca tr lo hd R) cb sb := by
  intro n
  induction n with
  | zero =>
    intro r _ hk
    exact pm_run 40 (And.intro (fun _ => hk) (fun h => absurd (by decide +kernel) h))
  | succ n ih =>
    intro r hn hk
    refine pm_run 60 (And.intro (fun h => absurd h (f_k_pos n (by omega))) (fun _ => And.intro ⟨Nat.zero_le _, Nat.zero_le _⟩ (c_crc ?_)))
    have e : ((x >>> ((Int32.ofNat 8 * nI n).toInt64 &&& 63)) &&& 255).toInt32 = f_byte x (nI (8 * n)) := by
      rw [show Int32.ofNat 8 * nI n = nI (8 * n) from pk_mul 8 n, m_byteN x (by omega), f_byteN x (by omega)]
    have hJ := ih (f_cn 8 (r ^^^ f_byte x (nI (8 * n)))) (by omega) hk
    refine pm_J.locals (M := [some (.ref 16), some (.long x), none, some (.int (f_cn 8 (r ^^^ f_byte x (nI (8 * n))))), some (.int (f_k n))]) hJ ⟨rfl, rfl, congrArg (fun z => some (Value.int (f_cn 8 (r ^^^ z)))) e, congrArg (fun z => some (Value.int z)) (f_k_step n (by omega)), trivial⟩
theorem c_msum {x : Int64} (hk : k (some (.int (f_sum x))) (wm P 0 W T Rr B N F D we ag tk wi ma wo he ae ca tr lo hd R)) : pm_C 69 (d + 1) al [.ref 16, .long x] (wm P t W T Rr B N F D we ag tk wi ma wo he ae ca tr lo hd R) k kx :=
  pm_Ci rfl (pm_run 40 (l_msum x 8 (-1) (Nat.le_refl 8) hk))
theorem c_at {u : pm_D} {w i : Nat} (hk : k (some (.int (nI (384 * w + 12 * i)))) u) : pm_C 70 d al [.int (nI w), .int (nI i)] u k kx := by
  refine pm_Ci rfl (pm_run 40 ?_)
  have e : Int32.ofNat 384 * nI w + Int32.ofNat 12 * nI i = nI (384 * w + 12 * i) := by
    rw [show Int32.ofNat 384 * nI w = nI (384 * w) from pk_mul 384 w, show Int32.ofNat 12 * nI i = nI (12 * i) from pk_mul 12 i, nI_add]
  rw [← e] at hk
  exact hk
theorem c_far {x y : Int32} {u : pm_D} {e0 : va_E} (hk : k (some (.int ((y - x) &&& 255))) (wm P t W T Rr B N F D we ag tk wi ma wo he ae ca tr lo hd R)) : pm_C 75 d al [.ref 16, .int x, .int y] (wm P t W T Rr B N F D we ag tk wi ma wo he ae ca tr lo hd R) k kx := pm_Ci rfl (pm_run 40 hk)
theorem c_mnoWire {x : Int32} (h1 : x < 0 ∨ 1 < x → k (some (.int 1)) (wm P t W T Rr B N F D we ag tk wi ma wo he ae ca tr lo hd R)) (h0 : ¬ x < 0 → x ≤ 1 → k (some (.int 0)) (wm P t W T Rr B N F D we ag tk wi ma wo he ae ca tr lo hd R)) : pm_C 81 d al [.ref 16, .int x] (wm P t W T Rr B N F D we ag tk wi ma wo he ae ca tr lo hd R) k kx :=
  pm_Ci rfl (pm_run 40 (And.intro (fun h => And.intro rfl (h1 (Or.inl h))) (fun g => And.intro (fun h => And.intro rfl (h0 g h)) (fun h => And.intro rfl (h1 (Or.inr (Int32.not_le.mp h)))))))
theorem c_hear {n : Nat} (hn : n < 256) (h1 : he n = 0 → k (some (.int 1)) (wm P t W T Rr B N F D we ag tk wi ma wo (upd he n 1) ae ca tr lo hd R)) (h0 : ¬ he n = 0 → k (some (.int 0)) (wm P t W T Rr B N F D we ag tk wi ma wo he ae ca tr lo hd R)) : pm_C 78 d al [.ref 16, .int (nI n)] (wm P t W T Rr B N F D we ag tk wi ma wo he ae ca tr lo hd R) k kx := by
  have e : (nI n).toNatClampNeg = n := nI_clamp (by omega)
  refine pm_Ci rfl (pm_run 40 (And.intro (vin hn (by omega)) (And.intro (fun h => And.intro (vin hn (by omega)) ?_) (fun h => ?_))))
  · rw [e] at h ⊢
    exact h1 h
  · rw [e] at h
    exact h0 h
theorem l_bytes (g : Nat → Nat) (hg : ∀ i, g i < 256) {a n : Nat} (hn : n ≤ 8) (ha : a + n ≤ 768) (hw : ∀ i, i < n → wi (a + i) = nI (g i)) : ∀ (r i : Nat), i + r = n → k (some (.long (lN (acN g n)))) (wm P t W T Rr B N F D we ag tk wi ma wo he ae ca tr lo hd R) → pm_J 71 d al none k kx 5 [some (.ref 16), some (.int (nI a)), some (.int (nI n)), some (.long (lN (acN g i))), none, some (.int (nI i))] [] (wm P t W T Rr B N F D we ag tk wi ma wo he ae ca tr lo hd R) cb sb := by
  intro r
  induction r with
  | zero =>
    intro i hi hk
    have : i = n := by omega
    subst this
    exact pm_run 40 (And.intro (fun _ => hk) (fun h => absurd (nI_le (by omega) (by omega)) h))
  | succ r ih =>
    intro i hi hk
    have h1 := acN_lt hg (i + 1)
    have h2 : 2 ^ (8 * (i + 1)) ≤ 2 ^ 64 := Nat.pow_le_pow_right (by decide) (by omega)
    rw [acN] at h1
    refine pm_run 60 (And.intro (fun h => absurd h (nI_ge (by omega) (by omega))) (fun _ => And.intro (ix2 (by omega) (by omega)) ?_))
    rw [cl2 (by omega), hw i (by omega)]
    exact pm_J.locals (M := [some (.ref 16), some (.int (nI a)), some (.int (nI n)), some (.long (lN (acN g (i + 1)))), none, some (.int (nI (i + 1)))]) (ih (i + 1) (by omega) hk) ⟨rfl, rfl, rfl, congrArg (fun z => some (Value.long z)) (b_step (hg i) (by omega)), congrArg (fun z => some (Value.int z)) (nI_succ i).symm, trivial⟩
theorem c_bytes (g : Nat → Nat) (hg : ∀ i, g i < 256) {a n : Nat} (hn : n ≤ 8) (ha : a + n ≤ 768) (hw : ∀ i, i < n → wi (a + i) = nI (g i)) (hk : k (some (.long (lN (acN g n)))) (wm P t W T Rr B N F D we ag tk wi ma wo he ae ca tr lo hd R)) : pm_C 71 d al [.ref 16, .int (nI a), .int (nI n)] (wm P t W T Rr B N F D we ag tk wi ma wo he ae ca tr lo hd R) k kx :=
  pm_Ci rfl (pm_run 40 (l_bytes g hg hn ha hw n 0 (by omega) hk))

theorem l_put2 {x : Int64} {y : Int32} {w a n : Nat} (hw : w < 2) (ha : a + 12 ≤ 768) (hm : ma w = nI n) : ∀ (r i : Nat), i + r = 4 → k (some (.int 1)) (wm P t W T Rr B N F D we ag tk (wr wi a (fun j => nI (fB (x, y) j)) 12) (upd ma w (nI (n + 1))) wo he ae ca tr lo hd R) →
    pm_J 72 d al none k kx 108 [some (.ref 16), some (.int (nI w)), none, none, none, none, some (.long x), none, some (.int y), some (.int (nI a)), some (.int (nI i))] [] (wm P t W T Rr B N F D we ag tk (wr wi a (fun j => nI (fB (x, y) j)) (8 + i)) ma wo he ae ca tr lo hd R) cb sb := by
  intro r
  have ew : (nI w).toNatClampNeg = w := nI_clamp (by omega)
  induction r with
  | zero =>
    intro i hi hk
    have : i = 4 := by omega
    subst this
    refine pm_run 60 (And.intro (fun _ => And.intro (vin hw (by omega)) (And.intro (vin hw (by omega)) (And.intro rfl ?_))) (fun h => absurd (nI_le (a := 4) (by omega) (by omega)) h))
    rw [ew, hm]
    rw [nI_succ] at hk
    exact hk
  | succ r ih =>
    intro i hi hk
    have e : (y >>> ((Int32.ofNat 8 * (Int32.ofNat 3 - nI i)) &&& 31)) &&& Int32.ofNat 255 = nI (fB (x, y) (8 + i)) := by
      rw [show Int32.ofNat 3 - nI i = nI (3 - i) from pk_sub (a := 3) (by omega), show Int32.ofNat 8 * nI (3 - i) = nI (8 * (3 - i)) from pk_mul 8 (3 - i)]
      refine (m_chkN y (n := 3 - i) (by omega)).trans ?_
      rw [fB, if_neg (by omega), show 11 - (8 + i) = 3 - i by omega]
    refine pm_run 60 (And.intro (fun h => absurd h (nI_ge (b := 4) (by omega) (by omega))) (fun _ => And.intro (ix3 (b := 8) (by omega) (by omega)) ?_))
    refine pm_J.locals (M := [some (.ref 16), some (.int (nI w)), none, none, none, none, some (.long x), none, some (.int y), some (.int (nI a)), some (.int (nI (i + 1)))]) ?_ ⟨rfl, rfl, rfl, rfl, rfl, congrArg (fun z => some (Value.int z)) (nI_succ i).symm, trivial⟩
    have hJ := ih (i + 1) (by omega) hk
    rw [show (nI a + Int32.ofNat 8 + nI i).toNatClampNeg = a + (8 + i) from (cl3 (b := 8) (by omega)).trans (by omega), e]
    have e2 : upd (wr wi a (fun j => nI (fB (x, y) j)) (8 + i)) (a + (8 + i)) (nI (fB (x, y) (8 + i))) = wr wi a (fun j => nI (fB (x, y) j)) (8 + (i + 1)) := wr_s (g := fun j => nI (fB (x, y) j))
    rw [e2]
    exact hJ
theorem l_put1 {x : Int64} {y : Int32} {w a n : Nat} (hw : w < 2) (ha : a + 12 ≤ 768) (hm : ma w = nI n) : ∀ (r i : Nat), i + r = 8 → k (some (.int 1)) (wm P t W T Rr B N F D we ag tk (wr wi a (fun j => nI (fB (x, y) j)) 12) (upd ma w (nI (n + 1))) wo he ae ca tr lo hd R) →
    pm_J 72 d al none k kx 66 [some (.ref 16), some (.int (nI w)), none, none, none, none, some (.long x), none, some (.int y), some (.int (nI a)), some (.int (nI i))] [] (wm P t W T Rr B N F D we ag tk (wr wi a (fun j => nI (fB (x, y) j)) i) ma wo he ae ca tr lo hd R) cb sb := by
  intro r
  induction r with
  | zero =>
    intro i hi hk
    have : i = 8 := by omega
    subst this
    exact pm_run 60 (And.intro (fun _ => pm_J.locals (l_put2 hw ha hm 4 0 rfl hk) ⟨rfl, rfl, rfl, rfl, rfl, rfl, trivial⟩) (fun h => absurd (nI_le (a := 8) (by omega) (by omega)) h))
  | succ r ih =>
    intro i hi hk
    have e : ((x >>> ((Int32.ofNat 8 * (Int32.ofNat 7 - nI i)).toInt64 &&& 63)) &&& Int64.ofNat 255).toInt32 = nI (fB (x, y) i) := by
      rw [show Int32.ofNat 7 - nI i = nI (7 - i) from pk_sub (a := 7) (by omega), show Int32.ofNat 8 * nI (7 - i) = nI (8 * (7 - i)) from pk_mul 8 (7 - i)]
      refine (m_byteN x (n := 7 - i) (by omega)).trans ?_
      rw [fB, if_pos (by omega)]
    refine pm_run 60 (And.intro (fun h => absurd h (nI_ge (b := 8) (by omega) (by omega))) (fun _ => And.intro (ix2 (by omega) (by omega)) ?_))
    refine pm_J.locals (M := [some (.ref 16), some (.int (nI w)), none, none, none, none, some (.long x), none, some (.int y), some (.int (nI a)), some (.int (nI (i + 1)))]) ?_ ⟨rfl, rfl, rfl, rfl, rfl, congrArg (fun z => some (Value.int z)) (nI_succ i).symm, trivial⟩
    have hJ := ih (i + 1) (by omega) hk
    rw [cl2 (by omega), e]
    have e2 : upd (wr wi a (fun j => nI (fB (x, y) j)) i) (a + i) (nI (fB (x, y) i)) = wr wi a (fun j => nI (fB (x, y) j)) (i + 1) := wr_s (g := fun j => nI (fB (x, y) j))
    rw [e2]
    exact hJ
theorem c_mput {Rm w : Nat} {Q : Nat → Qu} {kd nu wd mp : Int32} (hw : w < 2) (hR : Rm ≤ 32) (hQ : rQ Rm Q wi ma) (h0 : Rm ≤ (Q w).length → k (some (.int 0)) (wm P t W T (nI Rm) B N F D we ag tk wi ma wo he ae ca tr lo hd R))
    (h1 : (Q w).length < Rm → ∀ wi' ma' : Nat → Int32, rQ Rm (uQ Q w (Q w ++ [fr (f_of kd nu wd mp)])) wi' ma' → k (some (.int 1)) (wm P 0 W T (nI Rm) B N F D we ag tk wi' ma' wo he ae ca tr lo hd R)) : pm_C 72 (d + 2) al [.ref 16, .int (nI w), .int kd, .int nu, .int wd, .int mp] (wm P t W T (nI Rm) B N F D we ag tk wi ma wo he ae ca tr lo hd R) k kx := by
  obtain ⟨q1, q2, q3⟩ := hQ w hw
  have ew : (nI w).toNatClampNeg = w := nI_clamp (by omega)
  refine pm_Ci rfl (pm_run 80 (And.intro (vin hw (by omega)) (And.intro (fun h => ?_) (fun h => And.intro rfl (h0 ?_)))))
  · rw [ew, q2, nI_eq (by omega) (by omega)] at h
    refine And.intro ⟨Nat.zero_le _, Nat.zero_le _⟩ (c_msum (And.intro (vin hw (by omega)) (And.intro ⟨Nat.zero_le _, Nat.zero_le _⟩ ?_)))
    rw [ew, q2]
    refine c_at ?_
    have hJ := l_put1 (d := d + 2) (al := al) (k := k) (kx := kx) (cb := 0) (sb := 0) (R := R) (P := P) (t := 0) (W := W) (T := T) (Rr := nI Rm) (B := B) (N := N) (F := F) (D := D) (we := we) (ag := ag) (tk := tk) (wi := wi) (ma := ma) (wo := wo) (he := he) (ae := ae) (ca := ca) (tr := tr) (lo := lo) (hd := hd) (x := f_of kd nu wd mp) (y := f_sum (f_of kd nu wd mp)) (w := w) (a := 384 * w + 12 * (Q w).length) (n := (Q w).length) hw (by omega) q2 8 0 rfl (h1 (by omega) _ _ (rQ_upd hQ hR (by simp; omega) (rB_put q1) (by rw [pk_us]; simp) (fun v _ hv => pk_un hv) (fun j hj => wr_out (by omega))))
    rw [wr_0] at hJ
    exact pm_J.room (pm_J.locals hJ ⟨rfl, rfl, rfl, rfl, rfl, rfl, trivial⟩) (Nat.zero_le _) (Nat.zero_le _)
  · rw [ew, q2, nI_eq (by omega) (by omega)] at h
    omega
theorem l_drop {w n : Nat} (hw : w < 2) (hn : n < 32) (hm : ma w = nI n) : ∀ (r i : Nat), i + r = 12 * n → k none (wm P t W T Rr B N F D we ag tk (cp wi (384 * w) (12 * n)) ma wo he ae ca tr lo hd R) → pm_J 73 d al none k kx 18 [some (.ref 16), some (.int (nI w)), some (.int (nI (384 * w))), some (.int (nI i))] [] (wm P t W T Rr B N F D we ag tk (cp wi (384 * w) i) ma wo he ae ca tr lo hd R) cb sb := by
  intro r
  have ew : (nI w).toNatClampNeg = w := nI_clamp (by omega)
  have em : Int32.ofNat 12 * ma (nI w).toNatClampNeg = nI (12 * n) := by rw [ew, hm]; exact pk_mul 12 n
  induction r with
  | zero =>
    intro i hi hk
    have : i = 12 * n := by omega
    subst this
    refine pm_run 60 (And.intro (vin hw (by omega)) (And.intro (fun _ => hk) (fun h => absurd ?_ h)))
    rw [em]
    exact nI_le (by omega) (by omega)
  | succ r ih =>
    intro i hi hk
    refine pm_run 60 (And.intro (vin hw (by omega)) (And.intro (fun h => absurd h ?_) (fun _ => And.intro (ix3 (c := 12) (by omega) (by omega)) (And.intro (ix2 (by omega) (by omega)) ?_))))
    · rw [em]
      exact nI_ge (by omega) (by omega)
    · rw [show (nI (384 * w) + nI i + Int32.ofNat 12).toNatClampNeg = 384 * w + i + 12 from cl3 (c := 12) (by omega), cl2 (by omega), cp_s]
      exact pm_J.locals (M := [some (.ref 16), some (.int (nI w)), some (.int (nI (384 * w))), some (.int (nI (i + 1)))]) (ih (i + 1) (by omega) hk) ⟨rfl, rfl, rfl, congrArg (fun z => some (Value.int z)) (nI_succ i).symm, trivial⟩
theorem c_drop {Rm w : Nat} {Q : Nat → Qu} {f : Int64 × Int32} {q : Qu} (hw : w < 2) (hR : Rm ≤ 32) (hQ : rQ Rm Q wi ma) (hq : Q w = f :: q) (hk : ∀ wi' ma' : Nat → Int32, rQ Rm (uQ Q w q) wi' ma' → k none (wm P t W T Rr B N F D we ag tk wi' ma' wo he ae ca tr lo hd R)) : pm_C 73 (d + 1) al [.ref 16, .int (nI w)] (wm P t W T Rr B N F D we ag tk wi ma wo he ae ca tr lo hd R) k kx := by
  obtain ⟨q1, q2, q3⟩ := hQ w hw
  rw [hq] at q1 q2 q3
  simp only [List.length_cons] at q2 q3
  have ew : (nI w).toNatClampNeg = w := nI_clamp (by omega)
  refine pm_Ci rfl (pm_run 80 (And.intro (vin hw (by omega)) (And.intro (vin hw (by omega)) (And.intro ⟨Nat.zero_le _, Nat.zero_le _⟩ (c_at (i := 0) ?_)))))
  have e1 : ma (nI w).toNatClampNeg - Int32.ofNat 1 = nI q.length := by rw [ew, q2]; exact nI_pred _
  rw [e1, ew]
  have hJ := l_drop (d := d + 1) (al := al) (k := k) (kx := kx) (cb := 0) (sb := 0) (R := R) (P := P) (t := t) (W := W) (T := T) (Rr := Rr) (B := B) (N := N) (F := F) (D := D) (we := we) (ag := ag) (tk := tk) (wi := wi) (ma := upd ma w (nI q.length)) (wo := wo) (he := he) (ae := ae) (ca := ca) (tr := tr) (lo := lo) (hd := hd) (w := w) (n := q.length) hw (by omega) pk_us (12 * q.length) 0 (by omega) (hk _ _ (rQ_upd hQ hR (by omega) (rB_cp q1) pk_us (fun v _ hv => pk_un hv) (fun j hj => if_neg (by omega))))
  rw [cp_0] at hJ
  exact pm_J.room (pm_J.locals hJ ⟨rfl, rfl, rfl, rfl, trivial⟩) (Nat.zero_le _) (Nat.zero_le _)
theorem c_mgood {Rm w : Nat} {Q : Nat → Qu} {f : Int64 × Int32} {q : Qu} (hw : w < 2) (hR : Rm ≤ 32) (hQ : rQ Rm Q wi ma) (hq : Q w = f :: q) (h1 : f_sum f.1 = f.2 → f_kind f.1 = nI w → k (some (.int 1)) (wm P 0 W T Rr B N F D we ag tk wi ma wo he ae ca tr lo hd R)) (h0 : ¬ (f_sum f.1 = f.2 ∧ f_kind f.1 = nI w) → k (some (.int 0)) (wm P 0 W T Rr B N F D we ag tk wi ma wo he ae ca tr lo hd R)) : pm_C 74 (d + 2) al [.ref 16, .int (nI w)] (wm P 0 W T Rr B N F D we ag tk wi ma wo he ae ca tr lo hd R) k kx := by
  obtain ⟨q1, q2, q3⟩ := hQ w hw
  rw [hq] at q1 q2 q3
  have hb : ∀ j, j < 12 → wi (384 * w + j) = nI (fB f j) := fun j hj => q1 0 f rfl j hj
  have e0 : (nI (384 * w + 12 * 0)).toNatClampNeg = 384 * w + 0 := nI_clamp (by omega)
  refine pm_Ci rfl (pm_run 80 (And.intro ⟨Nat.zero_le _, Nat.zero_le _⟩ (c_at (i := 0) (And.intro (vin (by omega) (by omega)) (And.intro (fun h => And.intro rfl (h0 (fun z => ?_))) (fun h => And.intro ⟨Nat.zero_le _, Nat.zero_le _⟩ (c_bytes (fun i => fB f (0 + i)) (fun i => fB_lt f _) (n := 8) (by omega) (by omega) (fun i hi => by rw [Nat.zero_add]; exact hb i (by omega)) (And.intro ⟨Nat.zero_le _, Nat.zero_le _⟩ (c_msum (And.intro ⟨Nat.zero_le _, Nat.zero_le _⟩ ?_))))))))))
  · rw [e0, hb 0 (by omega), fB_kind] at h
    exact h z.2
  · rw [e0, hb 0 (by omega), fB_kind] at h
    rw [show nI (384 * w + 12 * 0) + Int32.ofNat 8 = nI (384 * w + 8) from nI_add (384 * w) 8]
    refine c_bytes (fun i => fB f (8 + i)) (fun i => fB_lt f _) (n := 4) (by omega) (by omega) (fun i hi => by rw [Nat.add_assoc]; exact hb (8 + i) (by omega)) ?_
    rw [ac8, ac4]
    have e9 : (lN f.2.toBitVec.toNat).toInt32 = f.2 := by rw [lN_w, nI_of32]
    exact And.intro (fun g => And.intro rfl (h0 (fun z => g (z.1.trans e9.symm)))) (fun g => And.intro rfl (h1 (g.trans e9) h))
end PM1
end
section
/-! THE REFERENCE: its calls on wires -/
theorem nw {w : Nat} (hw : w < 2) : ¬ (nI w < 0 ∨ 1 < nI w) := by
  intro h
  rcases h with h | h
  · exact nI_pos (by omega) h
  · exact nI_nlt (a := 1) (b := w) (by omega) (by omega) h
theorem nw_le {w : Nat} (hw : w < 2) : nI w ≤ 1 := nI_le (b := 1) (by omega) (by omega)
section PM2
variable {d : Nat} {al : Bool} {k : pm_K} {kx : pm_X} {cb sb : Nat} {R : pm_D} {P : LkP} {t W T Rr B N F D we ag tk : Int32} {wi ma wo he ae ca tr lo hd : Nat → Int32}
theorem c_mloseX {x : Int32} (hx : x < 0 ∨ 1 < x) (hk : k (some (.int 0)) (wm P 1 W T Rr B N F D we ag tk wi ma wo he ae ca tr lo hd R)) : pm_C 82 (d + 2) al [.ref 16, .int x] (wm P t W T Rr B N F D we ag tk wi ma wo he ae ca tr lo hd R) k kx :=
  pm_Ci rfl (pm_run 80 (And.intro ⟨Nat.zero_le _, Nat.zero_le _⟩ (c_mnoWire (fun g => And.intro (fun h => absurd h (by decide)) (fun _ => And.intro (fun _ => And.intro rfl hk) (fun h => absurd (by decide) h))) (fun g1 g2 => absurd hx (fun z => z.elim g1 (fun z => absurd g2 (Int32.not_le.mpr z)))))))
theorem c_mlose {Rm w : Nat} {Q : Nat → Qu} (hw : w < 2) (hR : Rm ≤ 32) (hQ : rQ Rm Q wi ma) (hk : ∀ wi' ma' : Nat → Int32, rQ Rm (uQ Q w (lsQ (Q w)).2) wi' ma' → k (some (.int (lsQ (Q w)).1)) (wm P 0 W T Rr B N F D we ag tk wi' ma' wo he ae ca tr lo hd R)) : pm_C 82 (d + 2) al [.ref 16, .int (nI w)] (wm P t W T Rr B N F D we ag tk wi ma wo he ae ca tr lo hd R) k kx := by
  obtain ⟨q1, q2, q3⟩ := hQ w hw
  have ew : (nI w).toNatClampNeg = w := nI_clamp (by omega)
  refine pm_Ci rfl (pm_run 80 (And.intro ⟨Nat.zero_le _, Nat.zero_le _⟩ (c_mnoWire (fun g => absurd g (nw hw)) (fun g1 g2 => And.intro (fun _ => And.intro (fun h => absurd h (by decide)) (fun _ => And.intro (vin hw (by omega)) (And.intro (fun h => And.intro ⟨Nat.zero_le _, Nat.zero_le _⟩ ?_) (fun h => And.intro rfl ?_)))) (fun h => absurd rfl h)))))
  · rw [ew, q2] at h
    match hq : Q w, h with
    | [], h => exact absurd rfl h
    | f :: q, _ =>
      rw [hq] at hk
      exact c_drop hw hR hQ hq (fun wi' ma' h2 => And.intro rfl (hk wi' ma' h2))
  · rw [ew, q2, ← nI_0, nI_eq (by omega) (by omega), List.length_eq_zero_iff] at h
    have e : uQ Q w (lsQ (Q w)).2 = Q := by
      funext v
      unfold uQ
      by_cases e : v = w
      · rw [if_pos e, e, h]
        rfl
      · rw [if_neg e]
    have e2 : (lsQ (Q w)).1 = 0 := by rw [h]; rfl
    rw [e, e2] at hk
    exact hk wi ma hQ
theorem uQ_id {Q : Nat → Qu} {w : Nat} {q : Qu} (h : q = Q w) : uQ Q w q = Q := by
  funext v
  unfold uQ
  by_cases e : v = w
  · rw [if_pos e, e, h]
  · rw [if_neg e]
theorem l_mtwice {w n : Nat} {k2 : pm_K} (hw : w < 2) (hn : n ≤ 31) : ∀ (i : Nat), i ≤ 12 * n → (pm_J 84 d al none k kx 95 [some (.ref 16), some (.int (nI w)), none, none] [] (wm P t W T Rr B N F D we ag tk (up wi (384 * w) 0 (12 * n)) ma wo he ae ca tr lo hd R) cb sb) → pm_J 84 d al none k kx 66 [some (.ref 16), some (.int (nI w)), some (.int (nI (384 * w))), some (.int (f_k i))] [] (wm P t W T Rr B N F D we ag tk (up wi (384 * w) i (12 * n)) ma wo he ae ca tr lo hd R) cb sb := by
  intro i
  induction i with
  | zero =>
    intro _ hk
    exact pm_run 2 (And.intro (fun _ => pm_J.locals hk ⟨rfl, rfl, trivial⟩) (fun h => absurd (by decide +kernel) h))
  | succ i ih =>
    intro hi hk
    refine pm_run 60 (And.intro (fun h => absurd h (f_k_pos i (by omega))) (fun _ => And.intro (ix2 (by omega) (by omega)) (And.intro (ix3 (c := 12) (by omega) (by omega)) ?_)))
    refine pm_J.locals (M := [some (.ref 16), some (.int (nI w)), some (.int (nI (384 * w))), some (.int (f_k i))]) ?_ ⟨rfl, rfl, rfl, congrArg (fun z => some (Value.int z)) (f_k_step i (by omega)), trivial⟩
    have e1 : (nI (384 * w) + f_k (i + 1) + Int32.ofNat 12).toNatClampNeg = 384 * w + i + 12 := cl3 (c := 12) (by omega)
    have e2 : (nI (384 * w) + f_k (i + 1)).toNatClampNeg = 384 * w + i := cl2 (by omega)
    rw [e1, e2, up_s (by omega)]
    exact ih (by omega) hk
theorem c_mtwiceX {x : Int32} (hx : x < 0 ∨ 1 < x) (hk : k (some (.int 0)) (wm P 1 W T Rr B N F D we ag tk wi ma wo he ae ca tr lo hd R)) : pm_C 84 (d + 2) al [.ref 16, .int x] (wm P t W T Rr B N F D we ag tk wi ma wo he ae ca tr lo hd R) k kx :=
  pm_Ci rfl (pm_run 80 (And.intro ⟨Nat.zero_le _, Nat.zero_le _⟩ (c_mnoWire (fun g => And.intro (fun h => absurd h (by decide)) (fun _ => And.intro (fun _ => And.intro rfl hk) (fun h => absurd (by decide) h))) (fun g1 g2 => absurd hx (fun z => z.elim g1 (fun z => absurd g2 (Int32.not_le.mpr z)))))))
theorem c_mtwice {Rm w : Nat} {Q : Nat → Qu} (hw : w < 2) (hR : Rm ≤ 32) (hQ : rQ Rm Q wi ma) (hk : ∀ wi' ma' : Nat → Int32, rQ Rm (uQ Q w (twQ Rm (Q w)).2) wi' ma' → k (some (.int (twQ Rm (Q w)).1)) (wm P 0 W T (nI Rm) B N F D we ag tk wi' ma' wo he ae ca tr lo hd R)) : pm_C 84 (d + 2) al [.ref 16, .int (nI w)] (wm P t W T (nI Rm) B N F D we ag tk wi ma wo he ae ca tr lo hd R) k kx := by
  obtain ⟨q1, q2, q3⟩ := hQ w hw
  have ew : (nI w).toNatClampNeg = w := nI_clamp (by omega)
  have no : (twQ Rm (Q w)) = (0, Q w) → k (some (.int 0)) (wm P 0 W T (nI Rm) B N F D we ag tk wi ma wo he ae ca tr lo hd R) := fun e => by
    rw [e, uQ_id rfl] at hk
    exact hk wi ma hQ
  refine pm_Ci rfl (pm_run 120 (And.intro ⟨Nat.zero_le _, Nat.zero_le _⟩ (c_mnoWire (fun g => absurd g (nw hw)) (fun g1 g2 => And.intro (fun _ => And.intro (fun h => absurd h (by decide)) (fun _ => And.intro (vin hw (by omega)) (And.intro (fun h => And.intro rfl (no ?_)) (fun h => And.intro (vin hw (by omega)) (And.intro (fun h2 => And.intro ⟨Nat.zero_le _, Nat.zero_le _⟩ (c_at (i := 0) (And.intro (vin hw (by omega)) ?_))) (fun h2 => And.intro rfl (no ?_))))))) (fun h => absurd rfl h)))))
  · rw [ew, q2, ← nI_0, nI_eq (by omega) (by omega), List.length_eq_zero_iff] at h
    rw [h]
    rfl
  · rw [ew, q2, nI_eq (by omega) (by omega)] at h2
    rw [ew, q2] at h
    match hq : Q w, h with
    | [], h => exact absurd rfl h
    | f :: q, _ =>
      rw [hq] at hk q1 q2 q3 h2
      simp only [List.length_cons] at q2 q3 h2
      have e : twQ Rm (f :: q) = (1, f :: f :: q) := if_pos (by omega)
      rw [e] at hk
      have e3 : Int32.ofNat 12 * ma (nI w).toNatClampNeg - Int32.ofNat 1 = f_k (12 * (q.length + 1)) := by
        rw [ew, q2, show Int32.ofNat 12 * nI (q.length + 1) = nI (12 * (q.length + 1)) from pk_mul 12 _]
        exact pk_sub (b := 1) (by omega)
      have hJ := l_mtwice (d := d + 2) (al := al) (k := k) (kx := kx) (cb := 0) (sb := 0) (R := R) (P := P) (t := 0) (W := W) (T := T) (Rr := nI Rm) (B := B) (N := N) (F := F) (D := D) (we := we) (ag := ag) (tk := tk) (wi := wi) (ma := ma) (wo := wo) (he := he) (ae := ae) (ca := ca) (tr := tr) (lo := lo) (hd := hd) (w := w) (n := q.length + 1) (k2 := k) hw (by omega) (12 * (q.length + 1)) (Nat.le_refl _) (pm_run 60 (And.intro (vin hw (by omega)) (And.intro (vin hw (by omega)) (And.intro rfl (by rw [ew, q2]; exact hk _ _ (rQ_upd hQ hR (by simp; omega) (rB_up q1) (by rw [pk_us]; exact nI_1 _) (fun v _ hv => pk_un hv) (fun j hj => if_neg (by omega))))))))
      rw [up_0] at hJ
      exact pm_J.room (pm_J.locals hJ ⟨rfl, rfl, rfl, congrArg (fun z => some (Value.int z)) e3, trivial⟩) (Nat.zero_le _) (Nat.zero_le _)
  · rw [ew, q2, nI_eq (by omega) (by omega)] at h2
    match hq : Q w with
    | [] => rfl
    | f :: q =>
      rw [hq] at h2
      simp only [List.length_cons] at h2
      exact if_neg (by omega)
theorem l_mdel1 {w : Nat} (hw : w < 2) : ∀ (r i : Nat), i + r = 12 → (pm_J 85 d al none k kx 70 [some (.ref 16), some (.int (nI w)), none, none] [] (wm P t W T Rr B N F D we ag tk wi ma wo he ae ca tr lo (wr hd 0 (fun j => wi (384 * w + j)) 12) R) cb sb) → pm_J 85 d al none k kx 44 [some (.ref 16), some (.int (nI w)), some (.int (nI (384 * w))), some (.int (nI i))] [] (wm P t W T Rr B N F D we ag tk wi ma wo he ae ca tr lo (wr hd 0 (fun j => wi (384 * w + j)) i) R) cb sb := by
  intro r
  induction r with
  | zero =>
    intro i hi hk
    have : i = 12 := by omega
    subst this
    exact pm_run 3 (And.intro (fun _ => pm_J.locals hk ⟨rfl, rfl, trivial⟩) (fun h => absurd (nI_le (a := 12) (by omega) (by omega)) h))
  | succ r ih =>
    intro i hi hk
    refine pm_run 60 (And.intro (fun h => absurd h (nI_ge (b := 12) (by omega) (by omega))) (fun _ => And.intro (ix2 (by omega) (by omega)) (And.intro (vin (by omega) (by omega)) ?_)))
    refine pm_J.locals (M := [some (.ref 16), some (.int (nI w)), some (.int (nI (384 * w))), some (.int (nI (i + 1)))]) ?_ ⟨rfl, rfl, rfl, congrArg (fun z => some (Value.int z)) (nI_succ i).symm, trivial⟩
    have e2 : upd (wr hd 0 (fun j => wi (384 * w + j)) i) i (wi (384 * w + i)) = wr hd 0 (fun j => wi (384 * w + j)) (i + 1) := by
      have := wr_s (f := hd) (a := 0) (g := fun j => wi (384 * w + j)) (n := i)
      rw [Nat.zero_add] at this
      exact this
    rw [cl2 (by omega), nI_clamp (by omega), e2]
    exact ih (i + 1) (by omega) hk
theorem l_mdel2 {w n : Nat} (hw : w < 2) (hn : n < 32) (hm : ma w = nI n) : ∀ (r i : Nat), i + r = 12 → (pm_J 85 (d + 1) al none k kx 112 [some (.ref 16), some (.int (nI w)), none, none] [] (wm P t W T Rr B N F D we ag tk (wr wi (384 * w + 12 * n) hd 12) ma wo he ae ca tr lo hd R) cb sb) → pm_J 85 (d + 1) al none k kx 77 [some (.ref 16), some (.int (nI w)), none, some (.int (nI i))] [] (wm P t W T Rr B N F D we ag tk (wr wi (384 * w + 12 * n) hd i) ma wo he ae ca tr lo hd R) cb sb := by
  intro r
  have ew : (nI w).toNatClampNeg = w := nI_clamp (by omega)
  induction r with
  | zero =>
    intro i hi hk
    have : i = 12 := by omega
    subst this
    exact pm_run 3 (And.intro (fun _ => pm_J.locals hk ⟨rfl, rfl, trivial⟩) (fun h => absurd (nI_le (a := 12) (by omega) (by omega)) h))
  | succ r ih =>
    intro i hi hk
    refine pm_run 60 (And.intro (fun h => absurd h (nI_ge (b := 12) (by omega) (by omega))) (fun _ => And.intro (vin hw (by omega)) (And.intro ⟨Nat.zero_le _, Nat.zero_le _⟩ ?_)))
    rw [ew, hm]
    refine c_at (And.intro (vin (by omega) (by omega)) (And.intro (ix2 (by omega) (by omega)) ?_))
    refine pm_J.locals (M := [some (.ref 16), some (.int (nI w)), none, some (.int (nI (i + 1)))]) ?_ ⟨rfl, rfl, congrArg (fun z => some (Value.int z)) (nI_succ i).symm, trivial⟩
    rw [cl2 (by omega), nI_clamp (by omega), wr_s]
    exact ih (i + 1) (by omega) hk
theorem c_mdelayX {x : Int32} (hx : x < 0 ∨ 1 < x) (hk : k (some (.int 0)) (wm P 1 W T Rr B N F D we ag tk wi ma wo he ae ca tr lo hd R)) : pm_C 85 (d + 2) al [.ref 16, .int x] (wm P t W T Rr B N F D we ag tk wi ma wo he ae ca tr lo hd R) k kx :=
  pm_Ci rfl (pm_run 80 (And.intro ⟨Nat.zero_le _, Nat.zero_le _⟩ (c_mnoWire (fun g => And.intro (fun h => absurd h (by decide)) (fun _ => And.intro (fun _ => And.intro rfl hk) (fun h => absurd (by decide) h))) (fun g1 g2 => absurd hx (fun z => z.elim g1 (fun z => absurd g2 (Int32.not_le.mpr z)))))))
theorem c_mdelay {Rm w : Nat} {Q : Nat → Qu} (hw : w < 2) (hR : Rm ≤ 32) (hQ : rQ Rm Q wi ma) (hk : ∀ wi' ma' hd' : Nat → Int32, rQ Rm (uQ Q w (dyQ (Q w)).2) wi' ma' → k (some (.int (dyQ (Q w)).1)) (wm P 0 W T Rr B N F D we ag tk wi' ma' wo he ae ca tr lo hd' R)) : pm_C 85 (d + 2) al [.ref 16, .int (nI w)] (wm P t W T Rr B N F D we ag tk wi ma wo he ae ca tr lo hd R) k kx := by
  obtain ⟨q1, q2, q3⟩ := hQ w hw
  have ew : (nI w).toNatClampNeg = w := nI_clamp (by omega)
  refine pm_Ci rfl (pm_run 120 (And.intro ⟨Nat.zero_le _, Nat.zero_le _⟩ (c_mnoWire (fun g => absurd g (nw hw)) (fun g1 g2 => And.intro (fun _ => And.intro (fun h => absurd h (by decide)) (fun _ => And.intro (vin hw (by omega)) (And.intro (fun h => And.intro ⟨Nat.zero_le _, Nat.zero_le _⟩ (c_at (i := 0) ?_)) (fun h => And.intro rfl ?_)))) (fun h => absurd rfl h)))))
  · have h : nI 2 ≤ ma (nI w).toNatClampNeg := h
    rw [ew, q2, nI_leI (by omega) (by omega)] at h
    match hq : Q w, h with
    | f :: g :: q, _ =>
      rw [hq] at hk q1 q2 q3
      have e : dyQ (f :: g :: q) = (1, (g :: q) ++ [f]) := rfl
      rw [e] at hk
      have hJ := l_mdel1 (d := d + 2) (al := al) (k := k) (kx := kx) (cb := 0) (sb := 0) (R := R) (P := P) (t := 0) (W := W) (T := T) (Rr := Rr) (B := B) (N := N) (F := F) (D := D) (we := we) (ag := ag) (tk := tk) (wi := wi) (ma := ma) (wo := wo) (he := he) (ae := ae) (ca := ca) (tr := tr) (lo := lo) (hd := hd) (w := w) hw 12 0 rfl (pm_run 60 (And.intro ⟨Nat.zero_le _, Nat.zero_le _⟩ (c_drop hw hR hQ hq (fun wi2 ma2 hQ2 => ?_))))
      · rw [wr_0] at hJ
        exact pm_J.room (pm_J.locals hJ ⟨rfl, rfl, rfl, rfl, trivial⟩) (Nat.zero_le _) (Nat.zero_le _)
      · obtain ⟨p1, p2, p3⟩ := hQ2 w hw
        have eu : uQ Q w (g :: q) w = g :: q := if_pos rfl
        rw [eu] at p1 p2 p3
        have eh : wr wi2 (384 * w + 12 * (g :: q).length) (wr hd 0 (fun j => wi (384 * w + j)) 12) 12 = wr wi2 (384 * w + 12 * (g :: q).length) (fun j => nI (fB f j)) 12 := by
          funext j
          unfold wr
          by_cases c : 384 * w + 12 * (g :: q).length ≤ j ∧ j < 384 * w + 12 * (g :: q).length + 12
          · rw [if_pos c, if_pos c, if_pos (by omega), Nat.sub_zero]
            exact q1 0 f rfl _ (by omega)
          · rw [if_neg c, if_neg c]
        have hU := rQ_upd (w := w) (q := (g :: q) ++ [f]) (wi' := wr wi2 (384 * w + 12 * (g :: q).length) (fun j => nI (fB f j)) 12) (ma' := upd ma2 w (nI (g :: q).length + Int32.ofNat 1)) hQ2 hR (by simp only [List.length_append, List.length_cons, List.length_nil] at q3 ⊢; omega) (rB_put p1) (by rw [pk_us]; exact (nI_1 _).trans (by simp)) (fun v _ hv => pk_un hv) (fun j hj => wr_out (by simp only [List.length_cons] at q3 ⊢; omega))
        have eq2 : uQ (uQ Q w (g :: q)) w ((g :: q) ++ [f]) = uQ Q w ((g :: q) ++ [f]) := by
          funext v
          unfold uQ
          by_cases e : v = w <;> simp [e]
        rw [eq2, ← eh] at hU
        have hJ2 := l_mdel2 (d := d + 1) (al := al) (k := k) (kx := kx) (cb := 0) (sb := 0) (R := R) (P := P) (t := 0) (W := W) (T := T) (Rr := Rr) (B := B) (N := N) (F := F) (D := D) (we := we) (ag := ag) (tk := tk) (wi := wi2) (ma := ma2) (wo := wo) (he := he) (ae := ae) (ca := ca) (tr := tr) (lo := lo) (hd := wr hd 0 (fun j => wi (384 * w + j)) 12) (w := w) (n := (g :: q).length) hw (by simp only [List.length_cons] at q3 ⊢; omega) p2 12 0 rfl (pm_run 60 (And.intro (vin hw (by omega)) (And.intro (vin hw (by omega)) (And.intro rfl (by rw [ew, p2]; exact hk _ _ _ hU)))))
        rw [wr_0] at hJ2
        exact pm_J.room (pm_J.locals hJ2 ⟨rfl, rfl, rfl, trivial⟩) (Nat.zero_le _) (Nat.zero_le _)
  · have h : ¬ nI 2 ≤ ma (nI w).toNatClampNeg := h
    rw [ew, q2, nI_leI (by omega) (by omega)] at h
    have e : dyQ (Q w) = (0, Q w) := by
      match hq : Q w with
      | [] => rfl
      | [f] => rfl
      | f :: g :: q =>
        rw [hq] at h
        exact absurd (by simp) h
    rw [e, uQ_id rfl] at hk
    exact hk wi ma hd hQ
theorem c_mchangeX {x y : Int32} (hx : (x < 0 ∨ 1 < x) ∨ y < 0 ∨ 95 < y) (hk : k (some (.int 0)) (wm P 1 W T Rr B N F D we ag tk wi ma wo he ae ca tr lo hd R)) : pm_C 83 (d + 2) al [.ref 16, .int x, .int y] (wm P t W T Rr B N F D we ag tk wi ma wo he ae ca tr lo hd R) k kx :=
  pm_Ci rfl (pm_run 80 (And.intro ⟨Nat.zero_le _, Nat.zero_le _⟩ (c_mnoWire (fun g => And.intro (fun _ => And.intro (fun _ => And.intro rfl hk) (fun h => absurd (by decide) h)) (fun h => absurd h (by decide))) (fun g1 g2 => And.intro (fun h => absurd rfl h) (fun _ => And.intro (fun h => And.intro (fun _ => And.intro rfl hk) (fun h => absurd (by decide) h)) (fun h3 => And.intro (fun h4 => absurd hx (fun z => z.elim (fun z => z.elim g1 (fun z => absurd g2 (Int32.not_le.mpr z))) (fun z => z.elim h3 (fun z => absurd h4 (Int32.not_le.mpr z))))) (fun h4 => And.intro (fun _ => And.intro rfl hk) (fun h => absurd (by decide) h))))))))
theorem c_mchange {Rm w b : Nat} {Q : Nat → Qu} (hw : w < 2) (hb : b < 96) (hR : Rm ≤ 32) (hQ : rQ Rm Q wi ma) (hk : ∀ wi' ma' : Nat → Int32, rQ Rm (uQ Q w (chQ (nI b) (Q w)).2) wi' ma' → k (some (.int (chQ (nI b) (Q w)).1)) (wm P 0 W T Rr B N F D we ag tk wi' ma' wo he ae ca tr lo hd R)) : pm_C 83 (d + 2) al [.ref 16, .int (nI w), .int (nI b)] (wm P t W T Rr B N F D we ag tk wi ma wo he ae ca tr lo hd R) k kx := by
  obtain ⟨q1, q2, q3⟩ := hQ w hw
  have ew : (nI w).toNatClampNeg = w := nI_clamp (by omega)
  have e1 : nI (384 * w + 12 * 0) + Int32.ofNat 11 - nI b / Int32.ofNat 8 = nI (384 * w + (11 - b / 8)) := by
    rw [show nI b / Int32.ofNat 8 = nI (b / 8) from pk_div (d := 8) (by omega) (by omega) (by omega), show nI (384 * w + 12 * 0) + Int32.ofNat 11 = nI (384 * w + 12 * 0 + 11) from nI_add _ 11, pk_sub (by omega)]
    exact congrArg nI (by omega)
  have e2 : nI b - nI b / Int32.ofNat 8 * Int32.ofNat 8 = nI (b % 8) := pk_rem (d := 8) (by omega) (by omega) (by omega)
  refine pm_Ci rfl (pm_run 120 (And.intro ⟨Nat.zero_le _, Nat.zero_le _⟩ (c_mnoWire (fun g => absurd g (nw hw)) (fun g1 g2 => And.intro (fun h => absurd rfl h) (fun _ => And.intro (fun h => absurd h (nI_pos (by omega))) (fun _ => And.intro (fun _ => And.intro (fun h => absurd h (by decide)) (fun _ => And.intro (vin hw (by omega)) (And.intro (fun h => And.intro ⟨Nat.zero_le _, Nat.zero_le _⟩ (c_at (i := 0) (And.intro (by decide) ?_))) (fun h => And.intro rfl ?_)))) (fun h => absurd (nI_le (b := 95) (by omega) (by omega)) h)))))))
  · have hin : vp_in (nI (384 * w + 12 * 0) + Int32.ofNat 11 - nI b / Int32.ofNat 8) 768 := by rw [e1]; exact vin (by omega) (by omega)
    refine And.intro hin (And.intro (by decide) (And.intro hin (And.intro rfl ?_)))
    show k (some (.int 1)) (wm P 0 W T Rr B N F D we ag tk (upd wi (nI (384 * w + 12 * 0) + Int32.ofNat 11 - nI b / Int32.ofNat 8).toNatClampNeg (wi (nI (384 * w + 12 * 0) + Int32.ofNat 11 - nI b / Int32.ofNat 8).toNatClampNeg ^^^ (Int32.ofNat 1 <<< ((nI b - nI b / Int32.ofNat 8 * Int32.ofNat 8) &&& 31)))) ma wo he ae ca tr lo hd R)
    rw [e1, e2]
    rw [ew, q2] at h
    match hq : Q w, h with
    | [], h => exact absurd rfl h
    | f :: q, _ =>
      rw [hq] at hk q1 q2 q3
      have e3 : chQ (nI b) (f :: q) = (1, chF (nI b) f :: q) := rfl
      rw [e3] at hk
      rw [nI_clamp (by omega)]
      refine hk _ ma (rQ_upd hQ hR (by simpa using q3) (fun i g hi j hj => ?_) (by simpa using q2) (fun _ _ _ => rfl) (fun j hj => pk_un (by omega)))
      have e5 : (Int32.ofNat 1 <<< (nI (b % 8) &&& 31)) = nI (2 ^ (b % 8)) := one_shl (b % 8) (by omega)
      have e6 : wi (384 * w + (11 - b / 8)) = nI (fB f (11 - b / 8)) := q1 0 f rfl _ (by omega)
      rw [e5, e6, nI_xor]
      cases i with
      | zero =>
        have hg : chF (nI b) f = g := by simpa using hi
        subst hg
        rw [fB_ch f hb hj, Nat.mul_zero, Nat.add_zero]
        by_cases c : j = 11 - b / 8
        · rw [if_pos c, c, pk_us]
        · rw [if_neg c, pk_un (by omega)]
          exact q1 0 f rfl j hj
      | succ i =>
        rw [pk_un (by omega)]
        exact q1 (i + 1) g (by simpa using hi) j hj
  · rw [ew, q2, ← nI_0, nI_eq (by omega) (by omega), List.length_eq_zero_iff] at h
    have e : chQ (nI b) (Q w) = (0, Q w) := by rw [h]; rfl
    rw [e, uQ_id rfl] at hk
    exact hk wi ma hQ
theorem c_mframeX {x y z : Int32} (hx : (x < 0 ∨ 1 < x) ∨ z < 0 ∨ 1 < z) (hk : k (some (.long 0)) (wm P 1 W T Rr B N F D we ag tk wi ma wo he ae ca tr lo hd R)) : pm_C 88 (d + 2) al [.ref 16, .int x, .int y, .int z] (wm P t W T Rr B N F D we ag tk wi ma wo he ae ca tr lo hd R) k kx :=
  pm_Ci rfl (pm_run 80 (And.intro ⟨Nat.zero_le _, Nat.zero_le _⟩ (c_mnoWire (fun g => And.intro (fun _ => And.intro (fun h => absurd h (by decide)) (fun _ => hk)) (fun h => absurd h (by decide))) (fun g1 g2 => And.intro (fun h => absurd rfl h) (fun _ => And.intro (fun h => And.intro (fun h => absurd h (by decide)) (fun _ => hk)) (fun h3 => And.intro (fun h4 => absurd hx (fun z => z.elim (fun z => z.elim g1 (fun z => absurd g2 (Int32.not_le.mpr z))) (fun z => z.elim h3 (fun z => absurd h4 (Int32.not_le.mpr z))))) (fun h4 => And.intro (fun h => absurd h (by decide)) (fun _ => hk))))))))
theorem c_mframeY {Rm w : Nat} {Q : Nat → Qu} {y z : Int32} (hw : w < 2) (hR : Rm ≤ 32) (hQ : rQ Rm Q wi ma) (hz : ¬ (z < 0 ∨ 1 < z)) (hy : y < 0 ∨ nI (Q w).length ≤ y) (hk : k (some (.long 0)) (wm P 2 W T Rr B N F D we ag tk wi ma wo he ae ca tr lo hd R)) : pm_C 88 (d + 2) al [.ref 16, .int (nI w), .int y, .int z] (wm P t W T Rr B N F D we ag tk wi ma wo he ae ca tr lo hd R) k kx := by
  obtain ⟨q1, q2, q3⟩ := hQ w hw
  have ew : (nI w).toNatClampNeg = w := nI_clamp (by omega)
  refine pm_Ci rfl (pm_run 80 (And.intro ⟨Nat.zero_le _, Nat.zero_le _⟩ (c_mnoWire (fun g => absurd g (nw hw)) (fun g1 g2 => And.intro (fun h => absurd rfl h) (fun _ => And.intro (fun h => absurd (Or.inl h) hz) (fun h3 => And.intro (fun h4 => And.intro (fun h => And.intro (fun h => absurd h (by decide)) (fun _ => hk)) (fun h5 => And.intro (vin hw (by omega)) (And.intro (fun h => ?_) (fun h => And.intro (fun h => absurd h (by decide)) (fun _ => hk))))) (fun h4 => absurd (Or.inr (Int32.not_le.mp h4)) hz)))))))
  rw [ew, q2] at h
  exact absurd h (hy.elim (fun z => absurd z h5) (fun z => Int32.not_lt.mpr z))
theorem c_mframe {Rm w i : Nat} {Q : Nat → Qu} {z : Int32} {f : Int64 × Int32} (hw : w < 2) (hR : Rm ≤ 32) (hQ : rQ Rm Q wi ma) (hf : (Q w)[i]? = some f) (h0 : z = 0 → k (some (.long f.1)) (wm P 0 W T Rr B N F D we ag tk wi ma wo he ae ca tr lo hd R)) (h1 : z = 1 → k (some (.long (f.2.toInt64 &&& 4294967295))) (wm P 0 W T Rr B N F D we ag tk wi ma wo he ae ca tr lo hd R)) (hz : z = 0 ∨ z = 1) : pm_C 88 (d + 2) al [.ref 16, .int (nI w), .int (nI i), .int z] (wm P t W T Rr B N F D we ag tk wi ma wo he ae ca tr lo hd R) k kx := by
  obtain ⟨q1, q2, q3⟩ := hQ w hw
  have hil : i < (Q w).length := (List.getElem?_eq_some_iff.mp hf).1
  have ew : (nI w).toNatClampNeg = w := nI_clamp (by omega)
  have z1 : ¬ z < 0 := by rcases hz with h | h <;> rw [h] <;> decide
  have z2 : z ≤ 1 := by rcases hz with h | h <;> rw [h] <;> decide
  have hb : ∀ j, j < 12 → wi (384 * w + 12 * i + j) = nI (fB f j) := fun j hj => q1 i f hf j hj
  refine pm_Ci rfl (pm_run 120 (And.intro ⟨Nat.zero_le _, Nat.zero_le _⟩ (c_mnoWire (fun g => absurd g (nw hw)) (fun g1 g2 => And.intro (fun h => absurd rfl h) (fun _ => And.intro (fun h => absurd h z1) (fun _ => And.intro (fun _ => And.intro (fun h => absurd h (nI_pos (by omega))) (fun _ => And.intro (vin hw (by omega)) (And.intro (fun _ => And.intro (fun _ => And.intro (fun h => And.intro ⟨Nat.zero_le _, Nat.zero_le _⟩ (c_at (And.intro ⟨Nat.zero_le _, Nat.zero_le _⟩ ?_))) (fun h => And.intro ⟨Nat.zero_le _, Nat.zero_le _⟩ (c_at (And.intro ⟨Nat.zero_le _, Nat.zero_le _⟩ (c_bytes (fun j => fB f (0 + j)) (fun j => fB_lt f _) (n := 8) (by omega) (by omega) (fun j hj => by rw [Nat.zero_add]; exact hb j (by omega)) ?_))))) (fun h => absurd (by decide) h)) (fun h => absurd ?_ h)))) (fun h => absurd z2 h)))))))
  · rw [show nI (384 * w + 12 * i) + Int32.ofNat 8 = nI (384 * w + 12 * i + 8) from nI_add _ 8]
    refine c_bytes (fun j => fB f (8 + j)) (fun j => fB_lt f _) (n := 4) (by omega) (by omega) (fun j hj => by rw [Nat.add_assoc]; exact hb (8 + j) (by omega)) ?_
    rw [ac4, ← l_mask]
    exact h1 (hz.elim (fun q => absurd q h) id)
  · rw [ac8]
    exact h0 h
  · rw [ew, q2]
    exact nI_lt hil (by omega)
end PM2
end
section
/-! THE REFERENCE: its other calls -/
section PM3
variable {d : Nat} {al : Bool} {k : pm_K} {kx : pm_X} {cb sb : Nat} {R : pm_D} {P : LkP} {t W T Rr Bi N Fi Di we ag tk : Int32} {wi ma wo he ae ca tr lo hd : Nat → Int32} {Wn Rm B h F D : Nat} {Q : Nat → Qu} {A : EF} {V : VF}
theorem c_mbeginX {x y z : Int32} (hx : x < 1 ∨ 16 < x ∨ y < 1 ∨ 50 < y ∨ z < 1 ∨ 32 < z) (hk : k none (wm P 1 W T Rr Bi N Fi Di we ag tk wi ma wo he ae ca tr lo hd R)) : pm_C 67 d al [.ref 16, .int x, .int y, .int z] (wm P t W T Rr Bi N Fi Di we ag tk wi ma wo he ae ca tr lo hd R) k kx :=
  have hb : ∀ {Y : Prop}, ((1 : Int32) ≤ 0 → Y) ∧ (¬ (1 : Int32) ≤ 0 → k none (wm P 1 W T Rr Bi N Fi Di we ag tk wi ma wo he ae ca tr lo hd R)) := fun {Y} => And.intro (fun h => absurd h (by decide)) (fun _ => hk)
  pm_Ci rfl (pm_run 60 (And.intro (fun _ => hb) (fun h1 => And.intro (fun _ => hb) (fun h2 => And.intro (fun _ => hb) (fun h3 => And.intro (fun _ => hb) (fun h4 => And.intro (fun _ => hb) (fun h5 => And.intro (fun h6 => absurd hx (fun z => z.elim h1 (fun z => z.elim h2 (fun z => z.elim h3 (fun z => z.elim h4 (fun z => z.elim h5 (fun z => absurd h6 (Int32.not_le.mpr z)))))))) (fun _ => hb))))))))
theorem l_mbegin : ∀ (r i : Nat) (he ae tr : Nat → Int32), i + r = 256 → (∀ j, j < i → tr j = 0) → (∀ he' ae' tr' : Nat → Int32, (∀ j, j < 256 → tr' j = 0) → k none (wm P t W T Rr Bi N Fi Di we ag tk wi ma wo he' ae' ca tr' lo hd R)) → pm_J 67 d al none k kx 117 [some (.ref 16), none, none, none, some (.int (nI i))] [] (wm P t W T Rr Bi N Fi Di we ag tk wi ma wo he ae ca tr lo hd R) cb sb := by
  intro r
  induction r with
  | zero =>
    intro i he ae tr hi h0 hk
    exact pm_run 40 (And.intro (fun _ => hk he ae tr (fun j hj => h0 j (by omega))) (fun h => absurd (nI_le (a := 256) (by omega) (by omega)) h))
  | succ r ih =>
    intro i he ae tr hi h0 hk
    refine pm_run 60 (And.intro (fun h => absurd h (nI_ge (b := 256) (by omega) (by omega))) (fun _ => And.intro (vin (by omega) (by omega)) (And.intro (vin (by omega) (by omega)) (And.intro (vin (by omega) (by omega)) ?_))))
    refine pm_J.locals (M := [some (.ref 16), none, none, none, some (.int (nI (i + 1)))]) (ih (i + 1) _ _ _ (by omega) (fun j hj => ?_) hk) ⟨rfl, congrArg (fun z => some (Value.int z)) (nI_succ i).symm, trivial⟩
    rw [nI_clamp (by omega)]
    by_cases e : j = i
    · subst e
      exact pk_us
    · rw [pk_un e]
      exact h0 j (by omega)
theorem c_mbegin {x y z : Int32} (hg : ¬ (x < 1 ∨ 16 < x ∨ y < 1 ∨ 50 < y ∨ z < 1 ∨ 32 < z)) (hk : ∀ he' ae' tr' : Nat → Int32, (∀ j, j < 256 → tr' j = 0) → k none (wm P 0 x y z 0 0 0 0 0 0 0 wi (upd (upd ma 0 0) 1 0) wo he' ae' ca tr' lo hd R)) : pm_C 67 d al [.ref 16, .int x, .int y, .int z] (wm P t W T Rr Bi N Fi Di we ag tk wi ma wo he ae ca tr lo hd R) k kx := by
  have hJ := l_mbegin (d := d) (al := al) (k := k) (kx := kx) (cb := 0) (sb := 0) (R := R) (P := P) (t := 0) (W := x) (T := y) (Rr := z) (Bi := 0) (N := 0) (Fi := 0) (Di := 0) (we := 0) (ag := 0) (tk := 0) (wi := wi) (ma := upd (upd ma 0 0) 1 0) (wo := wo) (ca := ca) (lo := lo) (hd := hd) 256 0 he ae tr (by omega) (fun j hj => absurd hj (by omega)) hk
  have e0 : (Int32.ofNat 0).toNatClampNeg = 0 := by decide
  have e1 : (Int32.ofNat 1).toNatClampNeg = 1 := by decide
  refine pm_Ci rfl (pm_run 43 (And.intro (fun h => absurd (Or.inl h) hg) (fun h1 => And.intro (fun h => absurd (Or.inr (Or.inl h)) hg) (fun h2 => And.intro (fun h => absurd (Or.inr (Or.inr (Or.inl h))) hg) (fun h3 => And.intro (fun h => absurd (Or.inr (Or.inr (Or.inr (Or.inl h)))) hg) (fun h4 => And.intro (fun h => absurd (Or.inr (Or.inr (Or.inr (Or.inr (Or.inl h))))) hg) (fun h5 => And.intro (fun h6 => And.intro (fun _ => And.intro (vin (n := 0) (by omega) (by omega)) (And.intro (vin (n := 1) (by omega) (by omega)) ?_)) (fun h => absurd (by decide) h)) (fun h => absurd (Or.inr (Or.inr (Or.inr (Or.inr (Or.inr (Int32.not_le.mp h)))))) hg))))))))
  refine pm_run 6 ?_
  refine pm_run 6 ?_
  refine pm_run 6 ?_
  refine pm_run 9 ?_
  refine pm_J.room (pm_J.locals (M := [some (.ref 16), none, none, none, some (.int (nI 0))]) ?_ ⟨rfl, rfl, trivial⟩) (Nat.zero_le _) (Nat.zero_le _)
  rw [e0, e1]
  exact hJ
theorem c_mdelivered (hk : k (some (.int Di)) (wm P 0 W T Rr Bi N Fi Di we ag tk wi ma wo he ae ca tr lo hd R)) : pm_C 86 d al [.ref 16] (wm P t W T Rr Bi N Fi Di we ag tk wi ma wo he ae ca tr lo hd R) k kx := pm_Ci rfl (pm_run 40 hk)
theorem c_mwordX {x : Int32} (hx : x < 0 ∨ Di ≤ x ∨ x < Di - 256) (hk : k (some (.int 0)) (wm P 1 W T Rr Bi N Fi Di we ag tk wi ma wo he ae ca tr lo hd R)) : pm_C 87 d al [.ref 16, .int x] (wm P t W T Rr Bi N Fi Di we ag tk wi ma wo he ae ca tr lo hd R) k kx :=
  have hb : ∀ {Y : Prop}, ((1 : Int32) ≤ 0 → Y) ∧ (¬ (1 : Int32) ≤ 0 → k (some (.int 0)) (wm P 1 W T Rr Bi N Fi Di we ag tk wi ma wo he ae ca tr lo hd R)) := fun {Y} => And.intro (fun h => absurd h (by decide)) (fun _ => hk)
  pm_Ci rfl (pm_run 60 (And.intro (fun _ => hb) (fun h1 => And.intro (fun _ => hb) (fun h2 => And.intro (fun h3 => absurd hx (fun z => z.elim h1 (fun z => z.elim h2 (fun z => absurd h3 (Int32.not_le.mpr z))))) (fun _ => hb)))))
theorem c_mword {i : Nat} (hi : i < 2 ^ 31) (hg : ¬ (nI i < 0 ∨ Di ≤ nI i ∨ nI i < Di - 256)) (hk : k (some (.int (lo (i % 256)))) (wm P 0 W T Rr Bi N Fi Di we ag tk wi ma wo he ae ca tr lo hd R)) : pm_C 87 d al [.ref 16, .int (nI i)] (wm P t W T Rr Bi N Fi Di we ag tk wi ma wo he ae ca tr lo hd R) k kx := by
  have e2 : nI i - nI i / Int32.ofNat 256 * Int32.ofNat 256 = nI (i % 256) := pk_rem (d := 256) (by omega) (by omega) (by omega)
  have hin : vp_in (nI i - nI i / Int32.ofNat 256 * Int32.ofNat 256) 256 := by rw [e2]; exact vin (by omega) (by omega)
  refine pm_Ci rfl (pm_run 60 (And.intro (fun h => absurd (Or.inl h) hg) (fun h1 => And.intro (fun h => absurd (Or.inr (Or.inl h)) hg) (fun h2 => And.intro (fun h3 => And.intro (fun _ => And.intro (by decide) (And.intro hin ?_)) (fun h => absurd (by decide) h)) (fun h => absurd (Or.inr (Or.inr (Int32.not_le.mp h))) hg)))))
  show k (some (.int (lo (nI i - nI i / Int32.ofNat 256 * Int32.ofNat 256).toNatClampNeg))) (wm P 0 W T Rr Bi N Fi Di we ag tk wi ma wo he ae ca tr lo hd R)
  rw [e2, nI_clamp (by omega)]
  exact hk
theorem c_msend {x : Int32} (hB : B < 256) (hh : h ≤ 16) (hW : Wn ≤ 16) (hR : Rm ≤ 32) (hQ : rQ Rm Q wi ma) (hE : rE 256 B h A wo ae he) (h0 : ¬ (h < Wn ∧ (Q 0).length < Rm) → k (some (.int 0)) (wm P 0 (nI Wn) T (nI Rm) (nI B) (nI ((B + h) % 256)) Fi Di we ag tk wi ma wo he ae ca tr lo hd R))
    (h1 : h < Wn → (Q 0).length < Rm → ∀ wi' ma' wo' he' ae' : Nat → Int32, rQ Rm (uQ Q 0 (Q 0 ++ [fr (f_of 0 (nI ((B + h) % 256)) x 0)])) wi' ma' → rE 256 B (h + 1) (uE A h (x, 0, false)) wo' ae' he' → k (some (.int 1)) (wm P 0 (nI Wn) T (nI Rm) (nI B) (nI ((B + (h + 1)) % 256)) Fi Di (we + 1) ag (tk + 1) wi' ma' wo' he' ae' ca tr lo hd R)) : pm_C 76 (d + 3) al [.ref 16, .int x] (wm P t (nI Wn) T (nI Rm) (nI B) (nI ((B + h) % 256)) Fi Di we ag tk wi ma wo he ae ca tr lo hd R) k kx := by
  obtain ⟨q1, q2, q3⟩ := hQ 0 (by omega)
  have eh : (nI ((B + h) % 256) - nI B) &&& 255 = nI h := held_eq hB hh
  have hin : vp_in (nI ((B + h) % 256)) 256 := vin (by omega) (by omega)
  have ec : (nI ((B + h) % 256)).toNatClampNeg = (B + h) % 256 := nI_clamp (by omega)
  refine pm_Ci rfl (pm_run 120 (And.intro ⟨Nat.zero_le _, Nat.zero_le _⟩ (c_far (u := []) (e0 := .inr (0, [])) (And.intro (fun g => And.intro rfl (h0 ?_)) (fun g => And.intro (vin (n := 0) (by omega) (by omega)) (And.intro (fun g2 => And.intro hin (And.intro hin (And.intro hin (And.intro ⟨Nat.zero_le _, Nat.zero_le _⟩ (c_mput (w := 0) (by omega) hR hQ (fun z => ?_) (fun hlt wi' ma' hQ' => And.intro rfl ?_)))))) (fun g2 => And.intro rfl (h0 ?_))))))))
  · rw [eh] at g
    have := (nI_leI (by omega) (by omega)).mp g
    omega
  · exfalso
    have g2 : ¬ ma 0 = nI Rm := g2
    rw [q2, nI_eq (by omega) (by omega)] at g2
    omega
  · rw [eh] at g
    have hlt2 : h < Wn := Nat.lt_of_not_le (fun z => g (nI_le z (by omega)))
    have en : (nI ((B + h) % 256) + Int32.ofNat 1) &&& Int32.ofNat 255 = nI ((B + (h + 1)) % 256) := by
      show (nI ((B + h) % 256) + 1) &&& 255 = _
      rw [nI_1, n255 (by omega)]
      refine congrArg nI ?_
      omega
    rw [en, ec]
    exact h1 hlt2 hlt wi' ma' _ _ _ hQ' (rE_snoc (Or.inr rfl) (by omega) hE x)
  · have g2 : ma 0 = nI Rm := g2
    rw [q2, nI_eq (by omega) (by omega)] at g2
    omega

theorem l_mtick (hB : B < 256) (hh : h ≤ 16) (hR : Rm ≤ 32) : ∀ (r i : Nat) (A : EF) (Q : Nat → Qu) (n : Nat) (wi ma ae : Nat → Int32), i + r = h → rQ Rm Q wi ma → rE 256 B h A wo ae he → (∀ (wi' ma' ae' : Nat → Int32), rQ Rm (uQ Q 0 (tkN T Rm B r i (A, Q 0, n)).2.1) wi' ma' → rE 256 B h (tkN T Rm B r i (A, Q 0, n)).1 wo ae' he → k (some (.int (nI (tkN T Rm B r i (A, Q 0, n)).2.2))) (wm P 0 W T (nI Rm) (nI B) N Fi Di (we + nI (tkN T Rm B r i (A, Q 0, n)).2.2) (ag + nI (tkN T Rm B r i (A, Q 0, n)).2.2) tk wi' ma' wo he ae' ca tr lo hd R)) →
    pm_J 77 (d + 3) al none k kx 22 [some (.ref 16), some (.int (nI n)), some (.int (nI h)), some (.int (nI i)), none] [] (wm P 0 W T (nI Rm) (nI B) N Fi Di we ag tk wi ma wo he ae ca tr lo hd R) cb sb := by
  intro r
  induction r with
  | zero =>
    intro i A Q n wi ma ae hi hQ hr hk
    have hk := hk wi ma ae (by rw [tkN, uQ_id rfl]; exact hQ) hr
    exact pm_run 60 (And.intro (fun _ => hk) (fun h => absurd (nI_le (by omega) (by omega)) h))
  | succ r ih =>
    intro i A Q n wi ma ae hi hQ hr hk
    obtain ⟨hv1, hv2, hv⟩ := hr i (by omega)
    have en : (nI B + nI i) &&& Int32.ofNat 255 = nI ((B + i) % 256) := plus256 (by omega) (by omega)
    have es : ((nI B + nI i) &&& Int32.ofNat 255).toNatClampNeg = (B + i) % 256 := by rw [en, nI_clamp (by omega)]
    have hin : vp_in ((nI B + nI i) &&& Int32.ofNat 255) 256 := by rw [en]; exact vin (by omega) (by omega)
    have ea : upd ae ((B + i) % 256) (ae ((B + i) % 256) + Int32.ofNat 1) ((B + i) % 256) = (A i).2.1 + 1 := by
      rw [pk_us, hv2]
      rfl
    refine pm_run 120 (And.intro (fun h => absurd h (nI_ge (by omega) (by omega))) (fun _ => And.intro hin (And.intro (fun h0 => ?_) (fun h0 => And.intro hin (And.intro hin (And.intro hin (And.intro (fun hT => ?_) (fun hT => And.intro hin (And.intro ⟨Nat.zero_le _, Nat.zero_le _⟩ (c_mput (w := 0) (by omega) hR hQ (fun hq => And.intro (fun _ => ?_) (fun h => absurd rfl h)) (fun hq wi' ma' hQ' => And.intro (fun h => absurd h (by decide)) (fun _ => And.intro hin ?_))))))))))))
    · rw [es, hv, bI1] at h0
      have e9 : tkN T Rm B (r + 1) i (A, Q 0, n) = tkN T Rm B r (i + 1) (A, Q 0, n) := by rw [tkN, tk1_t h0]
      rw [e9] at hk
      exact pm_J.locals (M := [some (.ref 16), some (.int (nI n)), some (.int (nI h)), some (.int (nI (i + 1))), none]) (ih (i + 1) A Q n wi ma ae (by omega) hQ hr hk) ⟨rfl, rfl, rfl, congrArg (fun z => some (Value.int z)) (nI_succ i).symm, trivial⟩
    · rw [es, hv, bI0] at h0
      rw [es] at hT
      have hT : ¬ T ≤ (A i).2.1 + 1 := by rw [← ea]; exact Int32.not_le.mpr hT
      refine pm_J.locals (M := [some (.ref 16), some (.int (nI n)), some (.int (nI h)), some (.int (nI (i + 1))), none]) (ih (i + 1) _ Q n wi ma _ (by omega) hQ (by rw [es]; exact rE_age (Or.inr rfl) hh hr (by omega) _) ?_) ⟨rfl, rfl, rfl, congrArg (fun z => some (Value.int z)) (nI_succ i).symm, trivial⟩
      have e9 : tkN T Rm B (r + 1) i (A, Q 0, n) = tkN T Rm B r (i + 1) (uE A i ((A i).1, ae ((B + i) % 256) + Int32.ofNat 1, (A i).2.2), Q 0, n) := by
        rw [tkN, tk1_n h0 (fun z => hT z.1), hv2, h0]
        rfl
      rw [e9] at hk
      exact hk
    · rw [es, hv, bI0] at h0
      refine pm_J.locals (M := [some (.ref 16), some (.int (nI n)), some (.int (nI h)), some (.int (nI (i + 1))), none]) (ih (i + 1) _ Q n wi ma _ (by omega) hQ (by rw [es]; exact rE_age (Or.inr rfl) hh hr (by omega) _) ?_) ⟨rfl, rfl, rfl, congrArg (fun z => some (Value.int z)) (nI_succ i).symm, trivial⟩
      have e9 : tkN T Rm B (r + 1) i (A, Q 0, n) = tkN T Rm B r (i + 1) (uE A i ((A i).1, ae ((B + i) % 256) + Int32.ofNat 1, (A i).2.2), Q 0, n) := by
        rw [tkN, tk1_n h0 (fun z => absurd z.2 (by omega)), hv2, h0]
        rfl
      rw [e9] at hk
      exact hk
    · rw [es, hv, bI0] at h0
      rw [es] at hT
      have hT : T ≤ (A i).2.1 + 1 := by rw [← ea]; exact Int32.not_lt.mp hT
      rw [es, hv1, en] at hQ'
      have hQ' : rQ Rm (uQ Q 0 (Q 0 ++ [fr (f_of 0 (nI ((B + i) % 256)) (A i).1 0)])) wi' ma' := hQ'
      refine pm_J.locals (M := [some (.ref 16), some (.int (nI (n + 1))), some (.int (nI h)), some (.int (nI (i + 1))), none]) (ih (i + 1) _ _ (n + 1) wi' ma' _ (by omega) hQ' (by rw [es]; exact rE_age (Or.inr rfl) hh (rE_age (Or.inr rfl) hh hr (by omega) _) (by omega) _) ?_) ⟨rfl, congrArg (fun z => some (Value.int z)) (nI_succ n).symm, rfl, congrArg (fun z => some (Value.int z)) (nI_succ i).symm, trivial⟩
      have e8 : uE (uE A i ((A i).1, ae ((B + i) % 256) + Int32.ofNat 1, (A i).2.2)) i ((uE A i ((A i).1, ae ((B + i) % 256) + Int32.ofNat 1, (A i).2.2) i).1, Int32.ofNat 0, (uE A i ((A i).1, ae ((B + i) % 256) + Int32.ofNat 1, (A i).2.2) i).2.2) = uE A i ((A i).1, 0, false) := by
        rw [uE_s, h0]
        funext j
        unfold uE
        by_cases e : j = i <;> simp [e]
      have e9 : tkN T Rm B (r + 1) i (A, Q 0, n) = tkN T Rm B r (i + 1) (uE A i ((A i).1, 0, false), Q 0 ++ [fr (f_of 0 (nI ((B + i) % 256)) (A i).1 0)], n + 1) := by rw [tkN, tk1_s h0 hT hq]
      rw [e9] at hk
      rw [e8]
      have eu : uQ Q 0 (Q 0 ++ [fr (f_of 0 (nI ((B + i) % 256)) (A i).1 0)]) 0 = Q 0 ++ [fr (f_of 0 (nI ((B + i) % 256)) (A i).1 0)] := if_pos rfl
      have eu2 : ∀ q : Qu, uQ (uQ Q 0 (Q 0 ++ [fr (f_of 0 (nI ((B + i) % 256)) (A i).1 0)])) 0 q = uQ Q 0 q := fun q => by
        funext v
        unfold uQ
        by_cases e : v = 0 <;> simp [e]
      rw [eu, eu2]
      exact hk
theorem c_mtick (hB : B < 256) (hh : h ≤ 16) (hR : Rm ≤ 32) (hQ : rQ Rm Q wi ma) (hE : rE 256 B h A wo ae he) (hk : ∀ (wi' ma' ae' : Nat → Int32), rQ Rm (uQ Q 0 (tkN T Rm B h 0 (A, Q 0, 0)).2.1) wi' ma' → rE 256 B h (tkN T Rm B h 0 (A, Q 0, 0)).1 wo ae' he → k (some (.int (nI (tkN T Rm B h 0 (A, Q 0, 0)).2.2))) (wm P 0 W T (nI Rm) (nI B) (nI ((B + h) % 256)) Fi Di (we + nI (tkN T Rm B h 0 (A, Q 0, 0)).2.2) (ag + nI (tkN T Rm B h 0 (A, Q 0, 0)).2.2) tk wi' ma' wo he ae' ca tr lo hd R)) : pm_C 77 (d + 3) al [.ref 16] (wm P t W T (nI Rm) (nI B) (nI ((B + h) % 256)) Fi Di we ag tk wi ma wo he ae ca tr lo hd R) k kx := by
  refine pm_Ci rfl (pm_run 60 (And.intro ⟨Nat.zero_le _, Nat.zero_le _⟩ (c_far (u := []) (e0 := .inr (0, [])) ?_)))
  rw [held_eq hB hh]
  exact pm_J.locals (l_mtick hB hh hR h 0 A Q 0 wi ma ae (by omega) hQ hE hk) ⟨rfl, rfl, rfl, rfl, trivial⟩
end PM3
end
section
/-! THE REFERENCE: what comes, what is told -/
theorem mkN_add {Pf : Nat → Bool} : ∀ (x r i : Nat) (s : EF × Nat), mkN Pf (x + r) i s = mkN Pf r (i + x) (mkN Pf x i s)
  | 0, r, i, s => by rw [Nat.zero_add]; rfl
  | x + 1, r, i, s => by
    rw [show x + 1 + r = (x + r) + 1 by omega, mkN, mkN, mkN_add x r (i + 1), show i + 1 + x = i + (x + 1) by omega]
theorem mkN_skip {mp : Int32} {b h : Nat} (hb : b ≤ h) (s : EF × Nat) : mkN (akP mp b) h 0 s = mkN (akP mp b) (h - (b + 1)) (b + 1) (mkN (akP mp b) b 0 s) := by
  rw [show h = b + (h - b) by omega, mkN_add, Nat.zero_add]
  rcases Nat.lt_or_ge b h with hl | hl
  · obtain ⟨c, hc⟩ : ∃ c, h - b = c + 1 := ⟨h - b - 1, by omega⟩
    rw [show b + (h - b) - (b + 1) = c by omega, hc, mkN]
    obtain ⟨A2, n2⟩ := mkN (akP mp b) b 0 s
    rw [mk1_n akP_eq]
  · rw [show h - b = 0 by omega, show b + 0 - (b + 1) = 0 by omega]
    rfl
section PM4
variable {d : Nat} {al : Bool} {k : pm_K} {kx : pm_X} {cb sb : Nat} {R : pm_D} {P : LkP} {t W T Rr Bi N Fi Di we ag tk : Int32} {wi ma wo he ae ca tr lo hd : Nat → Int32} {Wn Rm B h F D : Nat} {Q : Nat → Qu} {A : EF} {V : VF}
/-! comeToA -/
theorem l_base {fi : Int32} {c : Nat} : ∀ (h B : Nat) (A : EF), B < 256 → h ≤ 16 → rE 256 B h A wo ae he → k (some (.int (nI c))) (wm P t W T Rr (nI (mvB h B A).2.1) N Fi Di we ag tk wi ma wo he ae ca tr lo hd R) →
    pm_J 79 d al none k kx 209 [some (.ref 16), none, none, none, none, none, none, some (.int (nI c)), some (.int (nI h))] [] (wm P t W T Rr (nI B) N Fi Di we ag tk wi ma wo he ae ca tr lo hd R) cb sb := by
  intro h
  induction h with
  | zero =>
    intro B A hB _ hr hk
    exact pm_run 40 (And.intro (fun _ => hk) (fun h => absurd (by decide +kernel) h))
  | succ h ih =>
    intro B A hB h16 hr hk
    obtain ⟨-, -, hv⟩ := hr 0 (by omega)
    have ec : (nI B).toNatClampNeg = (B + 0) % 256 := by rw [nI_clamp (by omega)]; omega
    refine pm_run 60 (And.intro (fun h => absurd h (nI_nle (by omega) (by omega))) (fun _ => And.intro (vin (by omega) (by omega)) (And.intro (fun g => ?_) (fun g => ?_))))
    · rw [ec, hv, bI0] at g
      unfold mvB at hk
      rw [g] at hk
      exact hk
    · rw [ec, hv, bI1] at g
      unfold mvB at hk
      rw [g] at hk
      have e2 : (nI B + Int32.ofNat 1) &&& Int32.ofNat 255 = nI ((B + 1) % 256) := by
        show (nI B + 1) &&& 255 = _
        rw [nI_1, n255 (by omega)]
      refine pm_J.locals (M := [some (.ref 16), none, none, none, none, none, none, some (.int (nI c)), some (.int (nI h))]) ?_ ⟨rfl, rfl, congrArg (fun z => some (Value.int z)) (pk_m1 _), trivial⟩
      rw [e2]
      exact ih ((B + 1) % 256) (fun i => A (i + 1)) (Nat.mod_lt _ (by omega)) (by omega) (rE_shift (Or.inr rfl) hr) hk
theorem l_hear2 {mp : Int32} {Mp b nn : Nat} (hM : Mp < 65536) (hmp : mp = nI Mp) (hB : B < 256) (hh : h ≤ 16) (hb : b ≤ h) (hn : nn < 256) (hbn : b = (nn + 256 - B) % 256) : ∀ (r i : Nat) (A : EF) (c : Nat) (he : Nat → Int32), i + r = 16 → rE 256 B h A wo ae he → (∀ he' : Nat → Int32, rE 256 B h (mkN (akP mp b) (h - (b + 1 + i)) (b + 1 + i) (A, c)).1 wo ae he' → k (some (.int (nI (mkN (akP mp b) (h - (b + 1 + i)) (b + 1 + i) (A, c)).2))) (wm P t W T Rr (nI (mvB h B (mkN (akP mp b) (h - (b + 1 + i)) (b + 1 + i) (A, c)).1).2.1) N Fi Di we ag tk wi ma wo he' ae ca tr lo hd R)) →
    pm_J 79 (d + 1) al none k kx 150 [some (.ref 16), none, none, some (.int (nI nn)), some (.int mp), some (.int (nI h)), some (.int (nI b)), some (.int (nI c)), some (.int (nI i))] [] (wm P t W T Rr (nI B) N Fi Di we ag tk wi ma wo he ae ca tr lo hd R) cb sb := by
  intro r
  induction r with
  | zero =>
    intro i A c he hi hr hk
    have h0 : h - (b + 1 + i) = 0 := by omega
    rw [h0] at hk
    have hJ := l_base (d := d + 1) (al := al) (k := k) (kx := kx) (cb := cb) (sb := sb) (R := R) (P := P) (t := t) (W := W) (T := T) (Rr := Rr) (N := N) (Fi := Fi) (Di := Di) (we := we) (ag := ag) (tk := tk) (wi := wi) (ma := ma) (ca := ca) (tr := tr) (lo := lo) (hd := hd) (fi := 0) (c := c) h B A hB hh hr (hk he hr)
    exact pm_run 40 (And.intro (fun _ => pm_J.locals hJ ⟨rfl, rfl, rfl, trivial⟩) (fun h => absurd (nI_le (a := 16) (by omega) (by omega)) h))
  | succ r ih =>
    intro i A c he hi hr hk
    have ebit : (mp >>> (nI i &&& 31)) &&& Int32.ofNat 1 = nI (Mp / 2 ^ i % 2) := by rw [hmp]; exact m_bitN hM (by omega)
    have efb : f_bit mp (nI i) = nI (Mp / 2 ^ i % 2) := by rw [hmp]; exact f_bitN hM (by omega)
    have eb1 : nI b + Int32.ofNat 1 + nI i = nI (b + 1 + i) := by rw [show nI b + Int32.ofNat 1 = nI (b + 1) from nI_1 b, nI_add]
    have en : (nI nn + Int32.ofNat 1 + nI i) &&& Int32.ofNat 255 = nI ((B + (b + 1 + i)) % 256) := by
      rw [show nI nn + Int32.ofNat 1 = nI (nn + 1) from nI_1 nn, nI_add]
      refine (n255 (by omega)).trans (congrArg nI ?_)
      omega
    have skip : (∀ he' : Nat → Int32, rE 256 B h (mkN (akP mp b) (h - (b + 1 + (i + 1))) (b + 1 + (i + 1)) (A, c)).1 wo ae he' → k (some (.int (nI (mkN (akP mp b) (h - (b + 1 + (i + 1))) (b + 1 + (i + 1)) (A, c)).2))) (wm P t W T Rr (nI (mvB h B (mkN (akP mp b) (h - (b + 1 + (i + 1))) (b + 1 + (i + 1)) (A, c)).1).2.1) N Fi Di we ag tk wi ma wo he' ae ca tr lo hd R)) → pm_J 79 (d + 1) al none k kx 150 [some (.ref 16), none, none, some (.int (nI nn)), some (.int mp), some (.int (nI h)), some (.int (nI b)), some (.int (nI c)), some (.int (nI i + Int32.ofNat 1))] [] (wm P t W T Rr (nI B) N Fi Di we ag tk wi ma wo he ae ca tr lo hd R) cb sb := fun hk => by
      have := ih (i + 1) A c he (by omega) hr hk
      rw [nI_succ] at this
      exact this
    refine pm_run 80 (And.intro (fun h => absurd h (nI_ge (b := 16) (by omega) (by omega))) (fun _ => And.intro (fun g => ?_) (fun g => And.intro (fun g2 => ?_) (fun g2 => And.intro ⟨Nat.zero_le _, Nat.zero_le _⟩ ?_))))
    · -- the bit is 0
      rw [ebit] at g
      have hz : f_bit mp (nI i) = 0 := by
        rw [efb]
        have h3 : Mp / 2 ^ i % 2 < 2 := Nat.mod_lt _ (by decide)
        rcases Nat.lt_or_ge (Mp / 2 ^ i % 2) 1 with h4 | h4
        · rw [show Mp / 2 ^ i % 2 = 0 by omega]
          rfl
        · exact absurd (by rw [show Mp / 2 ^ i % 2 = 1 by omega]; rfl) g
      refine pm_J.locals (skip ?_) ⟨rfl, rfl, rfl, rfl, rfl, rfl, rfl, trivial⟩
      rcases Nat.lt_or_ge (b + 1 + i) h with hl | hl
      · obtain ⟨q, hq⟩ : ∃ q, h - (b + 1 + i) = q + 1 := ⟨h - (b + 1 + i) - 1, by omega⟩
        have e9 : mkN (akP mp b) (q + 1) (b + 1 + i) (A, c) = mkN (akP mp b) q (b + 1 + i + 1) (A, c) := by rw [mkN, mk1_n (akP_g0 (by omega) (by rw [show b + 1 + i - b - 1 = i by omega]; exact hz))]
        rw [hq, e9] at hk
        rw [show h - (b + 1 + (i + 1)) = q by omega]
        exact hk
      · rw [show h - (b + 1 + i) = 0 by omega] at hk
        rw [show h - (b + 1 + (i + 1)) = 0 by omega]
        exact hk
    · rw [eb1] at g2
      have hl : h ≤ b + 1 + i := (nI_leI (by omega) (by omega)).mp g2
      refine pm_J.locals (skip ?_) ⟨rfl, rfl, rfl, rfl, rfl, rfl, rfl, trivial⟩
      rw [show h - (b + 1 + i) = 0 by omega] at hk
      rw [show h - (b + 1 + (i + 1)) = 0 by omega]
      exact hk
    · rw [eb1] at g2
      have hl : b + 1 + i < h := Nat.lt_of_not_le (fun z => g2 (nI_le z (by omega)))
      obtain ⟨-, -, hv⟩ := hr (b + 1 + i) hl
      have hnz : ¬ f_bit mp (nI i) = 0 := by
        rw [efb]
        rw [ebit] at g
        rw [g]
        decide
      have hP : akP mp b (b + 1 + i) = true := akP_gt (by omega) (by rw [show b + 1 + i - b - 1 = i by omega]; exact hnz)
      obtain ⟨q, hq⟩ : ∃ q, h - (b + 1 + i) = q + 1 := ⟨h - (b + 1 + i) - 1, by omega⟩
      rw [en]
      refine c_hear (Nat.mod_lt _ (by omega)) (fun g3 => ?_) (fun g3 => ?_)
      · rw [hv, bI0] at g3
        have e9 : mkN (akP mp b) (q + 1) (b + 1 + i) (A, c) = mkN (akP mp b) q (b + 1 + i + 1) (uE A (b + 1 + i) ((A (b + 1 + i)).1, (A (b + 1 + i)).2.1, true), c + 1) := by rw [mkN, mk1_y hP g3]
        rw [hq, e9] at hk
        refine pm_J.locals (M := [some (.ref 16), none, none, some (.int (nI nn)), some (.int mp), some (.int (nI h)), some (.int (nI b)), some (.int (nI (c + 1))), some (.int (nI (i + 1)))]) (ih (i + 1) _ (c + 1) _ (by omega) (rE_ack (Or.inr rfl) hh hr hl) ?_) ⟨rfl, rfl, rfl, rfl, rfl, congrArg (fun z => some (Value.int z)) (nI_succ c).symm, congrArg (fun z => some (Value.int z)) (nI_succ i).symm, trivial⟩
        rw [show h - (b + 1 + (i + 1)) = q by omega]
        exact hk
      · rw [hv, bI1] at g3
        have e9 : mkN (akP mp b) (q + 1) (b + 1 + i) (A, c) = mkN (akP mp b) q (b + 1 + i + 1) (A, c) := by rw [mkN, mk1_a g3]
        rw [hq, e9] at hk
        refine pm_J.locals (skip ?_) ⟨rfl, rfl, rfl, rfl, rfl, congrArg (fun z => some (Value.int z)) (Int32.add_zero _), rfl, trivial⟩
        rw [show h - (b + 1 + (i + 1)) = q by omega]
        exact hk
theorem l_hear1 {mp : Int32} {Mp b nn : Nat} (hM : Mp < 65536) (hmp : mp = nI Mp) (hB : B < 256) (hh : h ≤ 16) (hb : b ≤ h) (hn : nn < 256) (hbn : b = (nn + 256 - B) % 256) : ∀ (r i : Nat) (A : EF) (c : Nat) (he : Nat → Int32), i + r = b → rE 256 B h A wo ae he → (∀ he' : Nat → Int32, rE 256 B h (mkN (akP mp b) (h - (b + 1)) (b + 1) (mkN (akP mp b) r i (A, c))).1 wo ae he' → k (some (.int (nI (mkN (akP mp b) (h - (b + 1)) (b + 1) (mkN (akP mp b) r i (A, c))).2))) (wm P t W T Rr (nI (mvB h B (mkN (akP mp b) (h - (b + 1)) (b + 1) (mkN (akP mp b) r i (A, c))).1).2.1) N Fi Di we ag tk wi ma wo he' ae ca tr lo hd R)) →
    pm_J 79 (d + 1) al none k kx 114 [some (.ref 16), none, none, some (.int (nI nn)), some (.int mp), some (.int (nI h)), some (.int (nI b)), some (.int (nI c)), some (.int (nI i))] [] (wm P t W T Rr (nI B) N Fi Di we ag tk wi ma wo he ae ca tr lo hd R) cb sb := by
  intro r
  induction r with
  | zero =>
    intro i A c he hi hr hk
    have hJ := l_hear2 (d := d) (al := al) (k := k) (kx := kx) (cb := cb) (sb := sb) (R := R) (P := P) (t := t) (W := W) (T := T) (Rr := Rr) (N := N) (Fi := Fi) (Di := Di) (we := we) (ag := ag) (tk := tk) (wi := wi) (ma := ma) (ca := ca) (tr := tr) (lo := lo) (hd := hd) (mp := mp) (Mp := Mp) (b := b) (nn := nn) hM hmp hB hh hb hn hbn 16 0 A c he rfl hr hk
    exact pm_run 40 (And.intro (fun _ => pm_J.locals hJ ⟨rfl, rfl, rfl, rfl, rfl, rfl, rfl, trivial⟩) (fun h => absurd (nI_le (by omega) (by omega)) h))
  | succ r ih =>
    intro i A c he hi hr hk
    have en : (nI B + nI i) &&& Int32.ofNat 255 = nI ((B + i) % 256) := plus256 (by omega) (by omega)
    obtain ⟨-, -, hv⟩ := hr i (by omega)
    have hP : akP mp b i = true := akP_lt (by omega)
    refine pm_run 80 (And.intro (fun h => absurd h (nI_ge (by omega) (by omega))) (fun _ => And.intro ⟨Nat.zero_le _, Nat.zero_le _⟩ ?_))
    rw [en]
    refine c_hear (Nat.mod_lt _ (by omega)) (fun g3 => ?_) (fun g3 => ?_)
    · rw [hv, bI0] at g3
      have e9 : mkN (akP mp b) (r + 1) i (A, c) = mkN (akP mp b) r (i + 1) (uE A i ((A i).1, (A i).2.1, true), c + 1) := by rw [mkN, mk1_y hP g3]
      rw [e9] at hk
      exact pm_J.locals (M := [some (.ref 16), none, none, some (.int (nI nn)), some (.int mp), some (.int (nI h)), some (.int (nI b)), some (.int (nI (c + 1))), some (.int (nI (i + 1)))]) (ih (i + 1) _ (c + 1) _ (by omega) (rE_ack (Or.inr rfl) hh hr (by omega)) hk) ⟨rfl, rfl, rfl, rfl, rfl, congrArg (fun z => some (Value.int z)) (nI_succ c).symm, congrArg (fun z => some (Value.int z)) (nI_succ i).symm, trivial⟩
    · rw [hv, bI1] at g3
      have e9 : mkN (akP mp b) (r + 1) i (A, c) = mkN (akP mp b) r (i + 1) (A, c) := by rw [mkN, mk1_a g3]
      rw [e9] at hk
      exact pm_J.locals (M := [some (.ref 16), none, none, some (.int (nI nn)), some (.int mp), some (.int (nI h)), some (.int (nI b)), some (.int (nI c)), some (.int (nI (i + 1)))]) (ih (i + 1) A c he (by omega) hr hk) ⟨rfl, rfl, rfl, rfl, rfl, congrArg (fun z => some (Value.int z)) (Int32.add_zero _), congrArg (fun z => some (Value.int z)) (nI_succ i).symm, trivial⟩
theorem c_mcomeA (hB : B < 256) (hh : h ≤ 16) (hR : Rm ≤ 32) (hQ : rQ Rm Q wi ma) (hE : rE 256 B h A wo ae he) (hk : ∀ (wi' ma' he' : Nat → Int32), rQ Rm (uQ Q 1 (cA (Q 1) h B A).2.1) wi' ma' → rE 256 (cA (Q 1) h B A).2.2.2.1 (cA (Q 1) h B A).2.2.1 (cA (Q 1) h B A).2.2.2.2 wo ae he' → (((cA (Q 1) h B A).2.2.2.1 + (cA (Q 1) h B A).2.2.1) % 256 = (B + h) % 256) → k (some (.int (cA (Q 1) h B A).1)) (wm P 0 W T Rr (nI (cA (Q 1) h B A).2.2.2.1) (nI ((B + h) % 256)) Fi Di we ag tk wi' ma' wo he' ae ca tr lo hd R)) : pm_C 79 (d + 3) al [.ref 16] (wm P t W T Rr (nI B) (nI ((B + h) % 256)) Fi Di we ag tk wi ma wo he ae ca tr lo hd R) k kx := by
  obtain ⟨q1, q2, q3⟩ := hQ 1 (by omega)
  match hq : Q 1 with
  | [] =>
    rw [hq] at hk q2
    have hk := hk wi ma he (by show rQ Rm (uQ Q 1 []) wi ma; rw [uQ_id hq.symm]; exact hQ) hE rfl
    refine pm_Ci rfl (pm_run 60 (And.intro (vin (n := 1) (by omega) (by omega)) (And.intro (fun h => absurd ?_ h) (fun _ => hk))))
    exact q2
  | f :: q =>
    rw [hq] at hk q1 q2 q3
    have hb : ∀ j, j < 12 → wi (384 + j) = nI (fB f j) := fun j hj => q1 0 f rfl j hj
    have hi1 : vp_in (nI (384 * 1 + 12 * 0) + Int32.ofNat 1) 768 := ix2 (b := 1) (by omega) (by omega)
    have hi6 : vp_in (nI (384 * 1 + 12 * 0) + Int32.ofNat 6) 768 := ix2 (b := 6) (by omega) (by omega)
    have hi7 : vp_in (nI (384 * 1 + 12 * 0) + Int32.ofNat 7) 768 := ix2 (b := 7) (by omega) (by omega)
    have e1 : wi (nI (384 * 1 + 12 * 0) + Int32.ofNat 1).toNatClampNeg = f_num f.1 := by
      rw [show (nI (384 * 1 + 12 * 0) + Int32.ofNat 1).toNatClampNeg = 384 + 1 from cl2 (b := 1) (by omega), hb 1 (by omega), fB_num]
    have e6 : wi (nI (384 * 1 + 12 * 0) + Int32.ofNat 6).toNatClampNeg = nI (fB f 6) := by
      rw [show (nI (384 * 1 + 12 * 0) + Int32.ofNat 6).toNatClampNeg = 384 + 6 from cl2 (b := 6) (by omega), hb 6 (by omega)]
    have e7 : wi (nI (384 * 1 + 12 * 0) + Int32.ofNat 7).toNatClampNeg = nI (fB f 7) := by
      rw [show (nI (384 * 1 + 12 * 0) + Int32.ofNat 7).toNatClampNeg = 384 + 7 from cl2 (b := 7) (by omega), hb 7 (by omega)]
    have em : (wi (nI (384 * 1 + 12 * 0) + Int32.ofNat 6).toNatClampNeg <<< (Int32.ofNat 8 &&& 31)) ||| wi (nI (384 * 1 + 12 * 0) + Int32.ofNat 7).toNatClampNeg = f_map f.1 := by
      rw [e6, e7]
      exact fB_map f
    obtain ⟨en, hn⟩ := fN_ok f.1
    obtain ⟨Mp, hM, hmp⟩ := f_mapN f.1
    have eh : (nI ((B + h) % 256) - nI B) &&& 255 = nI h := held_eq hB hh
    have ebb : (f_num f.1 - nI B) &&& 255 = nI ((fN f.1 + 256 - B) % 256) := by rw [en]; exact nsub (by omega) (by omega)
    have hne : ¬ ma 1 = 0 := by
      rw [q2]
      exact nI_ne0 (by simp) (by simp only [List.length_cons] at q3 ⊢; omega)
    refine pm_Ci rfl (pm_run 17 (And.intro (vin (n := 1) (by omega) (by omega)) (And.intro (fun _ => And.intro ⟨Nat.zero_le _, Nat.zero_le _⟩ (c_at (w := 1) (i := 0) (And.intro ⟨Nat.zero_le _, Nat.zero_le _⟩ (c_mgood (w := 1) (by omega) hR hQ hq (fun g1 g2 => ?_) (fun g => ?_))))) (fun h => absurd h hne))))
    · refine pm_run 40 (And.intro hi1 (And.intro hi6 (And.intro hi7 (And.intro ⟨Nat.zero_le _, Nat.zero_le _⟩ (c_drop (w := 1) (by omega) hR hQ hq (fun wi' ma' hQ' => And.intro (fun _ => And.intro ⟨Nat.zero_le _, Nat.zero_le _⟩ (c_far (u := []) (e0 := .inr (0, [])) ?_)) (fun h => absurd h (by decide))))))))
      rw [eh, e1]
      refine And.intro ⟨Nat.zero_le _, Nat.zero_le _⟩ (c_far (u := []) (e0 := .inr (0, [])) ?_)
      rw [ebb]
      refine pm_run 40 (And.intro (fun g3 => ?_) (fun g3 => ?_))
      · have g3 : (fN f.1 + 256 - B) % 256 ≤ h := (nI_leI (by omega) (by omega)).mp g3
        have e : cA (f :: q) h B A = (nI (mkN (akP (f_map f.1) ((fN f.1 + 256 - B) % 256)) h 0 (A, 0)).2, q, mvB h B (mkN (akP (f_map f.1) ((fN f.1 + 256 - B) % 256)) h 0 (A, 0)).1) := (if_pos ⟨g1, g2⟩).trans (if_neg (by omega))
        rw [e, mkN_skip g3] at hk
        have hJ := l_hear1 (d := d + 2) (al := al) (k := k) (kx := kx) (cb := 0) (sb := 0) (R := R) (P := P) (t := 0) (W := W) (T := T) (Rr := Rr) (N := nI ((B + h) % 256)) (Fi := Fi) (Di := Di) (we := we) (ag := ag) (tk := tk) (wi := wi') (ma := ma') (ca := ca) (tr := tr) (lo := lo) (hd := hd) (mp := f_map f.1) (Mp := Mp) (b := (fN f.1 + 256 - B) % 256) (nn := fN f.1) hM hmp hB hh g3 hn rfl _ 0 A 0 he (Nat.zero_add _) hE (fun he' hE' => by
          obtain ⟨k1, k2, k3, k4⟩ := mvB_ok (Or.inr rfl) h B _ hB hE'
          exact hk wi' ma' he' hQ' k1 k3)
        exact pm_J.room (pm_J.locals hJ ⟨rfl, congrArg (fun z => some (Value.int z)) en, congrArg (fun z => some (Value.int z)) em, rfl, rfl, rfl, rfl, trivial⟩) (Nat.zero_le _) (Nat.zero_le _)
      · have g3 : h < (fN f.1 + 256 - B) % 256 := Nat.lt_of_not_le (fun z => g3 (nI_le z (by omega)))
        have e : cA (f :: q) h B A = (-2, q, h, B, A) := (if_pos ⟨g1, g2⟩).trans (if_pos g3)
        rw [e] at hk
        exact hk wi' ma' he hQ' hE rfl
    · have e : cA (f :: q) h B A = (-3, q, h, B, A) := if_neg g
      rw [e] at hk
      exact pm_run 40 (And.intro hi1 (And.intro hi6 (And.intro hi7 (And.intro ⟨Nat.zero_le _, Nat.zero_le _⟩ (c_drop (w := 1) (by omega) hR hQ hq (fun wi' ma' hQ' => And.intro (fun h => absurd rfl h) (fun _ => hk wi' ma' he hQ' hE rfl)))))))
/-! comeToB -/
theorem l_mdlv {fs : Int32} : ∀ (r : Nat) (V : VF) (F D : Nat) (lo tr : Nat → Int32), r ≤ 16 → F < 256 → D + r < 2 ^ 31 → (∀ j, r ≤ j → V j = none) → rV 256 F V ca tr → (∀ tr' : Nat → Int32, rV 256 (dlv r (V, F, D, lo)).2.1 (dlv r (V, F, D, lo)).1 ca tr' → pm_J 80 d al none k kx 188 [some (.ref 16), none, none, none, none, some (.int fs), some (.int 0), some (.int 0)] [] (wm P t W T Rr Bi N (nI (dlv r (V, F, D, lo)).2.1) (nI (dlv r (V, F, D, lo)).2.2.1) we ag tk wi ma wo he ae ca tr' (dlv r (V, F, D, lo)).2.2.2 hd R) cb sb) →
    pm_J 80 d al none k kx 111 [some (.ref 16), none, none, none, none, some (.int fs), none, none] [] (wm P t W T Rr Bi N (nI F) (nI D) we ag tk wi ma wo he ae ca tr lo hd R) cb sb := by
  intro r
  induction r with
  | zero =>
    intro V F D lo tr hr16 hF hD hV hr hk
    obtain ⟨hv, hw⟩ := hr 0 (by omega)
    have ec : (nI F).toNatClampNeg = (F + 0) % 256 := by rw [nI_clamp (by omega)]; omega
    refine pm_run 60 (And.intro (vin hF (by omega)) (And.intro (fun _ => pm_J.locals (hk tr hr) ⟨rfl, rfl, rfl, rfl, trivial⟩) (fun g => absurd ?_ g)))
    rw [ec, hv, hV 0 (by omega)]
    rfl
  | succ r ih =>
    intro V F D lo tr hr16 hF hD hV hr hk
    obtain ⟨hv, hw⟩ := hr 0 (by omega)
    have ec : (nI F).toNatClampNeg = (F + 0) % 256 := by rw [nI_clamp (by omega)]; omega
    have er : nI D - nI D / Int32.ofNat 256 * Int32.ofNat 256 = nI (D % 256) := pk_rem (d := 256) (by omega) (by omega) (by omega)
    have hir : vp_in (nI D - nI D / Int32.ofNat 256 * Int32.ofNat 256) 256 := by rw [er]; exact vin (by omega) (by omega)
    have ed : (nI D - nI D / Int32.ofNat 256 * Int32.ofNat 256).toNatClampNeg = D % 256 := by rw [er, nI_clamp (by omega)]
    refine pm_run 60 (And.intro (vin hF (by omega)) (And.intro (fun g => ?_) (fun g => ?_)))
    · rw [ec, hv, bI0] at g
      have hn : V 0 = none := Option.isSome_eq_false_iff.mp g |> Option.isNone_iff_eq_none.mp
      unfold dlv at hk
      simp only [hn] at hk
      exact pm_J.locals (hk tr hr) ⟨rfl, rfl, rfl, rfl, trivial⟩
    · rw [ec, hv, bI1] at g
      obtain ⟨x, hx⟩ := Option.isSome_iff_exists.mp g
      unfold dlv at hk
      simp only [hx] at hk
      have hs := rV_shift (Or.inr rfl) hr (hV 256 (by omega))
      have e2 : (nI F + Int32.ofNat 1) &&& Int32.ofNat 255 = nI ((F + 1) % 256) := by
        show (nI F + 1) &&& 255 = _
        rw [nI_1, n255 (by omega)]
      have hJ := ih (fun i => V (i + 1)) ((F + 1) % 256) (D + 1) (upd lo (D % 256) x) (upd tr (F % 256) 0) (by omega) (Nat.mod_lt _ (by omega)) (by omega) (fun j hj => hV (j + 1) (by omega)) hs hk
      refine And.intro (by decide) (And.intro (vin hF (by omega)) (And.intro hir (And.intro (vin hF (by omega)) ?_)))
      refine pm_J.locals (M := [some (.ref 16), none, none, none, none, some (.int fs), none, none]) ?_ ⟨rfl, rfl, trivial⟩
      rw [ed, ec, hw x hx, e2]
      rw [nI_succ D] at hJ
      exact hJ
theorem l_mack {fs : Int32} (hF : F < 256) (hR : Rm ≤ 32) (hQ : rQ Rm Q wi ma) (hr : rV 256 F V ca tr) : ∀ (r i : Nat) (m : Int32), i + r = 16 → (∀ wi' ma' : Nat → Int32, rQ Rm (uQ Q 1 (if (Q 1).length < Rm then Q 1 ++ [fr (f_of 1 (nI F) 0 (akM V r i m))] else Q 1)) wi' ma' → ∀ v : Int32, (fs = 0 → v = 1) → (¬ fs = 0 → v = 0) → k (some (.int v)) (wm P 0 W T (nI Rm) Bi N (nI F) Di we ag tk wi' ma' wo he ae ca tr lo hd R)) →
    pm_J 80 (d + 3) al none k kx 188 [some (.ref 16), none, none, none, none, some (.int fs), some (.int m), some (.int (nI i))] [] (wm P 0 W T (nI Rm) Bi N (nI F) Di we ag tk wi ma wo he ae ca tr lo hd R) cb sb := by
  intro r
  induction r with
  | zero =>
    intro i m hi hk
    refine pm_run 60 (And.intro (fun _ => And.intro ⟨Nat.zero_le _, Nat.zero_le _⟩ (c_mput (w := 1) (by omega) hR hQ (fun g => ?_) (fun g wi' ma' hQ' => ?_))) (fun h => absurd (nI_le (a := 16) (by omega) (by omega)) h))
    · have hk := hk wi ma (by rw [if_neg (by omega), uQ_id rfl]; exact hQ)
      exact And.intro (fun z => hk 1 (fun _ => rfl) (fun q => absurd z q)) (fun z => hk 0 (fun q => absurd q z) (fun _ => rfl))
    · have hk := hk wi' ma' (by rw [if_pos g]; exact hQ')
      exact And.intro (fun z => hk 1 (fun _ => rfl) (fun q => absurd z q)) (fun z => hk 0 (fun q => absurd q z) (fun _ => rfl))
  | succ r ih =>
    intro i m hi hk
    obtain ⟨hv, -⟩ := hr (i + 1) (by omega)
    have en : (nI F + Int32.ofNat 1 + nI i) &&& Int32.ofNat 255 = nI ((F + (i + 1)) % 256) := by
      rw [show nI F + Int32.ofNat 1 = nI (F + 1) from nI_1 F, nI_add]
      refine (n255 (by omega)).trans (congrArg nI ?_)
      omega
    have ec : ((nI F + Int32.ofNat 1 + nI i) &&& Int32.ofNat 255).toNatClampNeg = (F + (i + 1)) % 256 := by rw [en, nI_clamp (by omega)]
    have hin : vp_in ((nI F + Int32.ofNat 1 + nI i) &&& Int32.ofNat 255) 256 := by rw [en]; exact vin (by omega) (by omega)
    refine pm_run 60 (And.intro (fun h => absurd h (nI_ge (b := 16) (by omega) (by omega))) (fun _ => And.intro hin (And.intro (fun g => ?_) (fun g => ?_))))
    · rw [ec, hv, bI0] at g
      refine pm_J.locals (M := [some (.ref 16), none, none, none, none, some (.int fs), some (.int m), some (.int (nI (i + 1)))]) (ih (i + 1) m (by omega) ?_) ⟨rfl, rfl, rfl, congrArg (fun z => some (Value.int z)) (nI_succ i).symm, trivial⟩
      unfold akM at hk
      rw [g] at hk
      exact hk
    · rw [ec, hv, bI1] at g
      refine pm_J.locals (M := [some (.ref 16), none, none, none, none, some (.int fs), some (.int (m ||| ((1 : Int32) <<< (nI i &&& 31)))), some (.int (nI (i + 1)))]) (ih (i + 1) _ (by omega) ?_) ⟨rfl, rfl, rfl, congrArg (fun z => some (Value.int z)) (nI_succ i).symm, trivial⟩
      unfold akM at hk
      rw [g] at hk
      exact hk
theorem c_mcomeB (hF : F < 256) (hW : Wn ≤ 16) (hR : Rm ≤ 32) (hD : D + 16 < 2 ^ 31) (hQ : rQ Rm Q wi ma) (hV : rV 256 F V ca tr) (hVW : ∀ j, Wn ≤ j → V j = none) (hV0 : V 0 = none) (hk : ∀ (wi' ma' ca' tr' : Nat → Int32), rQ Rm (uQ (uQ Q 0 (cB Wn Rm (Q 0) (Q 1) (V, F, D, lo)).2.1) 1 (cB Wn Rm (Q 0) (Q 1) (V, F, D, lo)).2.2.1) wi' ma' → rV 256 (cB Wn Rm (Q 0) (Q 1) (V, F, D, lo)).2.2.2.2.1 (cB Wn Rm (Q 0) (Q 1) (V, F, D, lo)).2.2.2.1 ca' tr' → k (some (.int (cB Wn Rm (Q 0) (Q 1) (V, F, D, lo)).1)) (wm P 0 (nI Wn) T (nI Rm) Bi N (nI (cB Wn Rm (Q 0) (Q 1) (V, F, D, lo)).2.2.2.2.1) (nI (cB Wn Rm (Q 0) (Q 1) (V, F, D, lo)).2.2.2.2.2.1) we ag tk wi' ma' wo he ae ca' tr' (cB Wn Rm (Q 0) (Q 1) (V, F, D, lo)).2.2.2.2.2.2 hd R)) : pm_C 80 (d + 3) al [.ref 16] (wm P t (nI Wn) T (nI Rm) Bi N (nI F) (nI D) we ag tk wi ma wo he ae ca tr lo hd R) k kx := by
  obtain ⟨q1, q2, q3⟩ := hQ 0 (by omega)
  match hq : Q 0 with
  | [] =>
    rw [hq] at hk q2
    have hk := hk wi ma ca tr (by show rQ Rm (uQ (uQ Q 0 []) 1 (Q 1)) wi ma; rw [uQ_id (Q := Q) (w := 0) hq.symm, uQ_id rfl]; exact hQ) hV
    refine pm_Ci rfl (pm_run 60 (And.intro (vin (n := 0) (by omega) (by omega)) (And.intro (fun h => absurd ?_ h) (fun _ => hk))))
    exact q2
  | f :: q =>
    rw [hq] at hk q1 q2 q3
    have hb : ∀ j, j < 12 → wi (0 + j) = nI (fB f j) := fun j hj => q1 0 f rfl j hj
    have hi1 : vp_in (nI (384 * 0 + 12 * 0) + Int32.ofNat 1) 768 := ix2 (b := 1) (by omega) (by omega)
    have e1 : wi (nI (384 * 0 + 12 * 0) + Int32.ofNat 1).toNatClampNeg = f_num f.1 := by
      rw [show (nI (384 * 0 + 12 * 0) + Int32.ofNat 1).toNatClampNeg = 0 + 1 from cl2 (b := 1) (by omega), hb 1 (by omega), fB_num]
    obtain ⟨en, hn⟩ := fN_ok f.1
    have ebb : (f_num f.1 - nI F) &&& 255 = nI ((fN f.1 + 256 - F) % 256) := by rw [en]; exact nsub (by omega) (by omega)
    have hne : ¬ ma 0 = 0 := by
      rw [q2]
      exact nI_ne0 (by simp) (by simp only [List.length_cons] at q3 ⊢; omega)
    have e2 : nI (384 * 0 + 12 * 0) + Int32.ofNat 2 = nI 2 := nI_add 0 2
    refine pm_Ci rfl (pm_run 17 (And.intro (vin (n := 0) (by omega) (by omega)) (And.intro (fun _ => And.intro ⟨Nat.zero_le _, Nat.zero_le _⟩ (c_at (w := 0) (i := 0) (And.intro ⟨Nat.zero_le _, Nat.zero_le _⟩ (c_mgood (w := 0) (by omega) hR hQ hq (fun g1 g2 => ?_) (fun g => ?_))))) (fun h => absurd h hne))))
    · refine pm_run 12 (And.intro hi1 (And.intro ⟨Nat.zero_le _, Nat.zero_le _⟩ ?_))
      rw [e2]
      refine c_bytes (fun i => fB f (2 + i)) (fun i => fB_lt f _) (n := 4) (by omega) (by omega) (fun i hi => ?_) ?_
      · have := hb (2 + i) (by omega)
        rw [Nat.zero_add] at this
        exact this
      refine pm_run 2 (pm_J.locals (M := [some (.ref 16), none, some (.int 1), some (.int (nI (fN f.1))), some (.int (f_word f.1)), none, none, none]) ?_ ⟨rfl, rfl, congrArg (fun z => some (Value.int z)) (e1.trans en), congrArg (fun z => some (Value.int z)) (acW f), trivial⟩)
      obtain ⟨bb, hbb⟩ : ∃ bb, bb = (fN f.1 + 256 - F) % 256 := ⟨_, rfl⟩
      have e0 : cB Wn Rm (f :: q) (Q 1) (V, F, D, lo) = if bb < Wn ∧ (V bb).isSome = false then
        (0, q, akQ Rm (Q 1) (dlv 16 (uV V bb (f_word f.1), F, D, lo)).2.1 (dlv 16 (uV V bb (f_word f.1), F, D, lo)).1, dlv 16 (uV V bb (f_word f.1), F, D, lo))
      else (1, q, akQ Rm (Q 1) F V, V, F, D, lo) := by
        rw [hbb]
        exact if_pos ⟨g1, g2⟩
      rw [en, ← hbb] at ebb
      have hnb : fN f.1 = (F + bb) % 256 := by omega
      have ecn : (nI (fN f.1)).toNatClampNeg = (F + bb) % 256 := by rw [nI_clamp (by omega)]; exact hnb
      have hinn : vp_in (nI (fN f.1)) 256 := vin hn (by omega)
      have h256 : bb < 256 := by omega
      refine pm_run 12 (And.intro ⟨Nat.zero_le _, Nat.zero_le _⟩ (c_drop (w := 0) (by omega) hR hQ hq (fun wi' ma' hQ' => And.intro (fun _ => And.intro ⟨Nat.zero_le _, Nat.zero_le _⟩ (c_far (u := []) (e0 := .inr (0, [])) ?_)) (fun h => absurd h (by decide)))))
      rw [ebb]
      have eu : uQ Q 0 q 1 = Q 1 := if_neg (by omega)
      have old : ¬ (bb < Wn ∧ (V bb).isSome = false) → pm_J 80 (d + 3) al none k kx 111 [some (.ref 16), none, none, none, none, some (.int 0), none, none] [] (wm P 0 (nI Wn) T (nI Rm) Bi N (nI F) (nI D) we ag tk wi' ma' wo he ae ca tr lo hd R) 0 0 := fun z => by
        rw [e0, if_neg z] at hk
        have ed : dlv 16 (V, F, D, lo) = (V, F, D, lo) := by unfold dlv; simp only [hV0]
        refine l_mdlv 16 V F D lo tr (by omega) hF (by omega) (fun j hj => hVW j (by omega)) hV (fun tr' hV' => ?_)
        rw [ed] at hV' ⊢
        exact l_mack (fs := 0) hF hR hQ' hV' 16 0 0 rfl (fun wi2 ma2 hQ2 v hv _ => by
          rw [hv rfl]
          rw [eu] at hQ2
          exact hk wi2 ma2 ca tr' hQ2 hV')
      refine pm_run 40 (And.intro (fun g3 => And.intro (fun _ => pm_J.room (pm_J.locals (old ?_) ⟨rfl, rfl, trivial⟩) (Nat.zero_le _) (Nat.zero_le _)) (fun h => absurd rfl h)) (fun g3 => And.intro hinn (And.intro (fun g4 => And.intro (fun _ => pm_J.room (pm_J.locals (old ?_) ⟨rfl, rfl, trivial⟩) (Nat.zero_le _) (Nat.zero_le _)) (fun h => absurd rfl h)) (fun g4 => And.intro (fun h => absurd h (by decide)) (fun _ => And.intro hinn (And.intro hinn ?_))))))
      · have := (nI_leI (by omega) (by omega)).mp g3
        omega
      · rw [ecn, (hV bb (by omega)).1, bI1] at g4
        rw [g4]
        exact fun z => absurd z.2 (by decide)
      · rw [ecn, (hV bb (by omega)).1, bI0] at g4
        have hlt : bb < Wn := Nat.lt_of_not_le (fun z => g3 (nI_le z (by omega)))
        rw [e0, if_pos ⟨hlt, g4⟩] at hk
        obtain ⟨k1, k2, k3⟩ := dlv_ok 16 (uV V bb (f_word f.1), F, D, lo) hF (fun j hj => (if_neg (by omega)).trans (hVW j (by omega)))
        refine pm_J.room (cb := 0) (sb := 0) (pm_J.locals (M := [some (.ref 16), none, none, none, none, some (.int 1), none, none]) ?_ ⟨rfl, rfl, trivial⟩) (Nat.zero_le _) (Nat.zero_le _)
        rw [ecn]
        refine l_mdlv 16 (uV V bb (f_word f.1)) F D lo _ (by omega) hF (by omega) (fun j hj => (if_neg (by omega)).trans (hVW j (by omega))) (rV_put (Or.inr rfl) hV h256) (fun tr' hV' => ?_)
        exact l_mack (fs := 1) k1 hR hQ' hV' 16 0 0 rfl (fun wi2 ma2 hQ2 v _ hv => by
          rw [hv (by decide)]
          rw [eu] at hQ2
          exact hk wi2 ma2 _ tr' hQ2 hV')
    · have e : cB Wn Rm (f :: q) (Q 1) (V, F, D, lo) = (2, q, Q 1, V, F, D, lo) := if_neg g
      rw [e] at hk
      refine pm_run 12 (And.intro hi1 (And.intro ⟨Nat.zero_le _, Nat.zero_le _⟩ ?_))
      rw [e2]
      refine c_bytes (fun i => fB f (2 + i)) (fun i => fB_lt f _) (n := 4) (by omega) (by omega) (fun i hi => ?_) ?_
      · have := hb (2 + i) (by omega)
        rw [Nat.zero_add] at this
        exact this
      refine pm_run 40 (And.intro ⟨Nat.zero_le _, Nat.zero_le _⟩ (c_drop (w := 0) (by omega) hR hQ hq (fun wi' ma' hQ' => And.intro (fun h => absurd rfl h) (fun _ => hk wi' ma' ca tr ?_ hV))))
      show rQ Rm (uQ (uQ Q 0 q) 1 (Q 1)) wi' ma'
      rw [uQ_id (Q := uQ Q 0 q) (w := 1) (if_neg (by omega)).symm]
      exact hQ'
end PM4
end
section
/-! WHAT IS TOLD; the link's small calls; the constructors -/
def tdA (B h F : Nat) (A : EF) (V : VF) (qa qb : Qu) (tk ag : Int32) : Nat → Int32
  | 0 => nI B
  | 1 => nI ((B + h) % 256)
  | 2 => nI F
  | 3 => nI (unN A h 0 0)
  | 4 => nI (cV V 16)
  | 5 => nI qa.length
  | 6 => nI qb.length
  | 7 => tk + ag
  | 8 => ag
  | _ => tk
def tdG (w h : Nat) (A : EF) (tr : Nat → Int32) (k : Nat) : Nat := if w = 3 then (if k < h ∧ (A k).2.2 = false then 1 else 0) else if w = 4 then (if tr k = 0 then 0 else 1) else 0
theorem unN_sm (A : EF) : ∀ (r i : Nat), unN A r i (smN (fun k => if (A k).2.2 = false then 1 else 0) i) = smN (fun k => if (A k).2.2 = false then 1 else 0) (i + r)
  | 0, i => rfl
  | r + 1, i => by
    rw [unN, show i + (r + 1) = i + 1 + r by omega, ← unN_sm A r (i + 1), smN]
    cases (A i).2.2 <;> rfl
theorem tdG_3 (h : Nat) (A : EF) (tr : Nat → Int32) (hh : h ≤ 16) : smN (tdG 3 h A tr) 256 = unN A h 0 0 := by
  have e := unN_sm A h 0
  rw [Nat.zero_add] at e
  have e2 : smN (fun k => if (A k).2.2 = false then 1 else 0) 0 = 0 := rfl
  rw [e2] at e
  rw [e, show (256 : Nat) = h + (256 - h) by omega, smN_0 h (256 - h) (fun i hi => by
    show tdG 3 h A tr i = 0
    rw [tdG, if_pos rfl, if_neg (by omega)])]
  exact smN_ext h (fun i hi => by
    show tdG 3 h A tr i = _
    rw [tdG, if_pos rfl]
    simp [hi])
theorem tdG_4 {F h : Nat} {A : EF} {V : VF} {ca tr : Nat → Int32} (hr : rV 256 F V ca tr) (hV : ∀ j, 16 ≤ j → V j = none) : smN (tdG 4 h A tr) 256 = cV V 16 := by
  rw [← rV_cnt (Or.inr rfl) hr hV]
  exact smN_ext 256 (fun i _ => by
    show tdG 4 h A tr i = _
    rw [tdG, if_neg (by decide), if_pos rfl])
section PM5
variable {d : Nat} {al : Bool} {k : pm_K} {kx : pm_X} {cb sb : Nat} {R : pm_D} {P : LkP} {t W T Rr Bi N Fi Di we ag tk : Int32} {wi ma wo he ae ca tr lo hd : Nat → Int32} {Wn Rm B h F D : Nat} {Q : Nat → Qu} {A : EF} {V : VF}
theorem l_mtold {w : Nat} (hw : w ≤ 9) (hB : B < 256) (hh : h ≤ 16) (hE : rE 256 B h A wo ae he) : ∀ (r i : Nat), i + r = 256 → pm_J 89 d al none k kx 113 [some (.ref 16), some (.int (nI w)), some (.int (nI (smN (tdG w h A tr) 256))), none, none] [] (wm P t W T Rr (nI B) N Fi Di we ag tk wi ma wo he ae ca tr lo hd R) cb sb →
    pm_J 89 d al none k kx 46 [some (.ref 16), some (.int (nI w)), some (.int (nI (smN (tdG w h A tr) i))), some (.int (nI h)), some (.int (nI i))] [] (wm P t W T Rr (nI B) N Fi Di we ag tk wi ma wo he ae ca tr lo hd R) cb sb := by
  intro r
  induction r with
  | zero =>
    intro i hi hk
    have : i = 256 := by omega
    subst this
    exact pm_run 3 (And.intro (fun _ => pm_J.locals hk ⟨rfl, rfl, rfl, trivial⟩) (fun h => absurd (nI_le (a := 256) (by omega) (by omega)) h))
  | succ r ih =>
    intro i hi hk
    have J := ih (i + 1) (by omega) hk
    have hw3 : nI w = Int32.ofNat 3 ↔ w = 3 := nI_eq (b := 3) (by omega) (by omega)
    have hw4 : nI w = Int32.ofNat 4 ↔ w = 4 := nI_eq (b := 4) (by omega) (by omega)
    have en : (nI B + nI i) &&& Int32.ofNat 255 = nI ((B + i) % 256) := plus256 (by omega) (by omega)
    have hin : vp_in ((nI B + nI i) &&& Int32.ofNat 255) 256 := by rw [en]; exact vin (by omega) (by omega)
    have ec : ((nI B + nI i) &&& Int32.ofNat 255).toNatClampNeg = (B + i) % 256 := by rw [en, nI_clamp (by omega)]
    have J0 : tdG w h A tr i = 0 → pm_J 89 d al none k kx 46 [some (.ref 16), some (.int (nI w)), some (.int (nI (smN (tdG w h A tr) i))), some (.int (nI h)), some (.int (nI i + Int32.ofNat 1))] [] (wm P t W T Rr (nI B) N Fi Di we ag tk wi ma wo he ae ca tr lo hd R) cb sb := fun z => by
      rw [smN, z, Nat.add_zero, nI_succ i] at J
      exact J
    have J1 : tdG w h A tr i = 1 → pm_J 89 d al none k kx 46 [some (.ref 16), some (.int (nI w)), some (.int (nI (smN (tdG w h A tr) i) + Int32.ofNat 1)), some (.int (nI h)), some (.int (nI i + Int32.ofNat 1))] [] (wm P t W T Rr (nI B) N Fi Di we ag tk wi ma wo he ae ca tr lo hd R) cb sb := fun z => by
      rw [smN, z, nI_succ, nI_succ i] at J
      exact J
    refine pm_run 60 (And.intro (fun h => absurd h (nI_ge (b := 256) (by omega) (by omega))) (fun _ => And.intro (fun g => ?_) (fun g => And.intro (fun g2 => ?_) (fun g2 => And.intro hin (And.intro (fun g3 => J1 ?_) (fun g3 => ?_))))))
    · have g : ¬ w = 3 := fun z => g (hw3.mpr z)
      refine And.intro (fun g4 => J0 ?_) (fun g4 => And.intro (vin (by omega) (by omega)) (And.intro (fun g5 => J0 ?_) (fun g5 => J1 ?_)))
      · rw [tdG, if_neg g, if_neg (fun z => g4 (hw4.mpr z))]
      · rw [nI_clamp (by omega)] at g5
        rw [tdG, if_neg g, if_pos (hw4.mp g4), if_pos g5]
      · rw [nI_clamp (by omega)] at g5
        rw [tdG, if_neg g, if_pos (hw4.mp g4), if_neg g5]
    · have g : w = 3 := hw3.mp g
      refine And.intro (fun g4 => J0 ?_) (fun g4 => absurd (hw4.mp g4) (by omega))
      rw [tdG, if_pos g, if_neg (fun z => absurd (nI_ge z.1 (by omega)) (fun q => q g2))]
    · have g : w = 3 := hw3.mp g
      have hl : i < h := Nat.lt_of_not_le (fun z => g2 (nI_le z (by omega)))
      rw [ec, (hE i hl).2.2, bI0] at g3
      rw [tdG, if_pos g, if_pos ⟨hl, g3⟩]
    · have g : w = 3 := hw3.mp g
      have hl : i < h := Nat.lt_of_not_le (fun z => g2 (nI_le z (by omega)))
      rw [ec, (hE i hl).2.2, bI1] at g3
      refine And.intro (fun g4 => J0 ?_) (fun g4 => absurd (hw4.mp g4) (by omega))
      rw [tdG, if_pos g, if_neg (fun z => absurd (g3.symm.trans z.2) (by decide))]
theorem e_mtold0 {n : Int32} (hk : k (some (.int Bi)) (wm P t W T Rr Bi N Fi Di we ag tk wi ma wo he ae ca tr lo hd R)) : pm_J 89 d al none k kx 113 [some (.ref 16), some (.int (nI 0)), some (.int n), none, none] [] (wm P t W T Rr Bi N Fi Di we ag tk wi ma wo he ae ca tr lo hd R) cb sb := pm_run 40 (And.intro (fun h => absurd rfl h) (fun _ => hk))
theorem e_mtold1 {n : Int32} (hk : k (some (.int N)) (wm P t W T Rr Bi N Fi Di we ag tk wi ma wo he ae ca tr lo hd R)) : pm_J 89 d al none k kx 113 [some (.ref 16), some (.int (nI 1)), some (.int n), none, none] [] (wm P t W T Rr Bi N Fi Di we ag tk wi ma wo he ae ca tr lo hd R) cb sb := pm_run 40 (And.intro (fun _ => (And.intro (fun h => absurd rfl h) (fun _ => hk))) (fun h => absurd h (by decide)))
theorem e_mtold2 {n : Int32} (hk : k (some (.int Fi)) (wm P t W T Rr Bi N Fi Di we ag tk wi ma wo he ae ca tr lo hd R)) : pm_J 89 d al none k kx 113 [some (.ref 16), some (.int (nI 2)), some (.int n), none, none] [] (wm P t W T Rr Bi N Fi Di we ag tk wi ma wo he ae ca tr lo hd R) cb sb := pm_run 40 (And.intro (fun _ => (And.intro (fun _ => (And.intro (fun h => absurd rfl h) (fun _ => hk))) (fun h => absurd h (by decide)))) (fun h => absurd h (by decide)))
theorem e_mtold3 {n : Int32} (hk : k (some (.int n)) (wm P t W T Rr Bi N Fi Di we ag tk wi ma wo he ae ca tr lo hd R)) : pm_J 89 d al none k kx 113 [some (.ref 16), some (.int (nI 3)), some (.int n), none, none] [] (wm P t W T Rr Bi N Fi Di we ag tk wi ma wo he ae ca tr lo hd R) cb sb := pm_run 40 (And.intro (fun _ => (And.intro (fun _ => (And.intro (fun _ => (And.intro (fun h => absurd h (by decide)) (fun _ => hk))) (fun h => absurd h (by decide)))) (fun h => absurd h (by decide)))) (fun h => absurd h (by decide)))
theorem e_mtold4 {n : Int32} (hk : k (some (.int n)) (wm P t W T Rr Bi N Fi Di we ag tk wi ma wo he ae ca tr lo hd R)) : pm_J 89 d al none k kx 113 [some (.ref 16), some (.int (nI 4)), some (.int n), none, none] [] (wm P t W T Rr Bi N Fi Di we ag tk wi ma wo he ae ca tr lo hd R) cb sb := pm_run 40 (And.intro (fun _ => (And.intro (fun _ => (And.intro (fun _ => (And.intro (fun h => absurd h (by decide)) (fun _ => hk))) (fun h => absurd h (by decide)))) (fun h => absurd h (by decide)))) (fun h => absurd h (by decide)))
theorem e_mtold5 {n : Int32} (hk : k (some (.int (ma 0))) (wm P t W T Rr Bi N Fi Di we ag tk wi ma wo he ae ca tr lo hd R)) : pm_J 89 d al none k kx 113 [some (.ref 16), some (.int (nI 5)), some (.int n), none, none] [] (wm P t W T Rr Bi N Fi Di we ag tk wi ma wo he ae ca tr lo hd R) cb sb := pm_run 40 (And.intro (fun _ => (And.intro (fun _ => (And.intro (fun _ => (And.intro (fun _ => (And.intro (fun h => absurd h (by decide)) (fun _ => (And.intro (vin (n := 0) (by omega) (by omega)) hk)))) (fun h => absurd (by decide) h))) (fun h => absurd h (by decide)))) (fun h => absurd h (by decide)))) (fun h => absurd h (by decide)))
theorem e_mtold6 {n : Int32} (hk : k (some (.int (ma 1))) (wm P t W T Rr Bi N Fi Di we ag tk wi ma wo he ae ca tr lo hd R)) : pm_J 89 d al none k kx 113 [some (.ref 16), some (.int (nI 6)), some (.int n), none, none] [] (wm P t W T Rr Bi N Fi Di we ag tk wi ma wo he ae ca tr lo hd R) cb sb := pm_run 40 (And.intro (fun _ => (And.intro (fun _ => (And.intro (fun _ => (And.intro (fun _ => (And.intro (fun h => absurd h (by decide)) (fun _ => (And.intro (vin (n := 1) (by omega) (by omega)) hk)))) (fun h => absurd (by decide) h))) (fun h => absurd h (by decide)))) (fun h => absurd h (by decide)))) (fun h => absurd h (by decide)))
theorem e_mtold7 {n : Int32} (hk : k (some (.int we)) (wm P t W T Rr Bi N Fi Di we ag tk wi ma wo he ae ca tr lo hd R)) : pm_J 89 d al none k kx 113 [some (.ref 16), some (.int (nI 7)), some (.int n), none, none] [] (wm P t W T Rr Bi N Fi Di we ag tk wi ma wo he ae ca tr lo hd R) cb sb := pm_run 40 (And.intro (fun _ => (And.intro (fun _ => (And.intro (fun _ => (And.intro (fun _ => (And.intro (fun _ => (And.intro (fun h => absurd rfl h) (fun _ => hk))) (fun h => absurd (by decide) h))) (fun h => absurd (by decide) h))) (fun h => absurd h (by decide)))) (fun h => absurd h (by decide)))) (fun h => absurd h (by decide)))
theorem e_mtold8 {n : Int32} (hk : k (some (.int ag)) (wm P t W T Rr Bi N Fi Di we ag tk wi ma wo he ae ca tr lo hd R)) : pm_J 89 d al none k kx 113 [some (.ref 16), some (.int (nI 8)), some (.int n), none, none] [] (wm P t W T Rr Bi N Fi Di we ag tk wi ma wo he ae ca tr lo hd R) cb sb := pm_run 40 (And.intro (fun _ => (And.intro (fun _ => (And.intro (fun _ => (And.intro (fun _ => (And.intro (fun _ => (And.intro (fun _ => (And.intro (fun h => absurd rfl h) (fun _ => hk))) (fun h => absurd h (by decide)))) (fun h => absurd (by decide) h))) (fun h => absurd (by decide) h))) (fun h => absurd h (by decide)))) (fun h => absurd h (by decide)))) (fun h => absurd h (by decide)))
theorem e_mtold9 {n : Int32} (hk : k (some (.int tk)) (wm P t W T Rr Bi N Fi Di we ag tk wi ma wo he ae ca tr lo hd R)) : pm_J 89 d al none k kx 113 [some (.ref 16), some (.int (nI 9)), some (.int n), none, none] [] (wm P t W T Rr Bi N Fi Di we ag tk wi ma wo he ae ca tr lo hd R) cb sb := pm_run 40 (And.intro (fun _ => (And.intro (fun _ => (And.intro (fun _ => (And.intro (fun _ => (And.intro (fun _ => (And.intro (fun _ => (And.intro (fun _ => hk) (fun h => absurd h (by decide)))) (fun h => absurd h (by decide)))) (fun h => absurd (by decide) h))) (fun h => absurd (by decide) h))) (fun h => absurd h (by decide)))) (fun h => absurd h (by decide)))) (fun h => absurd h (by decide)))
theorem c_mtoldX {x : Int32} (hx : x < 0 ∨ 9 < x) (hk : k (some (.int 0)) (wm P 1 W T Rr Bi N Fi Di we ag tk wi ma wo he ae ca tr lo hd R)) : pm_C 89 d al [.ref 16, .int x] (wm P t W T Rr Bi N Fi Di we ag tk wi ma wo he ae ca tr lo hd R) k kx :=
  have hb : ∀ {Y : Prop}, ((1 : Int32) ≤ 0 → Y) ∧ (¬ (1 : Int32) ≤ 0 → k (some (.int 0)) (wm P 1 W T Rr Bi N Fi Di we ag tk wi ma wo he ae ca tr lo hd R)) := fun {Y} => And.intro (fun h => absurd h (by decide)) (fun _ => hk)
  pm_Ci rfl (pm_run 60 (And.intro (fun _ => hb) (fun h1 => And.intro (fun h2 => absurd hx (fun z => z.elim h1 (fun z => absurd h2 (Int32.not_le.mpr z)))) (fun _ => hb))))
theorem c_mtold {w : Nat} (hw : w ≤ 9) (hB : B < 256) (hh : h ≤ 16) (hE : rE 256 B h A wo ae he) (hV : rV 256 F V ca tr) (hV16 : ∀ j, 16 ≤ j → V j = none) (hQ : rQ Rm Q wi ma) (hk : k (some (.int (tdA B h F A V (Q 0) (Q 1) tk ag w))) (wm P 0 W T Rr (nI B) (nI ((B + h) % 256)) (nI F) Di (tk + ag) ag tk wi ma wo he ae ca tr lo hd R)) : pm_C 89 (d + 1) al [.ref 16, .int (nI w)] (wm P t W T Rr (nI B) (nI ((B + h) % 256)) (nI F) Di (tk + ag) ag tk wi ma wo he ae ca tr lo hd R) k kx := by
  refine pm_Ci rfl (pm_run 60 (And.intro (fun h => absurd h (nI_pos (by omega))) (fun _ => And.intro (fun _ => And.intro (fun _ => And.intro ⟨Nat.zero_le _, Nat.zero_le _⟩ (c_far (u := []) (e0 := .inr (0, [])) ?_)) (fun h => absurd (by decide) h)) (fun h => absurd (nI_le (b := 9) (by omega) (by omega)) h))))
  rw [held_eq hB hh]
  refine pm_J.room (cb := 0) (sb := 0) (l_mtold (A := A) hw hB hh hE 256 0 (by omega) ?_) (Nat.zero_le _) (Nat.zero_le _)
  match w, hw, hk with
  | 0, _, hk => exact e_mtold0 hk
  | 1, _, hk => exact e_mtold1 hk
  | 2, _, hk => exact e_mtold2 hk
  | 3, _, hk => exact e_mtold3 (by rw [tdG_3 h A tr hh]; exact hk)
  | 4, _, hk => exact e_mtold4 (by rw [tdG_4 hV hV16]; exact hk)
  | 5, _, hk => exact e_mtold5 (by rw [(hQ 0 (by omega)).2.1]; exact hk)
  | 6, _, hk => exact e_mtold6 (by rw [(hQ 1 (by omega)).2.1]; exact hk)
  | 7, _, hk => exact e_mtold7 hk
  | 8, _, hk => exact e_mtold8 hk
  | 9, _, hk => exact e_mtold9 hk
end PM5
section PL2
variable {d : Nat} {al : Bool} {k : pm_K} {kx : pm_X} {cb sb : Nat} {R : pm_D} {Wn Rm B h F D : Nat} {T tk ag : Int32} {qa qb : Qu} {A : EF} {V : VF} {LG : Nat → Int32} {P : LkP}
theorem td_out {x : Int32} (h : ∀ i, i ≤ 9 → ¬ x = nI i) : x < 0 ∨ 9 < x := by
  by_cases h0 : x < 0
  · exact Or.inl h0
  · refine Or.inr (Int32.not_le.mp (fun h9 => ?_))
    obtain ⟨j, hj, e⟩ := nI_of2 (n := 9) (M := 9) (by decide) h0 h9
    exact h j hj e
theorem c_told {x : Int32} (iv : IV Wn Rm B h F V) (hL : rLk Wn Rm T qa qb B h A tk ag F V D LG P) (hx : (x < 0 ∨ 9 < x) → kx pm_IA (wl P R)) (hk : ∀ w, w ≤ 9 → x = nI w → k (some (.int (tdA B h F A V qa qb tk ag w))) (wl P R)) : pm_C 60 (d + 6) false [.ref 1, .int x] (wl P R) k kx := by
  obtain ⟨i1, i2, i3, i4, i5, i6, i7, i8, i9⟩ := iv
  obtain ⟨pa, pb, s, r⟩ := P
  obtain ⟨ha, hb, ⟨ws, ags, ack, rfl, hE⟩, ⟨rw, th, rfl, hV⟩⟩ := hL
  have hk5 := hk 5 (by omega)
  have hk6 := hk 6 (by omega)
  have ea : pa.2.1 = nI qa.length := by
    obtain ⟨O, w1, w2, w3, w4, w5, w6, w7, w8⟩ := ha
    exact w3
  have eb : pb.2.1 = nI qb.length := by
    obtain ⟨O, w1, w2, w3, w4, w5, w6, w7, w8⟩ := hb
    exact w3
  have e4 : smN (fun j => if th j = 0 then 0 else 1) 16 = cV V 16 := rV_cnt (Or.inl rfl) hV (fun j hj => i8 j (by omega))
  refine pm_Ci rfl (pm_run 60 (And.intro (fun g => hk 0 (by omega) g) (fun g0 => And.intro (fun g => hk 1 (by omega) g) (fun g1 => And.intro (fun g => hk 2 (by omega) g) (fun g2 => And.intro (fun g => And.intro ⟨Nat.zero_le _, Nat.zero_le _⟩ (c_unack i5 (by omega) rfl hE (hk 3 (by omega) g))) (fun g3 => And.intro (fun g => And.intro ⟨Nat.zero_le _, Nat.zero_le _⟩ (c_gap (by rw [e4]; exact hk 4 (by omega) g))) (fun g4 => And.intro (fun g => And.intro ⟨Nat.zero_le _, Nat.zero_le _⟩ (c_size_A ((fun z hz => by rw [hz]; exact hk5 g : ∀ z, z = nI qa.length → k (some (.int z)) (wl (pa, pb, (nI Wn, T, nI B, nI ((B + h) % 256), tk, ag, ws, ags, ack), (rw, th, LG, nI Wn, nI F, nI D)) R)) _ ea))) (fun g5 => And.intro (fun g => And.intro ⟨Nat.zero_le _, Nat.zero_le _⟩ (c_size_B ((fun z hz => by rw [hz]; exact hk6 g : ∀ z, z = nI qb.length → k (some (.int z)) (wl (pa, pb, (nI Wn, T, nI B, nI ((B + h) % 256), tk, ag, ws, ags, ack), (rw, th, LG, nI Wn, nI F, nI D)) R)) _ eb))) (fun g6 => And.intro (fun g => hk 7 (by omega) g) (fun g7 => And.intro (fun g => hk 8 (by omega) g) (fun g8 => And.intro (fun g => hk 9 (by omega) g) (fun g9 => And.intro ⟨Nat.le_add_left _ _, by decide, by decide⟩ (hx (td_out (fun i hi => ?_)))))))))))))))
  match i, hi with
  | 0, _ => exact g0
  | 1, _ => exact g1
  | 2, _ => exact g2
  | 3, _ => exact g3
  | 4, _ => exact g4
  | 5, _ => exact g5
  | 6, _ => exact g6
  | 7, _ => exact g7
  | 8, _ => exact g8
  | 9, _ => exact g9
theorem c_delivered (hL : rLk Wn Rm T qa qb B h A tk ag F V D LG P) (hk : k (some (.int (nI D))) (wl P R)) : pm_C 57 (d + 1) al [.ref 1] (wl P R) k kx := by
  obtain ⟨pa, pb, s, r⟩ := P
  obtain ⟨ha, hb, hs, ⟨rw, th, rfl, hV⟩⟩ := hL
  exact pm_Ci rfl (pm_run 40 (And.intro ⟨Nat.zero_le _, Nat.zero_le _⟩ (c_dCount hk)))
theorem c_word {x : Int32} (hL : rLk Wn Rm T qa qb B h A tk ag F V D LG P) (hx : (x < 0 ∨ nI D ≤ x ∨ x < nI D - 256) → kx pm_IO (wl P R)) (hk : ∀ i : Nat, i < 2 ^ 31 → x = nI i → ¬ (x < 0 ∨ nI D ≤ x ∨ x < nI D - 256) → k (some (.int (LG (i % 256)))) (wl P R)) : pm_C 58 (d + 6) false [.ref 1, .int x] (wl P R) k kx := by
  obtain ⟨pa, pb, s, r⟩ := P
  obtain ⟨ha, hb, hs, ⟨rw, th, rfl, hV⟩⟩ := hL
  refine pm_Ci rfl (pm_run 40 (And.intro ⟨Nat.zero_le _, Nat.zero_le _⟩ (c_keeps (fun g1 g2 g3 => And.intro (fun _ => And.intro ⟨Nat.zero_le _, Nat.zero_le _⟩ (c_kept ?_)) (fun h => absurd h (by decide))) (fun g => And.intro (fun h => absurd rfl h) (fun _ => And.intro ⟨Nat.le_add_left _ _, by decide, by decide⟩ (hx g))))))
  obtain ⟨i, hi, rfl⟩ := nI_of g1
  have e : (nI i &&& 255).toNatClampNeg = i % 256 := by rw [n255 (by omega), nI_clamp (by omega)]
  rw [e]
  exact hk i hi rfl (fun z => z.elim g1 (fun z => z.elim g2 g3))
theorem c_sum {x : Int64} {w : pm_D} {e0 : va_E} (hk : k (some (.int (f_sum x))) (wl P R)) : pm_C 61 (d + 2) al [.ref 1, .long x] (wl P R) k kx := pm_Ci rfl (pm_run 40 (And.intro ⟨Nat.zero_le _, Nat.zero_le _⟩ (c_checkSum hk)))
end PL2
end
section
/-! THE CONSTRUCTORS -/
section PI
variable {d : Nat} {k : pm_K} {kx : pm_X}
theorem c_initA {e1 : va_E} (hk : k none [e1, .inr (2, [.ref 3, .ref 4, .int 0, .int 0, .int 0]), .inl (1, 32, .inr (.inl fun _ => 0)), .inl (0, 32, .inl fun _ => 0)]) : pm_C 32 (d + 1) true [.ref 2] [e1, .inr (2, [.null, .null, .int 0, .int 0, .int 0])] k kx :=
  pm_Ci rfl (pm_run 40 (And.intro (Nat.le_add_left 1 d) (And.intro ⟨rfl, by decide, by decide⟩ (And.intro ⟨rfl, by decide, by decide⟩ hk))))
theorem c_initB {e1 e2 e3 e4 : va_E} (hk : k none [e1, e2, e3, e4, .inr (2, [.ref 6, .ref 7, .int 0, .int 0, .int 0]), .inl (1, 32, .inr (.inl fun _ => 0)), .inl (0, 32, .inl fun _ => 0)]) : pm_C 32 (d + 1) true [.ref 5] [e1, e2, e3, e4, .inr (2, [.null, .null, .int 0, .int 0, .int 0])] k kx :=
  pm_Ci rfl (pm_run 40 (And.intro (Nat.le_add_left 1 d) (And.intro ⟨rfl, by decide, by decide⟩ (And.intro ⟨rfl, by decide, by decide⟩ hk))))
theorem c_initS {e1 e2 e3 e4 e5 e6 e7 : va_E} (hk : k none [e1, e2, e3, e4, e5, e6, e7, .inr (1, [.ref 9, .ref 10, .ref 11, .int 0, .int 0, .int 0, .int 0, .int 0, .int 0]), .inl (0, 16, .inl fun _ => 0), .inl (0, 16, .inl fun _ => 0), .inl (2, 16, .inl fun _ => 0)]) : pm_C 19 (d + 1) true [.ref 8] [e1, e2, e3, e4, e5, e6, e7, .inr (1, [.null, .null, .null, .int 0, .int 0, .int 0, .int 0, .int 0, .int 0])] k kx :=
  pm_Ci rfl (pm_run 40 (And.intro (Nat.le_add_left 1 d) (And.intro ⟨rfl, by decide, by decide⟩ (And.intro ⟨rfl, by decide, by decide⟩ (And.intro ⟨rfl, by decide, by decide⟩ hk)))))
theorem c_initR {e1 e2 e3 e4 e5 e6 e7 e8 e9 e10 e11 : va_E} (hk : k none [e1, e2, e3, e4, e5, e6, e7, e8, e9, e10, e11, .inr (0, [.ref 13, .ref 14, .ref 15, .int 0, .int 0, .int 0]), .inl (0, 16, .inl fun _ => 0), .inl (2, 16, .inl fun _ => 0), .inl (0, 256, .inl fun _ => 0)]) : pm_C 10 (d + 1) true [.ref 12] [e1, e2, e3, e4, e5, e6, e7, e8, e9, e10, e11, .inr (0, [.null, .null, .null, .int 0, .int 0, .int 0])] k kx :=
  pm_Ci rfl (pm_run 40 (And.intro (Nat.le_add_left 1 d) (And.intro ⟨rfl, by decide, by decide⟩ (And.intro ⟨rfl, by decide, by decide⟩ (And.intro ⟨rfl, by decide, by decide⟩ hk)))))
theorem c_init {A : EF} (hk : ∀ P', rLk 4 8 3 [] [] 0 0 A 0 0 0 (fun _ => none) 0 (fun _ => 0) P' → k none (wl P' [])) : pm_C 47 (d + 3) true [.ref 1] [.inr (3, [.null, .null, .null, .null])] k kx := by
  refine pm_Ci rfl (pm_run 7 (And.intro (Nat.le_add_left 1 (d + 2)) (And.intro ⟨by decide, by decide⟩ (And.intro ⟨by decide, by decide⟩ (c_initA ?_)))))
  refine pm_run 5 (And.intro ⟨by decide, by decide⟩ (And.intro ⟨by decide, by decide⟩ (c_initB ?_)))
  refine pm_run 5 (And.intro ⟨by decide, by decide⟩ (And.intro ⟨by decide, by decide⟩ (c_initS ?_)))
  refine pm_run 5 (And.intro ⟨by decide, by decide⟩ (And.intro ⟨by decide, by decide⟩ (c_initR ?_)))
  exact pm_run 9 (And.intro ⟨by decide, by decide⟩ (c_restart (Wn := 4) (Rm := 8) (A := A) (P := ((0, 0, 0, fun _ => 0, fun _ => 0), (0, 0, 0, fun _ => 0, fun _ => 0), (0, 0, 0, 0, 0, 0, fun _ => 0, fun _ => 0, fun _ => 0), (fun _ => 0, fun _ => 0, fun _ => 0, 0, 0, 0))) (R := []) rfl (by omega) hk))
theorem c_minit {P : LkP} (hk : k none (wm P 0 4 3 8 0 0 0 0 0 0 0 (fun _ => 0) (fun _ => 0) (fun _ => 0) (fun _ => 0) (fun _ => 0) (fun _ => 0) (fun _ => 0) (fun _ => 0) (fun _ => 0) [])) : pm_C 65 (d + 1) true [.ref 16] (wl P [.inr (4, [.int 0, .int 0, .int 0, .int 0, .null, .null, .int 0, .int 0, .null, .null, .null, .int 0, .null, .null, .int 0, .null, .int 0, .int 0, .int 0, .null])]) k kx := by
  refine pm_Ci rfl (pm_run 5 (And.intro (Nat.le_add_left 1 d) ?_))
  refine pm_run 3 ?_
  refine pm_run 3 ?_
  refine pm_run 4 (And.intro ⟨rfl, by decide, by decide⟩ ?_)
  refine pm_run 4 (And.intro ⟨rfl, by decide, by decide⟩ ?_)
  refine pm_run 4 (And.intro ⟨rfl, by decide, by decide⟩ ?_)
  refine pm_run 4 (And.intro ⟨rfl, by decide, by decide⟩ ?_)
  refine pm_run 4 (And.intro ⟨rfl, by decide, by decide⟩ ?_)
  refine pm_run 4 (And.intro ⟨rfl, by decide, by decide⟩ ?_)
  refine pm_run 4 (And.intro ⟨rfl, by decide, by decide⟩ ?_)
  refine pm_run 4 (And.intro ⟨rfl, by decide, by decide⟩ ?_)
  refine pm_run 4 (And.intro ⟨rfl, by decide, by decide⟩ ?_)
  exact pm_run 4 hk
end PI
end
section
/-! THE REFERENCE OVER THE ABSTRACT STATE -/
abbrev MP : Type := Int32 × Int32 × Int32 × Int32 × Int32 × Int32 × Int32 × Int32 × Int32 × Int32 × Int32 × (Nat → Int32) × (Nat → Int32) × (Nat → Int32) × (Nat → Int32) × (Nat → Int32) × (Nat → Int32) × (Nat → Int32) × (Nat → Int32) × (Nat → Int32)
abbrev wmd (P : LkP) (M : MP) (R : pm_D) : pm_D := wm P (M.1) (M.2.1) (M.2.2.1) (M.2.2.2.1) (M.2.2.2.2.1) (M.2.2.2.2.2.1) (M.2.2.2.2.2.2.1) (M.2.2.2.2.2.2.2.1) (M.2.2.2.2.2.2.2.2.1) (M.2.2.2.2.2.2.2.2.2.1) (M.2.2.2.2.2.2.2.2.2.2.1) (M.2.2.2.2.2.2.2.2.2.2.2.1) (M.2.2.2.2.2.2.2.2.2.2.2.2.1) (M.2.2.2.2.2.2.2.2.2.2.2.2.2.1) (M.2.2.2.2.2.2.2.2.2.2.2.2.2.2.1) (M.2.2.2.2.2.2.2.2.2.2.2.2.2.2.2.1) (M.2.2.2.2.2.2.2.2.2.2.2.2.2.2.2.2.1) (M.2.2.2.2.2.2.2.2.2.2.2.2.2.2.2.2.2.1) (M.2.2.2.2.2.2.2.2.2.2.2.2.2.2.2.2.2.2.1) (M.2.2.2.2.2.2.2.2.2.2.2.2.2.2.2.2.2.2.2) R
abbrev ww (P : LkP) (M : MP) (o : Nat → Int64) : pm_D := wmd P M [.inl (1, 1, .inr (.inl o))]
def qq (a b : Qu) : Nat → Qu := fun w => if w = 0 then a else b
def rMd (t : Int32) (Wn Rm : Nat) (T : Int32) (qa qb : Qu) (B h : Nat) (A : EF) (tk ag : Int32) (F : Nat) (V : VF) (D : Nat) (LG : Nat → Int32) (M : MP) : Prop := ∃ wi ma wo he ae ca tr hd : Nat → Int32, M = (t, nI Wn, T, nI Rm, nI B, nI ((B + h) % 256), nI F, nI D, tk + ag, ag, tk, wi, ma, wo, he, ae, ca, tr, LG, hd) ∧ rQ Rm (qq qa qb) wi ma ∧ rE 256 B h A wo ae he ∧ rV 256 F V ca tr
theorem rQ_ext {Rm : Nat} {Q Q2 : Nat → Qu} {wi ma : Nat → Int32} (h : rQ Rm Q wi ma) (h0 : Q 0 = Q2 0) (h1 : Q 1 = Q2 1) : rQ Rm Q2 wi ma := by
  intro w hw
  have := h w hw
  rcases Nat.lt_or_ge w 1 with c | c
  · have e : w = 0 := by omega
    subst e
    rw [h0] at this
    exact this
  · have e : w = 1 := by omega
    subst e
    rw [h1] at this
    exact this
theorem u0 {Rm : Nat} {a b q : Qu} {wi ma : Nat → Int32} (h : rQ Rm (uQ (qq a b) 0 q) wi ma) : rQ Rm (qq q b) wi ma := rQ_ext h rfl rfl
theorem u1 {Rm : Nat} {a b q : Qu} {wi ma : Nat → Int32} (h : rQ Rm (uQ (qq a b) 1 q) wi ma) : rQ Rm (qq a q) wi ma := rQ_ext h rfl rfl
theorem u01 {Rm : Nat} {a b q q2 : Qu} {wi ma : Nat → Int32} (h : rQ Rm (uQ (uQ (qq a b) 0 q) 1 q2) wi ma) : rQ Rm (qq q q2) wi ma := rQ_ext h rfl rfl
section PB
variable {d : Nat} {al : Bool} {k : pm_K} {kx : pm_X} {cb sb : Nat} {R : pm_D} {P : LkP} {M : MP} {t : Int32} {Wn Rm B h F D : Nat} {T tk ag : Int32} {qa qb : Qu} {A : EF} {V : VF} {LG : Nat → Int32}
theorem q_thrown (hM : rMd t Wn Rm T qa qb B h A tk ag F V D LG M) (hk : k (some (.int t)) (wmd P M R)) : pm_C 66 d al [.ref 16] (wmd P M R) k kx := by
  obtain ⟨wi, ma, wo, he, ae, ca, tr, hd, rfl, hQ, hE, hV⟩ := hM
  exact c_thrown hk
theorem q_beginX {x y z : Int32} (hx : x < 1 ∨ 16 < x ∨ y < 1 ∨ 50 < y ∨ z < 1 ∨ 32 < z) (hM : rMd t Wn Rm T qa qb B h A tk ag F V D LG M) (hk : ∀ M', rMd 1 Wn Rm T qa qb B h A tk ag F V D LG M' → k none (wmd P M' R)) : pm_C 67 d al [.ref 16, .int x, .int y, .int z] (wmd P M R) k kx := by
  obtain ⟨wi, ma, wo, he, ae, ca, tr, hd, rfl, hQ, hE, hV⟩ := hM
  exact c_mbeginX hx (hk (1, nI Wn, T, nI Rm, nI B, nI ((B + h) % 256), nI F, nI D, tk + ag, ag, tk, wi, ma, wo, he, ae, ca, tr, LG, hd) ⟨_, _, _, _, _, _, _, _, rfl, hQ, hE, hV⟩)
theorem q_begin {W2 R2 : Nat} {y : Int32} {A2 : EF} (h1 : 1 ≤ W2) (h2 : W2 ≤ 16) (h3 : 1 ≤ R2) (h4 : R2 ≤ 32) (h5 : ¬ y < 1) (h6 : ¬ 50 < y) (hM : rMd t Wn Rm T qa qb B h A tk ag F V D LG M) (hk : ∀ M', rMd 0 W2 R2 y [] [] 0 0 A2 0 0 0 (fun _ => none) 0 LG M' → k none (wmd P M' R)) : pm_C 67 d al [.ref 16, .int (nI W2), .int y, .int (nI R2)] (wmd P M R) k kx := by
  obtain ⟨wi, ma, wo, he, ae, ca, tr, hd, rfl, hQ, hE, hV⟩ := hM
  refine c_mbegin (fun z => ?_) (fun he' ae' tr' ht => hk (0, nI W2, y, nI R2, 0, 0, 0, 0, 0, 0, 0, wi, upd (upd ma 0 0) 1 0, wo, he', ae', ca, tr', LG, hd) ⟨_, _, _, _, _, _, _, _, rfl, ?_, fun i hi => absurd hi (by omega), fun i hi => ⟨?_, fun x hx => by cases hx⟩⟩)
  · rcases z with z | z | z | z | z | z
    · exact nI_nlt (b := 1) h1 (by omega) z
    · exact nI_nlt (a := 16) h2 (by omega) z
    · exact h5 z
    · exact h6 z
    · exact nI_nlt (b := 1) h3 (by omega) z
    · exact nI_nlt (a := 32) h4 (by omega) z
  · intro w hw
    rcases Nat.lt_or_ge w 1 with c | c
    · have e : w = 0 := by omega
      subst e
      exact ⟨fun i f hi => by simp [qq] at hi, rfl, Nat.zero_le _⟩
    · have e : w = 1 := by omega
      subst e
      exact ⟨fun i f hi => by simp [qq] at hi, rfl, Nat.zero_le _⟩
  · rw [ht _ (Nat.mod_lt _ (by omega))]
    rfl
theorem q_send {x : Int32} (iv : IV Wn Rm B h F V) (hM : rMd t Wn Rm T qa qb B h A tk ag F V D LG M) (hk : ∀ M', rMd 0 Wn Rm T (snd Wn Rm x qa B h A).2.1 qb B (snd Wn Rm x qa B h A).2.2.1 (snd Wn Rm x qa B h A).2.2.2.1 (tk + (snd Wn Rm x qa B h A).2.2.2.2) ag F V D LG M' → k (some (.int (snd Wn Rm x qa B h A).1)) (wmd P M' R)) : pm_C 76 (d + 3) al [.ref 16, .int x] (wmd P M R) k kx := by
  obtain ⟨i1, i2, i3, i4, i5, i6, i7, i8, i9⟩ := iv
  obtain ⟨wi, ma, wo, he, ae, ca, tr, hd, rfl, hQ, hE, hV⟩ := hM
  refine c_msend (Q := qq qa qb) (A := A) i5 (by omega) i2 i4 hQ hE (fun z => ?_) (fun z1 z2 wi' ma' wo' he' ae' hQ' hE' => ?_)
  · have e : snd Wn Rm x qa B h A = (0, qa, h, A, 0) := if_neg z
    rw [e] at hk
    exact hk (0, nI Wn, T, nI Rm, nI B, nI ((B + h) % 256), nI F, nI D, tk + ag, ag, tk, wi, ma, wo, he, ae, ca, tr, LG, hd) (by simp only [Int32.add_zero]; exact ⟨_, _, _, _, _, _, _, _, rfl, hQ, hE, hV⟩)
  · have e : snd Wn Rm x qa B h A = (1, qa ++ [fr (f_of 0 (nI ((B + h) % 256)) x 0)], h + 1, uE A h (x, 0, false), 1) := if_pos ⟨z1, z2⟩
    rw [e] at hk
    refine hk (0, nI Wn, T, nI Rm, nI B, nI ((B + (h + 1)) % 256), nI F, nI D, tk + ag + 1, ag, tk + 1, wi', ma', wo', he', ae', ca, tr, LG, hd) ⟨wi', ma', wo', he', ae', ca, tr, hd, ?_, u0 hQ', hE', hV⟩
    rw [show tk + 1 + ag = tk + ag + 1 by rw [Int32.add_assoc, Int32.add_comm 1 ag, ← Int32.add_assoc]]
theorem q_tick (iv : IV Wn Rm B h F V) (hM : rMd t Wn Rm T qa qb B h A tk ag F V D LG M) (hk : ∀ M', rMd 0 Wn Rm T (tkN T Rm B h 0 (A, qa, 0)).2.1 qb B h (tkN T Rm B h 0 (A, qa, 0)).1 tk (ag + nI (tkN T Rm B h 0 (A, qa, 0)).2.2) F V D LG M' → k (some (.int (nI (tkN T Rm B h 0 (A, qa, 0)).2.2))) (wmd P M' R)) : pm_C 77 (d + 3) al [.ref 16] (wmd P M R) k kx := by
  obtain ⟨i1, i2, i3, i4, i5, i6, i7, i8, i9⟩ := iv
  obtain ⟨wi, ma, wo, he, ae, ca, tr, hd, rfl, hQ, hE, hV⟩ := hM
  refine c_mtick (Q := qq qa qb) (A := A) i5 (by omega) i4 hQ hE (fun wi' ma' ae' hQ' hE' => ?_)
  refine hk (0, nI Wn, T, nI Rm, nI B, nI ((B + h) % 256), nI F, nI D, tk + ag + nI (tkN T Rm B h 0 (A, qa, 0)).2.2, ag + nI (tkN T Rm B h 0 (A, qa, 0)).2.2, tk, wi', ma', wo, he, ae', ca, tr, LG, hd) ⟨wi', ma', wo, he, ae', ca, tr, hd, ?_, u0 hQ', hE', hV⟩
  rw [Int32.add_assoc]
theorem q_comeA (iv : IV Wn Rm B h F V) (hM : rMd t Wn Rm T qa qb B h A tk ag F V D LG M) (hk : ∀ M', rMd 0 Wn Rm T qa (cA qb h B A).2.1 (cA qb h B A).2.2.2.1 (cA qb h B A).2.2.1 (cA qb h B A).2.2.2.2 tk ag F V D LG M' → k (some (.int (cA qb h B A).1)) (wmd P M' R)) : pm_C 79 (d + 3) al [.ref 16] (wmd P M R) k kx := by
  obtain ⟨i1, i2, i3, i4, i5, i6, i7, i8, i9⟩ := iv
  obtain ⟨wi, ma, wo, he, ae, ca, tr, hd, rfl, hQ, hE, hV⟩ := hM
  refine c_mcomeA (Q := qq qa qb) (A := A) i5 (by omega) i4 hQ hE (fun wi' ma' he' hQ' hE' hN' => ?_)
  refine hk (0, nI Wn, T, nI Rm, nI (cA qb h B A).2.2.2.1, nI ((B + h) % 256), nI F, nI D, tk + ag, ag, tk, wi', ma', wo, he', ae, ca, tr, LG, hd) ⟨wi', ma', wo, he', ae, ca, tr, hd, ?_, u1 hQ', hE', hV⟩
  rw [show ((cA qb h B A).2.2.2.1 + (cA qb h B A).2.2.1) % 256 = (B + h) % 256 from hN']
theorem q_comeB (iv : IV Wn Rm B h F V) (hD : D + 16 < 2 ^ 31) (hM : rMd t Wn Rm T qa qb B h A tk ag F V D LG M) (hk : ∀ M', rMd 0 Wn Rm T (cB Wn Rm qa qb (V, F, D, LG)).2.1 (cB Wn Rm qa qb (V, F, D, LG)).2.2.1 B h A tk ag (cB Wn Rm qa qb (V, F, D, LG)).2.2.2.2.1 (cB Wn Rm qa qb (V, F, D, LG)).2.2.2.1 (cB Wn Rm qa qb (V, F, D, LG)).2.2.2.2.2.1 (cB Wn Rm qa qb (V, F, D, LG)).2.2.2.2.2.2 M' → k (some (.int (cB Wn Rm qa qb (V, F, D, LG)).1)) (wmd P M' R)) : pm_C 80 (d + 3) al [.ref 16] (wmd P M R) k kx := by
  obtain ⟨i1, i2, i3, i4, i5, i6, i7, i8, i9⟩ := iv
  obtain ⟨wi, ma, wo, he, ae, ca, tr, hd, rfl, hQ, hE, hV⟩ := hM
  refine c_mcomeB (Q := qq qa qb) i7 i2 i4 hD hQ hV i8 i9 (fun wi' ma' ca' tr' hQ' hV' => ?_)
  exact hk (0, nI Wn, T, nI Rm, nI B, nI ((B + h) % 256), nI (cB Wn Rm qa qb (V, F, D, LG)).2.2.2.2.1, nI (cB Wn Rm qa qb (V, F, D, LG)).2.2.2.2.2.1, tk + ag, ag, tk, wi', ma', wo, he, ae, ca', tr', (cB Wn Rm qa qb (V, F, D, LG)).2.2.2.2.2.2, hd) ⟨_, _, _, _, _, _, _, _, rfl, u01 hQ', hE, hV'⟩
theorem q_delivered (hM : rMd t Wn Rm T qa qb B h A tk ag F V D LG M) (hk : ∀ M', rMd 0 Wn Rm T qa qb B h A tk ag F V D LG M' → k (some (.int (nI D))) (wmd P M' R)) : pm_C 86 d al [.ref 16] (wmd P M R) k kx := by
  obtain ⟨wi, ma, wo, he, ae, ca, tr, hd, rfl, hQ, hE, hV⟩ := hM
  exact c_mdelivered (hk (0, nI Wn, T, nI Rm, nI B, nI ((B + h) % 256), nI F, nI D, tk + ag, ag, tk, wi, ma, wo, he, ae, ca, tr, LG, hd) ⟨_, _, _, _, _, _, _, _, rfl, hQ, hE, hV⟩)
theorem q_wordX {x : Int32} (hx : x < 0 ∨ nI D ≤ x ∨ x < nI D - 256) (hM : rMd t Wn Rm T qa qb B h A tk ag F V D LG M) (hk : ∀ M', rMd 1 Wn Rm T qa qb B h A tk ag F V D LG M' → k (some (.int 0)) (wmd P M' R)) : pm_C 87 d al [.ref 16, .int x] (wmd P M R) k kx := by
  obtain ⟨wi, ma, wo, he, ae, ca, tr, hd, rfl, hQ, hE, hV⟩ := hM
  exact c_mwordX hx (hk (1, nI Wn, T, nI Rm, nI B, nI ((B + h) % 256), nI F, nI D, tk + ag, ag, tk, wi, ma, wo, he, ae, ca, tr, LG, hd) ⟨_, _, _, _, _, _, _, _, rfl, hQ, hE, hV⟩)
theorem q_word {i : Nat} (hi : i < 2 ^ 31) (hx : ¬ (nI i < 0 ∨ nI D ≤ nI i ∨ nI i < nI D - 256)) (hM : rMd t Wn Rm T qa qb B h A tk ag F V D LG M) (hk : ∀ M', rMd 0 Wn Rm T qa qb B h A tk ag F V D LG M' → k (some (.int (LG (i % 256)))) (wmd P M' R)) : pm_C 87 d al [.ref 16, .int (nI i)] (wmd P M R) k kx := by
  obtain ⟨wi, ma, wo, he, ae, ca, tr, hd, rfl, hQ, hE, hV⟩ := hM
  exact c_mword hi hx (hk (0, nI Wn, T, nI Rm, nI B, nI ((B + h) % 256), nI F, nI D, tk + ag, ag, tk, wi, ma, wo, he, ae, ca, tr, LG, hd) ⟨_, _, _, _, _, _, _, _, rfl, hQ, hE, hV⟩)
theorem q_toldX {x : Int32} (hx : x < 0 ∨ 9 < x) (hM : rMd t Wn Rm T qa qb B h A tk ag F V D LG M) (hk : ∀ M', rMd 1 Wn Rm T qa qb B h A tk ag F V D LG M' → k (some (.int 0)) (wmd P M' R)) : pm_C 89 d al [.ref 16, .int x] (wmd P M R) k kx := by
  obtain ⟨wi, ma, wo, he, ae, ca, tr, hd, rfl, hQ, hE, hV⟩ := hM
  exact c_mtoldX hx (hk (1, nI Wn, T, nI Rm, nI B, nI ((B + h) % 256), nI F, nI D, tk + ag, ag, tk, wi, ma, wo, he, ae, ca, tr, LG, hd) ⟨_, _, _, _, _, _, _, _, rfl, hQ, hE, hV⟩)
theorem q_told {w : Nat} (hw : w ≤ 9) (iv : IV Wn Rm B h F V) (hM : rMd t Wn Rm T qa qb B h A tk ag F V D LG M) (hk : ∀ M', rMd 0 Wn Rm T qa qb B h A tk ag F V D LG M' → k (some (.int (tdA B h F A V qa qb tk ag w))) (wmd P M' R)) : pm_C 89 (d + 1) al [.ref 16, .int (nI w)] (wmd P M R) k kx := by
  obtain ⟨i1, i2, i3, i4, i5, i6, i7, i8, i9⟩ := iv
  obtain ⟨wi, ma, wo, he, ae, ca, tr, hd, rfl, hQ, hE, hV⟩ := hM
  exact c_mtold (Q := qq qa qb) (A := A) hw i5 (by omega) hE hV (fun j hj => i8 j (by omega)) hQ (hk (0, nI Wn, T, nI Rm, nI B, nI ((B + h) % 256), nI F, nI D, tk + ag, ag, tk, wi, ma, wo, he, ae, ca, tr, LG, hd) ⟨_, _, _, _, _, _, _, _, rfl, hQ, hE, hV⟩)
theorem q_sum {x : Int64} (hM : rMd t Wn Rm T qa qb B h A tk ag F V D LG M) (hk : ∀ M', rMd 0 Wn Rm T qa qb B h A tk ag F V D LG M' → k (some (.int (f_sum x))) (wmd P M' R)) : pm_C 69 (d + 1) al [.ref 16, .long x] (wmd P M R) k kx := by
  obtain ⟨wi, ma, wo, he, ae, ca, tr, hd, rfl, hQ, hE, hV⟩ := hM
  exact c_msum (hk (0, nI Wn, T, nI Rm, nI B, nI ((B + h) % 256), nI F, nI D, tk + ag, ag, tk, wi, ma, wo, he, ae, ca, tr, LG, hd) ⟨_, _, _, _, _, _, _, _, rfl, hQ, hE, hV⟩)
theorem q_loseX {x : Int32} (hx : x < 0 ∨ 1 < x) (hM : rMd t Wn Rm T qa qb B h A tk ag F V D LG M) (hk : ∀ M', rMd 1 Wn Rm T qa qb B h A tk ag F V D LG M' → k (some (.int 0)) (wmd P M' R)) : pm_C 82 (d + 2) al [.ref 16, .int x] (wmd P M R) k kx := by
  obtain ⟨wi, ma, wo, he, ae, ca, tr, hd, rfl, hQ, hE, hV⟩ := hM
  exact c_mloseX hx (hk (1, nI Wn, T, nI Rm, nI B, nI ((B + h) % 256), nI F, nI D, tk + ag, ag, tk, wi, ma, wo, he, ae, ca, tr, LG, hd) ⟨_, _, _, _, _, _, _, _, rfl, hQ, hE, hV⟩)
theorem q_lose0 (iv : IV Wn Rm B h F V) (hM : rMd t Wn Rm T qa qb B h A tk ag F V D LG M) (hk : ∀ M', rMd 0 Wn Rm T (lsQ qa).2 qb B h A tk ag F V D LG M' → k (some (.int (lsQ qa).1)) (wmd P M' R)) : pm_C 82 (d + 2) al [.ref 16, .int (nI 0)] (wmd P M R) k kx := by
  obtain ⟨i1, i2, i3, i4, i5, i6, i7, i8, i9⟩ := iv
  obtain ⟨wi, ma, wo, he, ae, ca, tr, hd, rfl, hQ, hE, hV⟩ := hM
  exact c_mlose (Q := qq qa qb) (w := 0) (by omega) i4 hQ (fun wi' ma' hQ' => hk (0, nI Wn, T, nI Rm, nI B, nI ((B + h) % 256), nI F, nI D, tk + ag, ag, tk, wi', ma', wo, he, ae, ca, tr, LG, hd) ⟨_, _, _, _, _, _, _, _, rfl, u0 hQ', hE, hV⟩)
theorem q_lose1 (iv : IV Wn Rm B h F V) (hM : rMd t Wn Rm T qa qb B h A tk ag F V D LG M) (hk : ∀ M', rMd 0 Wn Rm T qa (lsQ qb).2 B h A tk ag F V D LG M' → k (some (.int (lsQ qb).1)) (wmd P M' R)) : pm_C 82 (d + 2) al [.ref 16, .int (nI 1)] (wmd P M R) k kx := by
  obtain ⟨i1, i2, i3, i4, i5, i6, i7, i8, i9⟩ := iv
  obtain ⟨wi, ma, wo, he, ae, ca, tr, hd, rfl, hQ, hE, hV⟩ := hM
  exact c_mlose (Q := qq qa qb) (w := 1) (by omega) i4 hQ (fun wi' ma' hQ' => hk (0, nI Wn, T, nI Rm, nI B, nI ((B + h) % 256), nI F, nI D, tk + ag, ag, tk, wi', ma', wo, he, ae, ca, tr, LG, hd) ⟨_, _, _, _, _, _, _, _, rfl, u1 hQ', hE, hV⟩)
theorem q_twiceX {x : Int32} (hx : x < 0 ∨ 1 < x) (hM : rMd t Wn Rm T qa qb B h A tk ag F V D LG M) (hk : ∀ M', rMd 1 Wn Rm T qa qb B h A tk ag F V D LG M' → k (some (.int 0)) (wmd P M' R)) : pm_C 84 (d + 2) al [.ref 16, .int x] (wmd P M R) k kx := by
  obtain ⟨wi, ma, wo, he, ae, ca, tr, hd, rfl, hQ, hE, hV⟩ := hM
  exact c_mtwiceX hx (hk (1, nI Wn, T, nI Rm, nI B, nI ((B + h) % 256), nI F, nI D, tk + ag, ag, tk, wi, ma, wo, he, ae, ca, tr, LG, hd) ⟨_, _, _, _, _, _, _, _, rfl, hQ, hE, hV⟩)
theorem q_twice0 (iv : IV Wn Rm B h F V) (hM : rMd t Wn Rm T qa qb B h A tk ag F V D LG M) (hk : ∀ M', rMd 0 Wn Rm T (twQ Rm qa).2 qb B h A tk ag F V D LG M' → k (some (.int (twQ Rm qa).1)) (wmd P M' R)) : pm_C 84 (d + 2) al [.ref 16, .int (nI 0)] (wmd P M R) k kx := by
  obtain ⟨i1, i2, i3, i4, i5, i6, i7, i8, i9⟩ := iv
  obtain ⟨wi, ma, wo, he, ae, ca, tr, hd, rfl, hQ, hE, hV⟩ := hM
  exact c_mtwice (Q := qq qa qb) (w := 0) (by omega) i4 hQ (fun wi' ma' hQ' => hk (0, nI Wn, T, nI Rm, nI B, nI ((B + h) % 256), nI F, nI D, tk + ag, ag, tk, wi', ma', wo, he, ae, ca, tr, LG, hd) ⟨_, _, _, _, _, _, _, _, rfl, u0 hQ', hE, hV⟩)
theorem q_twice1 (iv : IV Wn Rm B h F V) (hM : rMd t Wn Rm T qa qb B h A tk ag F V D LG M) (hk : ∀ M', rMd 0 Wn Rm T qa (twQ Rm qb).2 B h A tk ag F V D LG M' → k (some (.int (twQ Rm qb).1)) (wmd P M' R)) : pm_C 84 (d + 2) al [.ref 16, .int (nI 1)] (wmd P M R) k kx := by
  obtain ⟨i1, i2, i3, i4, i5, i6, i7, i8, i9⟩ := iv
  obtain ⟨wi, ma, wo, he, ae, ca, tr, hd, rfl, hQ, hE, hV⟩ := hM
  exact c_mtwice (Q := qq qa qb) (w := 1) (by omega) i4 hQ (fun wi' ma' hQ' => hk (0, nI Wn, T, nI Rm, nI B, nI ((B + h) % 256), nI F, nI D, tk + ag, ag, tk, wi', ma', wo, he, ae, ca, tr, LG, hd) ⟨_, _, _, _, _, _, _, _, rfl, u1 hQ', hE, hV⟩)
theorem q_delayX {x : Int32} (hx : x < 0 ∨ 1 < x) (hM : rMd t Wn Rm T qa qb B h A tk ag F V D LG M) (hk : ∀ M', rMd 1 Wn Rm T qa qb B h A tk ag F V D LG M' → k (some (.int 0)) (wmd P M' R)) : pm_C 85 (d + 2) al [.ref 16, .int x] (wmd P M R) k kx := by
  obtain ⟨wi, ma, wo, he, ae, ca, tr, hd, rfl, hQ, hE, hV⟩ := hM
  exact c_mdelayX hx (hk (1, nI Wn, T, nI Rm, nI B, nI ((B + h) % 256), nI F, nI D, tk + ag, ag, tk, wi, ma, wo, he, ae, ca, tr, LG, hd) ⟨_, _, _, _, _, _, _, _, rfl, hQ, hE, hV⟩)
theorem q_delay0 (iv : IV Wn Rm B h F V) (hM : rMd t Wn Rm T qa qb B h A tk ag F V D LG M) (hk : ∀ M', rMd 0 Wn Rm T (dyQ qa).2 qb B h A tk ag F V D LG M' → k (some (.int (dyQ qa).1)) (wmd P M' R)) : pm_C 85 (d + 2) al [.ref 16, .int (nI 0)] (wmd P M R) k kx := by
  obtain ⟨i1, i2, i3, i4, i5, i6, i7, i8, i9⟩ := iv
  obtain ⟨wi, ma, wo, he, ae, ca, tr, hd, rfl, hQ, hE, hV⟩ := hM
  exact c_mdelay (Q := qq qa qb) (w := 0) (by omega) i4 hQ (fun wi' ma' hd' hQ' => hk (0, nI Wn, T, nI Rm, nI B, nI ((B + h) % 256), nI F, nI D, tk + ag, ag, tk, wi', ma', wo, he, ae, ca, tr, LG, hd') ⟨_, _, _, _, _, _, _, _, rfl, u0 hQ', hE, hV⟩)
theorem q_delay1 (iv : IV Wn Rm B h F V) (hM : rMd t Wn Rm T qa qb B h A tk ag F V D LG M) (hk : ∀ M', rMd 0 Wn Rm T qa (dyQ qb).2 B h A tk ag F V D LG M' → k (some (.int (dyQ qb).1)) (wmd P M' R)) : pm_C 85 (d + 2) al [.ref 16, .int (nI 1)] (wmd P M R) k kx := by
  obtain ⟨i1, i2, i3, i4, i5, i6, i7, i8, i9⟩ := iv
  obtain ⟨wi, ma, wo, he, ae, ca, tr, hd, rfl, hQ, hE, hV⟩ := hM
  exact c_mdelay (Q := qq qa qb) (w := 1) (by omega) i4 hQ (fun wi' ma' hd' hQ' => hk (0, nI Wn, T, nI Rm, nI B, nI ((B + h) % 256), nI F, nI D, tk + ag, ag, tk, wi', ma', wo, he, ae, ca, tr, LG, hd') ⟨_, _, _, _, _, _, _, _, rfl, u1 hQ', hE, hV⟩)
theorem q_changeX {x y : Int32} (hx : (x < 0 ∨ 1 < x) ∨ y < 0 ∨ 95 < y) (hM : rMd t Wn Rm T qa qb B h A tk ag F V D LG M) (hk : ∀ M', rMd 1 Wn Rm T qa qb B h A tk ag F V D LG M' → k (some (.int 0)) (wmd P M' R)) : pm_C 83 (d + 2) al [.ref 16, .int x, .int y] (wmd P M R) k kx := by
  obtain ⟨wi, ma, wo, he, ae, ca, tr, hd, rfl, hQ, hE, hV⟩ := hM
  exact c_mchangeX hx (hk (1, nI Wn, T, nI Rm, nI B, nI ((B + h) % 256), nI F, nI D, tk + ag, ag, tk, wi, ma, wo, he, ae, ca, tr, LG, hd) ⟨_, _, _, _, _, _, _, _, rfl, hQ, hE, hV⟩)
theorem q_change0 {b : Nat} (hb : b < 96) (iv : IV Wn Rm B h F V) (hM : rMd t Wn Rm T qa qb B h A tk ag F V D LG M) (hk : ∀ M', rMd 0 Wn Rm T (chQ (nI b) qa).2 qb B h A tk ag F V D LG M' → k (some (.int (chQ (nI b) qa).1)) (wmd P M' R)) : pm_C 83 (d + 2) al [.ref 16, .int (nI 0), .int (nI b)] (wmd P M R) k kx := by
  obtain ⟨i1, i2, i3, i4, i5, i6, i7, i8, i9⟩ := iv
  obtain ⟨wi, ma, wo, he, ae, ca, tr, hd, rfl, hQ, hE, hV⟩ := hM
  exact c_mchange (Q := qq qa qb) (w := 0) (by omega) hb i4 hQ (fun wi' ma' hQ' => hk (0, nI Wn, T, nI Rm, nI B, nI ((B + h) % 256), nI F, nI D, tk + ag, ag, tk, wi', ma', wo, he, ae, ca, tr, LG, hd) ⟨_, _, _, _, _, _, _, _, rfl, u0 hQ', hE, hV⟩)
theorem q_frameY0 {y z : Int32} (iv : IV Wn Rm B h F V) (hz : ¬ (z < 0 ∨ 1 < z)) (hy : y < 0 ∨ nI qa.length ≤ y) (hM : rMd t Wn Rm T qa qb B h A tk ag F V D LG M) (hk : ∀ M', rMd 2 Wn Rm T qa qb B h A tk ag F V D LG M' → k (some (.long 0)) (wmd P M' R)) : pm_C 88 (d + 2) al [.ref 16, .int (nI 0), .int y, .int z] (wmd P M R) k kx := by
  obtain ⟨i1, i2, i3, i4, i5, i6, i7, i8, i9⟩ := iv
  obtain ⟨wi, ma, wo, he, ae, ca, tr, hd, rfl, hQ, hE, hV⟩ := hM
  exact c_mframeY (Q := qq qa qb) (w := 0) (by omega) i4 hQ hz hy (hk (2, nI Wn, T, nI Rm, nI B, nI ((B + h) % 256), nI F, nI D, tk + ag, ag, tk, wi, ma, wo, he, ae, ca, tr, LG, hd) ⟨_, _, _, _, _, _, _, _, rfl, hQ, hE, hV⟩)
theorem q_frame0 {i : Nat} {z : Int32} {f : Int64 × Int32} (iv : IV Wn Rm B h F V) (hf : qa[i]? = some f) (hz : z = 0 ∨ z = 1) (hM : rMd t Wn Rm T qa qb B h A tk ag F V D LG M) (h0 : z = 0 → ∀ M', rMd 0 Wn Rm T qa qb B h A tk ag F V D LG M' → k (some (.long f.1)) (wmd P M' R)) (h1 : z = 1 → ∀ M', rMd 0 Wn Rm T qa qb B h A tk ag F V D LG M' → k (some (.long (f.2.toInt64 &&& 4294967295))) (wmd P M' R)) : pm_C 88 (d + 2) al [.ref 16, .int (nI 0), .int (nI i), .int z] (wmd P M R) k kx := by
  obtain ⟨i1, i2, i3, i4, i5, i6, i7, i8, i9⟩ := iv
  obtain ⟨wi, ma, wo, he, ae, ca, tr, hd, rfl, hQ, hE, hV⟩ := hM
  exact c_mframe (Q := qq qa qb) (w := 0) (by omega) i4 hQ hf (fun q => h0 q (0, nI Wn, T, nI Rm, nI B, nI ((B + h) % 256), nI F, nI D, tk + ag, ag, tk, wi, ma, wo, he, ae, ca, tr, LG, hd) ⟨_, _, _, _, _, _, _, _, rfl, hQ, hE, hV⟩) (fun q => h1 q (0, nI Wn, T, nI Rm, nI B, nI ((B + h) % 256), nI F, nI D, tk + ag, ag, tk, wi, ma, wo, he, ae, ca, tr, LG, hd) ⟨_, _, _, _, _, _, _, _, rfl, hQ, hE, hV⟩) hz
theorem q_change1 {b : Nat} (hb : b < 96) (iv : IV Wn Rm B h F V) (hM : rMd t Wn Rm T qa qb B h A tk ag F V D LG M) (hk : ∀ M', rMd 0 Wn Rm T qa (chQ (nI b) qb).2 B h A tk ag F V D LG M' → k (some (.int (chQ (nI b) qb).1)) (wmd P M' R)) : pm_C 83 (d + 2) al [.ref 16, .int (nI 1), .int (nI b)] (wmd P M R) k kx := by
  obtain ⟨i1, i2, i3, i4, i5, i6, i7, i8, i9⟩ := iv
  obtain ⟨wi, ma, wo, he, ae, ca, tr, hd, rfl, hQ, hE, hV⟩ := hM
  exact c_mchange (Q := qq qa qb) (w := 1) (by omega) hb i4 hQ (fun wi' ma' hQ' => hk (0, nI Wn, T, nI Rm, nI B, nI ((B + h) % 256), nI F, nI D, tk + ag, ag, tk, wi', ma', wo, he, ae, ca, tr, LG, hd) ⟨_, _, _, _, _, _, _, _, rfl, u1 hQ', hE, hV⟩)
theorem q_frameY1 {y z : Int32} (iv : IV Wn Rm B h F V) (hz : ¬ (z < 0 ∨ 1 < z)) (hy : y < 0 ∨ nI qb.length ≤ y) (hM : rMd t Wn Rm T qa qb B h A tk ag F V D LG M) (hk : ∀ M', rMd 2 Wn Rm T qa qb B h A tk ag F V D LG M' → k (some (.long 0)) (wmd P M' R)) : pm_C 88 (d + 2) al [.ref 16, .int (nI 1), .int y, .int z] (wmd P M R) k kx := by
  obtain ⟨i1, i2, i3, i4, i5, i6, i7, i8, i9⟩ := iv
  obtain ⟨wi, ma, wo, he, ae, ca, tr, hd, rfl, hQ, hE, hV⟩ := hM
  exact c_mframeY (Q := qq qa qb) (w := 1) (by omega) i4 hQ hz hy (hk (2, nI Wn, T, nI Rm, nI B, nI ((B + h) % 256), nI F, nI D, tk + ag, ag, tk, wi, ma, wo, he, ae, ca, tr, LG, hd) ⟨_, _, _, _, _, _, _, _, rfl, hQ, hE, hV⟩)
theorem q_frame1 {i : Nat} {z : Int32} {f : Int64 × Int32} (iv : IV Wn Rm B h F V) (hf : qb[i]? = some f) (hz : z = 0 ∨ z = 1) (hM : rMd t Wn Rm T qa qb B h A tk ag F V D LG M) (h0 : z = 0 → ∀ M', rMd 0 Wn Rm T qa qb B h A tk ag F V D LG M' → k (some (.long f.1)) (wmd P M' R)) (h1 : z = 1 → ∀ M', rMd 0 Wn Rm T qa qb B h A tk ag F V D LG M' → k (some (.long (f.2.toInt64 &&& 4294967295))) (wmd P M' R)) : pm_C 88 (d + 2) al [.ref 16, .int (nI 1), .int (nI i), .int z] (wmd P M R) k kx := by
  obtain ⟨i1, i2, i3, i4, i5, i6, i7, i8, i9⟩ := iv
  obtain ⟨wi, ma, wo, he, ae, ca, tr, hd, rfl, hQ, hE, hV⟩ := hM
  exact c_mframe (Q := qq qa qb) (w := 1) (by omega) i4 hQ hf (fun q => h0 q (0, nI Wn, T, nI Rm, nI B, nI ((B + h) % 256), nI F, nI D, tk + ag, ag, tk, wi, ma, wo, he, ae, ca, tr, LG, hd) ⟨_, _, _, _, _, _, _, _, rfl, hQ, hE, hV⟩) (fun q => h1 q (0, nI Wn, T, nI Rm, nI B, nI ((B + h) % 256), nI F, nI D, tk + ag, ag, tk, wi, ma, wo, he, ae, ca, tr, LG, hd) ⟨_, _, _, _, _, _, _, _, rfl, hQ, hE, hV⟩) hz
theorem q_frameX {x y z : Int32} (hx : (x < 0 ∨ 1 < x) ∨ z < 0 ∨ 1 < z) (hM : rMd t Wn Rm T qa qb B h A tk ag F V D LG M) (hk : ∀ M', rMd 1 Wn Rm T qa qb B h A tk ag F V D LG M' → k (some (.long 0)) (wmd P M' R)) : pm_C 88 (d + 2) al [.ref 16, .int x, .int y, .int z] (wmd P M R) k kx := by
  obtain ⟨wi, ma, wo, he, ae, ca, tr, hd, rfl, hQ, hE, hV⟩ := hM
  exact c_mframeX hx (hk (1, nI Wn, T, nI Rm, nI B, nI ((B + h) % 256), nI F, nI D, tk + ag, ag, tk, wi, ma, wo, he, ae, ca, tr, LG, hd) ⟨_, _, _, _, _, _, _, _, rfl, hQ, hE, hV⟩)
end PB
end
section
/-! THE LAW'S HELPERS -/
def b2l (v : Int32) : Int64 := if v = 0 then 0 else 1
theorem w3 (x : Int32) : (x < 0 ∨ 1 < x) ∨ x = 0 ∨ x = 1 := by
  by_cases h0 : x < 0
  · exact Or.inl (Or.inl h0)
  · by_cases h1 : 1 < x
    · exact Or.inl (Or.inr h1)
    · refine Or.inr ?_
      obtain ⟨j, hj, rfl⟩ := nI_of2 (n := 1) (M := 1) (by decide) h0 (Int32.not_lt.mp h1)
      rcases Nat.lt_or_ge j 1 with c | c
      · have : j = 0 := by omega
        subst this
        exact Or.inl rfl
      · have : j = 1 := by omega
        subst this
        exact Or.inr rfl
theorem rLk_LG {Wn Rm B h F D : Nat} {T tk ag : Int32} {qa qb : Qu} {A : EF} {V : VF} {LG : Nat → Int32} {P : LkP} (hL : rLk Wn Rm T qa qb B h A tk ag F V D LG P) : P.2.2.2.2.2.1 = LG := by
  obtain ⟨a, b, s, r⟩ := P
  obtain ⟨ha, hb, hs, ⟨rw, th, rfl, hV⟩⟩ := hL
  rfl
section PH
variable {d : Nat} {al : Bool} {k : pm_K} {kx : pm_X} {cb sb : Nat} {R : pm_D} {P : LkP} {M : MP} {o : Nat → Int64} {t : Int32} {Wn Rm B h F D : Nat} {T tk ag : Int32} {qa qb : Qu} {A : EF} {V : VF} {LG : Nat → Int32}
theorem h_begin {x y z : Int32} (hL : rLk Wn Rm T qa qb B h A tk ag F V D LG P) (hx : x < 1 ∨ 16 < x ∨ y < 1 ∨ 50 < y ∨ z < 1 ∨ 32 < z → k (some (.int 1)) (ww P M o)) (hk : ∀ W2 R2 : Nat, x = nI W2 → z = nI R2 → 1 ≤ W2 → W2 ≤ 16 → 1 ≤ R2 → R2 ≤ 32 → ¬ y < 1 → ¬ 50 < y → ∀ P', rLk W2 R2 y [] [] 0 0 A 0 0 0 (fun _ => none) 0 LG P' → k (some (.int 0)) (ww P' M o)) : pm_C 90 (d + 8) false [.ref 1, .int x, .int y, .int z] (ww P M o) k kx :=
  pm_Ci rfl (pm_run 40 (And.intro ⟨by decide, by decide⟩ (c_begin (A := A) (rLk_LG hL) (fun g => And.intro (fun _ => hx g) (fun h => absurd rfl h)) hk)))
theorem h_loseX {x : Int32} (hx : x < 0 ∨ 1 < x) (hk : k (some (.int 1)) (ww P M o)) : pm_C 91 (d + 8) false [.ref 1, .int x, .ref 26] (ww P M o) k kx :=
  pm_Ci rfl (pm_run 40 (And.intro ⟨by decide, by decide⟩ (c_noWire hx (And.intro (fun _ => hk) (fun h => absurd rfl h))).1))
theorem h_lose0 {x : Int32} (hx : x = 0) (iv : IV Wn Rm B h F V) (hL : rLk Wn Rm T qa qb B h A tk ag F V D LG P) (hk : ∀ P' o', rLk Wn Rm T (lsQ qa).2 qb B h A tk ag F V D LG P' → o' 0 = b2l (lsQ qa).1 → k (some (.int 0)) (ww P' M o')) : pm_C 91 (d + 8) false [.ref 1, .int x, .ref 26] (ww P M o) k kx :=
  pm_Ci rfl (pm_run 40 (And.intro ⟨by decide, by decide⟩ (c_loseA hx hL (fun P' hL' => And.intro (fun h => And.intro (vin (n := 0) (by omega) (by omega)) (hk P' _ hL' (pk_uLs.trans (if_pos h).symm))) (fun h => And.intro (vin (n := 0) (by omega) (by omega)) (hk P' _ hL' (pk_uLs.trans (if_neg h).symm)))))))
theorem h_lose1 {x : Int32} (hx : x = 1) (iv : IV Wn Rm B h F V) (hL : rLk Wn Rm T qa qb B h A tk ag F V D LG P) (hk : ∀ P' o', rLk Wn Rm T qa (lsQ qb).2 B h A tk ag F V D LG P' → o' 0 = b2l (lsQ qb).1 → k (some (.int 0)) (ww P' M o')) : pm_C 91 (d + 8) false [.ref 1, .int x, .ref 26] (ww P M o) k kx :=
  pm_Ci rfl (pm_run 40 (And.intro ⟨by decide, by decide⟩ (c_loseB hx hL (fun P' hL' => And.intro (fun h => And.intro (vin (n := 0) (by omega) (by omega)) (hk P' _ hL' (pk_uLs.trans (if_pos h).symm))) (fun h => And.intro (vin (n := 0) (by omega) (by omega)) (hk P' _ hL' (pk_uLs.trans (if_neg h).symm)))))))
theorem h_twiceX {x : Int32} (hx : x < 0 ∨ 1 < x) (hk : k (some (.int 1)) (ww P M o)) : pm_C 93 (d + 8) false [.ref 1, .int x, .ref 26] (ww P M o) k kx :=
  pm_Ci rfl (pm_run 40 (And.intro ⟨by decide, by decide⟩ (c_noWire hx (And.intro (fun _ => hk) (fun h => absurd rfl h))).2.1))
theorem h_twice0 {x : Int32} (hx : x = 0) (iv : IV Wn Rm B h F V) (hL : rLk Wn Rm T qa qb B h A tk ag F V D LG P) (hk : ∀ P' o', rLk Wn Rm T (twQ Rm qa).2 qb B h A tk ag F V D LG P' → o' 0 = b2l (twQ Rm qa).1 → k (some (.int 0)) (ww P' M o')) : pm_C 93 (d + 8) false [.ref 1, .int x, .ref 26] (ww P M o) k kx :=
  pm_Ci rfl (pm_run 40 (And.intro ⟨by decide, by decide⟩ (c_twiceA hx hL (fun P' hL' => And.intro (fun h => And.intro (vin (n := 0) (by omega) (by omega)) (hk P' _ hL' (pk_uLs.trans (if_pos h).symm))) (fun h => And.intro (vin (n := 0) (by omega) (by omega)) (hk P' _ hL' (pk_uLs.trans (if_neg h).symm)))))))
theorem h_twice1 {x : Int32} (hx : x = 1) (iv : IV Wn Rm B h F V) (hL : rLk Wn Rm T qa qb B h A tk ag F V D LG P) (hk : ∀ P' o', rLk Wn Rm T qa (twQ Rm qb).2 B h A tk ag F V D LG P' → o' 0 = b2l (twQ Rm qb).1 → k (some (.int 0)) (ww P' M o')) : pm_C 93 (d + 8) false [.ref 1, .int x, .ref 26] (ww P M o) k kx :=
  pm_Ci rfl (pm_run 40 (And.intro ⟨by decide, by decide⟩ (c_twiceB hx hL (fun P' hL' => And.intro (fun h => And.intro (vin (n := 0) (by omega) (by omega)) (hk P' _ hL' (pk_uLs.trans (if_pos h).symm))) (fun h => And.intro (vin (n := 0) (by omega) (by omega)) (hk P' _ hL' (pk_uLs.trans (if_neg h).symm)))))))
theorem h_delayX {x : Int32} (hx : x < 0 ∨ 1 < x) (hk : k (some (.int 1)) (ww P M o)) : pm_C 94 (d + 8) false [.ref 1, .int x, .ref 26] (ww P M o) k kx :=
  pm_Ci rfl (pm_run 40 (And.intro ⟨by decide, by decide⟩ (c_noWire hx (And.intro (fun _ => hk) (fun h => absurd rfl h))).2.2.1))
theorem h_delay0 {x : Int32} (hx : x = 0) (iv : IV Wn Rm B h F V) (hL : rLk Wn Rm T qa qb B h A tk ag F V D LG P) (hk : ∀ P' o', rLk Wn Rm T (dyQ qa).2 qb B h A tk ag F V D LG P' → o' 0 = b2l (dyQ qa).1 → k (some (.int 0)) (ww P' M o')) : pm_C 94 (d + 8) false [.ref 1, .int x, .ref 26] (ww P M o) k kx :=
  pm_Ci rfl (pm_run 40 (And.intro ⟨by decide, by decide⟩ (c_delayA iv hx hL (fun P' hL' => And.intro (fun h => And.intro (vin (n := 0) (by omega) (by omega)) (hk P' _ hL' (pk_uLs.trans (if_pos h).symm))) (fun h => And.intro (vin (n := 0) (by omega) (by omega)) (hk P' _ hL' (pk_uLs.trans (if_neg h).symm)))))))
theorem h_delay1 {x : Int32} (hx : x = 1) (iv : IV Wn Rm B h F V) (hL : rLk Wn Rm T qa qb B h A tk ag F V D LG P) (hk : ∀ P' o', rLk Wn Rm T qa (dyQ qb).2 B h A tk ag F V D LG P' → o' 0 = b2l (dyQ qb).1 → k (some (.int 0)) (ww P' M o')) : pm_C 94 (d + 8) false [.ref 1, .int x, .ref 26] (ww P M o) k kx :=
  pm_Ci rfl (pm_run 40 (And.intro ⟨by decide, by decide⟩ (c_delayB iv hx hL (fun P' hL' => And.intro (fun h => And.intro (vin (n := 0) (by omega) (by omega)) (hk P' _ hL' (pk_uLs.trans (if_pos h).symm))) (fun h => And.intro (vin (n := 0) (by omega) (by omega)) (hk P' _ hL' (pk_uLs.trans (if_neg h).symm)))))))
theorem h_changeX {x y : Int32} (hx : x < 0 ∨ 1 < x) (hk : k (some (.int 1)) (ww P M o)) : pm_C 92 (d + 8) false [.ref 1, .int x, .int y, .ref 26] (ww P M o) k kx :=
  pm_Ci rfl (pm_run 40 (And.intro ⟨by decide, by decide⟩ ((c_noWire hx (And.intro (fun _ => hk) (fun h => absurd rfl h))).2.2.2.1 y)))
theorem h_change0 {x y : Int32} (hx : x = 0) (hL : rLk Wn Rm T qa qb B h A tk ag F V D LG P) (hX : y < 0 ∨ 95 < y → k (some (.int 1)) (ww P M o)) (hk : ¬ y < 0 → ¬ 95 < y → ∀ P' o', rLk Wn Rm T (chQ y qa).2 qb B h A tk ag F V D LG P' → o' 0 = b2l (chQ y qa).1 → k (some (.int 0)) (ww P' M o')) : pm_C 92 (d + 8) false [.ref 1, .int x, .int y, .ref 26] (ww P M o) k kx :=
  pm_Ci rfl (pm_run 40 (And.intro ⟨by decide, by decide⟩ (c_changeA hx (fun g => And.intro (fun _ => hX g) (fun h => absurd rfl h)) hL (fun g1 g2 P' hL' => And.intro (fun h => And.intro (vin (n := 0) (by omega) (by omega)) (hk g1 g2 P' _ hL' (pk_uLs.trans (if_pos h).symm))) (fun h => And.intro (vin (n := 0) (by omega) (by omega)) (hk g1 g2 P' _ hL' (pk_uLs.trans (if_neg h).symm)))))))
theorem h_frame0 {x y z : Int32} (hx : x = 0) (iv : IV Wn Rm B h F V) (hL : rLk Wn Rm T qa qb B h A tk ag F V D LG P) (hX : z < 0 ∨ 1 < z → k (some (.int 1)) (ww P M o)) (hY : ¬ (z < 0 ∨ 1 < z) → (y < 0 ∨ nI qa.length ≤ y) → k (some (.int 2)) (ww P M o)) (hk0 : z = 0 → ∀ (i : Nat) (f : Int64 × Int32) (o' : Nat → Int64), y = nI i → qa[i]? = some f → o' 0 = f.1 → k (some (.int 0)) (ww P M o')) (hk1 : z = 1 → ∀ (i : Nat) (f : Int64 × Int32) (o' : Nat → Int64), y = nI i → qa[i]? = some f → o' 0 = f.2.toInt64 &&& 4294967295 → k (some (.int 0)) (ww P M o')) : pm_C 96 (d + 8) false [.ref 1, .int x, .int y, .int z, .ref 26] (ww P M o) k kx :=
  pm_Ci rfl (pm_run 40 (And.intro ⟨by decide, by decide⟩ (c_frameA iv hx (fun g => And.intro (fun _ => hX g) (fun h => absurd rfl h)) (fun g1 g2 => And.intro (fun h => absurd h (by decide)) (fun _ => And.intro ⟨rfl, rfl⟩ (And.intro (fun _ => hY g1 g2) (fun h => absurd rfl h)))) hL (fun e i f e2 e3 => And.intro (vin (n := 0) (by omega) (by omega)) (hk0 e i f _ e2 e3 pk_uLs)) (fun e i f e2 e3 => And.intro (vin (n := 0) (by omega) (by omega)) (hk1 e i f _ e2 e3 pk_uLs)))))
theorem h_change1 {x y : Int32} (hx : x = 1) (hL : rLk Wn Rm T qa qb B h A tk ag F V D LG P) (hX : y < 0 ∨ 95 < y → k (some (.int 1)) (ww P M o)) (hk : ¬ y < 0 → ¬ 95 < y → ∀ P' o', rLk Wn Rm T qa (chQ y qb).2 B h A tk ag F V D LG P' → o' 0 = b2l (chQ y qb).1 → k (some (.int 0)) (ww P' M o')) : pm_C 92 (d + 8) false [.ref 1, .int x, .int y, .ref 26] (ww P M o) k kx :=
  pm_Ci rfl (pm_run 40 (And.intro ⟨by decide, by decide⟩ (c_changeB hx (fun g => And.intro (fun _ => hX g) (fun h => absurd rfl h)) hL (fun g1 g2 P' hL' => And.intro (fun h => And.intro (vin (n := 0) (by omega) (by omega)) (hk g1 g2 P' _ hL' (pk_uLs.trans (if_pos h).symm))) (fun h => And.intro (vin (n := 0) (by omega) (by omega)) (hk g1 g2 P' _ hL' (pk_uLs.trans (if_neg h).symm)))))))
theorem h_frame1 {x y z : Int32} (hx : x = 1) (iv : IV Wn Rm B h F V) (hL : rLk Wn Rm T qa qb B h A tk ag F V D LG P) (hX : z < 0 ∨ 1 < z → k (some (.int 1)) (ww P M o)) (hY : ¬ (z < 0 ∨ 1 < z) → (y < 0 ∨ nI qb.length ≤ y) → k (some (.int 2)) (ww P M o)) (hk0 : z = 0 → ∀ (i : Nat) (f : Int64 × Int32) (o' : Nat → Int64), y = nI i → qb[i]? = some f → o' 0 = f.1 → k (some (.int 0)) (ww P M o')) (hk1 : z = 1 → ∀ (i : Nat) (f : Int64 × Int32) (o' : Nat → Int64), y = nI i → qb[i]? = some f → o' 0 = f.2.toInt64 &&& 4294967295 → k (some (.int 0)) (ww P M o')) : pm_C 96 (d + 8) false [.ref 1, .int x, .int y, .int z, .ref 26] (ww P M o) k kx :=
  pm_Ci rfl (pm_run 40 (And.intro ⟨by decide, by decide⟩ (c_frameB iv hx (fun g => And.intro (fun _ => hX g) (fun h => absurd rfl h)) (fun g1 g2 => And.intro (fun h => absurd h (by decide)) (fun _ => And.intro ⟨rfl, rfl⟩ (And.intro (fun _ => hY g1 g2) (fun h => absurd rfl h)))) hL (fun e i f e2 e3 => And.intro (vin (n := 0) (by omega) (by omega)) (hk0 e i f _ e2 e3 pk_uLs)) (fun e i f e2 e3 => And.intro (vin (n := 0) (by omega) (by omega)) (hk1 e i f _ e2 e3 pk_uLs)))))
theorem h_frameX {x y z : Int32} (hx : x < 0 ∨ 1 < x) (hk : k (some (.int 1)) (ww P M o)) : pm_C 96 (d + 8) false [.ref 1, .int x, .int y, .int z, .ref 26] (ww P M o) k kx :=
  pm_Ci rfl (pm_run 40 (And.intro ⟨by decide, by decide⟩ ((c_noWire hx (And.intro (fun _ => hk) (fun h => absurd rfl h))).2.2.2.2 y z)))
theorem h_word {x : Int32} (hL : rLk Wn Rm T qa qb B h A tk ag F V D LG P) (hX : (x < 0 ∨ nI D ≤ x ∨ x < nI D - 256) → k (some (.int 1)) (ww P M o)) (hk : ∀ i : Nat, i < 2 ^ 31 → x = nI i → ¬ (x < 0 ∨ nI D ≤ x ∨ x < nI D - 256) → ∀ o' : Nat → Int64, o' 0 = (LG (i % 256)).toInt64 → k (some (.int 0)) (ww P M o')) : pm_C 95 (d + 8) false [.ref 1, .int x, .ref 26] (ww P M o) k kx :=
  pm_Ci rfl (pm_run 40 (And.intro ⟨by decide, by decide⟩ (c_word hL (fun g => And.intro (fun _ => hX g) (fun h => absurd rfl h)) (fun i hi e g => And.intro (vin (n := 0) (by omega) (by omega)) (hk i hi e g _ pk_uLs)))))
theorem h_told {x : Int32} (iv : IV Wn Rm B h F V) (hL : rLk Wn Rm T qa qb B h A tk ag F V D LG P) (hX : x < 0 ∨ 9 < x → k (some (.int 1)) (ww P M o)) (hk : ∀ w : Nat, w ≤ 9 → x = nI w → ∀ o' : Nat → Int64, o' 0 = (tdA B h F A V qa qb tk ag w).toInt64 → k (some (.int 0)) (ww P M o')) : pm_C 97 (d + 8) false [.ref 1, .int x, .ref 26] (ww P M o) k kx :=
  pm_Ci rfl (pm_run 40 (And.intro ⟨by decide, by decide⟩ (c_told iv hL (fun g => And.intro (fun _ => hX g) (fun h => absurd rfl h)) (fun w hw e => And.intro (vin (n := 0) (by omega) (by omega)) (hk w hw e _ pk_uLs)))))
/-! the reference's calls with arguments that are known to be small -/
theorem q_beginE {x y z : Int32} {W2 R2 : Nat} {A2 : EF} (ex : x = nI W2) (ez : z = nI R2) (h1 : 1 ≤ W2) (h2 : W2 ≤ 16) (h3 : 1 ≤ R2) (h4 : R2 ≤ 32) (h5 : ¬ y < 1) (h6 : ¬ 50 < y) (hM : rMd t Wn Rm T qa qb B h A tk ag F V D LG M) (hk : ∀ M', rMd 0 W2 R2 y [] [] 0 0 A2 0 0 0 (fun _ => none) 0 LG M' → k none (wmd P M' R)) : pm_C 67 d al [.ref 16, .int x, .int y, .int z] (wmd P M R) k kx := by
  subst ex ez
  exact q_begin h1 h2 h3 h4 h5 h6 hM hk
theorem q_wordE {x : Int32} {i : Nat} (hi : i < 2 ^ 31) (ex : x = nI i) (hx : ¬ (x < 0 ∨ nI D ≤ x ∨ x < nI D - 256)) (hM : rMd t Wn Rm T qa qb B h A tk ag F V D LG M) (hk : ∀ M', rMd 0 Wn Rm T qa qb B h A tk ag F V D LG M' → k (some (.int (LG (i % 256)))) (wmd P M' R)) : pm_C 87 d al [.ref 16, .int x] (wmd P M R) k kx := by
  subst ex
  exact q_word hi hx hM hk
theorem q_toldE {x : Int32} {w : Nat} (ex : x = nI w) (hw : w ≤ 9) (iv : IV Wn Rm B h F V) (hM : rMd t Wn Rm T qa qb B h A tk ag F V D LG M) (hk : ∀ M', rMd 0 Wn Rm T qa qb B h A tk ag F V D LG M' → k (some (.int (tdA B h F A V qa qb tk ag w))) (wmd P M' R)) : pm_C 89 (d + 1) al [.ref 16, .int x] (wmd P M R) k kx := by
  subst ex
  exact q_told hw iv hM hk
theorem q_loseE0 {x : Int32} (ex : x = 0) (iv : IV Wn Rm B h F V) (hM : rMd t Wn Rm T qa qb B h A tk ag F V D LG M) (hk : ∀ M', rMd 0 Wn Rm T (lsQ qa).2 qb B h A tk ag F V D LG M' → k (some (.int (lsQ qa).1)) (wmd P M' R)) : pm_C 82 (d + 2) al [.ref 16, .int x] (wmd P M R) k kx := by
  subst ex
  exact q_lose0 iv hM hk
theorem q_loseE1 {x : Int32} (ex : x = 1) (iv : IV Wn Rm B h F V) (hM : rMd t Wn Rm T qa qb B h A tk ag F V D LG M) (hk : ∀ M', rMd 0 Wn Rm T qa (lsQ qb).2 B h A tk ag F V D LG M' → k (some (.int (lsQ qb).1)) (wmd P M' R)) : pm_C 82 (d + 2) al [.ref 16, .int x] (wmd P M R) k kx := by
  subst ex
  exact q_lose1 iv hM hk
theorem q_twiceE0 {x : Int32} (ex : x = 0) (iv : IV Wn Rm B h F V) (hM : rMd t Wn Rm T qa qb B h A tk ag F V D LG M) (hk : ∀ M', rMd 0 Wn Rm T (twQ Rm qa).2 qb B h A tk ag F V D LG M' → k (some (.int (twQ Rm qa).1)) (wmd P M' R)) : pm_C 84 (d + 2) al [.ref 16, .int x] (wmd P M R) k kx := by
  subst ex
  exact q_twice0 iv hM hk
theorem q_twiceE1 {x : Int32} (ex : x = 1) (iv : IV Wn Rm B h F V) (hM : rMd t Wn Rm T qa qb B h A tk ag F V D LG M) (hk : ∀ M', rMd 0 Wn Rm T qa (twQ Rm qb).2 B h A tk ag F V D LG M' → k (some (.int (twQ Rm qb).1)) (wmd P M' R)) : pm_C 84 (d + 2) al [.ref 16, .int x] (wmd P M R) k kx := by
  subst ex
  exact q_twice1 iv hM hk
theorem q_delayE0 {x : Int32} (ex : x = 0) (iv : IV Wn Rm B h F V) (hM : rMd t Wn Rm T qa qb B h A tk ag F V D LG M) (hk : ∀ M', rMd 0 Wn Rm T (dyQ qa).2 qb B h A tk ag F V D LG M' → k (some (.int (dyQ qa).1)) (wmd P M' R)) : pm_C 85 (d + 2) al [.ref 16, .int x] (wmd P M R) k kx := by
  subst ex
  exact q_delay0 iv hM hk
theorem q_delayE1 {x : Int32} (ex : x = 1) (iv : IV Wn Rm B h F V) (hM : rMd t Wn Rm T qa qb B h A tk ag F V D LG M) (hk : ∀ M', rMd 0 Wn Rm T qa (dyQ qb).2 B h A tk ag F V D LG M' → k (some (.int (dyQ qb).1)) (wmd P M' R)) : pm_C 85 (d + 2) al [.ref 16, .int x] (wmd P M R) k kx := by
  subst ex
  exact q_delay1 iv hM hk
theorem q_changeE0 {x y : Int32} (ex : x = 0) (h1 : ¬ y < 0) (h2 : ¬ 95 < y) (iv : IV Wn Rm B h F V) (hM : rMd t Wn Rm T qa qb B h A tk ag F V D LG M) (hk : ∀ M', rMd 0 Wn Rm T (chQ y qa).2 qb B h A tk ag F V D LG M' → k (some (.int (chQ y qa).1)) (wmd P M' R)) : pm_C 83 (d + 2) al [.ref 16, .int x, .int y] (wmd P M R) k kx := by
  subst ex
  obtain ⟨b, hb, rfl⟩ := nI_of2 (n := 95) (M := 95) (by decide) h1 (Int32.not_lt.mp h2)
  exact q_change0 (by omega) iv hM hk
theorem q_frameYE0 {x y z : Int32} (ex : x = 0) (iv : IV Wn Rm B h F V) (hz : ¬ (z < 0 ∨ 1 < z)) (hy : y < 0 ∨ nI qa.length ≤ y) (hM : rMd t Wn Rm T qa qb B h A tk ag F V D LG M) (hk : ∀ M', rMd 2 Wn Rm T qa qb B h A tk ag F V D LG M' → k (some (.long 0)) (wmd P M' R)) : pm_C 88 (d + 2) al [.ref 16, .int x, .int y, .int z] (wmd P M R) k kx := by
  subst ex
  exact q_frameY0 iv hz hy hM hk
theorem q_frame0E0 {x y z : Int32} {i : Nat} {f : Int64 × Int32} (ex : x = 0) (ey : y = nI i) (ez : z = 0) (iv : IV Wn Rm B h F V) (hf : qa[i]? = some f) (hM : rMd t Wn Rm T qa qb B h A tk ag F V D LG M) (hk : ∀ M', rMd 0 Wn Rm T qa qb B h A tk ag F V D LG M' → k (some (.long f.1)) (wmd P M' R)) : pm_C 88 (d + 2) al [.ref 16, .int x, .int y, .int z] (wmd P M R) k kx := by
  subst ex ey
  exact q_frame0 iv hf (Or.inl ez) hM (fun _ => hk) (fun q => absurd (ez.symm.trans q) (by decide))
theorem q_frame1E0 {x y z : Int32} {i : Nat} {f : Int64 × Int32} (ex : x = 0) (ey : y = nI i) (ez : z = 1) (iv : IV Wn Rm B h F V) (hf : qa[i]? = some f) (hM : rMd t Wn Rm T qa qb B h A tk ag F V D LG M) (hk : ∀ M', rMd 0 Wn Rm T qa qb B h A tk ag F V D LG M' → k (some (.long (f.2.toInt64 &&& 4294967295))) (wmd P M' R)) : pm_C 88 (d + 2) al [.ref 16, .int x, .int y, .int z] (wmd P M R) k kx := by
  subst ex ey
  exact q_frame0 iv hf (Or.inr ez) hM (fun q => absurd (ez.symm.trans q) (by decide)) (fun _ => hk)
theorem q_changeE1 {x y : Int32} (ex : x = 1) (h1 : ¬ y < 0) (h2 : ¬ 95 < y) (iv : IV Wn Rm B h F V) (hM : rMd t Wn Rm T qa qb B h A tk ag F V D LG M) (hk : ∀ M', rMd 0 Wn Rm T qa (chQ y qb).2 B h A tk ag F V D LG M' → k (some (.int (chQ y qb).1)) (wmd P M' R)) : pm_C 83 (d + 2) al [.ref 16, .int x, .int y] (wmd P M R) k kx := by
  subst ex
  obtain ⟨b, hb, rfl⟩ := nI_of2 (n := 95) (M := 95) (by decide) h1 (Int32.not_lt.mp h2)
  exact q_change1 (by omega) iv hM hk
theorem q_frameYE1 {x y z : Int32} (ex : x = 1) (iv : IV Wn Rm B h F V) (hz : ¬ (z < 0 ∨ 1 < z)) (hy : y < 0 ∨ nI qb.length ≤ y) (hM : rMd t Wn Rm T qa qb B h A tk ag F V D LG M) (hk : ∀ M', rMd 2 Wn Rm T qa qb B h A tk ag F V D LG M' → k (some (.long 0)) (wmd P M' R)) : pm_C 88 (d + 2) al [.ref 16, .int x, .int y, .int z] (wmd P M R) k kx := by
  subst ex
  exact q_frameY1 iv hz hy hM hk
theorem q_frame0E1 {x y z : Int32} {i : Nat} {f : Int64 × Int32} (ex : x = 1) (ey : y = nI i) (ez : z = 0) (iv : IV Wn Rm B h F V) (hf : qb[i]? = some f) (hM : rMd t Wn Rm T qa qb B h A tk ag F V D LG M) (hk : ∀ M', rMd 0 Wn Rm T qa qb B h A tk ag F V D LG M' → k (some (.long f.1)) (wmd P M' R)) : pm_C 88 (d + 2) al [.ref 16, .int x, .int y, .int z] (wmd P M R) k kx := by
  subst ex ey
  exact q_frame1 iv hf (Or.inl ez) hM (fun _ => hk) (fun q => absurd (ez.symm.trans q) (by decide))
theorem q_frame1E1 {x y z : Int32} {i : Nat} {f : Int64 × Int32} (ex : x = 1) (ey : y = nI i) (ez : z = 1) (iv : IV Wn Rm B h F V) (hf : qb[i]? = some f) (hM : rMd t Wn Rm T qa qb B h A tk ag F V D LG M) (hk : ∀ M', rMd 0 Wn Rm T qa qb B h A tk ag F V D LG M' → k (some (.long (f.2.toInt64 &&& 4294967295))) (wmd P M' R)) : pm_C 88 (d + 2) al [.ref 16, .int x, .int y, .int z] (wmd P M R) k kx := by
  subst ex ey
  exact q_frame1 iv hf (Or.inr ez) hM (fun q => absurd (ez.symm.trans q) (by decide)) (fun _ => hk)
end PH
end
section
/-! THE LAW: one turn of its loop, case by case; the loop; the way in -/
def lawI (N : Nat) (xs : Nat → Int32) (k : pm_K) (kx : pm_X) (i cb sb : Nat) : Prop := ∀ (Wn Rm : Nat) (T : Int32) (qa qb : Qu) (B h : Nat) (A : EF) (tk ag : Int32) (F : Nat) (V : VF) (D : Nat) (LG : Nat → Int32) (t : Int32) (P : LkP) (M : MP) (o : Nat → Int64), IV Wn Rm B h F V → D ≤ 4 * i → rLk Wn Rm T qa qb B h A tk ag F V D LG P → rMd t Wn Rm T qa qb B h A tk ag F V D LG M → pm_J 98 11 false (some (N, xs)) k kx 23 [some (.ref 0), some (.ref 1), some (.ref 16), some (.ref 26), some (.int (nI i)), none, none, none] [] (ww P M o) cb sb
theorem cmp0 {x y : Int64} (h : x = y) : lg_cmp x y = 0 := by
  subst h
  unfold lg_cmp
  simp
theorem mvB_p : ∀ (h B : Nat) (A : EF), B < 256 → (mvB h B A).2.1 < 256 ∧ (mvB h B A).1 ≤ h
  | 0, B, A, hB => ⟨hB, Nat.le_refl _⟩
  | h + 1, B, A, hB => by
    unfold mvB
    cases (A 0).2.2 with
    | false => exact ⟨hB, Nat.le_refl _⟩
    | true =>
      obtain ⟨h1, h2⟩ := mvB_p h ((B + 1) % 256) (fun i => A (i + 1)) (Nat.mod_lt _ (by omega))
      exact ⟨h1, Nat.le_succ_of_le h2⟩
theorem dlv_z : ∀ (r : Nat) (s : dS), (∀ j, r ≤ j → s.1 j = none) → (dlv r s).1 0 = none
  | 0, s, h => h 0 (Nat.le_refl _)
  | r + 1, s, h => by
    unfold dlv
    cases e : s.1 0 with
    | none => exact e
    | some x => exact dlv_z r _ (fun j hj => h (j + 1) (by omega))
theorem IV_send {Wn Rm B h F : Nat} {V : VF} {x : Int32} {qa : Qu} {A : EF} (iv : IV Wn Rm B h F V) : IV Wn Rm B (snd Wn Rm x qa B h A).2.2.1 F V := by
  obtain ⟨i1, i2, i3, i4, i5, i6, i7, i8, i9⟩ := iv
  refine ⟨i1, i2, i3, i4, i5, ?_, i7, i8, i9⟩
  unfold snd
  split
  · rename_i z
    exact z.1
  · exact i6
theorem IV_A {Wn Rm B h F : Nat} {V : VF} {qb : Qu} {A : EF} (iv : IV Wn Rm B h F V) : IV Wn Rm (cA qb h B A).2.2.2.1 (cA qb h B A).2.2.1 F V := by
  obtain ⟨i1, i2, i3, i4, i5, i6, i7, i8, i9⟩ := iv
  have key : (cA qb h B A).2.2.2.1 < 256 ∧ (cA qb h B A).2.2.1 ≤ h := by
    unfold cA
    split
    · exact ⟨i5, Nat.le_refl _⟩
    · split
      · split
        · exact ⟨i5, Nat.le_refl _⟩
        · exact mvB_p h B _ i5
      · exact ⟨i5, Nat.le_refl _⟩
  exact ⟨i1, i2, i3, i4, key.1, Nat.le_trans key.2 i6, i7, i8, i9⟩
theorem IV_B {Wn Rm B h F D : Nat} {V : VF} {qa qb : Qu} {LG : Nat → Int32} (iv : IV Wn Rm B h F V) : IV Wn Rm B h (cB Wn Rm qa qb (V, F, D, LG)).2.2.2.2.1 (cB Wn Rm qa qb (V, F, D, LG)).2.2.2.1 ∧ (cB Wn Rm qa qb (V, F, D, LG)).2.2.2.2.2.1 ≤ D + 16 := by
  obtain ⟨i1, i2, i3, i4, i5, i6, i7, i8, i9⟩ := iv
  have old : IV Wn Rm B h F V ∧ D ≤ D + 16 := ⟨⟨i1, i2, i3, i4, i5, i6, i7, i8, i9⟩, by omega⟩
  unfold cB
  split
  · exact old
  · split
    · split
      · rename_i f q hs z
        have hw : ∀ j, Wn ≤ j → uV V ((fN f.1 + 256 - F) % 256) (f_word f.1) j = none := fun j hj => (if_neg (by have := z.1; simp only at this; omega)).trans (i8 j hj)
        obtain ⟨k1, k2, k3⟩ := dlv_ok 16 (uV V ((fN f.1 + 256 - F) % 256) (f_word f.1), F, D, LG) i7 (fun j hj => hw j (by omega))
        exact ⟨⟨i1, i2, i3, i4, i5, i6, k1, dlv_win (n := Wn) 16 _ hw, dlv_z 16 _ (fun j hj => hw j (by omega))⟩, k3⟩
      · exact old
    · exact old
section PLW
variable {N : Nat} {xs : Nat → Int32} {i : Nat} {k : pm_K} {kx : pm_X} {cb sb : Nat} {P : LkP} {M : MP} {o : Nat → Int64} {t : Int32} {Wn Rm B h F D : Nat} {T tk ag : Int32} {qa qb : Qu} {A : EF} {V : VF} {LG : Nat → Int32}
theorem law0 (hi : i + 4 ≤ N) (hN : N ≤ 2048) (IH : lawI N xs k kx (i + 4) cb sb) (iv : IV Wn Rm B h F V) (hD : D ≤ 4 * i) (hL : rLk Wn Rm T qa qb B h A tk ag F V D LG P) (hM : rMd t Wn Rm T qa qb B h A tk ag F V D LG M) : pm_J 98 11 false (some (N, xs)) k kx 108 [some (.ref 0), some (.ref 1), some (.ref 16), some (.ref 26), some (.int (nI i)), none, none, none] [] (ww P M o) (cb + 2) (sb + 12) := by
  have hD2 : D ≤ 4 * (i + 4) := by omega
  have b1 : 1 ≤ cb + 2 := by omega
  have b2 : 2 ≤ cb + 2 := by omega
  have b6 : 6 ≤ sb + 12 := by omega
  have b12 : 12 ≤ sb + 12 := by omega
  refine pm_run 17 (And.intro (ix2 (b := 1) (by omega) (by omega)) (And.intro (ix2 (b := 2) (by omega) (by omega)) (And.intro (ix2 (b := 3) (by omega) (by omega)) (And.intro ⟨b1, b6⟩ (h_begin hL (fun g => ?_) (fun W2 R2 e1 e2 h1 h2 h3 h4 h5 h6 P' hL' => ?_))))))
  · exact pm_run 18 (And.intro (ix2 (b := 1) (by omega) (by omega)) (And.intro (ix2 (b := 2) (by omega) (by omega)) (And.intro (ix2 (b := 3) (by omega) (by omega)) (And.intro ⟨Nat.zero_le _, Nat.zero_le _⟩ (q_beginX g hM (fun M' hM' => pm_run 40 (And.intro ⟨Nat.zero_le _, Nat.zero_le _⟩ (q_thrown hM' (And.intro (fun _ => (pm_J.room (pm_J.locals (IH _ _ _ _ _ _ _ _ _ _ _ _ _ _ _ _ _ _ (iv) (hD2) hL hM') ⟨rfl, rfl, rfl, rfl, congrArg (fun z => some (Value.int z)) (nI_add i 4), trivial⟩) (by first | exact Nat.le_add_right _ 2 | exact Nat.le_add_right _ 1 | exact Nat.le_refl _) (by first | exact Nat.le_add_right _ 12 | exact Nat.le_add_right _ 6 | exact Nat.le_refl _))) (fun h => absurd rfl h)))))))))) 
  · exact pm_run 18 (And.intro (ix2 (b := 1) (by omega) (by omega)) (And.intro (ix2 (b := 2) (by omega) (by omega)) (And.intro (ix2 (b := 3) (by omega) (by omega)) (And.intro ⟨Nat.zero_le _, Nat.zero_le _⟩ (q_beginE (A2 := A) e1 e2 h1 h2 h3 h4 h5 h6 hM (fun M' hM' => pm_run 40 (And.intro ⟨Nat.zero_le _, Nat.zero_le _⟩ (q_thrown hM' (And.intro (fun _ => (pm_J.room (pm_J.locals (IH _ _ _ _ _ _ _ _ _ _ _ _ _ _ _ _ _ _ (⟨h1, h2, h3, h4, by omega, by omega, by omega, fun _ _ => rfl, rfl⟩) (Nat.zero_le _) hL' hM') ⟨rfl, rfl, rfl, rfl, congrArg (fun z => some (Value.int z)) (nI_add i 4), trivial⟩) (by first | exact Nat.le_add_right _ 2 | exact Nat.le_add_right _ 1 | exact Nat.le_refl _) (by first | exact Nat.le_add_right _ 12 | exact Nat.le_add_right _ 6 | exact Nat.le_refl _))) (fun h => absurd rfl h)))))))))) 
theorem law1 (hi : i + 4 ≤ N) (hN : N ≤ 2048) (IH : lawI N xs k kx (i + 4) cb sb) (iv : IV Wn Rm B h F V) (hD : D ≤ 4 * i) (hL : rLk Wn Rm T qa qb B h A tk ag F V D LG P) (hM : rMd t Wn Rm T qa qb B h A tk ag F V D LG M) : pm_J 98 11 false (some (N, xs)) k kx 168 [some (.ref 0), some (.ref 1), some (.ref 16), some (.ref 26), some (.int (nI i)), none, none, none] [] (ww P M o) (cb + 2) (sb + 12) := by
  have hD2 : D ≤ 4 * (i + 4) := by omega
  have b1 : 1 ≤ cb + 2 := by omega
  have b2 : 2 ≤ cb + 2 := by omega
  have b6 : 6 ≤ sb + 12 := by omega
  have b12 : 12 ≤ sb + 12 := by omega
  exact pm_run 7 (And.intro (ix2 (b := 1) (by omega) (by omega)) (And.intro ⟨Nat.zero_le _, Nat.zero_le _⟩ (c_send iv hL (fun P' hL' => pm_run 7 (And.intro (ix2 (b := 1) (by omega) (by omega)) (And.intro ⟨Nat.zero_le _, Nat.zero_le _⟩ (q_send iv hM (fun M' hM' => pm_run 40 (And.intro (fun _ => (pm_J.room (pm_J.locals (IH _ _ _ _ _ _ _ _ _ _ _ _ _ _ _ _ _ _ (IV_send iv) (hD2) hL' hM') ⟨rfl, rfl, rfl, rfl, congrArg (fun z => some (Value.int z)) (nI_add i 4), trivial⟩) (by first | exact Nat.le_add_right _ 2 | exact Nat.le_add_right _ 1 | exact Nat.le_refl _) (by first | exact Nat.le_add_right _ 12 | exact Nat.le_add_right _ 6 | exact Nat.le_refl _))) (fun h => absurd rfl h))))))))))
theorem law2 (hi : i + 4 ≤ N) (hN : N ≤ 2048) (IH : lawI N xs k kx (i + 4) cb sb) (iv : IV Wn Rm B h F V) (hD : D ≤ 4 * i) (hL : rLk Wn Rm T qa qb B h A tk ag F V D LG P) (hM : rMd t Wn Rm T qa qb B h A tk ag F V D LG M) : pm_J 98 11 false (some (N, xs)) k kx 193 [some (.ref 0), some (.ref 1), some (.ref 16), some (.ref 26), some (.int (nI i)), none, none, none] [] (ww P M o) (cb + 2) (sb + 12) := by
  have hD2 : D ≤ 4 * (i + 4) := by omega
  have b1 : 1 ≤ cb + 2 := by omega
  have b2 : 2 ≤ cb + 2 := by omega
  have b6 : 6 ≤ sb + 12 := by omega
  have b12 : 12 ≤ sb + 12 := by omega
  exact pm_run 2 (And.intro ⟨Nat.zero_le _, Nat.zero_le _⟩ (c_tick iv hL (fun P' hL' => pm_run 2 (And.intro ⟨Nat.zero_le _, Nat.zero_le _⟩ (q_tick iv hM (fun M' hM' => pm_run 40 (And.intro (fun _ => (pm_J.room (pm_J.locals (IH _ _ _ _ _ _ _ _ _ _ _ _ _ _ _ _ _ _ (iv) (hD2) hL' hM') ⟨rfl, rfl, rfl, rfl, congrArg (fun z => some (Value.int z)) (nI_add i 4), trivial⟩) (by first | exact Nat.le_add_right _ 2 | exact Nat.le_add_right _ 1 | exact Nat.le_refl _) (by first | exact Nat.le_add_right _ 12 | exact Nat.le_add_right _ 6 | exact Nat.le_refl _))) (fun h => absurd rfl h))))))))
theorem law3 (hi : i + 4 ≤ N) (hN : N ≤ 2048) (IH : lawI N xs k kx (i + 4) cb sb) (iv : IV Wn Rm B h F V) (hD : D ≤ 4 * i) (hL : rLk Wn Rm T qa qb B h A tk ag F V D LG P) (hM : rMd t Wn Rm T qa qb B h A tk ag F V D LG M) : pm_J 98 11 false (some (N, xs)) k kx 206 [some (.ref 0), some (.ref 1), some (.ref 16), some (.ref 26), some (.int (nI i)), none, none, none] [] (ww P M o) (cb + 2) (sb + 12) := by
  have hD2 : D ≤ 4 * (i + 4) := by omega
  have b1 : 1 ≤ cb + 2 := by omega
  have b2 : 2 ≤ cb + 2 := by omega
  have b6 : 6 ≤ sb + 12 := by omega
  have b12 : 12 ≤ sb + 12 := by omega
  exact pm_run 2 (And.intro ⟨Nat.zero_le _, Nat.zero_le _⟩ (c_comeB iv (by omega) hL (fun P' hL' => pm_run 2 (And.intro ⟨Nat.zero_le _, Nat.zero_le _⟩ (q_comeB iv (by omega) hM (fun M' hM' => pm_run 40 (And.intro (fun _ => (pm_J.room (pm_J.locals (IH _ _ _ _ _ _ _ _ _ _ _ _ _ _ _ _ _ _ ((IV_B iv).1) (Nat.le_trans (IV_B iv).2 (by omega)) hL' hM') ⟨rfl, rfl, rfl, rfl, congrArg (fun z => some (Value.int z)) (nI_add i 4), trivial⟩) (by first | exact Nat.le_add_right _ 2 | exact Nat.le_add_right _ 1 | exact Nat.le_refl _) (by first | exact Nat.le_add_right _ 12 | exact Nat.le_add_right _ 6 | exact Nat.le_refl _))) (fun h => absurd rfl h))))))))
theorem law4 (hi : i + 4 ≤ N) (hN : N ≤ 2048) (IH : lawI N xs k kx (i + 4) cb sb) (iv : IV Wn Rm B h F V) (hD : D ≤ 4 * i) (hL : rLk Wn Rm T qa qb B h A tk ag F V D LG P) (hM : rMd t Wn Rm T qa qb B h A tk ag F V D LG M) : pm_J 98 11 false (some (N, xs)) k kx 219 [some (.ref 0), some (.ref 1), some (.ref 16), some (.ref 26), some (.int (nI i)), none, none, none] [] (ww P M o) (cb + 2) (sb + 12) := by
  have hD2 : D ≤ 4 * (i + 4) := by omega
  have b1 : 1 ≤ cb + 2 := by omega
  have b2 : 2 ≤ cb + 2 := by omega
  have b6 : 6 ≤ sb + 12 := by omega
  have b12 : 12 ≤ sb + 12 := by omega
  exact pm_run 2 (And.intro ⟨Nat.zero_le _, Nat.zero_le _⟩ (c_comeA iv hL (fun P' hL' => pm_run 2 (And.intro ⟨Nat.zero_le _, Nat.zero_le _⟩ (q_comeA iv hM (fun M' hM' => pm_run 40 (And.intro (fun _ => (pm_J.room (pm_J.locals (IH _ _ _ _ _ _ _ _ _ _ _ _ _ _ _ _ _ _ (IV_A iv) (hD2) hL' hM') ⟨rfl, rfl, rfl, rfl, congrArg (fun z => some (Value.int z)) (nI_add i 4), trivial⟩) (by first | exact Nat.le_add_right _ 2 | exact Nat.le_add_right _ 1 | exact Nat.le_refl _) (by first | exact Nat.le_add_right _ 12 | exact Nat.le_add_right _ 6 | exact Nat.le_refl _))) (fun h => absurd rfl h))))))))
theorem law5 (hi : i + 4 ≤ N) (hN : N ≤ 2048) (IH : lawI N xs k kx (i + 4) cb sb) (iv : IV Wn Rm B h F V) (hD : D ≤ 4 * i) (hL : rLk Wn Rm T qa qb B h A tk ag F V D LG P) (hM : rMd t Wn Rm T qa qb B h A tk ag F V D LG M) : pm_J 98 11 false (some (N, xs)) k kx 232 [some (.ref 0), some (.ref 1), some (.ref 16), some (.ref 26), some (.int (nI i)), none, none, none] [] (ww P M o) (cb + 2) (sb + 12) := by
  have hD2 : D ≤ 4 * (i + 4) := by omega
  have b1 : 1 ≤ cb + 2 := by omega
  have b2 : 2 ≤ cb + 2 := by omega
  have b6 : 6 ≤ sb + 12 := by omega
  have b12 : 12 ≤ sb + 12 := by omega
  refine pm_run 8 (And.intro (ix2 (b := 1) (by omega) (by omega)) (And.intro ⟨b1, b6⟩ ?_))
  rcases w3 (xs (nI i + Int32.ofNat 1).toNatClampNeg) with g | e | e
  · exact h_loseX g (pm_run 8 (And.intro (ix2 (b := 1) (by omega) (by omega)) (And.intro ⟨Nat.zero_le _, Nat.zero_le _⟩ (q_loseX g hM (fun M' hM' => (pm_run 40 (And.intro ⟨Nat.zero_le _, Nat.zero_le _⟩ (q_thrown hM' (And.intro (fun _ => And.intro (fun _ => (pm_J.room (pm_J.locals (IH _ _ _ _ _ _ _ _ _ _ _ _ _ _ _ _ _ _ (iv) (hD2) hL hM') ⟨rfl, rfl, rfl, rfl, congrArg (fun z => some (Value.int z)) (nI_add i 4), trivial⟩) (by first | exact Nat.le_add_right _ 2 | exact Nat.le_add_right _ 1 | exact Nat.le_refl _) (by first | exact Nat.le_add_right _ 12 | exact Nat.le_add_right _ 6 | exact Nat.le_refl _))) (fun h => absurd h (by decide))) (fun h => absurd rfl h))))))))))
  · exact h_lose0 e iv hL (fun P' o' hL' ho => pm_run 8 (And.intro (ix2 (b := 1) (by omega) (by omega)) (And.intro ⟨Nat.zero_le _, Nat.zero_le _⟩ (q_loseE0 e iv hM (fun M' hM' => (pm_run 40 (And.intro ⟨Nat.zero_le _, Nat.zero_le _⟩ (q_thrown hM' (And.intro (fun _ => And.intro (fun h => absurd rfl h) (fun _ => And.intro (vin (n := 0) (by omega) (by omega)) (And.intro (fun hb => And.intro (fun _ => (pm_J.room (pm_J.locals (IH _ _ _ _ _ _ _ _ _ _ _ _ _ _ _ _ _ _ (iv) (hD2) hL' hM') ⟨rfl, rfl, rfl, rfl, congrArg (fun z => some (Value.int z)) (nI_add i 4), trivial⟩) (by first | exact Nat.le_add_right _ 2 | exact Nat.le_add_right _ 1 | exact Nat.le_refl _) (by first | exact Nat.le_add_right _ 12 | exact Nat.le_add_right _ 6 | exact Nat.le_refl _))) (fun h => absurd (cmp0 (ho.trans (if_pos hb))) h)) (fun hb => And.intro (fun _ => (pm_J.room (pm_J.locals (IH _ _ _ _ _ _ _ _ _ _ _ _ _ _ _ _ _ _ (iv) (hD2) hL' hM') ⟨rfl, rfl, rfl, rfl, congrArg (fun z => some (Value.int z)) (nI_add i 4), trivial⟩) (by first | exact Nat.le_add_right _ 2 | exact Nat.le_add_right _ 1 | exact Nat.le_refl _) (by first | exact Nat.le_add_right _ 12 | exact Nat.le_add_right _ 6 | exact Nat.le_refl _))) (fun h => absurd (cmp0 (ho.trans (if_neg hb))) h))))) (fun h => absurd rfl h))))))))))
  · exact h_lose1 e iv hL (fun P' o' hL' ho => pm_run 8 (And.intro (ix2 (b := 1) (by omega) (by omega)) (And.intro ⟨Nat.zero_le _, Nat.zero_le _⟩ (q_loseE1 e iv hM (fun M' hM' => (pm_run 40 (And.intro ⟨Nat.zero_le _, Nat.zero_le _⟩ (q_thrown hM' (And.intro (fun _ => And.intro (fun h => absurd rfl h) (fun _ => And.intro (vin (n := 0) (by omega) (by omega)) (And.intro (fun hb => And.intro (fun _ => (pm_J.room (pm_J.locals (IH _ _ _ _ _ _ _ _ _ _ _ _ _ _ _ _ _ _ (iv) (hD2) hL' hM') ⟨rfl, rfl, rfl, rfl, congrArg (fun z => some (Value.int z)) (nI_add i 4), trivial⟩) (by first | exact Nat.le_add_right _ 2 | exact Nat.le_add_right _ 1 | exact Nat.le_refl _) (by first | exact Nat.le_add_right _ 12 | exact Nat.le_add_right _ 6 | exact Nat.le_refl _))) (fun h => absurd (cmp0 (ho.trans (if_pos hb))) h)) (fun hb => And.intro (fun _ => (pm_J.room (pm_J.locals (IH _ _ _ _ _ _ _ _ _ _ _ _ _ _ _ _ _ _ (iv) (hD2) hL' hM') ⟨rfl, rfl, rfl, rfl, congrArg (fun z => some (Value.int z)) (nI_add i 4), trivial⟩) (by first | exact Nat.le_add_right _ 2 | exact Nat.le_add_right _ 1 | exact Nat.le_refl _) (by first | exact Nat.le_add_right _ 12 | exact Nat.le_add_right _ 6 | exact Nat.le_refl _))) (fun h => absurd (cmp0 (ho.trans (if_neg hb))) h))))) (fun h => absurd rfl h))))))))))
theorem law7 (hi : i + 4 ≤ N) (hN : N ≤ 2048) (IH : lawI N xs k kx (i + 4) cb sb) (iv : IV Wn Rm B h F V) (hD : D ≤ 4 * i) (hL : rLk Wn Rm T qa qb B h A tk ag F V D LG P) (hM : rMd t Wn Rm T qa qb B h A tk ag F V D LG M) : pm_J 98 11 false (some (N, xs)) k kx 370 [some (.ref 0), some (.ref 1), some (.ref 16), some (.ref 26), some (.int (nI i)), none, none, none] [] (ww P M o) (cb + 2) (sb + 12) := by
  have hD2 : D ≤ 4 * (i + 4) := by omega
  have b1 : 1 ≤ cb + 2 := by omega
  have b2 : 2 ≤ cb + 2 := by omega
  have b6 : 6 ≤ sb + 12 := by omega
  have b12 : 12 ≤ sb + 12 := by omega
  refine pm_run 8 (And.intro (ix2 (b := 1) (by omega) (by omega)) (And.intro ⟨b1, b6⟩ ?_))
  rcases w3 (xs (nI i + Int32.ofNat 1).toNatClampNeg) with g | e | e
  · exact h_twiceX g (pm_run 8 (And.intro (ix2 (b := 1) (by omega) (by omega)) (And.intro ⟨Nat.zero_le _, Nat.zero_le _⟩ (q_twiceX g hM (fun M' hM' => (pm_run 40 (And.intro ⟨Nat.zero_le _, Nat.zero_le _⟩ (q_thrown hM' (And.intro (fun _ => And.intro (fun _ => (pm_J.room (pm_J.locals (IH _ _ _ _ _ _ _ _ _ _ _ _ _ _ _ _ _ _ (iv) (hD2) hL hM') ⟨rfl, rfl, rfl, rfl, congrArg (fun z => some (Value.int z)) (nI_add i 4), trivial⟩) (by first | exact Nat.le_add_right _ 2 | exact Nat.le_add_right _ 1 | exact Nat.le_refl _) (by first | exact Nat.le_add_right _ 12 | exact Nat.le_add_right _ 6 | exact Nat.le_refl _))) (fun h => absurd h (by decide))) (fun h => absurd rfl h))))))))))
  · exact h_twice0 e iv hL (fun P' o' hL' ho => pm_run 8 (And.intro (ix2 (b := 1) (by omega) (by omega)) (And.intro ⟨Nat.zero_le _, Nat.zero_le _⟩ (q_twiceE0 e iv hM (fun M' hM' => (pm_run 40 (And.intro ⟨Nat.zero_le _, Nat.zero_le _⟩ (q_thrown hM' (And.intro (fun _ => And.intro (fun h => absurd rfl h) (fun _ => And.intro (vin (n := 0) (by omega) (by omega)) (And.intro (fun hb => And.intro (fun _ => (pm_J.room (pm_J.locals (IH _ _ _ _ _ _ _ _ _ _ _ _ _ _ _ _ _ _ (iv) (hD2) hL' hM') ⟨rfl, rfl, rfl, rfl, congrArg (fun z => some (Value.int z)) (nI_add i 4), trivial⟩) (by first | exact Nat.le_add_right _ 2 | exact Nat.le_add_right _ 1 | exact Nat.le_refl _) (by first | exact Nat.le_add_right _ 12 | exact Nat.le_add_right _ 6 | exact Nat.le_refl _))) (fun h => absurd (cmp0 (ho.trans (if_pos hb))) h)) (fun hb => And.intro (fun _ => (pm_J.room (pm_J.locals (IH _ _ _ _ _ _ _ _ _ _ _ _ _ _ _ _ _ _ (iv) (hD2) hL' hM') ⟨rfl, rfl, rfl, rfl, congrArg (fun z => some (Value.int z)) (nI_add i 4), trivial⟩) (by first | exact Nat.le_add_right _ 2 | exact Nat.le_add_right _ 1 | exact Nat.le_refl _) (by first | exact Nat.le_add_right _ 12 | exact Nat.le_add_right _ 6 | exact Nat.le_refl _))) (fun h => absurd (cmp0 (ho.trans (if_neg hb))) h))))) (fun h => absurd rfl h))))))))))
  · exact h_twice1 e iv hL (fun P' o' hL' ho => pm_run 8 (And.intro (ix2 (b := 1) (by omega) (by omega)) (And.intro ⟨Nat.zero_le _, Nat.zero_le _⟩ (q_twiceE1 e iv hM (fun M' hM' => (pm_run 40 (And.intro ⟨Nat.zero_le _, Nat.zero_le _⟩ (q_thrown hM' (And.intro (fun _ => And.intro (fun h => absurd rfl h) (fun _ => And.intro (vin (n := 0) (by omega) (by omega)) (And.intro (fun hb => And.intro (fun _ => (pm_J.room (pm_J.locals (IH _ _ _ _ _ _ _ _ _ _ _ _ _ _ _ _ _ _ (iv) (hD2) hL' hM') ⟨rfl, rfl, rfl, rfl, congrArg (fun z => some (Value.int z)) (nI_add i 4), trivial⟩) (by first | exact Nat.le_add_right _ 2 | exact Nat.le_add_right _ 1 | exact Nat.le_refl _) (by first | exact Nat.le_add_right _ 12 | exact Nat.le_add_right _ 6 | exact Nat.le_refl _))) (fun h => absurd (cmp0 (ho.trans (if_pos hb))) h)) (fun hb => And.intro (fun _ => (pm_J.room (pm_J.locals (IH _ _ _ _ _ _ _ _ _ _ _ _ _ _ _ _ _ _ (iv) (hD2) hL' hM') ⟨rfl, rfl, rfl, rfl, congrArg (fun z => some (Value.int z)) (nI_add i 4), trivial⟩) (by first | exact Nat.le_add_right _ 2 | exact Nat.le_add_right _ 1 | exact Nat.le_refl _) (by first | exact Nat.le_add_right _ 12 | exact Nat.le_add_right _ 6 | exact Nat.le_refl _))) (fun h => absurd (cmp0 (ho.trans (if_neg hb))) h))))) (fun h => absurd rfl h))))))))))
theorem law8 (hi : i + 4 ≤ N) (hN : N ≤ 2048) (IH : lawI N xs k kx (i + 4) cb sb) (iv : IV Wn Rm B h F V) (hD : D ≤ 4 * i) (hL : rLk Wn Rm T qa qb B h A tk ag F V D LG P) (hM : rMd t Wn Rm T qa qb B h A tk ag F V D LG M) : pm_J 98 11 false (some (N, xs)) k kx 433 [some (.ref 0), some (.ref 1), some (.ref 16), some (.ref 26), some (.int (nI i)), none, none, none] [] (ww P M o) (cb + 2) (sb + 12) := by
  have hD2 : D ≤ 4 * (i + 4) := by omega
  have b1 : 1 ≤ cb + 2 := by omega
  have b2 : 2 ≤ cb + 2 := by omega
  have b6 : 6 ≤ sb + 12 := by omega
  have b12 : 12 ≤ sb + 12 := by omega
  refine pm_run 8 (And.intro (ix2 (b := 1) (by omega) (by omega)) (And.intro ⟨b1, b6⟩ ?_))
  rcases w3 (xs (nI i + Int32.ofNat 1).toNatClampNeg) with g | e | e
  · exact h_delayX g (pm_run 8 (And.intro (ix2 (b := 1) (by omega) (by omega)) (And.intro ⟨Nat.zero_le _, Nat.zero_le _⟩ (q_delayX g hM (fun M' hM' => (pm_run 40 (And.intro ⟨Nat.zero_le _, Nat.zero_le _⟩ (q_thrown hM' (And.intro (fun _ => And.intro (fun _ => (pm_J.room (pm_J.locals (IH _ _ _ _ _ _ _ _ _ _ _ _ _ _ _ _ _ _ (iv) (hD2) hL hM') ⟨rfl, rfl, rfl, rfl, congrArg (fun z => some (Value.int z)) (nI_add i 4), trivial⟩) (by first | exact Nat.le_add_right _ 2 | exact Nat.le_add_right _ 1 | exact Nat.le_refl _) (by first | exact Nat.le_add_right _ 12 | exact Nat.le_add_right _ 6 | exact Nat.le_refl _))) (fun h => absurd h (by decide))) (fun h => absurd rfl h))))))))))
  · exact h_delay0 e iv hL (fun P' o' hL' ho => pm_run 8 (And.intro (ix2 (b := 1) (by omega) (by omega)) (And.intro ⟨Nat.zero_le _, Nat.zero_le _⟩ (q_delayE0 e iv hM (fun M' hM' => (pm_run 40 (And.intro ⟨Nat.zero_le _, Nat.zero_le _⟩ (q_thrown hM' (And.intro (fun _ => And.intro (fun h => absurd rfl h) (fun _ => And.intro (vin (n := 0) (by omega) (by omega)) (And.intro (fun hb => And.intro (fun _ => (pm_J.room (pm_J.locals (IH _ _ _ _ _ _ _ _ _ _ _ _ _ _ _ _ _ _ (iv) (hD2) hL' hM') ⟨rfl, rfl, rfl, rfl, congrArg (fun z => some (Value.int z)) (nI_add i 4), trivial⟩) (by first | exact Nat.le_add_right _ 2 | exact Nat.le_add_right _ 1 | exact Nat.le_refl _) (by first | exact Nat.le_add_right _ 12 | exact Nat.le_add_right _ 6 | exact Nat.le_refl _))) (fun h => absurd (cmp0 (ho.trans (if_pos hb))) h)) (fun hb => And.intro (fun _ => (pm_J.room (pm_J.locals (IH _ _ _ _ _ _ _ _ _ _ _ _ _ _ _ _ _ _ (iv) (hD2) hL' hM') ⟨rfl, rfl, rfl, rfl, congrArg (fun z => some (Value.int z)) (nI_add i 4), trivial⟩) (by first | exact Nat.le_add_right _ 2 | exact Nat.le_add_right _ 1 | exact Nat.le_refl _) (by first | exact Nat.le_add_right _ 12 | exact Nat.le_add_right _ 6 | exact Nat.le_refl _))) (fun h => absurd (cmp0 (ho.trans (if_neg hb))) h))))) (fun h => absurd rfl h))))))))))
  · exact h_delay1 e iv hL (fun P' o' hL' ho => pm_run 8 (And.intro (ix2 (b := 1) (by omega) (by omega)) (And.intro ⟨Nat.zero_le _, Nat.zero_le _⟩ (q_delayE1 e iv hM (fun M' hM' => (pm_run 40 (And.intro ⟨Nat.zero_le _, Nat.zero_le _⟩ (q_thrown hM' (And.intro (fun _ => And.intro (fun h => absurd rfl h) (fun _ => And.intro (vin (n := 0) (by omega) (by omega)) (And.intro (fun hb => And.intro (fun _ => (pm_J.room (pm_J.locals (IH _ _ _ _ _ _ _ _ _ _ _ _ _ _ _ _ _ _ (iv) (hD2) hL' hM') ⟨rfl, rfl, rfl, rfl, congrArg (fun z => some (Value.int z)) (nI_add i 4), trivial⟩) (by first | exact Nat.le_add_right _ 2 | exact Nat.le_add_right _ 1 | exact Nat.le_refl _) (by first | exact Nat.le_add_right _ 12 | exact Nat.le_add_right _ 6 | exact Nat.le_refl _))) (fun h => absurd (cmp0 (ho.trans (if_pos hb))) h)) (fun hb => And.intro (fun _ => (pm_J.room (pm_J.locals (IH _ _ _ _ _ _ _ _ _ _ _ _ _ _ _ _ _ _ (iv) (hD2) hL' hM') ⟨rfl, rfl, rfl, rfl, congrArg (fun z => some (Value.int z)) (nI_add i 4), trivial⟩) (by first | exact Nat.le_add_right _ 2 | exact Nat.le_add_right _ 1 | exact Nat.le_refl _) (by first | exact Nat.le_add_right _ 12 | exact Nat.le_add_right _ 6 | exact Nat.le_refl _))) (fun h => absurd (cmp0 (ho.trans (if_neg hb))) h))))) (fun h => absurd rfl h))))))))))
theorem law6 (hi : i + 4 ≤ N) (hN : N ≤ 2048) (IH : lawI N xs k kx (i + 4) cb sb) (iv : IV Wn Rm B h F V) (hD : D ≤ 4 * i) (hL : rLk Wn Rm T qa qb B h A tk ag F V D LG P) (hM : rMd t Wn Rm T qa qb B h A tk ag F V D LG M) : pm_J 98 11 false (some (N, xs)) k kx 295 [some (.ref 0), some (.ref 1), some (.ref 16), some (.ref 26), some (.int (nI i)), none, none, none] [] (ww P M o) (cb + 2) (sb + 12) := by
  have hD2 : D ≤ 4 * (i + 4) := by omega
  have b1 : 1 ≤ cb + 2 := by omega
  have b2 : 2 ≤ cb + 2 := by omega
  have b6 : 6 ≤ sb + 12 := by omega
  have b12 : 12 ≤ sb + 12 := by omega
  refine pm_run 13 (And.intro (ix2 (b := 1) (by omega) (by omega)) (And.intro (ix2 (b := 2) (by omega) (by omega)) (And.intro ⟨b2, b12⟩ ?_)))
  rcases w3 (xs (nI i + Int32.ofNat 1).toNatClampNeg) with g | e | e
  · exact h_changeX g (pm_run 13 (And.intro (ix2 (b := 1) (by omega) (by omega)) (And.intro (ix2 (b := 2) (by omega) (by omega)) (And.intro ⟨Nat.zero_le _, Nat.zero_le _⟩ (q_changeX (Or.inl g) hM (fun M' hM' => (pm_run 40 (And.intro ⟨Nat.zero_le _, Nat.zero_le _⟩ (q_thrown hM' (And.intro (fun _ => And.intro (fun _ => (pm_J.room (pm_J.locals (IH _ _ _ _ _ _ _ _ _ _ _ _ _ _ _ _ _ _ (iv) (hD2) hL hM') ⟨rfl, rfl, rfl, rfl, congrArg (fun z => some (Value.int z)) (nI_add i 4), trivial⟩) (by first | exact Nat.le_add_right _ 2 | exact Nat.le_add_right _ 1 | exact Nat.le_refl _) (by first | exact Nat.le_add_right _ 12 | exact Nat.le_add_right _ 6 | exact Nat.le_refl _))) (fun h => absurd h (by decide))) (fun h => absurd rfl h)))))))))))
  · exact h_change0 e hL (fun g => pm_run 13 (And.intro (ix2 (b := 1) (by omega) (by omega)) (And.intro (ix2 (b := 2) (by omega) (by omega)) (And.intro ⟨Nat.zero_le _, Nat.zero_le _⟩ (q_changeX (Or.inr g) hM (fun M' hM' => (pm_run 40 (And.intro ⟨Nat.zero_le _, Nat.zero_le _⟩ (q_thrown hM' (And.intro (fun _ => And.intro (fun _ => (pm_J.room (pm_J.locals (IH _ _ _ _ _ _ _ _ _ _ _ _ _ _ _ _ _ _ (iv) (hD2) hL hM') ⟨rfl, rfl, rfl, rfl, congrArg (fun z => some (Value.int z)) (nI_add i 4), trivial⟩) (by first | exact Nat.le_add_right _ 2 | exact Nat.le_add_right _ 1 | exact Nat.le_refl _) (by first | exact Nat.le_add_right _ 12 | exact Nat.le_add_right _ 6 | exact Nat.le_refl _))) (fun h => absurd h (by decide))) (fun h => absurd rfl h))))))))))) (fun g1 g2 P' o' hL' ho => pm_run 13 (And.intro (ix2 (b := 1) (by omega) (by omega)) (And.intro (ix2 (b := 2) (by omega) (by omega)) (And.intro ⟨Nat.zero_le _, Nat.zero_le _⟩ (q_changeE0 e g1 g2 iv hM (fun M' hM' => (pm_run 40 (And.intro ⟨Nat.zero_le _, Nat.zero_le _⟩ (q_thrown hM' (And.intro (fun _ => And.intro (fun h => absurd rfl h) (fun _ => And.intro (vin (n := 0) (by omega) (by omega)) (And.intro (fun hb => And.intro (fun _ => (pm_J.room (pm_J.locals (IH _ _ _ _ _ _ _ _ _ _ _ _ _ _ _ _ _ _ (iv) (hD2) hL' hM') ⟨rfl, rfl, rfl, rfl, congrArg (fun z => some (Value.int z)) (nI_add i 4), trivial⟩) (by first | exact Nat.le_add_right _ 2 | exact Nat.le_add_right _ 1 | exact Nat.le_refl _) (by first | exact Nat.le_add_right _ 12 | exact Nat.le_add_right _ 6 | exact Nat.le_refl _))) (fun h => absurd (cmp0 (ho.trans (if_pos hb))) h)) (fun hb => And.intro (fun _ => (pm_J.room (pm_J.locals (IH _ _ _ _ _ _ _ _ _ _ _ _ _ _ _ _ _ _ (iv) (hD2) hL' hM') ⟨rfl, rfl, rfl, rfl, congrArg (fun z => some (Value.int z)) (nI_add i 4), trivial⟩) (by first | exact Nat.le_add_right _ 2 | exact Nat.le_add_right _ 1 | exact Nat.le_refl _) (by first | exact Nat.le_add_right _ 12 | exact Nat.le_add_right _ 6 | exact Nat.le_refl _))) (fun h => absurd (cmp0 (ho.trans (if_neg hb))) h))))) (fun h => absurd rfl h)))))))))))
  · exact h_change1 e hL (fun g => pm_run 13 (And.intro (ix2 (b := 1) (by omega) (by omega)) (And.intro (ix2 (b := 2) (by omega) (by omega)) (And.intro ⟨Nat.zero_le _, Nat.zero_le _⟩ (q_changeX (Or.inr g) hM (fun M' hM' => (pm_run 40 (And.intro ⟨Nat.zero_le _, Nat.zero_le _⟩ (q_thrown hM' (And.intro (fun _ => And.intro (fun _ => (pm_J.room (pm_J.locals (IH _ _ _ _ _ _ _ _ _ _ _ _ _ _ _ _ _ _ (iv) (hD2) hL hM') ⟨rfl, rfl, rfl, rfl, congrArg (fun z => some (Value.int z)) (nI_add i 4), trivial⟩) (by first | exact Nat.le_add_right _ 2 | exact Nat.le_add_right _ 1 | exact Nat.le_refl _) (by first | exact Nat.le_add_right _ 12 | exact Nat.le_add_right _ 6 | exact Nat.le_refl _))) (fun h => absurd h (by decide))) (fun h => absurd rfl h))))))))))) (fun g1 g2 P' o' hL' ho => pm_run 13 (And.intro (ix2 (b := 1) (by omega) (by omega)) (And.intro (ix2 (b := 2) (by omega) (by omega)) (And.intro ⟨Nat.zero_le _, Nat.zero_le _⟩ (q_changeE1 e g1 g2 iv hM (fun M' hM' => (pm_run 40 (And.intro ⟨Nat.zero_le _, Nat.zero_le _⟩ (q_thrown hM' (And.intro (fun _ => And.intro (fun h => absurd rfl h) (fun _ => And.intro (vin (n := 0) (by omega) (by omega)) (And.intro (fun hb => And.intro (fun _ => (pm_J.room (pm_J.locals (IH _ _ _ _ _ _ _ _ _ _ _ _ _ _ _ _ _ _ (iv) (hD2) hL' hM') ⟨rfl, rfl, rfl, rfl, congrArg (fun z => some (Value.int z)) (nI_add i 4), trivial⟩) (by first | exact Nat.le_add_right _ 2 | exact Nat.le_add_right _ 1 | exact Nat.le_refl _) (by first | exact Nat.le_add_right _ 12 | exact Nat.le_add_right _ 6 | exact Nat.le_refl _))) (fun h => absurd (cmp0 (ho.trans (if_pos hb))) h)) (fun hb => And.intro (fun _ => (pm_J.room (pm_J.locals (IH _ _ _ _ _ _ _ _ _ _ _ _ _ _ _ _ _ _ (iv) (hD2) hL' hM') ⟨rfl, rfl, rfl, rfl, congrArg (fun z => some (Value.int z)) (nI_add i 4), trivial⟩) (by first | exact Nat.le_add_right _ 2 | exact Nat.le_add_right _ 1 | exact Nat.le_refl _) (by first | exact Nat.le_add_right _ 12 | exact Nat.le_add_right _ 6 | exact Nat.le_refl _))) (fun h => absurd (cmp0 (ho.trans (if_neg hb))) h))))) (fun h => absurd rfl h)))))))))))
theorem law9 (hi : i + 4 ≤ N) (hN : N ≤ 2048) (IH : lawI N xs k kx (i + 4) cb sb) (iv : IV Wn Rm B h F V) (hD : D ≤ 4 * i) (hL : rLk Wn Rm T qa qb B h A tk ag F V D LG P) (hM : rMd t Wn Rm T qa qb B h A tk ag F V D LG M) : pm_J 98 11 false (some (N, xs)) k kx 496 [some (.ref 0), some (.ref 1), some (.ref 16), some (.ref 26), some (.int (nI i)), none, none, none] [] (ww P M o) (cb + 2) (sb + 12) := by
  have hD2 : D ≤ 4 * (i + 4) := by omega
  have b1 : 1 ≤ cb + 2 := by omega
  have b2 : 2 ≤ cb + 2 := by omega
  have b6 : 6 ≤ sb + 12 := by omega
  have b12 : 12 ≤ sb + 12 := by omega
  exact pm_run 2 (And.intro ⟨Nat.zero_le _, Nat.zero_le _⟩ (c_delivered hL (pm_run 2 (And.intro ⟨Nat.zero_le _, Nat.zero_le _⟩ (q_delivered hM (fun M' hM' => pm_run 40 (And.intro (fun _ => (pm_J.room (pm_J.locals (IH _ _ _ _ _ _ _ _ _ _ _ _ _ _ _ _ _ _ (iv) (hD2) hL hM') ⟨rfl, rfl, rfl, rfl, congrArg (fun z => some (Value.int z)) (nI_add i 4), trivial⟩) (by first | exact Nat.le_add_right _ 2 | exact Nat.le_add_right _ 1 | exact Nat.le_refl _) (by first | exact Nat.le_add_right _ 12 | exact Nat.le_add_right _ 6 | exact Nat.le_refl _))) (fun h => absurd rfl h))))))))
theorem law10 (hi : i + 4 ≤ N) (hN : N ≤ 2048) (IH : lawI N xs k kx (i + 4) cb sb) (iv : IV Wn Rm B h F V) (hD : D ≤ 4 * i) (hL : rLk Wn Rm T qa qb B h A tk ag F V D LG P) (hM : rMd t Wn Rm T qa qb B h A tk ag F V D LG M) : pm_J 98 11 false (some (N, xs)) k kx 509 [some (.ref 0), some (.ref 1), some (.ref 16), some (.ref 26), some (.int (nI i)), none, none, none] [] (ww P M o) (cb + 2) (sb + 12) := by
  have hD2 : D ≤ 4 * (i + 4) := by omega
  have b1 : 1 ≤ cb + 2 := by omega
  have b2 : 2 ≤ cb + 2 := by omega
  have b6 : 6 ≤ sb + 12 := by omega
  have b12 : 12 ≤ sb + 12 := by omega
  exact pm_run 8 (And.intro (ix2 (b := 1) (by omega) (by omega)) (And.intro ⟨b1, b6⟩ (h_word hL (fun g => pm_run 8 (And.intro (ix2 (b := 1) (by omega) (by omega)) (And.intro ⟨Nat.zero_le _, Nat.zero_le _⟩ (q_wordX g hM (fun M' hM' => (pm_run 40 (And.intro ⟨Nat.zero_le _, Nat.zero_le _⟩ (q_thrown hM' (And.intro (fun _ => And.intro (fun _ => (pm_J.room (pm_J.locals (IH _ _ _ _ _ _ _ _ _ _ _ _ _ _ _ _ _ _ (iv) (hD2) hL hM') ⟨rfl, rfl, rfl, rfl, congrArg (fun z => some (Value.int z)) (nI_add i 4), trivial⟩) (by first | exact Nat.le_add_right _ 2 | exact Nat.le_add_right _ 1 | exact Nat.le_refl _) (by first | exact Nat.le_add_right _ 12 | exact Nat.le_add_right _ 6 | exact Nat.le_refl _))) (fun h => absurd h (by decide))) (fun h => absurd rfl h)))))))))) (fun j hj e g o' ho => pm_run 8 (And.intro (ix2 (b := 1) (by omega) (by omega)) (And.intro ⟨Nat.zero_le _, Nat.zero_le _⟩ (q_wordE hj e g hM (fun M' hM' => (pm_run 40 (And.intro ⟨Nat.zero_le _, Nat.zero_le _⟩ (q_thrown hM' (And.intro (fun _ => And.intro (fun h => absurd rfl h) (fun _ => And.intro (vin (n := 0) (by omega) (by omega)) (And.intro (fun _ => (pm_J.room (pm_J.locals (IH _ _ _ _ _ _ _ _ _ _ _ _ _ _ _ _ _ _ (iv) (hD2) hL hM') ⟨rfl, rfl, rfl, rfl, congrArg (fun z => some (Value.int z)) (nI_add i 4), trivial⟩) (by first | exact Nat.le_add_right _ 2 | exact Nat.le_add_right _ 1 | exact Nat.le_refl _) (by first | exact Nat.le_add_right _ 12 | exact Nat.le_add_right _ 6 | exact Nat.le_refl _))) (fun h => absurd (cmp0 ho) h)))) (fun h => absurd rfl h)))))))))))))
theorem law11 (hi : i + 4 ≤ N) (hN : N ≤ 2048) (IH : lawI N xs k kx (i + 4) cb sb) (iv : IV Wn Rm B h F V) (hD : D ≤ 4 * i) (hL : rLk Wn Rm T qa qb B h A tk ag F V D LG P) (hM : rMd t Wn Rm T qa qb B h A tk ag F V D LG M) : pm_J 98 11 false (some (N, xs)) k kx 565 [some (.ref 0), some (.ref 1), some (.ref 16), some (.ref 26), some (.int (nI i)), none, none, none] [] (ww P M o) (cb + 2) (sb + 12) := by
  have hD2 : D ≤ 4 * (i + 4) := by omega
  have b1 : 1 ≤ cb + 2 := by omega
  have b2 : 2 ≤ cb + 2 := by omega
  have b6 : 6 ≤ sb + 12 := by omega
  have b12 : 12 ≤ sb + 12 := by omega
  refine pm_run 18 (And.intro (ix2 (b := 1) (by omega) (by omega)) (And.intro (ix2 (b := 2) (by omega) (by omega)) (And.intro (ix2 (b := 3) (by omega) (by omega)) (And.intro ⟨b2, b12⟩ ?_))))
  rcases w3 (xs (nI i + Int32.ofNat 1).toNatClampNeg) with g | e | e
  · exact h_frameX g (pm_run 18 (And.intro (ix2 (b := 1) (by omega) (by omega)) (And.intro (ix2 (b := 2) (by omega) (by omega)) (And.intro (ix2 (b := 3) (by omega) (by omega)) (And.intro ⟨Nat.zero_le _, Nat.zero_le _⟩ (q_frameX (Or.inl g) hM (fun M' hM' => (pm_run 40 (And.intro ⟨Nat.zero_le _, Nat.zero_le _⟩ (q_thrown hM' (And.intro (fun _ => And.intro (fun _ => (pm_J.room (pm_J.locals (IH _ _ _ _ _ _ _ _ _ _ _ _ _ _ _ _ _ _ (iv) (hD2) hL hM') ⟨rfl, rfl, rfl, rfl, congrArg (fun z => some (Value.int z)) (nI_add i 4), trivial⟩) (by first | exact Nat.le_add_right _ 2 | exact Nat.le_add_right _ 1 | exact Nat.le_refl _) (by first | exact Nat.le_add_right _ 12 | exact Nat.le_add_right _ 6 | exact Nat.le_refl _))) (fun h => absurd h (by decide))) (fun h => absurd rfl h))))))))))))
  · refine h_frame0 e iv hL (fun g => ?_) (fun g1 g2 => ?_) (fun ez j f o' e2 e3 ho => ?_) (fun ez j f o' e2 e3 ho => ?_)
    · exact pm_run 18 (And.intro (ix2 (b := 1) (by omega) (by omega)) (And.intro (ix2 (b := 2) (by omega) (by omega)) (And.intro (ix2 (b := 3) (by omega) (by omega)) (And.intro ⟨Nat.zero_le _, Nat.zero_le _⟩ (q_frameX (Or.inr g) hM (fun M' hM' => (pm_run 40 (And.intro ⟨Nat.zero_le _, Nat.zero_le _⟩ (q_thrown hM' (And.intro (fun _ => And.intro (fun _ => (pm_J.room (pm_J.locals (IH _ _ _ _ _ _ _ _ _ _ _ _ _ _ _ _ _ _ (iv) (hD2) hL hM') ⟨rfl, rfl, rfl, rfl, congrArg (fun z => some (Value.int z)) (nI_add i 4), trivial⟩) (by first | exact Nat.le_add_right _ 2 | exact Nat.le_add_right _ 1 | exact Nat.le_refl _) (by first | exact Nat.le_add_right _ 12 | exact Nat.le_add_right _ 6 | exact Nat.le_refl _))) (fun h => absurd h (by decide))) (fun h => absurd rfl h)))))))))))
    · exact pm_run 18 (And.intro (ix2 (b := 1) (by omega) (by omega)) (And.intro (ix2 (b := 2) (by omega) (by omega)) (And.intro (ix2 (b := 3) (by omega) (by omega)) (And.intro ⟨Nat.zero_le _, Nat.zero_le _⟩ (q_frameYE0 e iv g1 g2 hM (fun M' hM' => (pm_run 40 (And.intro ⟨Nat.zero_le _, Nat.zero_le _⟩ (q_thrown hM' (And.intro (fun _ => And.intro (fun _ => (pm_J.room (pm_J.locals (IH _ _ _ _ _ _ _ _ _ _ _ _ _ _ _ _ _ _ (iv) (hD2) hL hM') ⟨rfl, rfl, rfl, rfl, congrArg (fun z => some (Value.int z)) (nI_add i 4), trivial⟩) (by first | exact Nat.le_add_right _ 2 | exact Nat.le_add_right _ 1 | exact Nat.le_refl _) (by first | exact Nat.le_add_right _ 12 | exact Nat.le_add_right _ 6 | exact Nat.le_refl _))) (fun h => absurd h (by decide))) (fun h => absurd rfl h)))))))))))
    · exact pm_run 18 (And.intro (ix2 (b := 1) (by omega) (by omega)) (And.intro (ix2 (b := 2) (by omega) (by omega)) (And.intro (ix2 (b := 3) (by omega) (by omega)) (And.intro ⟨Nat.zero_le _, Nat.zero_le _⟩ (q_frame0E0 e e2 ez iv e3 hM (fun M' hM' => (pm_run 40 (And.intro ⟨Nat.zero_le _, Nat.zero_le _⟩ (q_thrown hM' (And.intro (fun _ => And.intro (fun h => absurd rfl h) (fun _ => And.intro (vin (n := 0) (by omega) (by omega)) (And.intro (fun _ => (pm_J.room (pm_J.locals (IH _ _ _ _ _ _ _ _ _ _ _ _ _ _ _ _ _ _ (iv) (hD2) hL hM') ⟨rfl, rfl, rfl, rfl, congrArg (fun z => some (Value.int z)) (nI_add i 4), trivial⟩) (by first | exact Nat.le_add_right _ 2 | exact Nat.le_add_right _ 1 | exact Nat.le_refl _) (by first | exact Nat.le_add_right _ 12 | exact Nat.le_add_right _ 6 | exact Nat.le_refl _))) (fun h => absurd (cmp0 ho) h)))) (fun h => absurd rfl h)))))))))))
    · exact pm_run 18 (And.intro (ix2 (b := 1) (by omega) (by omega)) (And.intro (ix2 (b := 2) (by omega) (by omega)) (And.intro (ix2 (b := 3) (by omega) (by omega)) (And.intro ⟨Nat.zero_le _, Nat.zero_le _⟩ (q_frame1E0 e e2 ez iv e3 hM (fun M' hM' => (pm_run 40 (And.intro ⟨Nat.zero_le _, Nat.zero_le _⟩ (q_thrown hM' (And.intro (fun _ => And.intro (fun h => absurd rfl h) (fun _ => And.intro (vin (n := 0) (by omega) (by omega)) (And.intro (fun _ => (pm_J.room (pm_J.locals (IH _ _ _ _ _ _ _ _ _ _ _ _ _ _ _ _ _ _ (iv) (hD2) hL hM') ⟨rfl, rfl, rfl, rfl, congrArg (fun z => some (Value.int z)) (nI_add i 4), trivial⟩) (by first | exact Nat.le_add_right _ 2 | exact Nat.le_add_right _ 1 | exact Nat.le_refl _) (by first | exact Nat.le_add_right _ 12 | exact Nat.le_add_right _ 6 | exact Nat.le_refl _))) (fun h => absurd (cmp0 ho) h)))) (fun h => absurd rfl h)))))))))))
  · refine h_frame1 e iv hL (fun g => ?_) (fun g1 g2 => ?_) (fun ez j f o' e2 e3 ho => ?_) (fun ez j f o' e2 e3 ho => ?_)
    · exact pm_run 18 (And.intro (ix2 (b := 1) (by omega) (by omega)) (And.intro (ix2 (b := 2) (by omega) (by omega)) (And.intro (ix2 (b := 3) (by omega) (by omega)) (And.intro ⟨Nat.zero_le _, Nat.zero_le _⟩ (q_frameX (Or.inr g) hM (fun M' hM' => (pm_run 40 (And.intro ⟨Nat.zero_le _, Nat.zero_le _⟩ (q_thrown hM' (And.intro (fun _ => And.intro (fun _ => (pm_J.room (pm_J.locals (IH _ _ _ _ _ _ _ _ _ _ _ _ _ _ _ _ _ _ (iv) (hD2) hL hM') ⟨rfl, rfl, rfl, rfl, congrArg (fun z => some (Value.int z)) (nI_add i 4), trivial⟩) (by first | exact Nat.le_add_right _ 2 | exact Nat.le_add_right _ 1 | exact Nat.le_refl _) (by first | exact Nat.le_add_right _ 12 | exact Nat.le_add_right _ 6 | exact Nat.le_refl _))) (fun h => absurd h (by decide))) (fun h => absurd rfl h)))))))))))
    · exact pm_run 18 (And.intro (ix2 (b := 1) (by omega) (by omega)) (And.intro (ix2 (b := 2) (by omega) (by omega)) (And.intro (ix2 (b := 3) (by omega) (by omega)) (And.intro ⟨Nat.zero_le _, Nat.zero_le _⟩ (q_frameYE1 e iv g1 g2 hM (fun M' hM' => (pm_run 40 (And.intro ⟨Nat.zero_le _, Nat.zero_le _⟩ (q_thrown hM' (And.intro (fun _ => And.intro (fun _ => (pm_J.room (pm_J.locals (IH _ _ _ _ _ _ _ _ _ _ _ _ _ _ _ _ _ _ (iv) (hD2) hL hM') ⟨rfl, rfl, rfl, rfl, congrArg (fun z => some (Value.int z)) (nI_add i 4), trivial⟩) (by first | exact Nat.le_add_right _ 2 | exact Nat.le_add_right _ 1 | exact Nat.le_refl _) (by first | exact Nat.le_add_right _ 12 | exact Nat.le_add_right _ 6 | exact Nat.le_refl _))) (fun h => absurd h (by decide))) (fun h => absurd rfl h)))))))))))
    · exact pm_run 18 (And.intro (ix2 (b := 1) (by omega) (by omega)) (And.intro (ix2 (b := 2) (by omega) (by omega)) (And.intro (ix2 (b := 3) (by omega) (by omega)) (And.intro ⟨Nat.zero_le _, Nat.zero_le _⟩ (q_frame0E1 e e2 ez iv e3 hM (fun M' hM' => (pm_run 40 (And.intro ⟨Nat.zero_le _, Nat.zero_le _⟩ (q_thrown hM' (And.intro (fun _ => And.intro (fun h => absurd rfl h) (fun _ => And.intro (vin (n := 0) (by omega) (by omega)) (And.intro (fun _ => (pm_J.room (pm_J.locals (IH _ _ _ _ _ _ _ _ _ _ _ _ _ _ _ _ _ _ (iv) (hD2) hL hM') ⟨rfl, rfl, rfl, rfl, congrArg (fun z => some (Value.int z)) (nI_add i 4), trivial⟩) (by first | exact Nat.le_add_right _ 2 | exact Nat.le_add_right _ 1 | exact Nat.le_refl _) (by first | exact Nat.le_add_right _ 12 | exact Nat.le_add_right _ 6 | exact Nat.le_refl _))) (fun h => absurd (cmp0 ho) h)))) (fun h => absurd rfl h)))))))))))
    · exact pm_run 18 (And.intro (ix2 (b := 1) (by omega) (by omega)) (And.intro (ix2 (b := 2) (by omega) (by omega)) (And.intro (ix2 (b := 3) (by omega) (by omega)) (And.intro ⟨Nat.zero_le _, Nat.zero_le _⟩ (q_frame1E1 e e2 ez iv e3 hM (fun M' hM' => (pm_run 40 (And.intro ⟨Nat.zero_le _, Nat.zero_le _⟩ (q_thrown hM' (And.intro (fun _ => And.intro (fun h => absurd rfl h) (fun _ => And.intro (vin (n := 0) (by omega) (by omega)) (And.intro (fun _ => (pm_J.room (pm_J.locals (IH _ _ _ _ _ _ _ _ _ _ _ _ _ _ _ _ _ _ (iv) (hD2) hL hM') ⟨rfl, rfl, rfl, rfl, congrArg (fun z => some (Value.int z)) (nI_add i 4), trivial⟩) (by first | exact Nat.le_add_right _ 2 | exact Nat.le_add_right _ 1 | exact Nat.le_refl _) (by first | exact Nat.le_add_right _ 12 | exact Nat.le_add_right _ 6 | exact Nat.le_refl _))) (fun h => absurd (cmp0 ho) h)))) (fun h => absurd rfl h)))))))))))
theorem law12 (hi : i + 4 ≤ N) (hN : N ≤ 2048) (IH : lawI N xs k kx (i + 4) cb sb) (iv : IV Wn Rm B h F V) (hD : D ≤ 4 * i) (hL : rLk Wn Rm T qa qb B h A tk ag F V D LG P) (hM : rMd t Wn Rm T qa qb B h A tk ag F V D LG M) : pm_J 98 11 false (some (N, xs)) k kx 644 [some (.ref 0), some (.ref 1), some (.ref 16), some (.ref 26), some (.int (nI i)), none, none, none] [] (ww P M o) (cb + 2) (sb + 12) := by
  have hD2 : D ≤ 4 * (i + 4) := by omega
  have b1 : 1 ≤ cb + 2 := by omega
  have b2 : 2 ≤ cb + 2 := by omega
  have b6 : 6 ≤ sb + 12 := by omega
  have b12 : 12 ≤ sb + 12 := by omega
  exact pm_run 8 (And.intro (ix2 (b := 1) (by omega) (by omega)) (And.intro ⟨b1, b6⟩ (h_told iv hL (fun g => pm_run 8 (And.intro (ix2 (b := 1) (by omega) (by omega)) (And.intro ⟨Nat.zero_le _, Nat.zero_le _⟩ (q_toldX g hM (fun M' hM' => (pm_run 40 (And.intro ⟨Nat.zero_le _, Nat.zero_le _⟩ (q_thrown hM' (And.intro (fun _ => And.intro (fun _ => (pm_J.room (pm_J.locals (IH _ _ _ _ _ _ _ _ _ _ _ _ _ _ _ _ _ _ (iv) (hD2) hL hM') ⟨rfl, rfl, rfl, rfl, congrArg (fun z => some (Value.int z)) (nI_add i 4), trivial⟩) (by first | exact Nat.le_add_right _ 2 | exact Nat.le_add_right _ 1 | exact Nat.le_refl _) (by first | exact Nat.le_add_right _ 12 | exact Nat.le_add_right _ 6 | exact Nat.le_refl _))) (fun h => absurd h (by decide))) (fun h => absurd rfl h)))))))))) (fun w hw e o' ho => pm_run 8 (And.intro (ix2 (b := 1) (by omega) (by omega)) (And.intro ⟨Nat.zero_le _, Nat.zero_le _⟩ (q_toldE e hw iv hM (fun M' hM' => (pm_run 40 (And.intro ⟨Nat.zero_le _, Nat.zero_le _⟩ (q_thrown hM' (And.intro (fun _ => And.intro (fun h => absurd rfl h) (fun _ => And.intro (vin (n := 0) (by omega) (by omega)) (And.intro (fun _ => (pm_J.room (pm_J.locals (IH _ _ _ _ _ _ _ _ _ _ _ _ _ _ _ _ _ _ (iv) (hD2) hL hM') ⟨rfl, rfl, rfl, rfl, congrArg (fun z => some (Value.int z)) (nI_add i 4), trivial⟩) (by first | exact Nat.le_add_right _ 2 | exact Nat.le_add_right _ 1 | exact Nat.le_refl _) (by first | exact Nat.le_add_right _ 12 | exact Nat.le_add_right _ 6 | exact Nat.le_refl _))) (fun h => absurd (cmp0 ho) h)))) (fun h => absurd rfl h)))))))))))))
theorem law13 (hi : i + 4 ≤ N) (hN : N ≤ 2048) (IH : lawI N xs k kx (i + 4) cb sb) (iv : IV Wn Rm B h F V) (hD : D ≤ 4 * i) (hL : rLk Wn Rm T qa qb B h A tk ag F V D LG P) (hM : rMd t Wn Rm T qa qb B h A tk ag F V D LG M) : pm_J 98 11 false (some (N, xs)) k kx 700 [some (.ref 0), some (.ref 1), some (.ref 16), some (.ref 26), some (.int (nI i)), none, none, none] [] (ww P M o) (cb + 2) (sb + 12) := by
  have hD2 : D ≤ 4 * (i + 4) := by omega
  have b1 : 1 ≤ cb + 2 := by omega
  have b2 : 2 ≤ cb + 2 := by omega
  have b6 : 6 ≤ sb + 12 := by omega
  have b12 : 12 ≤ sb + 12 := by omega
  exact pm_run 19 (And.intro (ix2 (b := 1) (by omega) (by omega)) (And.intro (ix2 (b := 2) (by omega) (by omega)) (And.intro ⟨Nat.zero_le _, Nat.zero_le _⟩ (c_sum (w := []) (e0 := .inr (0, [])) (pm_run 19 (And.intro (ix2 (b := 1) (by omega) (by omega)) (And.intro (ix2 (b := 2) (by omega) (by omega)) (And.intro ⟨Nat.zero_le _, Nat.zero_le _⟩ (q_sum hM (fun M' hM' => pm_run 40 (And.intro (fun _ => (pm_J.room (pm_J.locals (IH _ _ _ _ _ _ _ _ _ _ _ _ _ _ _ _ _ _ (iv) (hD2) hL hM') ⟨rfl, rfl, rfl, rfl, congrArg (fun z => some (Value.int z)) (nI_add i 4), trivial⟩) (by first | exact Nat.le_add_right _ 2 | exact Nat.le_add_right _ 1 | exact Nat.le_refl _) (by first | exact Nat.le_add_right _ 12 | exact Nat.le_add_right _ 6 | exact Nat.le_refl _))) (fun h => absurd rfl h))))))))))))
theorem law14 (hi : i + 4 ≤ N) (hN : N ≤ 2048) (IH : lawI N xs k kx (i + 4) cb sb) (iv : IV Wn Rm B h F V) (hD : D ≤ 4 * i) (hL : rLk Wn Rm T qa qb B h A tk ag F V D LG P) (hM : rMd t Wn Rm T qa qb B h A tk ag F V D LG M) : pm_J 98 11 false (some (N, xs)) k kx 757 [some (.ref 0), some (.ref 1), some (.ref 16), some (.ref 26), some (.int (nI i)), none, none, none] [] (ww P M o) (cb + 2) (sb + 12) := by
  have hD2 : D ≤ 4 * (i + 4) := by omega
  have b1 : 1 ≤ cb + 2 := by omega
  have b2 : 2 ≤ cb + 2 := by omega
  have b6 : 6 ≤ sb + 12 := by omega
  have b12 : 12 ≤ sb + 12 := by omega
  exact pm_run 40 (pm_J.room (pm_J.locals (IH _ _ _ _ _ _ _ _ _ _ _ _ _ _ _ _ _ _ (iv) (hD2) hL hM) ⟨rfl, rfl, rfl, rfl, congrArg (fun z => some (Value.int z)) (nI_add i 4), trivial⟩) (by first | exact Nat.le_add_right _ 2 | exact Nat.le_add_right _ 1 | exact Nat.le_refl _) (by first | exact Nat.le_add_right _ 12 | exact Nat.le_add_right _ 6 | exact Nat.le_refl _))
/-- THE LOOP -/
theorem l_law (hN : N ≤ 2048) (hk : ∀ w, k (some (.int 1)) w) : ∀ (r i : Nat), N < i + 4 * r + 4 → i ≤ 2048 + 4 → lawI N xs k kx i (2 * r) (12 * r) := by
  intro r
  induction r with
  | zero =>
    intro i hr hi Wn Rm T qa qb B h A tk ag F V D LG t P M o iv hD hL hM
    refine pm_run 40 (And.intro (fun _ => And.intro rfl (hk _)) (fun h => absurd ?_ h))
    show nI N - nI 4 < nI i
    rw [Int32.lt_iff_toInt_lt, pk_sub_toInt (by omega) (by omega), nI_toInt (by omega)]
    omega
  | succ r ih =>
    intro i hr hi Wn Rm T qa qb B h A tk ag F V D LG t P M o iv hD hL hM
    by_cases hc : N < i + 4
    · refine pm_run 40 (And.intro (fun _ => And.intro rfl (hk _)) (fun h => absurd ?_ h))
      show nI N - nI 4 < nI i
      rw [Int32.lt_iff_toInt_lt, pk_sub_toInt (by omega) (by omega), nI_toInt (by omega)]
      omega
    · have hi : i + 4 ≤ N := by omega
      have IH : lawI N xs k kx (i + 4) (2 * r) (12 * r) := ih (i + 4) (by omega) (by omega)
      refine pm_run 12 (And.intro (fun h => absurd h ?_) (fun _ => And.intro (vin (by omega) (by omega)) (And.intro (fun _ => law0 hi hN IH iv hD hL hM) (fun _ => And.intro (fun _ => law1 hi hN IH iv hD hL hM) (fun _ => And.intro (fun _ => law2 hi hN IH iv hD hL hM) (fun _ => And.intro (fun _ => law3 hi hN IH iv hD hL hM) (fun _ => And.intro (fun _ => law4 hi hN IH iv hD hL hM) (fun _ => And.intro (fun _ => law5 hi hN IH iv hD hL hM) (fun _ => And.intro (fun _ => law6 hi hN IH iv hD hL hM) (fun _ => And.intro (fun _ => law7 hi hN IH iv hD hL hM) (fun _ => And.intro (fun _ => law8 hi hN IH iv hD hL hM) (fun _ => And.intro (fun _ => law9 hi hN IH iv hD hL hM) (fun _ => And.intro (fun _ => law10 hi hN IH iv hD hL hM) (fun _ => And.intro (fun _ => law11 hi hN IH iv hD hL hM) (fun _ => And.intro (fun _ => law12 hi hN IH iv hD hL hM) (fun _ => And.intro (fun _ => law13 hi hN IH iv hD hL hM) (fun _ => law14 hi hN IH iv hD hL hM)))))))))))))))))
      show ¬ nI N - nI 4 < nI i
      rw [Int32.lt_iff_toInt_lt, pk_sub_toInt (by omega) (by omega), nI_toInt (by omega)]
      omega
/-- cells are no longer made -/
theorem pm_J.al {X : Nat × (Nat → Int32)} {me d pc : Nat} {L : pm_V} {st : List Value} {w : pm_D} (h : pm_J me d false (some X) k kx pc L st w cb sb) : pm_J me d true (some X) k kx pc L st w cb sb := by
  intro p l e R s m args below meth c H locs cells slots dA D ad sa A ls Fr hP hDd hS hz hl hn hc hs
  exact h p l e R s m args below meth c H locs cells slots dA D ad sa A ls Fr hP hDd hS (fun z => by cases z) hl hn hc hs
/-- THE WAY IN -/
theorem j_law (hN : N ≤ 2048) (hk : ∀ w, k (some (.int 1)) w) : pm_J 98 11 true (some (N, xs)) k kx 0 [some (.ref 0), none, none, none, none, none, none, none] [] [] 1057 11066 := by
  refine pm_run 3 (And.intro ⟨by decide, by decide⟩ (And.intro ⟨by decide, by decide⟩ (c_init (A := fun _ => (0, 0, false)) (fun P hL => ?_))))
  refine pm_run 4 (And.intro ⟨by decide, by decide⟩ (And.intro ⟨by decide, by decide⟩ (c_minit ?_)))
  refine pm_run 10 (And.intro ⟨rfl, by decide, by decide⟩ ?_)
  refine pm_J.room (pm_J.al (l_law hN hk 512 0 (by omega) (by omega) 4 8 3 [] [] 0 0 (fun _ => (0, 0, false)) 0 0 0 (fun _ => none) 0 (fun _ => 0) 0 P (0, 4, 3, 8, 0, 0, 0, 0, 0, 0, 0, fun _ => 0, fun _ => 0, fun _ => 0, fun _ => 0, fun _ => 0, fun _ => 0, fun _ => 0, fun _ => 0, fun _ => 0) (fun _ => 0) ⟨by omega, by omega, by omega, by omega, by omega, by omega, by omega, fun _ _ => rfl, rfl⟩ (by omega) hL ⟨_, _, _, _, _, _, _, _, rfl, ?_, fun i hi => absurd hi (by omega), fun i hi => ⟨rfl, fun x hx => by cases hx⟩⟩)) (by decide) (by decide)
  intro w hw
  refine ⟨fun i f hi => ?_, ?_, ?_⟩
  · have : qq [] [] w = [] := by unfold qq; split <;> rfl
    rw [this] at hi
    simp at hi
  · have : qq [] [] w = [] := by unfold qq; split <;> rfl
    rw [this]
    rfl
  · have : qq [] [] w = [] := by unfold qq; split <;> rfl
    rw [this]
    exact Nat.zero_le _
end PLW
end
section
/-! THE CLAIM OUT OF ONE WALK OF THE LAW'S BODY. Your part is whole_start (and what it stands on); all else here is the same for every law, but numbers. -/
def R_law : String := "SelectiveLinkLaw"
def lw_P (b : Addr) (xs : List Int32) (args : Array Value) (s : State) : Prop := args = #[.ref b] ∧ s.IntsAt b xs ∧ xs.length ≤ 2048 ∧ (Jvm.Cond.and given_1 narrow_1).before args s = true
def lw_Q (_ : Array Value) (s : State) (o : Outcome) (t : State) : Prop := o = .returned (some (.int 1)) ∧ Framed s o t [] 1057 11066
def lw_Z (below : List Frame) (a : Array Value) (s : State) : State → Prop := fun t => ∃ o, t.status = .running ∧ Ended t below o ∧ lw_Q a s o t
/-- what holds at the law's entry: the machine, the code, the tables' words (any of lw_tbl by 'hts w (by decide +kernel)'), the script of L ints xs at the cell b, what the Statement gives of the start (any of its parts by flat_of_before) -/
def lw_At (p : Program) (s : State) (m : MethodId) (meth : Method) (c : Code) (b L : Nat) (xs : Nat → Int32) : Prop :=
  p.tables.exec = Jvm.exec ∧ c.code = code ∧ meth.sig.returnType = ret ∧ c.maxLocals = 8 ∧ s.vm.findClass R_law = some m.cls ∧ (∀ w ∈ lw_tbl, w.before #[Value.ref b] s = true) ∧ va_X b L xs s s.heap ∧ b < s.heap.size ∧ meth.locks = false ∧ (Jvm.Cond.and given_1 narrow_1).before #[Value.ref b] s = true
/-! from the start to the picture machine -/
theorem ka_arr {args : Array Value} {s : State} {ty : FieldType} (h : (Cond.arrayClass ty).before args s = true) : ∃ cA : ClassId, ArrOfT s cA ty ∧ s.vm.findClass ("[" ++ ty.toString) = some cA := by
  obtain ⟨c, k, comp, h1, h2, h3⟩ := Cond.arrayClass_spec (show (Cond.arrayClass ty).holds args s none s [] = true from h)
  exact ⟨c, fun n z => ⟨fun k h => (by cases h), k, h2, comp, h3⟩, h1⟩
theorem ka_fresh {s t : State} {L : List Loc} {k n : Nat} (h : s.sameButNew t L k n) (hf : ∀ q ∈ L, s.heap.size ≤ q.base) : s.sameButNew t [] k n := by
  obtain ⟨h1, h2, h3, h4, h5, h6⟩ := h
  refine ⟨h1, h2, h3, h4, h5, fun a c hc => ?_⟩
  obtain ⟨c', g1, g2, g3, g4⟩ := h6 a c hc
  refine ⟨c', g1, g2, g3, fun i _ => g4 i (fun hm => ?_)⟩
  have h7 : s.heap.size ≤ a := hf _ hm
  have h8 : a < s.heap.size := (Array.getElem?_eq_some_iff.mp hc).1
  exact absurd h8 (Nat.not_lt.mpr h7)
theorem in_X2 : ∀ w ∈ u_ws RX2 TX2 6, w ∈ lw_tbl := by decide +kernel
theorem in_X3 : ∀ w ∈ u_ws RX3 TX3 9, w ∈ lw_tbl := by decide +kernel
theorem in_X4 : ∀ w ∈ u_ws RX4 TX4 5, w ∈ lw_tbl := by decide +kernel
theorem in_X5 : ∀ w ∈ u_ws RX5 TX5 4, w ∈ lw_tbl := by decide +kernel
theorem in_X6 : ∀ w ∈ u_ws RX6 TX6 20, w ∈ lw_tbl := by decide +kernel
theorem pm_isN_on {w : Cond} (h : pm_isN w = true) : w.onTables = true := by
  cases w <;> first | rfl | (simp [pm_isN] at h)
def ka_sa (s : State) (n : Nat) : Nat := match (Term.string "SelectiveLink" n).eval #[] s none [] s with
  | some (.ref a) => a
  | _ => 0
theorem ka_str {b : Nat} {s : State} {n : Nat} {tx : String} (h1 : (Cond.stringRef "SelectiveLink" n tx).before #[Value.ref b] s = true) (h2 : (Cond.exactly (.string "SelectiveLink" n) "java/lang/String").before #[Value.ref b] s = true) : vk_R "SelectiveLink" n tx (ka_sa s n) s := by
  obtain ⟨a, c, cell, k, e1, -⟩ := Cond.exactly_spec (show (Cond.exactly (.string "SelectiveLink" n) "java/lang/String").holds #[Value.ref b] s none s [] = true from h2)
  have e2 : (Term.string "SelectiveLink" n).eval #[] s none [] s = some (.ref a) := e1
  have e3 : ka_sa s n = a := by unfold ka_sa; rw [e2]
  rw [e3]
  exact ⟨h1, e2⟩
/-- YOUR PART: from the entry, for every script of at most 2048 ints, the law comes to its end with true -/
theorem whole_start {p : Program} {e : Env} {s : State} {m : MethodId} {below : List Frame} {meth : Method} {c : Code} (l : Launch) (htr : l.stackTraces = false) {b L : Nat} {xs : Nat → Int32} (hL : L ≤ 2048) (C0 : lw_At p s m meth c b L xs) (hname : meth.name = "law") (hex : c.exceptionTable.toList = []) : W p l e room_1 s m #[Value.ref b] below meth c s.heap [] 0 0 (lw_Z below #[Value.ref b] s) (entryFrame m ([Value.ref b] : List Value).toArray 8) := by
  obtain ⟨hx, hb, hr, hml, hown, hts, hX, hbl, hlocks, hgv⟩ := id C0
  have hfl := flat_of_before _ hgv
  obtain ⟨c0, iS0, hKn0⟩ := u_known (C := RX2) (T := TX2) (N := 6) (n := 6) hts in_X2 (hts (.instantiable RX2 6) (by decide +kernel))
  obtain ⟨c1, iS1, hKn1⟩ := u_known (C := RX3) (T := TX3) (N := 9) (n := 9) hts in_X3 (hts (.instantiable RX3 9) (by decide +kernel))
  obtain ⟨c2, iS2, hKn2⟩ := u_known (C := RX4) (T := TX4) (N := 5) (n := 5) hts in_X4 (hts (.instantiable RX4 5) (by decide +kernel))
  obtain ⟨c3, iS3, hKn3⟩ := u_known (C := RX5) (T := TX5) (N := 4) (n := 4) hts in_X5 (hts (.instantiable RX5 4) (by decide +kernel))
  obtain ⟨c4, iS4, hKn4⟩ := u_known (C := RX6) (T := TX6) (N := 20) (n := 20) hts in_X6 (hts (.instantiable RX6 20) (by decide +kernel))
  obtain ⟨D, hKc⟩ : ∃ (D : va_G), ∀ (k : Nat) (q : vw_C), vwCl[k]? = some q → u_Kn s q.1 q.2.1 q.2.2 (D.1 k) (D.2 k) := by
    refine ⟨(fun k => match k with | 0 => c0 | 1 => c1 | 2 => c2 | 3 => c3 | _ => c4, fun k => match k with | 0 => iS0 | 1 => iS1 | 2 => iS2 | 3 => iS3 | _ => iS4), ?_⟩
    intro k q hq
    match k, hq with
    | 0, hq => cases hq; exact hKn0
    | 1, hq => cases hq; exact hKn1
    | 2, hq => cases hq; exact hKn2
    | 3, hq => cases hq; exact hKn3
    | 4, hq => cases hq; exact hKn4
    | k + 5, hq => simp [vwCl] at hq
  obtain ⟨a0, hA0, hN0⟩ := ka_arr (hts (.arrayClass .int) (by decide +kernel))
  obtain ⟨a1, hA1, hN1⟩ := ka_arr (hts (.arrayClass .long) (by decide +kernel))
  obtain ⟨a2, hA2, hN2⟩ := ka_arr (hts (.arrayClass .boolean) (by decide +kernel))
  obtain ⟨dA, e0, e1, e2⟩ : ∃ dA : Nat → ClassId, dA 0 = a0 ∧ dA 1 = a1 ∧ dA 2 = a2 := ⟨fun k => match k with | 0 => a0 | 1 => a1 | _ => a2, rfl, rfl, rfl⟩
  have hK : va_K D vwCl (pm_tys dA) s := by
    refine ⟨hKc, fun k q hq => ?_⟩
    match k, hq with
    | 0, hq => cases hq; rw [e0]; exact ⟨hA0, hN0⟩
    | 1, hq => cases hq; rw [e1]; exact ⟨hA1, hN1⟩
    | 2, hq => cases hq; rw [e2]; exact ⟨hA2, hN2⟩
    | k + 3, hq => simp [pm_tys] at hq
  have hA9 : ∀ a : Nat, a < s.heap.size → ¬ (fun q : Nat => s.heap.size ≤ q) a := fun a h => Nat.not_le.mpr h
  have hG : pm_G (ka_sa s) (fun q : Nat => s.heap.size ≤ q) s s.heap := by
    refine ⟨fun w hw => ?_, ?_, va_Nc.of (hfl (.not (.castable pm_IO pm_IA)) (by decide +kernel)), vx_Zqof (hts (.laysStatic Bundle.tN "UNASSIGNED_STACK" Bundle.steD) (by decide +kernel)) (hts (.initialized Bundle.tN) (by decide +kernel)) (hfl (.isRef (.static Bundle.tN "UNASSIGNED_STACK" Bundle.steD)) (by decide +kernel)) hA9, vx_Zqof (hts (.laysStatic Bundle.tN "SUPPRESSED_SENTINEL" Bundle.listD) (by decide +kernel)) (hts (.initialized Bundle.tN) (by decide +kernel)) (hfl (.isRef (.static Bundle.tN "SUPPRESSED_SENTINEL" Bundle.listD)) (by decide +kernel)) hA9⟩
    · obtain ⟨h1, h2⟩ := List.mem_filter.mp hw
      exact va_Nw.of (pm_isN_on h2) (hts w h1)
    · unfold pm_ss
      refine List.forall_mem_cons.mpr ⟨?_, List.forall_mem_cons.mpr ⟨?_, List.forall_mem_cons.mpr ⟨?_, List.forall_mem_cons.mpr ⟨?_, List.forall_mem_cons.mpr ⟨?_, List.forall_mem_cons.mpr ⟨?_, List.forall_mem_cons.mpr ⟨?_, fun _ h => absurd h List.not_mem_nil⟩⟩⟩⟩⟩⟩⟩
      all_goals exact ka_str (hts _ (by decide +kernel)) (hfl _ (by decide +kernel))
  have hJ := j_law (N := L) (xs := xs) (k := fun v _ => v = some (.int 1)) (kx := fun _ _ => False) hL (fun _ => rfl)
  have hl := lv_entry ([.ref b]) (n := 8) (Nat.le_of_ble_eq_true rfl)
  rw [lg_entry_eq]
  generalize (lg_sl ([.ref b]) ++ List.replicate (8 - (lg_sl ([.ref b])).length) Slot.unset).toArray = ls at hl ⊢
  have hl : lv_has ls 8 [(0, .ref b)] := hl
  have hW := hJ p l e room_1 s m #[Value.ref b] below meth c s.heap [] 0 0 dA D (fun k => match k with | 0 => b | k + 1 => s.heap.size + k) (ka_sa s) (fun q : Nat => s.heap.size ≤ q) ls
    ⟨hx, htr, hb, hml, hr, hlocks, hown, hname, fun w hw => hts w (List.mem_filter.mp hw).1, hex, hK, fun q h => h, hG, by decide, by decide, fun N2 xs2 h2 => by
      cases h2
      exact ⟨hX, hbl, Nat.not_le.mpr hbl⟩⟩
    (fun k q h => by simp [pm_pf] at h) ⟨fun i j p q h => by simp [pm_pf] at h, fun k q h => by simp [pm_pf] at h⟩ va_S.rf (fun _ => ⟨rfl, fun n => rfl⟩) hl rfl (by decide) (by decide)
  intro T hT X
  obtain ⟨t, a1, o, b1, b2, b3⟩ := hW T hT X
  refine ⟨t, a1, o, b1, b2, ?_⟩
  rcases b3 with ⟨⟨⟨v, w, ho, hv, -⟩, -⟩, L9, hFE, hfree⟩ | ⟨q, -, E, ce, L9, ⟨⟨w, hkx, -⟩, -⟩, -⟩
  · subst hv
    exact ⟨ho, hFE.1, hFE.2.1, ka_fresh hFE.2.2 hfree⟩
  · exact hkx.elim
end
section
set_option maxHeartbeats 4000000 in
theorem lw_walk (l : Launch) (htr : l.stackTraces = false) (b : Addr) (xs : List Int32) : MetFree l x (headSpec (Jvm.Cond.code x code maxLocals ret :: tables_1) room_1) (lw_P b xs) (fun _ _ _ _ _ => True) lw_Q := by
  refine MetFree.of_bodyS (code := code) (maxLocals := maxLocals) (ret := ret) (by decide) ?_ ?_
  · intro args s m h hn
    obtain ⟨meth, c, h1, h2, h3, h4, h5, h6, -, -⟩ := Cond.code_spec hn (atoms_spec (ws := Jvm.Cond.code x code maxLocals ret :: tables_1) h _ List.mem_cons_self)
    exact ⟨meth, c, h1, h2, h3, h4, h5, h6⟩
  · intro p e s m args below meth c s₁ B hml0 hP _
    obtain ⟨rfl, hx, hbd, hgv⟩ := hP
    obtain ⟨scr, harrAt, hlist, hof, hsmall⟩ := hx
    obtain ⟨hcb, hkn, -, -⟩ := State.arrayAt?_spec harrAt
    have hown : s.vm.findClass R_law = some m.cls := findClass_of_methodNamed B.named
    have hts0 : ∀ c ∈ (Jvm.Cond.code x code maxLocals ret :: tables_1), c.before #[Value.ref b] s = true := atoms_spec (ws := Jvm.Cond.code x code maxLocals ret :: tables_1) B.pre
    have hts : ∀ w ∈ lw_tbl, w.before #[Value.ref b] s = true := k2_hts_sels lw_privs (fun w hw => hts0 w (List.mem_cons_of_mem _ hw)) lw_privs_ok
    have hml : c.maxLocals = 8 := B.maxLocals_eq (hts0 _ List.mem_cons_self)
    have X₀ : Stand p l e room_1 s m #[Value.ref b] below meth c s₁ [] 0 0 := Stand.of_body B
    have hh0 : s₁.heap = s.heap := by rw [B.state]; rfl
    have hsz : scr.slots.size = xs.length := by rw [← Array.length_toList, hlist, List.length_map]
    have hval : ∀ j : Nat, j < xs.length → scr.slots[j]? = some (.int (xs.getD j 0)) := fun j hj => by
      rw [← Array.getElem?_toList, hlist]
      simp [hj]
    have hbl : b < s.heap.size := (Array.getElem?_eq_some_iff.mp hcb).1
    have hX : va_X b xs.length (fun j => xs.getD j 0) s s.heap := ⟨scr, hcb, hof, hkn, hsz, hval⟩
    have K : W p l e room_1 s m #[Value.ref b] below meth c s₁.heap [] 0 0 (lw_Z below #[Value.ref b] s) (entryFrame m ([Value.ref b] : List Value).toArray 8) := by
      rw [hh0]
      refine whole_start l htr hbd ⟨B.exec, B.bytes, B.returns, hml, hown, hts, hX, hbl, B.notSynchronized, hgv⟩ (name_of_methodNamed B.named B.method).1 ?_
      obtain ⟨meth9, c9, h1, h2, -, -, -, -, h7, -⟩ := Cond.code_spec B.named (hts0 _ List.mem_cons_self)
      cases Option.some.inj (h1.symm.trans B.method)
      cases Option.some.inj (h2.symm.trans X₀.code)
      rw [Array.isEmpty_iff.mp h7]
    obtain ⟨t, a1, o, b1, b2, b3⟩ := K s₁ rfl X₀
    exact ⟨t, o, a1, b1, b2, b3⟩
theorem lw_pre_spec {args : Array Value} {s : State} (h : (Jvm.Cond.and given_1 narrow_1).before args s = true) (hr : rest_1_c.before args s = true) : ∃ (b : Addr) (xs : List Int32), lw_P b xs args s := by
  have hs := flat_of_before _ h
  have hq := flat_of_before _ hr
  have hc : (Cond.count 1).before args s = true := hs _ (by decide +kernel)
  have harr : (Cond.arrayOf (.arg 0) .int).before args s = true := hs _ (by decide +kernel)
  have hle : (Cond.le (.length (.arg 0)) (.int 2048)).before args s = true := hs _ (by decide +kernel)
  have hlen : (Cond.isInt (.length (.arg 0))).before args s = true := hq _ (by decide +kernel)
  have hall : (Cond.all (.arg 0) (.isInt (.elem (.arg 0) (.index 0)))).before args s = true := hq _ (by decide +kernel)
  obtain ⟨b, xs, hb, hx⟩ := State.ints_of_pre rfl harr hlen hall
  have hsm : xs.length < 2 ^ 31 := hx.choose_spec.2.2.2
  have hev : (Term.length (.arg 0)).eval args s none [] s = some (.int xs.length.toInt32) := hx.length_eval hb
  have hv := Cond.le_ints hev (show (Term.int 2048).eval args s none [] s = some (.int 2048) from rfl)
  have hd : xs.length.toInt32 ≤ 2048 := by
    simpa [Cond.before, Cond.holds, hv] using hle
  have hN : xs.length ≤ 2048 := (Int32.ofNat_le_ofNat hsm (by decide)).mp (show Int32.ofNat xs.length ≤ Int32.ofNat 2048 from hd)
  exact ⟨b, xs, Cond.one_arg hc (show args[0]? = some (.ref b) from hb), hx, hN, h⟩
theorem lw_comes (l : Launch) (htr : l.stackTraces = false) : Comes l x (Jvm.Cond.code x code maxLocals ret :: tables_1) room_1 (fun tb e args s => Calls_1 tb e args s ∧ rest_1 tb e args s ∧ Pre_1 tb e args s)
    (fun _ _ args s o t => lw_Q args s o t) := by
  intro p e ha hc hk s m args below hf hfit hheap happ hpre
  obtain ⟨b, xs, hP⟩ := lw_pre_spec hpre.2.2 hpre.2.1
  obtain ⟨k, o, h1, h2, h3, hQ⟩ := lw_walk l htr b xs p e ha hc hk s m args below hf ((Spec.applies_iff_loose hf).mp happ).1 hP trivial
  exact ⟨k, o, h1, h2, h3, hQ⟩
theorem lw_frame {s t : State} {o : Outcome} {args : Array Value} (h : Framed s o t [] 1057 11066) :
    Framed s o t (fieldLocs frame_1_writes args s ++ arrayLocs frame_1_arrays args s ++ staticLocs frame_1_statics s) 1057 11066 := h
theorem lw_limb (L : Cond) (hL : ∀ (args : Array Value) (s t : State), L.after args s (.returned (some (.int 1))) t = true) :
    ArmFor flags0 classFile x code maxLocals ret World_1 tables_1 room_1 Calls_1 rest_1 Pre_1
      (fun tb e a s o t => postC L tb e a s o t ∧ Framed s o t (fieldLocs frame_1_writes a s ++ arrayLocs frame_1_arrays a s ++ staticLocs frame_1_statics s) 1057 11066) := by
  intro l hfl _ _ p e ha hc hk s m args below hf hfit hheap happ hpre
  have htr : l.stackTraces = false := by
    unfold Launch.stackTraces
    rw [hfl]
    decide +kernel
  obtain ⟨k, o, h1, h2, h3, rfl, hF⟩ := lw_comes l htr p e ha hc hk s m args below hf hfit hheap happ hpre
  exact ⟨k, _, h1, h2, h3, hL args s _, lw_frame hF⟩
theorem i_vc : Claimed_1_1 ∧ Claimed_1_2 := ⟨lw_limb limb_1_1 (fun args s t => by simp [limb_1_1, Cond.after, Cond.holds, Cond.value]), lw_limb limb_1_2 (fun args s t => Cond.after_iff.mpr (by
  first | (rw [show limb_1_2 = Cond.eq .result (.int 1) from rfl, Cond.eq_ints (x := 1) (y := 1) rfl rfl]; simp; done) | (simp [limb_1_2, Cond.value, Term.eval]; done)))⟩
end
