/-! SOUNDNESS: calls -/
theorem pm_tb_good {w : Cond} (h : w ∈ pm_tb) : (w.onTables && w.keeps) = true ∨ ∃ ty, w = .arrayClass ty := good_of_word (List.mem_filter.mp h).2
theorem pm_G.warm {sa : Nat → Nat} {A : Nat → Prop} {s U : State} {H : Heap} (hW : s.WarmedH U.vm) (h : pm_G sa A s H) : pm_G sa A U H := by
  obtain ⟨h1, h2, h3, h4, h5⟩ := h
  refine ⟨fun w hw => ?_, fun q hq => vk_R.warm hW (h2 q hq), h3.moved hW.alike, vx_Zq.moved hW.alike h4, vx_Zq.moved hW.alike h5⟩
  have g := h1 w hw
  have h9 := (List.mem_filter.mp hw).2
  cases w <;> first | exact va_Nw.warmF hW g | exact va_Nw.warmM hW g | exact va_Nw.warmC hW g | exact va_Nw.warmD hW g | (simp [pm_isN] at h9)
theorem pm_G.kept {sa : Nat → Nat} {A : Nat → Prop} {s : State} {H H1 : Heap} (h : pm_G sa A s H) (hq : ∀ a : Nat, a < H.size → ¬ A a → H1[a]? = H[a]?) : pm_G sa A s H1 := ⟨h.1, h.2.1, h.2.2.1, h.2.2.2.1.kept hq, h.2.2.2.2.kept hq⟩
theorem pm_G.narrow {sa : Nat → Nat} {A B : Nat → Prop} {s : State} {H : Heap} (h : pm_G sa A s H) (hAB : ∀ q, B q → A q) : pm_G sa B s H := ⟨h.1, h.2.1, h.2.2.1, h.2.2.2.1.narrow hAB, h.2.2.2.2.narrow hAB⟩
theorem pm_G.same {sa : Nat → Nat} {A : Nat → Prop} {s U : State} {H : Heap} (hv : U.vm = s.vm) (h : pm_G sa A s H) : pm_G sa A U H := by
  obtain ⟨h1, h2, h3, h4, h5⟩ := h
  have hal : s.vm.Alike U.vm := by rw [hv]; exact Vm.Alike.refl s.vm
  exact ⟨fun w hw => va_Nw.same (pm_nw_ot hw) hv.symm (h1 w hw), fun q hq => vk_R.same hv (h2 q hq), h3.moved hal, vx_Zq.moved hal h4, vx_Zq.moved hal h5⟩
section PMC
variable {p : Program} {l : Launch} {e : Env} {R : Room} {s : State} {m : MethodId} {args : Array Value} {below : List Frame} {meth : Method} {c : Code} {T : State} {locs : List Loc} {cells slots : Nat}
/-- an invocation's own step: the method is found, the entries are linked -/
def pm_Inv (p : Program) (l : Launch) (e : Env) (R : Room) (s : State) (m : MethodId) (args : Array Value) (below : List Frame) (meth : Method) (c : Code) (T : State) (locs : List Loc) (cells slots : Nat) (g : JFrame) (rest : List Value) (y : MethodName) (a : Array Value) : Prop :=
  ∃ (vm₁ : Vm) (mk : MethodId), Stand p l e R s m args below meth c (T.setVm vm₁) locs cells slots ∧ s.methodNamed? y = some mk ∧ ∀ target, (∀ acts, Steps p.tables e below (doInvoke e ((T.setVm vm₁).setTop { g with stack := rest }) acts mk a).1 target) → Steps p.tables e below (T.setTop g) target
/-- what the word on a method's code says of it -/
theorem pm_cc_spec {M : pm_M} {args : Array Value} {s : State} (h : (pm_cc M).before args s = true) : ∃ mk meth, s.methodNamed? M.1 = some mk ∧ s.vm.method? mk = some meth ∧ parseMethodDescriptor M.1.desc = some meth.sig := by
  obtain ⟨y, bytes, n, r, hh, rs⟩ := M
  cases hh with
  | nil =>
    have h : (Cond.code y bytes n r).before args s = true := h
    obtain ⟨mk, hn⟩ := Cond.code_named h
    obtain ⟨meth, c, h1, -, -, -, -, -, -, h8⟩ := Cond.code_spec hn h
    exact ⟨mk, meth, hn, h1, h8⟩
  | cons q t =>
    have h : (Cond.codeWith y bytes n r (q :: t)).before args s = true := h
    obtain ⟨mk, meth, c, h0, h1, -, -, -, -, -, -, h8⟩ := Cond.codeWith_spec h
    exact ⟨mk, meth, h0, h1, h8⟩
theorem pm_len_of {M : pm_M} {meth : Method} {n : Nat} (h : parseMethodDescriptor M.1.desc = some meth.sig) (hn : (parseMethodDescriptor M.1.desc).map (fun d => d.parameters.length) = some n) : n = meth.sig.parameters.length := by
  rw [h] at hn
  exact (Option.some.inj hn).symm
theorem pm_invV {M : pm_M} (X : Stand p l e R s m args below meth c T locs cells slots) (hexec : p.tables.exec = Jvm.exec) {own : String} {index n : Nat}
    (hown : s.vm.findClass own = some m.cls) (hlink : (Cond.methodLink own index M.1).before args s = true) (hinst : (Cond.instanceMethod M.1).before args s = true) (hsel : (Cond.selects M.1.cls M.1 M.1).before args s = true)
    (hcode : (pm_cc M).before args s = true) (hy : M.1.cls ≠ "java/lang/invoke/MethodHandle" ∧ M.1.cls ≠ "java/lang/invoke/VarHandle") (hn : (parseMethodDescriptor M.1.desc).map (fun d => d.parameters.length) = some n)
    {b : Addr} {cellB : Cell} (hcell : T.heap[b]? = some cellB) (hobj : cellB.vm.isStatics = false) (hcls : s.vm.findClass M.1.cls = some cellB.cls)
    {g : JFrame} (hg : g.method = m) {argsL rest : List Value} (hlen : argsL.length = n)
    (hstack : g.stack = argsL.reverse ++ .ref b :: rest) (hdg : decode c.code g.pc = .ok (.invokevirtual index, 3)) : pm_Inv p l e R s m args below meth c T locs cells slots g rest M.1 (Value.ref b :: argsL).toArray := by
  obtain ⟨mk, methM, hnamed, hmethM, hstM, habM⟩ := Cond.instanceMethod_spec hinst
  obtain ⟨mk', methM', hn', hmethM', hsigM⟩ := pm_cc_spec hcode
  cases hnamed.symm.trans hn'
  cases hmethM.symm.trans hmethM'
  obtain ⟨c2, r2, m2, q1, q2, q3, q4, kP, hkP, hkPi⟩ := Cond.selects_spec hsel
  cases hcls.symm.trans q1
  cases (State.methodFound?_of_named hnamed hy).symm.trans q2
  cases hnamed.symm.trans q3
  have hselP : selectMethod e.platform s.vm cellB.cls mk = .method mk := by rw [Launch.admits_selectMethod X.admits]; exact q4
  obtain ⟨vm₁, X₁, hstep₁⟩ := X.invokevirtual hexec hown hlink hnamed hmethM hstM hkP hkPi hy (a := b) (cell := cellB) hcell
    (fun z h => by rw [h] at hobj; cases hobj) hselP hmethM habM hkP hkPi (g := g) hg (argsL := argsL) (rest := rest) (hlen.trans (pm_len_of hsigM hn)) hstack hdg
  exact ⟨vm₁, mk, X₁, hnamed, hstep₁⟩
theorem pm_invS {M : pm_M} (X : Stand p l e R s m args below meth c T locs cells slots) (hexec : p.tables.exec = Jvm.exec) {own : String} {index n : Nat}
    (hown : s.vm.findClass own = some m.cls) (hlink : (Cond.methodLink own index M.1).before args s = true) (hstat : (Cond.static M.1).before args s = true) (hinit : (Cond.initialized M.1.cls).before args s = true)
    (hcode : (pm_cc M).before args s = true) (hy : M.1.cls ≠ "java/lang/invoke/MethodHandle" ∧ M.1.cls ≠ "java/lang/invoke/VarHandle") (hn : (parseMethodDescriptor M.1.desc).map (fun d => d.parameters.length) = some n)
    {g : JFrame} (hg : g.method = m) {argsL rest : List Value} (hlen : argsL.length = n)
    (hstack : g.stack = argsL.reverse ++ rest) (hdg : decode c.code g.pc = .ok (.invokestatic index, 3)) : pm_Inv p l e R s m args below meth c T locs cells slots g rest M.1 argsL.toArray := by
  obtain ⟨mk, methM, hnamed, hmethM, hsigM⟩ := pm_cc_spec hcode
  have hstatic : methM.isStatic = true := Cond.static_spec hnamed hmethM hstat
  obtain ⟨kP, hkP, -⟩ := className_of_methodNamed hnamed
  have hinitP : kP.init = .initialized := Cond.initialized_spec (findClass_of_methodNamed hnamed) hkP hinit
  obtain ⟨vm₁, X₁, hstep₁⟩ := X.invokestatic hexec hown hlink hnamed hmethM hstatic hkP hinitP hy (g := g) hg (argsL := argsL) (rest := rest) (hlen.trans (pm_len_of hsigM hn)) hstack hdg
  exact ⟨vm₁, mk, X₁, hnamed, hstep₁⟩
theorem pm_invI {y : MethodName} {bytes : ByteArray} {maxL : Nat} (X : Stand p l e R s m args below meth c T locs cells slots) (hexec : p.tables.exec = Jvm.exec) {own : String} {index n : Nat}
    (hown : s.vm.findClass own = some m.cls) (hy1 : y.name = "<init>") (hlink : (Cond.methodLink own index y).before args s = true ∨ ∃ host, (Cond.methodLinkNest own index y host).before args s = true) (hinst : (Cond.instanceMethod y).before args s = true)
    (hcode : (Cond.code y bytes maxL none).before args s = true) (hy : y.cls ≠ "java/lang/invoke/MethodHandle" ∧ y.cls ≠ "java/lang/invoke/VarHandle") (hn : (parseMethodDescriptor y.desc).map (fun d => d.parameters.length) = some n)
    {g : JFrame} (hg : g.method = m) {b : Addr} {argsL rest : List Value} (hlen : argsL.length = n)
    (hstack : g.stack = argsL.reverse ++ .ref b :: rest) (hdg : decode c.code g.pc = .ok (.invokespecial index, 3)) : pm_Inv p l e R s m args below meth c T locs cells slots g rest y (Value.ref b :: argsL).toArray := by
  subst hg
  have hpl : e.platform.magicAccessors = ({} : Platform).magicAccessors := by rw [X.admits.platform]
  have hlen2 : ∀ sig, parseMethodDescriptor y.desc = some sig → argsL.length = sig.parameters.length := fun sig h => by
    rw [h] at hn
    rw [hlen]; exact (Option.some.inj hn).symm
  rcases hlink with hlink | ⟨host, hlink⟩
  · obtain ⟨mk, methM, cM, kP, vm₁, hnamed, hmethM, hcodeM, -, hlocalsM, -, hkP, -, hW₁, hstep₁⟩ := Steps.initColdArgs (e := e) X.here hexec X.warmed hpl hown hy1 hy hlink hinst hcode (f := g) rfl hlen2 hstack hdg
    exact ⟨vm₁, mk, X.noted hW₁, hnamed, hstep₁⟩
  · obtain ⟨mk, methM, cM, kP, vm₁, hnamed, hmethM, hcodeM, -, hlocalsM, -, hkP, -, hW₁, hstep₁⟩ := Steps.initColdArgsNest (e := e) X.here hexec X.warmed hpl hown hy1 hy hlink hinst hcode (f := g) rfl hlen2 hstack hdg
    exact ⟨vm₁, mk, X.noted hW₁, hnamed, hstep₁⟩
/-- the run of a call: its own step, then the callee by its contract -/
theorem pm_vrun {H : Heap} {y : MethodName} {Pc : Array Value → State → Prop} {Qc : Array Value → State → Outcome → State → Prop} {XC : String → State → State → Prop} {mc ms : Nat} {free : Addr → Prop} {g : JFrame} {ig : Instr} {rest : List Value} {a : Array Value}
    (hK : vx_Back l R p e below s args y 3 8 (PreOf R mc ms Pc) (PostOf Qc mc ms free) (vx_Post XC mc ms free)) (hg : g.method = m) (hsize : g.locals.size = c.maxLocals) (hW : 2 * g.monitorRoom + (rest.map fun v => v.category).sum ≤ 8) (hdg : decode c.code g.pc = .ok (ig, 3))
    (hPc : ∀ U : State, U.heap = H → s.WarmedH U.vm → Pc a U) (hf : cells + mc ≤ R.cells ∧ slots + ms ≤ R.slots)
    (hi : ∀ T : State, T.heap = H → Stand p l e R s m args below meth c T locs cells slots → pm_Inv p l e R s m args below meth c T locs cells slots g rest y a) :
    vx_Run p l e R s m args below meth c H locs cells slots mc ms g rest (Qc a) XC free := by
  intro T hT X
  obtain ⟨vm₁, mk, X₁, hnamed, hstep₁⟩ := hi T hT X
  rcases hK m meth c ⟨T.setVm vm₁, locs, cells, slots⟩ { g with stack := rest } ig mk a X₁ hg hsize hdg hW (X₁.named hnamed) ⟨hf.1, hf.2, hPc (T.setVm vm₁) hT X₁.warmed⟩ with ⟨v, ⟨U', l2, c2, s2⟩, X', ⟨g', mk', t, L, e1, e2, hq, h1, hL, h2, h3⟩, hsteps⟩ | ⟨q, ⟨U', l2, c2, s2⟩, X', ⟨g', mk', t, L, E, ce, e1, e2, hq, hce, hcv, hcl, h1, hL, h2, h3⟩, hsteps⟩
  · dsimp only [Pt.U, Pt.locs, Pt.cells, Pt.slots] at X' e1 e2 h1 h2 h3 hsteps
    subst h1; subst h2; subst h3
    exact Or.inl ⟨v, (T.setVm vm₁).calling g' mk' a, t, U', L, hT, X', hL, e1, e2, hq, fun target h => hstep₁ _ fun acts => by rw [doInvoke_state]; exact hsteps.trans h⟩
  · dsimp only [Pt.U, Pt.locs, Pt.cells, Pt.slots] at X' e1 e2 h1 h2 h3 hsteps hcl
    subst h1; subst h2; subst h3
    exact Or.inr ⟨q, (T.setVm vm₁).calling g' mk' a, t, U', L, E, ce, hT, X', hL, e1, e2, hq, hce, hcv, vx_cls X₁.warmed hcl, hstep₁ _ fun acts => by rw [doInvoke_state]; exact hsteps⟩
end PMC
theorem pm_blind {dA : Nat → ClassId} {D : va_G} {ad sa : Nat → Nat} {al : Bool} {vs : List Value} {w : pm_D} {sz : Nat} : FrameBlind (pm_Pc dA D ad sa al vs w sz) := by
  intro a U g mk q
  obtain ⟨q0, q1, q2, q3, q4, q5, q6⟩ := q
  exact ⟨q0, q1, q2, va_K.moved (u := U) (U := U.calling g mk a) (Vm.Alike.refl U.vm) q3, q4, q5, pm_G.same (s := U) (U := U.calling g mk a) rfl q6⟩
/-- the contract of a callee, at a call -/
theorem pm_back {p : Program} {l : Launch} {e : Env} {R : Room} {s : State} {args : Array Value} {below : List Frame} {dA : Nat → ClassId} {D : va_G} {ad sa : Nat → Nat} {al : Bool} {vs : List Value} {w : pm_D} {sz a d : Nat} {k : pm_K} {kx : pm_X} (hC : pm_C a d al vs w k kx) (htr : l.stackTraces = false)
    (hts : ∀ w ∈ pm_tb, w.before args s = true) (hcc : pm_cc (pm_pr a) ∈ pm_tb) (hini : Cond.initialized (pm_pr a).1.cls ∈ pm_tb) (hml : (pm_pr a).2.2.1 ≤ 15) (hfr : d + 1 ≤ R.frames) (hlo : 34 * (d + 1) ≤ R.locals) :
    vx_Back l R p e below s args (pm_pr a).1 3 8 (PreOf R (pm_mc a).1 (pm_mc a).2 (pm_Pc dA D ad sa al vs w sz)) (PostOf (pm_Qc dA D ad (va_A (pm_pic dA ad w) sz) al k) (pm_mc a).1 (pm_mc a).2 (va_A (pm_pic dA ad w) sz)) (vx_Post (pm_XC dA D ad (va_A (pm_pic dA ad w) sz) al kx) (pm_mc a).1 (pm_mc a).2 (va_A (pm_pic dA ad w) sz)) := by
  have hM := hC l dA D ad sa sz htr
  have hws : ∀ w9 ∈ pm_ws a, ∀ (a' : Array Value) (U : State), s.WarmedH U.vm → w9.before a' U = true := by
    intro w9 hw9 a' U hW
    have hin : w9 ∈ pm_tb := (List.mem_cons.mp hw9).elim (fun q => by rw [q]; exact hcc) id
    exact word_at hW (pm_tb_good hin) (hts _ hin)
  have hini2 : ∀ (a' : Array Value) (U : State), s.WarmedH U.vm → (Cond.initialized (pm_pr a).1.cls).before a' U = true := fun a' U hW => word_at hW (pm_tb_good hini) (hts _ hini)
  have hin0 : pm_cc (pm_pr a) ∈ pm_ws a := List.mem_cons_self
  generalize hMe : pm_pr a = M at hM hin0 hini2 hml
  obtain ⟨y, bytes, n, r, hh, rs⟩ := M
  cases hh with
  | nil => exact vx_back (bytes := bytes) (maxL := n) (ret := r) hM pm_blind rfl rfl hfr (by show 8 + (n + 11) + 34 * d ≤ R.locals; dsimp only at hml; omega) hws hin0 hini2
  | cons q t => exact vx_backW (hh := q :: t) (bytes := bytes) (maxL := n) (ret := r) hM pm_blind rfl rfl hfr (by show 8 + (n + 11) + 34 * d ≤ R.locals; dsimp only at hml; omega) hws hin0 hini2
