/-! RUNS AND CONTRACTS: the machine's evaluation gives the judgement; the judgement at a method's entry gives its contract -/
theorem pm_rows (me : Nat) : ∀ pre r t, (pm_pr me).2.2.2.2.2 = pre ++ r :: t → ∃ nx, pm_ck (pm_pr me) r nx = true ∧ ∀ q u, t = q :: u → q.1 = nx := by
  intro pre r t h
  have hk : pm_ckn (pm_pr me) 0 (pm_pr me).2.2.2.2.2 = true := pm_ok me
  rw [h] at hk
  exact pm_cks_inv pre r t hk
theorem pm_w_ok {me d : Nat} {al : Bool} {X : Option (Nat × (Nat → Int32))} {k : pm_K} {kx : pm_X} : ∀ (n : Nat) (f : Bool) (rs : List pm_R) (L : pm_V) (st : List Value) (w : pm_D) (cb sb : Nat), (∃ pre, (pm_pr me).2.2.2.2.2 = pre ++ rs) → pm_w me d al X k kx f n rs L st w cb sb → ∃ r t, rs = r :: t ∧ pm_J me d al X k kx r.1 L st w cb sb := by
  intro n
  induction n with
  | zero =>
    intro f rs L st w cb sb _ h
    cases rs with
    | nil => exact h.elim
    | cons r t => exact ⟨r, t, rfl, h⟩
  | succ n ih =>
    intro f rs L st w cb sb hp h
    cases rs with
    | nil => exact h.elim
    | cons r t =>
      obtain ⟨pc, i, hh, a, b, c⟩ := r
      obtain ⟨pre, hp⟩ := hp
      refine ⟨_, t, rfl, ?_⟩
      have key : pm_x me d al X k kx (pm_w me d al X k kx false n) pc i a b c t L st w cb sb → pm_J me d al X k kx pc L st w cb sb := fun q => pm_x_ok (fun rs L st w cb sb h1 h2 => ih false rs L st w cb sb h1 h2) (pm_rows me) hp q
      cases f <;> cases hh
      · exact key h
      · exact h
      · exact key h
      · exact key h
theorem pm_run {me d : Nat} {al : Bool} {X : Option (Nat × (Nat → Int32))} {k : pm_K} {kx : pm_X} {pc : Nat} {L : pm_V} {st : List Value} {w : pm_D} {cb sb : Nat} (n : Nat) (h : pm_w me d al X k kx true n (pm_from (pm_pr me).2.2.2.2.2 pc) L st w cb sb) : pm_J me d al X k kx pc L st w cb sb := by
  cases hf : pm_from (pm_pr me).2.2.2.2.2 pc with
  | nil =>
    rw [hf] at h
    cases n <;> exact h.elim
  | cons r t =>
    obtain ⟨e1, pre, e2⟩ := pm_from_inv _ _ _ _ hf
    rw [hf] at h
    obtain ⟨r2, t2, e3, e4⟩ := pm_w_ok n true _ L st w cb sb ⟨pre, e2⟩ h
    cases e3
    rw [← e1]
    exact e4
/-- more room than is asked for -/
theorem pm_J.room {me d : Nat} {al : Bool} {X : Option (Nat × (Nat → Int32))} {k : pm_K} {kx : pm_X} {pc : Nat} {L : pm_V} {st : List Value} {w : pm_D} {cb sb cb2 sb2 : Nat} (h : pm_J me d al X k kx pc L st w cb sb) (h1 : cb ≤ cb2) (h2 : sb ≤ sb2) : pm_J me d al X k kx pc L st w cb2 sb2 := by
  intro p l e R s m args below meth c H locs cells slots dA D ad sa A ls F hP hD hS hz hl hn hc hs
  exact h p l e R s m args below meth c H locs cells slots dA D ad sa A ls F hP hD hS hz hl hn (by omega) (by omega)
/-- fewer locals known -/
def pm_le : pm_V → pm_V → Prop
  | [], [] => True
  | none :: t, _ :: u => pm_le t u
  | some v :: t, o :: u => o = some v ∧ pm_le t u
  | _, _ => False
theorem pm_le_spec : ∀ (M L : pm_V), pm_le M L → M.length = L.length ∧ ∀ (j : Nat) (v : Value), M[j]? = some (some v) → L[j]? = some (some v)
  | [], [], _ => ⟨rfl, fun j v h => by simp at h⟩
  | none :: t, o :: u, h => by
    obtain ⟨h1, h2⟩ := pm_le_spec t u h
    refine ⟨by simp [h1], fun j v hj => ?_⟩
    cases j with
    | zero => simp at hj
    | succ j => simpa using h2 j v (by simpa using hj)
  | some x :: t, o :: u, h => by
    obtain ⟨h0, h⟩ := h
    obtain ⟨h1, h2⟩ := pm_le_spec t u h
    refine ⟨by simp [h1], fun j v hj => ?_⟩
    cases j with
    | zero => simp at hj; simp [h0, hj]
    | succ j => simpa using h2 j v (by simpa using hj)
  | [], _ :: _, h => h.elim
  | none :: _, [], h => h.elim
  | some _ :: _, [], h => h.elim
theorem pm_J.locals {me d : Nat} {al : Bool} {X : Option (Nat × (Nat → Int32))} {k : pm_K} {kx : pm_X} {pc : Nat} {L M : pm_V} {st : List Value} {w : pm_D} {cb sb : Nat} (h : pm_J me d al X k kx pc M st w cb sb) (hle : pm_le M L) : pm_J me d al X k kx pc L st w cb sb := by
  obtain ⟨h1, h2⟩ := pm_le_spec M L hle
  intro p l e R s m args below meth c H locs cells slots dA D ad sa A ls F hP hD hS hz hl hn hc hs
  refine h p l e R s m args below meth c H locs cells slots dA D ad sa A ls F hP hD hS hz ⟨by rw [h1]; exact hl.1, hl.2.1, fun q hq => hl.2.2 q ?_⟩ (h1.trans hn) hc hs
  obtain ⟨j, u⟩ := q
  obtain ⟨n, v, e1, e2, e3⟩ := (pm_as_mem ad M 0 j u).mp hq
  exact (pm_as_mem ad L 0 j u).mpr ⟨n, v, e1, h2 n v e2, e3⟩
/-! the locals with which a method begins -/
def pm_ent : List Value → Nat → pm_V
  | [], 0 => []
  | [], n + 1 => none :: pm_ent [] n
  | .long v :: vs, n + 2 => some (.long v) :: none :: pm_ent vs n
  | .int v :: vs, n + 1 => some (.int v) :: pm_ent vs n
  | .ref v :: vs, n + 1 => some (.ref v) :: pm_ent vs n
  | _, _ => []
def pm_eok : List Value → Nat → Bool
  | [], _ => true
  | .long _ :: vs, n + 2 => pm_eok vs n
  | .int _ :: vs, n + 1 => pm_eok vs n
  | .ref _ :: vs, n + 1 => pm_eok vs n
  | _, _ => false
theorem pm_ent_nil (ad : Nat → Nat) : ∀ (n i : Nat), (pm_ent [] n).length = n ∧ pm_as ad i (pm_ent [] n) = []
  | 0, i => ⟨rfl, rfl⟩
  | n + 1, i => by
    obtain ⟨h1, h2⟩ := pm_ent_nil ad n (i + 1)
    exact ⟨by simp [pm_ent, h1], by simpa [pm_ent, pm_as] using h2⟩
theorem pm_ent_ok (ad : Nat → Nat) : ∀ (vs : List Value) (n i : Nat), pm_eok vs n = true → (pm_ent vs n).length = n ∧ (lg_sl (vs.map (pm_v ad))).length ≤ n ∧ pm_as ad i (pm_ent vs n) = lv_args i (vs.map (pm_v ad))
  | [], n, i, _ => by
    obtain ⟨h1, h2⟩ := pm_ent_nil ad n i
    exact ⟨h1, Nat.zero_le _, h2⟩
  | .long v :: vs, n + 2, i, h => by
    obtain ⟨h1, h2, h3⟩ := pm_ent_ok ad vs n (i + 2) h
    refine ⟨by simp [pm_ent, h1], ?_, ?_⟩
    · simp only [lg_sl, List.map_cons, List.flatMap_cons, List.length_append] at h2 ⊢
      have e1 : (if (pm_v ad (Value.long v)).category = 2 then [Slot.val (pm_v ad (Value.long v)), Slot.second] else [Slot.val (pm_v ad (Value.long v))]).length = 2 := rfl
      omega
    · show (i, Value.long v) :: pm_as ad (i + 1 + 1) (pm_ent vs n) = (i, Value.long v) :: lv_args (i + 2) _
      rw [h3]
  | .int v :: vs, n + 1, i, h => by
    obtain ⟨h1, h2, h3⟩ := pm_ent_ok ad vs n (i + 1) h
    refine ⟨by simp [pm_ent, h1], ?_, ?_⟩
    · simp only [lg_sl, List.map_cons, List.flatMap_cons, List.length_append] at h2 ⊢
      have e1 : (if (pm_v ad (Value.int v)).category = 2 then [Slot.val (pm_v ad (Value.int v)), Slot.second] else [Slot.val (pm_v ad (Value.int v))]).length = 1 := rfl
      omega
    · show (i, Value.int v) :: pm_as ad (i + 1) (pm_ent vs n) = (i, Value.int v) :: lv_args (i + 1) _
      rw [h3]
  | .ref v :: vs, n + 1, i, h => by
    obtain ⟨h1, h2, h3⟩ := pm_ent_ok ad vs n (i + 1) h
    refine ⟨by simp [pm_ent, h1], ?_, ?_⟩
    · simp only [lg_sl, List.map_cons, List.flatMap_cons, List.length_append] at h2 ⊢
      have e1 : (if (pm_v ad (Value.ref v)).category = 2 then [Slot.val (pm_v ad (Value.ref v)), Slot.second] else [Slot.val (pm_v ad (Value.ref v))]).length = 1 := rfl
      omega
    · show (i, Value.ref (ad v)) :: pm_as ad (i + 1) (pm_ent vs n) = (i, Value.ref (ad v)) :: lv_args (i + 1) _
      rw [h3]
  | .int _ :: _, 0, _, h => by simp [pm_eok] at h
  | .ref _ :: _, 0, _, h => by simp [pm_eok] at h
  | .long _ :: _, 0, _, h => by simp [pm_eok] at h
  | .long _ :: _, 1, _, h => by simp [pm_eok] at h
  | .float _ :: _, _, _, h => by simp [pm_eok] at h
  | .double _ :: _, _, _, h => by simp [pm_eok] at h
  | .null :: _, _, _, h => by simp [pm_eok] at h
  | .retAddr _ :: _, _, _, h => by simp [pm_eok] at h
theorem pm_plains : pm_prs.all (fun M => plainName M.1.cls) = true := by decide +kernel
theorem pm_plain (me : Nat) : plainName (pm_pr me).1.cls = true := by
  rcases pm_at_or pmL_law pm_prs me with h | h
  · exact List.all_eq_true.mp pm_plains _ h
  · have h2 : pm_pr me = pmL_law := h
    rw [h2]
    exact List.all_eq_true.mp pm_plains pmL_law (by unfold pm_prs; simp only [List.mem_cons, true_or, or_true])
/-- THE CONTRACT OUT OF THE JUDGEMENT AT THE ENTRY -/
theorem pm_Ci {me d : Nat} {al : Bool} {vs : List Value} {w : pm_D} {k : pm_K} {kx : pm_X} (he : pm_eok vs (pm_pr me).2.2.1 = true) (hJ : pm_J me d al none k kx 0 (pm_ent vs (pm_pr me).2.2.1) [] w (pm_mc me).1 (pm_mc me).2) : pm_C me d al vs w k kx := by
  intro l dA D ad sa sz htr
  have body : ∀ (p : Program) (e : Env) (s : State) (m : MethodId) (args : Array Value) (below : List Frame) (meth : Method) (c : Code) (s₁ : State), BodyLoose p l (pm_pr me).1 (headSpec (pm_ws me) (pm_rm d (pm_mc me).1 (pm_mc me).2)) (pm_pr me).2.1 (pm_pr me).2.2.1 (pm_pr me).2.2.2.1 e s m args below meth c s₁ → c.maxLocals = (pm_pr me).2.2.1 → c.exceptionTable.toList = tableOf (pm_pr me).2.2.2.2.1 → pm_Pc dA D ad sa al vs w sz args s →
      W p l e (headSpec (pm_ws me) (pm_rm d (pm_mc me).1 (pm_mc me).2)).room s m args below meth c s.heap [] 0 0 (vx_MQ below (pm_Qc dA D ad (va_A (pm_pic dA ad w) sz) al k) (pm_XC dA D ad (va_A (pm_pic dA ad w) sz) al kx) args s (pm_mc me).1 (pm_mc me).2 (va_A (pm_pic dA ad w) sz)) (entryFrame m args (pm_pr me).2.2.1) := by
    intro p e s m args below meth c s₁ B hml hex hv
    obtain ⟨rfl, hsz, hP, hK, hD0, hz, hG⟩ := hv
    have hts : ∀ w9 ∈ pm_tb, w9.before ((vs.map (pm_v ad)).toArray) s = true := fun w9 hw9 => atoms_spec (ws := pm_ws me) B.pre w9 (List.mem_cons_of_mem _ hw9)
    subst hsz
    obtain ⟨e1, e2, e3⟩ := pm_ent_ok ad vs (pm_pr me).2.2.1 0 he
    rw [lg_entry_eq]
    have hl := lv_entry (vs.map (pm_v ad)) e2
    refine hJ p l e _ s m _ below meth c s.heap [] 0 0 dA D ad sa (va_A (pm_pic dA ad w) s.heap.size) _ ⟨B.exec, htr, B.bytes, hml, B.returns, B.notSynchronized, findClass_of_methodNamed B.named, (name_of_methodNamed B.named B.method).1, hts, hex, hK, fun q h => Or.inr h, hG, Nat.le_refl _, Nat.le_refl _, fun N xs h => by cases h⟩ hP hD0.self va_S.rf hz ?_ e1 (Nat.le_of_eq (Nat.zero_add _)) (Nat.le_of_eq (Nat.zero_add _))
    rw [e1, e3]
    exact hl
  have hpl := pm_plain me
  have hws : pm_ws me = pm_cc (pm_pr me) :: pm_tb := rfl
  generalize pm_pr me = M at body hpl hws ⊢
  obtain ⟨y, bytes, n, r, hh, rs⟩ := M
  cases hh with
  | nil => exact vx_ofW (cc := bytes) (maxL := n) (ret := r) hpl hws (fun p e s m args below meth c s₁ B hml ht hP => body p e s m args below meth c s₁ B hml (by
      show c.exceptionTable.toList = []
      cases hq : c.exceptionTable.toList with
      | nil => rfl
      | cons x t => exact (ht x (by rw [hq]; exact List.mem_cons_self)).elim) hP)
  | cons q t => exact vx_ofWH (cc := bytes) (maxL := n) (ret := r) (hh := q :: t) hpl hws (fun p e s m args below meth c s₁ B hml hP => body p e s m args below meth c s₁ B hml (vx_table (x := y) B (atoms_spec (ws := pm_ws me) B.pre _ (by rw [hws]; exact List.mem_cons_self))) hP)
