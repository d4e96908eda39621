/-! THE CLAIM OUT OF ONE WALK OF THE LAW'S BODY. Your part is whole_start (and what it stands on); all else here is the same for every law, but numbers. -/
def R_law : String := "SelectiveLinkLaw"
def lw_P (b : Addr) (xs : List Int32) (args : Array Value) (s : State) : Prop := args = #[.ref b] ∧ s.IntsAt b xs ∧ xs.length ≤ 2048 ∧ (Jvm.Cond.and given_1 narrow_1).before args s = true
def lw_Q (_ : Array Value) (s : State) (o : Outcome) (t : State) : Prop := o = .returned (some (.int 1)) ∧ Framed s o t [] 1057 11066
def lw_Z (below : List Frame) (a : Array Value) (s : State) : State → Prop := fun t => ∃ o, t.status = .running ∧ Ended t below o ∧ lw_Q a s o t
/-- what holds at the law's entry: the machine, the code, the tables' words (any of lw_tbl by 'hts w (by decide +kernel)'), the script of L ints xs at the cell b, what the Statement gives of the start (any of its parts by flat_of_before) -/
def lw_At (p : Program) (s : State) (m : MethodId) (meth : Method) (c : Code) (b L : Nat) (xs : Nat → Int32) : Prop :=
  p.tables.exec = Jvm.exec ∧ c.code = code ∧ meth.sig.returnType = ret ∧ c.maxLocals = 8 ∧ s.vm.findClass R_law = some m.cls ∧ (∀ w ∈ lw_tbl, w.before #[Value.ref b] s = true) ∧ va_X b L xs s s.heap ∧ b < s.heap.size ∧ meth.locks = false ∧ (Jvm.Cond.and given_1 narrow_1).before #[Value.ref b] s = true
/-! from the start to the picture machine -/
theorem ka_arr {args : Array Value} {s : State} {ty : FieldType} (h : (Cond.arrayClass ty).before args s = true) : ∃ cA : ClassId, ArrOfT s cA ty ∧ s.vm.findClass ("[" ++ ty.toString) = some cA := by
  obtain ⟨c, k, comp, h1, h2, h3⟩ := Cond.arrayClass_spec (show (Cond.arrayClass ty).holds args s none s [] = true from h)
  exact ⟨c, fun n z => ⟨fun k h => (by cases h), k, h2, comp, h3⟩, h1⟩
theorem ka_fresh {s t : State} {L : List Loc} {k n : Nat} (h : s.sameButNew t L k n) (hf : ∀ q ∈ L, s.heap.size ≤ q.base) : s.sameButNew t [] k n := by
  obtain ⟨h1, h2, h3, h4, h5, h6⟩ := h
  refine ⟨h1, h2, h3, h4, h5, fun a c hc => ?_⟩
  obtain ⟨c', g1, g2, g3, g4⟩ := h6 a c hc
  refine ⟨c', g1, g2, g3, fun i _ => g4 i (fun hm => ?_)⟩
  have h7 : s.heap.size ≤ a := hf _ hm
  have h8 : a < s.heap.size := (Array.getElem?_eq_some_iff.mp hc).1
  exact absurd h8 (Nat.not_lt.mpr h7)
theorem in_X2 : ∀ w ∈ u_ws RX2 TX2 6, w ∈ lw_tbl := by decide +kernel
theorem in_X3 : ∀ w ∈ u_ws RX3 TX3 9, w ∈ lw_tbl := by decide +kernel
theorem in_X4 : ∀ w ∈ u_ws RX4 TX4 5, w ∈ lw_tbl := by decide +kernel
theorem in_X5 : ∀ w ∈ u_ws RX5 TX5 4, w ∈ lw_tbl := by decide +kernel
theorem in_X6 : ∀ w ∈ u_ws RX6 TX6 20, w ∈ lw_tbl := by decide +kernel
theorem pm_isN_on {w : Cond} (h : pm_isN w = true) : w.onTables = true := by
  cases w <;> first | rfl | (simp [pm_isN] at h)
def ka_sa (s : State) (n : Nat) : Nat := match (Term.string "SelectiveLink" n).eval #[] s none [] s with
  | some (.ref a) => a
  | _ => 0
theorem ka_str {b : Nat} {s : State} {n : Nat} {tx : String} (h1 : (Cond.stringRef "SelectiveLink" n tx).before #[Value.ref b] s = true) (h2 : (Cond.exactly (.string "SelectiveLink" n) "java/lang/String").before #[Value.ref b] s = true) : vk_R "SelectiveLink" n tx (ka_sa s n) s := by
  obtain ⟨a, c, cell, k, e1, -⟩ := Cond.exactly_spec (show (Cond.exactly (.string "SelectiveLink" n) "java/lang/String").holds #[Value.ref b] s none s [] = true from h2)
  have e2 : (Term.string "SelectiveLink" n).eval #[] s none [] s = some (.ref a) := e1
  have e3 : ka_sa s n = a := by unfold ka_sa; rw [e2]
  rw [e3]
  exact ⟨h1, e2⟩
/-- YOUR PART: from the entry, for every script of at most 2048 ints, the law comes to its end with true -/
theorem whole_start {p : Program} {e : Env} {s : State} {m : MethodId} {below : List Frame} {meth : Method} {c : Code} (l : Launch) (htr : l.stackTraces = false) {b L : Nat} {xs : Nat → Int32} (hL : L ≤ 2048) (C0 : lw_At p s m meth c b L xs) (hname : meth.name = "law") (hex : c.exceptionTable.toList = []) : W p l e room_1 s m #[Value.ref b] below meth c s.heap [] 0 0 (lw_Z below #[Value.ref b] s) (entryFrame m ([Value.ref b] : List Value).toArray 8) := by
  obtain ⟨hx, hb, hr, hml, hown, hts, hX, hbl, hlocks, hgv⟩ := id C0
  have hfl := flat_of_before _ hgv
  obtain ⟨c0, iS0, hKn0⟩ := u_known (C := RX2) (T := TX2) (N := 6) (n := 6) hts in_X2 (hts (.instantiable RX2 6) (by decide +kernel))
  obtain ⟨c1, iS1, hKn1⟩ := u_known (C := RX3) (T := TX3) (N := 9) (n := 9) hts in_X3 (hts (.instantiable RX3 9) (by decide +kernel))
  obtain ⟨c2, iS2, hKn2⟩ := u_known (C := RX4) (T := TX4) (N := 5) (n := 5) hts in_X4 (hts (.instantiable RX4 5) (by decide +kernel))
  obtain ⟨c3, iS3, hKn3⟩ := u_known (C := RX5) (T := TX5) (N := 4) (n := 4) hts in_X5 (hts (.instantiable RX5 4) (by decide +kernel))
  obtain ⟨c4, iS4, hKn4⟩ := u_known (C := RX6) (T := TX6) (N := 20) (n := 20) hts in_X6 (hts (.instantiable RX6 20) (by decide +kernel))
  obtain ⟨D, hKc⟩ : ∃ (D : va_G), ∀ (k : Nat) (q : vw_C), vwCl[k]? = some q → u_Kn s q.1 q.2.1 q.2.2 (D.1 k) (D.2 k) := by
    refine ⟨(fun k => match k with | 0 => c0 | 1 => c1 | 2 => c2 | 3 => c3 | _ => c4, fun k => match k with | 0 => iS0 | 1 => iS1 | 2 => iS2 | 3 => iS3 | _ => iS4), ?_⟩
    intro k q hq
    match k, hq with
    | 0, hq => cases hq; exact hKn0
    | 1, hq => cases hq; exact hKn1
    | 2, hq => cases hq; exact hKn2
    | 3, hq => cases hq; exact hKn3
    | 4, hq => cases hq; exact hKn4
    | k + 5, hq => simp [vwCl] at hq
  obtain ⟨a0, hA0, hN0⟩ := ka_arr (hts (.arrayClass .int) (by decide +kernel))
  obtain ⟨a1, hA1, hN1⟩ := ka_arr (hts (.arrayClass .long) (by decide +kernel))
  obtain ⟨a2, hA2, hN2⟩ := ka_arr (hts (.arrayClass .boolean) (by decide +kernel))
  obtain ⟨dA, e0, e1, e2⟩ : ∃ dA : Nat → ClassId, dA 0 = a0 ∧ dA 1 = a1 ∧ dA 2 = a2 := ⟨fun k => match k with | 0 => a0 | 1 => a1 | _ => a2, rfl, rfl, rfl⟩
  have hK : va_K D vwCl (pm_tys dA) s := by
    refine ⟨hKc, fun k q hq => ?_⟩
    match k, hq with
    | 0, hq => cases hq; rw [e0]; exact ⟨hA0, hN0⟩
    | 1, hq => cases hq; rw [e1]; exact ⟨hA1, hN1⟩
    | 2, hq => cases hq; rw [e2]; exact ⟨hA2, hN2⟩
    | k + 3, hq => simp [pm_tys] at hq
  have hA9 : ∀ a : Nat, a < s.heap.size → ¬ (fun q : Nat => s.heap.size ≤ q) a := fun a h => Nat.not_le.mpr h
  have hG : pm_G (ka_sa s) (fun q : Nat => s.heap.size ≤ q) s s.heap := by
    refine ⟨fun w hw => ?_, ?_, va_Nc.of (hfl (.not (.castable pm_IO pm_IA)) (by decide +kernel)), vx_Zqof (hts (.laysStatic Bundle.tN "UNASSIGNED_STACK" Bundle.steD) (by decide +kernel)) (hts (.initialized Bundle.tN) (by decide +kernel)) (hfl (.isRef (.static Bundle.tN "UNASSIGNED_STACK" Bundle.steD)) (by decide +kernel)) hA9, vx_Zqof (hts (.laysStatic Bundle.tN "SUPPRESSED_SENTINEL" Bundle.listD) (by decide +kernel)) (hts (.initialized Bundle.tN) (by decide +kernel)) (hfl (.isRef (.static Bundle.tN "SUPPRESSED_SENTINEL" Bundle.listD)) (by decide +kernel)) hA9⟩
    · obtain ⟨h1, h2⟩ := List.mem_filter.mp hw
      exact va_Nw.of (pm_isN_on h2) (hts w h1)
    · unfold pm_ss
      refine List.forall_mem_cons.mpr ⟨?_, List.forall_mem_cons.mpr ⟨?_, List.forall_mem_cons.mpr ⟨?_, List.forall_mem_cons.mpr ⟨?_, List.forall_mem_cons.mpr ⟨?_, List.forall_mem_cons.mpr ⟨?_, List.forall_mem_cons.mpr ⟨?_, fun _ h => absurd h List.not_mem_nil⟩⟩⟩⟩⟩⟩⟩
      all_goals exact ka_str (hts _ (by decide +kernel)) (hfl _ (by decide +kernel))
  have hJ := j_law (N := L) (xs := xs) (k := fun v _ => v = some (.int 1)) (kx := fun _ _ => False) hL (fun _ => rfl)
  have hl := lv_entry ([.ref b]) (n := 8) (Nat.le_of_ble_eq_true rfl)
  rw [lg_entry_eq]
  generalize (lg_sl ([.ref b]) ++ List.replicate (8 - (lg_sl ([.ref b])).length) Slot.unset).toArray = ls at hl ⊢
  have hl : lv_has ls 8 [(0, .ref b)] := hl
  have hW := hJ p l e room_1 s m #[Value.ref b] below meth c s.heap [] 0 0 dA D (fun k => match k with | 0 => b | k + 1 => s.heap.size + k) (ka_sa s) (fun q : Nat => s.heap.size ≤ q) ls
    ⟨hx, htr, hb, hml, hr, hlocks, hown, hname, fun w hw => hts w (List.mem_filter.mp hw).1, hex, hK, fun q h => h, hG, by decide, by decide, fun N2 xs2 h2 => by
      cases h2
      exact ⟨hX, hbl, Nat.not_le.mpr hbl⟩⟩
    (fun k q h => by simp [pm_pf] at h) ⟨fun i j p q h => by simp [pm_pf] at h, fun k q h => by simp [pm_pf] at h⟩ va_S.rf (fun _ => ⟨rfl, fun n => rfl⟩) hl rfl (by decide) (by decide)
  intro T hT X
  obtain ⟨t, a1, o, b1, b2, b3⟩ := hW T hT X
  refine ⟨t, a1, o, b1, b2, ?_⟩
  rcases b3 with ⟨⟨⟨v, w, ho, hv, -⟩, -⟩, L9, hFE, hfree⟩ | ⟨q, -, E, ce, L9, ⟨⟨w, hkx, -⟩, -⟩, -⟩
  · subst hv
    exact ⟨ho, hFE.1, hFE.2.1, ka_fresh hFE.2.2 hfree⟩
  · exact hkx.elim
