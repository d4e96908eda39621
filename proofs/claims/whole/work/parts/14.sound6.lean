/-! SOUNDNESS: switches, calls, and all together -/
theorem pm_cs_inv {x : Int32} {df : Nat} {K : Nat → Prop} : ∀ (cs : List (Int32 × Nat)), pm_cs x df K cs → (∃ (j : Nat) (v : Int32) (t : Nat), cs[j]? = some (v, t) ∧ x = v ∧ K t) ∨ ((∀ q ∈ cs, x ≠ q.1) ∧ K df)
  | [], h => Or.inr ⟨fun q hq => absurd hq List.not_mem_nil, h⟩
  | (v, t) :: r, h => by
    by_cases hx : x = v
    · exact Or.inl ⟨0, v, t, rfl, hx, h.1 hx⟩
    · rcases pm_cs_inv r (h.2 hx) with ⟨j, v2, t2, h1, h2, h3⟩ | ⟨h1, h2⟩
      · exact Or.inl ⟨j + 1, v2, t2, by simpa using h1, h2, h3⟩
      · exact Or.inr ⟨fun q hq => (List.mem_cons.mp hq).elim (fun e => by rw [e]; exact hx) (h1 q), h2⟩
theorem pm_swk_get {pc : Nat} : ∀ (os : List Int) (cs : List (Int32 × Nat)) (lo : Int), pm_swk pc lo os cs = true → os.length = cs.length ∧ ∀ (j : Nat) (v : Int32) (t : Nat), cs[j]? = some (v, t) → v.toInt = lo + j ∧ ∃ o : Int, os[j]? = some o ∧ (pc : Int) + o = (t : Int)
  | [], [], lo, _ => ⟨rfl, fun j v t h => by simp at h⟩
  | o :: os, (v, t) :: cs, lo, h => by
    simp only [pm_swk, Bool.and_eq_true, decide_eq_true_eq] at h
    obtain ⟨h1, h2⟩ := pm_swk_get os cs (lo + 1) h.2
    refine ⟨by simp [h1], fun j v2 t2 hj => ?_⟩
    cases j with
    | zero =>
      simp at hj
      obtain ⟨e1, e2⟩ := hj
      subst e1; subst e2
      exact ⟨by simpa using h.1.1, o, rfl, h.1.2⟩
    | succ j =>
      obtain ⟨g1, o2, g2, g3⟩ := h2 j v2 t2 (by simpa using hj)
      exact ⟨by rw [g1]; omega, o2, by simpa using g2, g3⟩
  | [], _ :: _, lo, h => by simp [pm_swk] at h
  | _ :: _, [], lo, h => by simp [pm_swk] at h
section PMA
variable {me d : Nat} {al : Bool} {X : Option (Nat × (Nat → Int32))} {k : pm_K} {kx : pm_X} {go : List pm_R → pm_V → List Value → pm_D → Nat → Nat → Prop} {pc a b c cb sb : Nat} {rs : List pm_R} {L : pm_V} {st : List Value} {w : pm_D}
theorem px_tableswitch {df lo hi : Int} {offs : Array Int} {len : Nat} (hd : decode (pm_pr me).2.1 pc = .ok (.tableswitch df lo hi offs, len)) (hhi : hi + 1 = lo + (offs.size : Int)) (hk : pm_swk pc lo offs.toList (pm_sw a).1 = true) (hdf : (pc : Int) + df = ((pm_sw a).2 : Int))
    (hT : ∀ tg L st w cb sb, go (pm_from (pm_pr me).2.2.2.2.2 tg) L st w cb sb → pm_J me d al X k kx tg L st w cb sb) (h : pm_x me d al X k kx go pc (.tableswitch df lo hi offs) a b c rs L st w cb sb) : pm_J me d al X k kx pc L st w cb sb := by
  obtain ⟨x, t, rfl, g⟩ := pm_i1_inv h
  obtain ⟨hlen, hget⟩ := pm_swk_get _ _ _ hk
  have hsz : offs.size = (pm_sw a).1.length := by rw [← hlen, Array.length_toList]
  rcases pm_cs_inv _ g with ⟨j, v, tg, h1, rfl, h3⟩ | ⟨h1, h3⟩
  · obtain ⟨g1, o, g2, g3⟩ := hget j x tg h1
    have hj : j < (pm_sw a).1.length := (List.getElem?_eq_some_iff.mp h1).1
    have ho : offs[(x.toInt - lo).toNat]? = some o := by
      rw [g1, show (lo + (j : Int) - lo).toNat = j by omega, ← Array.getElem?_toList]
      exact g2
    exact pm_stk (hT _ _ _ _ _ _ h3) (fun _ _ _ _ _ _ _ _ _ _ _ _ _ _ _ _ ad hx hb hown hts hl q => lv_tableIn hx hb hd (by omega) (by omega) ho g3 q)
  · have hout : x.toInt < lo ∨ hi < x.toInt := by
      by_cases q1 : x.toInt < lo
      · exact Or.inl q1
      · by_cases q2 : hi < x.toInt
        · exact Or.inr q2
        · exfalso
          have hj : (x.toInt - lo).toNat < (pm_sw a).1.length := by omega
          rcases hq : (pm_sw a).1[(x.toInt - lo).toNat] with ⟨v, tg⟩
          have h9 : (pm_sw a).1[(x.toInt - lo).toNat]? = some (v, tg) := by rw [List.getElem?_eq_getElem hj, hq]
          obtain ⟨g1, -⟩ := hget _ v tg h9
          have hxv : x.toInt = v.toInt := by rw [g1]; omega
          exact h1 (v, tg) (List.mem_of_getElem? h9) (Int32.toInt_inj.mp hxv)
    exact pm_stk (hT _ _ _ _ _ _ h3) (fun _ _ _ _ _ _ _ _ _ _ _ _ _ _ _ _ ad hx hb hown hts hl q => lv_tableOut hx hb hd hout hdf q)
/-- a call, its own step given -/
theorem pm_callJ {ig : Instr} {vs t : List Value} {kk : pm_K} {kkx : pm_X} (hJ : ∀ rs L st w cb sb, (∃ pre, (pm_pr me).2.2.2.2.2 = pre ++ rs) → go rs L st w cb sb → ∃ r t, rs = r :: t ∧ pm_J me (d + 1) al X k kx r.1 L st w cb sb)
    (hrow : ∀ pre r t, (pm_pr me).2.2.2.2.2 = pre ++ r :: t → ∃ nx, pm_ck (pm_pr me) r nx = true ∧ ∀ q u, t = q :: u → q.1 = nx)
    (hd : decode (pm_pr me).2.1 pc = .ok (ig, 3)) (hcc : pm_cc (pm_pr a) ∈ pm_tb) (hini : Cond.initialized (pm_pr a).1.cls ∈ pm_tb) (hmx : (pm_pr a).2.2.1 ≤ 15) (hfew : pm_few t 8 = true) (hb : (pm_mc a).1 ≤ cb ∧ (pm_mc a).2 ≤ sb) (hC : pm_C a d al vs w kk kkx)
    (hk : ∀ v w2, kk v w2 → pm_ps v t (fun t => pm_J me (d + 1) al X k kx (pc + 3) L t w2 (cb - (pm_mc a).1) (sb - (pm_mc a).2)))
    (hkx : ∀ E w2, kkx E w2 → (match (pm_pr me).2.2.2.2.1 with
          | [] => kx E w2
          | hh => pm_ch E pc (fun h => pm_hn (pm_from (pm_pr me).2.2.2.2.2 h) L (fun rs L => go rs L [] w2 (cb - (pm_mc a).1) (sb - (pm_mc a).2))) hh))
    (hInv : ∀ (p : Program) (l : Launch) (e : Env) (R : Room) (s : State) (m : MethodId) (args : Array Value) (below : List Frame) (meth : Method) (c : Code) (H : Heap) (locs : List Loc) (cells slots : Nat) (dA : Nat → ClassId) (D : va_G) (ad sa : Nat → Nat) (A : Nat → Prop) (ls : Array Slot) (T : State),
      pm_Fr me (d + 1) X p l R s m args meth c dA D ad sa A → va_P D vwCl (pm_pic dA ad w) H → T.heap = H → Stand p l e R s m args below meth c T locs cells slots → pm_Inv p l e R s m args below meth c T locs cells slots (F0 m pc ls (st.map (pm_v ad))) (t.map (pm_v ad)) (pm_pr a).1 ((vs.map (pm_v ad)).toArray)) :
    pm_J me (d + 1) al X k kx pc L st w cb sb := by
  intro p l e R s m args below meth c H locs cells slots dA D ad sa A ls F hP hD hS hz hl hn hcs hs
  obtain ⟨hx, htr, hbc, hml, hr, hlo, hown, hnm, hts, hex, hK, hA, hG, hfr, hlc, hX⟩ := id F
  have hA1 : ∀ q, va_A (pm_pic dA ad w) H.size q → A q := by
    intro q h
    rcases h with ⟨j, e9, h⟩ | h
    · exact hD.2 j (q, e9) h
    · exact hA q (Nat.le_trans hS.1 h)
  refine pm_after hJ hrow F hP hD hS hl hn hcs hs hb.1 hb.2 (pm_vrun (ig := ig) (pm_back (sa := sa) (sz := H.size) hC htr hts hcc hini hmx hfr hlc) rfl (hl.1.trans (hn.trans hml.symm)) (lv_room (by rw [pm_cats]; exact pm_few_inv _ _ hfew)) (by rw [hbc]; exact hd) ?_ ⟨by omega, by omega⟩ (fun T hT XT => hInv p l e R s m args below meth c H locs cells slots dA D ad sa A ls T F hP hT XT)) hk hkx
  intro U hU hW
  refine ⟨rfl, by rw [hU], by rw [hU]; exact hP, va_K.moved hW.alike hK, hD.weaken (fun _ _ _ _ => trivial), hz, ?_⟩
  rw [hU]
  exact ((pm_G.warm hW hG).kept hS.2.1).narrow hA1
theorem px_invokestatic {ix : Nat} (hJ : ∀ rs L st w cb sb, (∃ pre, (pm_pr me).2.2.2.2.2 = pre ++ rs) → go rs L st w cb sb → ∃ r t, rs = r :: t ∧ pm_J me d al X k kx r.1 L st w cb sb)
    (hrow : ∀ pre r t, (pm_pr me).2.2.2.2.2 = pre ++ r :: t → ∃ nx, pm_ck (pm_pr me) r nx = true ∧ ∀ q u, t = q :: u → q.1 = nx)
    (hd : decode (pm_pr me).2.1 pc = .ok (.invokestatic ix, 3)) (hN : ∀ L st w cb sb, go rs L st w cb sb → pm_J me d al X k kx (pc + 3) L st w cb sb)
    (hcy : pm_cy (pm_pr a) b = true) (h1 : Cond.methodLink (pm_pr me).1.cls ix (pm_pr a).1 ∈ pm_tb) (h2 : Cond.static (pm_pr a).1 ∈ pm_tb)
    (h : pm_x me d al X k kx go pc (.invokestatic ix) a b c rs L st w cb sb) : pm_J me d al X k kx pc L st w cb sb := by
  cases d with
  | zero => exact h.elim
  | succ d =>
    obtain ⟨us, t, hus, rfl, g⟩ := pm_pop_inv _ _ _ _ h
    clear h
    cases hfew : pm_few t 8 with
    | false => rw [hfew] at g; exact g.elim
    | true =>
      rw [hfew] at g
      obtain ⟨hb, hC⟩ := g
      simp only [pm_cy, pm_mh, Bool.and_eq_true] at hcy
      obtain ⟨⟨⟨⟨y1, y2⟩, y3, y4⟩, y5⟩, y6⟩ := hcy
      refine pm_callJ hJ hrow hd (of_decide_eq_true y1) (of_decide_eq_true y2) (of_decide_eq_true y6) hfew hb hC (fun v w2 hv => ?_) (fun E w2 hv => hv) ?_
      · cases v with
        | none => exact hN _ _ _ _ _ hv
        | some u => exact hN _ _ _ _ _ hv
      · intro p l e R s m args below meth c H locs cells slots dA D ad sa A ls T F hP hT XT
        obtain ⟨hx, htr, hbc, hml, hr, hlo, hown, hnm, hts, hex, hK, hA, hG, hfr, hlc, hX⟩ := id F
        refine pm_invS (n := b) XT hx hown (hts _ h1) (hts _ h2) (hts _ (of_decide_eq_true y2)) (hts _ (of_decide_eq_true y1)) ⟨of_decide_eq_true y3, of_decide_eq_true y4⟩ (of_decide_eq_true y5) rfl (by simp [hus]) ?_ (by rw [hbc]; exact hd)
        show (us ++ t).map (pm_v ad) = _
        simp
theorem px_invokevirtual {ix n : Nat} {C : String} {Tc : u_T} {Nc : Nat} (hJ : ∀ rs L st w cb sb, (∃ pre, (pm_pr me).2.2.2.2.2 = pre ++ rs) → go rs L st w cb sb → ∃ r t, rs = r :: t ∧ pm_J me d al X k kx r.1 L st w cb sb)
    (hrow : ∀ pre r t, (pm_pr me).2.2.2.2.2 = pre ++ r :: t → ∃ nx, pm_ck (pm_pr me) r nx = true ∧ ∀ q u, t = q :: u → q.1 = nx)
    (hd : decode (pm_pr me).2.1 pc = .ok (.invokevirtual ix, 3)) (hN : ∀ L st w cb sb, go rs L st w cb sb → pm_J me d al X k kx (pc + 3) L st w cb sb)
    (hcy : pm_cy (pm_pr a) n = true) (h1 : Cond.methodLink (pm_pr me).1.cls ix (pm_pr a).1 ∈ pm_tb) (h2 : Cond.instanceMethod (pm_pr a).1 ∈ pm_tb) (h3 : Cond.selects (pm_pr a).1.cls (pm_pr a).1 (pm_pr a).1 ∈ pm_tb) (h4 : vwCl[c]? = some (C, Tc, Nc)) (h5 : C = (pm_pr a).1.cls)
    (h : pm_x me d al X k kx go pc (.invokevirtual ix) a (n + 1) c rs L st w cb sb) : pm_J me d al X k kx pc L st w cb sb := by
  cases d with
  | zero => exact h.elim
  | succ d =>
    obtain ⟨us, t, hus, rfl, g⟩ := pm_pop_inv _ _ _ _ h
    clear h
    rw [List.append_nil] at g
    generalize hvs : us.reverse = vs at g
    have hus2 : us = vs.reverse := by rw [← hvs, List.reverse_reverse]
    subst hus2
    cases hfew : pm_few t 8 with
    | false => rw [hfew] at g; exact g.elim
    | true =>
      rw [hfew] at g
      dsimp only at g
      split at g
      · rename_i q vs2
        obtain ⟨e9, he9, g2⟩ := pm_get_inv _ _ _ g
        clear g
        cases e9 with
        | inl x => exact g2.elim
        | inr x =>
          obtain ⟨ci, fs⟩ := x
          cases hq : Nat.beq ci c with
          | false => simp only [hq] at g2
          | true =>
            simp only [hq] at g2
            have hq := Nat.eq_of_beq_eq_true hq
            subst hq
            obtain ⟨hb, hC⟩ := g2
            simp only [pm_cy, pm_mh, Bool.and_eq_true] at hcy
            obtain ⟨⟨⟨⟨y1, y2⟩, y3, y4⟩, y5⟩, y6⟩ := hcy
            refine pm_callJ hJ hrow hd (of_decide_eq_true y1) (of_decide_eq_true y2) (of_decide_eq_true y6) hfew hb hC (fun v w2 hv => ?_) (fun E w2 hv => hv) ?_
            · cases v with
              | none => exact hN _ _ _ _ _ hv
              | some u => exact hN _ _ _ _ _ hv
            · intro p l e R s m args below meth c H locs cells slots dA D ad sa A ls T F hP hT XT
              obtain ⟨hx, htr, hbc, hml, hr, hlo, hown, hnm, hts, hex, hK, hA, hG, hfr, hlc, hX⟩ := id F
              obtain ⟨cell, c1, c2, c3⟩ := va_recv hK hP h4 (pm_pic_get (dA := dA) (ad := ad) he9)
              refine pm_invV (n := n) (argsL := vs2.map (pm_v ad)) XT hx hown (hts _ h1) (hts _ h2) (hts _ h3) (hts _ (of_decide_eq_true y1)) ⟨of_decide_eq_true y3, of_decide_eq_true y4⟩ (of_decide_eq_true y5) (b := ad (q + 1)) (cellB := cell) (by rw [hT]; exact c1) c2 (by rw [← h5]; exact c3) rfl (by simp at hus; simpa using hus) ?_ (by rw [hbc]; exact hd)
              show ((Value.ref (q + 1) :: vs2).reverse ++ t).map (pm_v ad) = _
              simp [pm_v]
      · exact g.elim
theorem px_invokespecial {ix n : Nat} (hJ : ∀ rs L st w cb sb, (∃ pre, (pm_pr me).2.2.2.2.2 = pre ++ rs) → go rs L st w cb sb → ∃ r t, rs = r :: t ∧ pm_J me d al X k kx r.1 L st w cb sb)
    (hrow : ∀ pre r t, (pm_pr me).2.2.2.2.2 = pre ++ r :: t → ∃ nx, pm_ck (pm_pr me) r nx = true ∧ ∀ q u, t = q :: u → q.1 = nx)
    (hd : decode (pm_pr me).2.1 pc = .ok (.invokespecial ix, 3)) (hN : ∀ L st w cb sb, go rs L st w cb sb → pm_J me d al X k kx (pc + 3) L st w cb sb) (hne : Nat.beq a 9999 = false) (hne2 : Nat.beq a 9998 = false)
    (hcy : pm_cy (pm_pr a) n = true) (h2 : Cond.instanceMethod (pm_pr a).1 ∈ pm_tb) (h3 : (pm_pr a).1.name = "<init>") (h4 : (pm_pr a).2.2.2.2.1 = []) (h5 : (pm_pr a).2.2.2.1 = none)
    (h1 : Cond.methodLink (pm_pr me).1.cls ix (pm_pr a).1 ∈ pm_tb ∨ Cond.methodLinkNest (pm_pr me).1.cls ix (pm_pr a).1 "SelectiveLink" ∈ pm_nw)
    (h : pm_x me d al X k kx go pc (.invokespecial ix) a (n + 1) c rs L st w cb sb) : pm_J me d al X k kx pc L st w cb sb := by
  dsimp only [pm_x] at h
  rw [hne] at h
  dsimp only at h
  rw [hne2] at h
  obtain ⟨us0, t0, hus0, hst0, g0⟩ := pm_pop_inv _ _ _ _ h
  clear h
  rw [List.append_nil] at g0
  generalize hvs0 : us0.reverse = vs0 at g0
  have hus20 : us0 = vs0.reverse := by rw [← hvs0, List.reverse_reverse]
  subst hus20
  split at g0
  · rename_i q0 vs2
    cases d with
    | zero => exact g0.elim
    | succ d =>
      obtain ⟨us, t, hus, hst, g⟩ := pm_pop_inv _ _ _ _ g0
      clear g0
      rw [List.append_nil] at g
      have hsame : us = (Value.ref q0 :: vs2).reverse ∧ t = t0 := by
        have h9 := hst.symm.trans hst0
        have hl9 : us.length = (Value.ref q0 :: vs2).reverse.length := by rw [hus, hus0]
        exact ⟨List.append_inj_left h9 hl9, List.append_inj_right h9 hl9⟩
      obtain ⟨rfl, rfl⟩ := hsame
      rw [List.reverse_reverse] at g
      subst hst
      clear hst0
      cases hfew : pm_few t 8 with
      | false => rw [hfew] at g; exact g.elim
      | true =>
        rw [hfew] at g
        obtain ⟨hb, hC⟩ := g
        simp only [pm_cy, pm_mh, Bool.and_eq_true] at hcy
        obtain ⟨⟨⟨⟨y1, y2⟩, y3, y4⟩, y5⟩, y6⟩ := hcy
        have hcc : pm_cc (pm_pr a) = Cond.code (pm_pr a).1 (pm_pr a).2.1 (pm_pr a).2.2.1 none := by
          unfold pm_cc
          rw [h4, h5]
        refine pm_callJ hJ hrow hd (of_decide_eq_true y1) (of_decide_eq_true y2) (of_decide_eq_true y6) hfew hb hC (fun v w2 hv => ?_) (fun E w2 hv => hv) ?_
        · cases v with
          | none => exact hN _ _ _ _ _ hv
          | some u => exact hN _ _ _ _ _ hv
        · intro p l e R s m args below meth c H locs cells slots dA D ad sa A ls T F hP hT XT
          obtain ⟨hx, htr, hbc, hml, hr, hlo, hown, hnm, hts, hex, hK, hA, hG, hfr, hlc, hX⟩ := id F
          refine pm_invI (n := n) (argsL := vs2.map (pm_v ad)) (b := ad q0) XT hx hown h3 (h1.imp (fun z => hts _ z) (fun z => ⟨_, va_Nw.use rfl (hG.1 _ z)⟩)) (hts _ h2) (by rw [← hcc]; exact hts _ (of_decide_eq_true y1)) ⟨of_decide_eq_true y3, of_decide_eq_true y4⟩ (of_decide_eq_true y5) rfl (by simp at hus; simpa using hus) ?_ (by rw [hbc]; exact hd)
          show ((Value.ref q0 :: vs2).reverse ++ t).map (pm_v ad) = _
          simp [pm_v]
  · exact g0.elim
theorem px_objInit {ix : Nat} (hd : decode (pm_pr me).2.1 pc = .ok (.invokespecial ix, 3)) (hN : ∀ L st w cb sb, go rs L st w cb sb → pm_J me d al X k kx (pc + 3) L st w cb sb) (hne : Nat.beq a 9999 = true)
    (h1 : Cond.methodLink (pm_pr me).1.cls ix Lib.objectInit ∈ pm_tb) (h2 : Cond.instanceMethod Lib.objectInit ∈ pm_tb) (h3 : Cond.code Lib.objectInit ⟨#[0xb1]⟩ 1 none ∈ pm_tb)
    (h : pm_x me d al X k kx go pc (.invokespecial ix) a b c rs L st w cb sb) : pm_J me d al X k kx pc L st w cb sb := by
  dsimp only [pm_x] at h
  rw [hne] at h
  obtain ⟨r, t, rfl, g⟩ := pm_r1_inv h
  clear h
  cases hfew : pm_few t 8 with
  | false => rw [hfew] at g; exact g.elim
  | true =>
    rw [hfew] at g
    obtain ⟨hd1, g⟩ := g
    intro p l e R s m args below meth c H locs cells slots dA D ad sa A ls F hP hD hS hz hl hn hcs hs
    obtain ⟨hx, htr, hbc, hml, hr, hlo, hown, hnm, hts, hex, hK, hA, hG, hfr, hlc, hX⟩ := id F
    have hf2 := pm_few_inv _ _ hfew
    refine W.objInit hx hbc hown (hts _ h1) (hts _ h2) (hts _ h3) rfl (hl.1.trans (hn.trans hml.symm)) rfl hd (by omega) ?_ ?_
    · show 2 * 0 + ((t.map (pm_v ad)).map fun v => v.category).sum + 12 ≤ R.locals
      rw [pm_cats]
      omega
    · exact hN _ _ _ _ _ g p l e R s m args below meth c H locs cells slots dA D ad sa A ls F hP hD hS hz hl hn hcs hs
end PMA

/-- ALL INSTRUCTIONS -/
theorem pm_and3 {x y z : Bool} (h : (x && y && z) = true) : (x = true ∧ y = true) ∧ z = true := by
  rw [Bool.and_eq_true, Bool.and_eq_true] at h
  exact h
theorem pm_and {x y : Bool} (h : (x && y) = true) : x = true ∧ y = true := by
  rw [Bool.and_eq_true] at h
  exact h
theorem pm_dc_inv {ε : Type} {x : Except ε (Instr × Nat)} {i : Instr} (h : pm_dc x i = true) : ∃ n, x = .ok (i, n) := by
  unfold pm_dc at h
  split at h
  · rename_i q
    exact ⟨q.2, by rw [← of_decide_eq_true h]⟩
  · cases h

