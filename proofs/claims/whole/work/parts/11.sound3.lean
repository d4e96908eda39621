/-! SOUNDNESS: new cells, throws -/
theorem pm_at_or {α : Type} (z : α) : ∀ (l : List α) (k : Nat), pm_at z l k ∈ l ∨ pm_at z l k = z
  | [], _ => Or.inr rfl
  | _ :: _, 0 => Or.inl List.mem_cons_self
  | _ :: t, k + 1 => (pm_at_or z t k).imp (List.mem_cons_of_mem _) id
def pm_nr : Value → Bool := fun v => match v with
  | .ref _ => false
  | _ => true
theorem pm_df_nr (ci : Nat) : ∀ v ∈ pm_df ci, pm_nr v = true := by
  have key : ∀ l ∈ ([[.null, .null, .null, .int 0, .int 0, .int 0], [.null, .null, .null, .int 0, .int 0, .int 0, .int 0, .int 0, .int 0], [.null, .null, .int 0, .int 0, .int 0], [.null, .null, .null, .null], [.int 0, .int 0, .int 0, .int 0, .null, .null, .int 0, .int 0, .null, .null, .null, .int 0, .null, .null, .int 0, .null, .int 0, .int 0, .int 0, .null]] : List (List Value)), ∀ v ∈ l, pm_nr v = true := by decide +kernel
  unfold pm_df
  rcases pm_at_or ([] : List Value) _ ci with h | h
  · exact key _ h
  · rw [h]
    exact fun v hv => absurd hv List.not_mem_nil
theorem pm_nw_ot {w : Cond} (h : w ∈ pm_nw) : w.onTables = true := by
  have h2 := (List.mem_filter.mp h).2
  cases w <;> first | rfl | (simp [pm_isN] at h2)
section PMN
variable {me d : Nat} {al : Bool} {X : Option (Nat × (Nat → Int32))} {k : pm_K} {kx : pm_X} {go : List pm_R → pm_V → List Value → pm_D → Nat → Nat → Prop} {pc a b c cb sb : Nat} {rs : List pm_R} {L : pm_V} {st : List Value} {w : pm_D}
/-- a new cell at the heap's end: the picture with it -/
theorem pm_grow {D : va_G} {dA : Nat → ClassId} {ad : Nat → Nat} {w : pm_D} {e : va_E} {H H1 : Heap} {A : Nat → Prop} {s : State} {locs : List Loc} (hP : va_P D vwCl (pm_pic dA ad w) H) (hD : va_D A (pm_pic dA ad w)) (hS : va_S A s.heap H locs) (hA : ∀ q, s.heap.size ≤ q → A q)
    (hz : H.size = ad (w.length + 1)) (z1 : H1.size = H.size + 1) (o1 : ∀ q, q < H.size → H1[q]? = H[q]?) (he : va_at D vwCl (ad (w.length + 1), pm_e dA ad e) H1) :
    va_P D vwCl (pm_pic dA ad (w ++ [e])) H1 ∧ va_D A (pm_pic dA ad (w ++ [e])) ∧ va_S A s.heap H1 locs := by
  have eq1 : pm_pic dA ad (w ++ [e]) = pm_pic dA ad w ++ [(ad (w.length + 1), pm_e dA ad e)] := by
    show pm_pf dA ad 1 (w ++ [e]) = _
    rw [pm_pf_snoc, Nat.add_comm 1]
  rw [eq1]
  have hk : ∀ (k : Nat) (x : Nat × va_E), (pm_pic dA ad w)[k]? = some x → H1[x.1]? = H[x.1]? := fun k x hx => o1 x.1 ((hP k x hx).lt)
  refine ⟨(hP.kept hk).app (fun k x hx => ?_), hD.push hP hz.symm (by rw [← hz]; exact hA _ hS.1), ⟨Nat.le_trans hS.1 (by omega), fun x h1 h2 => (o1 x (Nat.lt_of_lt_of_le h1 hS.1)).trans (hS.2.1 x h1 h2), hS.2.2⟩⟩
  have hz9 : k < 1 := (List.getElem?_eq_some_iff.mp hx).1
  rw [show k = 0 by omega] at hx
  cases hx
  exact he
theorem px_new {ix : Nat} {C : String} {T : u_T} {N : Nat} (hd : decode (pm_pr me).2.1 pc = .ok (.new ix, 3)) (hN : ∀ L st w cb sb, go rs L st w cb sb → pm_J me d al X k kx (pc + 3) L st w cb sb)
    (hc : vwCl[a]? = some (C, T, N)) (hb : N = b) (h1 : Cond.classLink (pm_pr me).1.cls ix C ∈ pm_tb) (h2 : Cond.instantiable C N ∈ pm_tb) (h3 : Cond.initialized C ∈ pm_tb)
    (h : pm_x me d al X k kx go pc (.new ix) a b 0 rs L st w cb sb) : pm_J me d al X k kx pc L st w cb sb := by
  cases al with
  | false => exact h.elim
  | true =>
    obtain ⟨⟨hcb, hsb⟩, h⟩ := h
    have h := pm_snoc_inv _ _ _ _ h
    intro p l e R s m args below meth c H locs cells slots dA D ad sa A ls F hP hD hS hz hl hn hcs hs
    obtain ⟨hx, htr, hbc, hml, hr, hlo, hown, hnm, hts, hex, hK, hA, hG, hfr, hlc, hX⟩ := id F
    have hKn := hK.1 a _ hc
    obtain ⟨hz0, hz2⟩ := hz rfl
    refine W.newcK hx hbc hown (hts _ h1) (hts _ h2) (hts _ h3) rfl hd (by omega) (by omega) hKn.2.1 rfl fun H1 kC hkC e1 z1 o1 => ?_
    have he : va_at D vwCl (ad (w.length + 1), pm_e dA ad (.inr (a, pm_df a))) H1 := by
      refine ⟨_, hc, (u_born (pm_ty a) hts (pm_cls hc).1 hKn hkC (by rw [← hz0]; exact e1) (pm_cls hc).2.1).to (fun j hj => ?_)⟩
      rw [(pm_cls hc).2.2.2 j hj]
      show vp_V (pm_df a) j = vp_V ((pm_df a).map (pm_v ad)) j
      unfold vp_V
      have key : ∀ v ∈ pm_df a, pm_v ad v = v := by
        intro v hv
        have h9 := pm_df_nr a v hv
        cases v <;> first | rfl | (simp [pm_nr] at h9)
      rw [List.map_congr_left (g := id) key, List.map_id]
    obtain ⟨g1, g2, g3⟩ := pm_grow hP hD hS hA hz0 z1 o1 he
    have hh := hN _ _ _ _ _ h p l e R s m args below meth c H1 locs (cells + 1) (slots + N) dA D ad sa A ls F g1 g2 g3 (fun _ => ⟨by rw [z1, hz0, List.length_append]; exact (hz2 _).symm, hz2⟩) hl hn (by omega) (by omega)
    rw [show 1 + w.length = w.length + 1 by omega] at hh
    have e9 : (Value.ref (w.length + 1) :: st).map (pm_v ad) = .ref H.size :: st.map (pm_v ad) := by rw [hz0]; rfl
    rw [e9] at hh
    exact hh
theorem pm_newa {ty : ArrayType} {ft : FieldType} (tag : Nat) (arr : vp_A) {t : List Value} (hd : decode (pm_pr me).2.1 pc = .ok (.newarray ty, 2)) (h1 : Cond.arrayClass (newarray.typeOf ty) ∈ pm_tb) (h2 : a ≤ 100000) (hft : newarray.typeOf ty = ft) (hby : componentBytes ft ≤ 8)
    (htag : ∀ dA : Nat → ClassId, (pm_tys dA)[tag]? = some (dA tag, ft)) (hra : ∀ (s : State) (cA : ClassId), va_RA s cA ft → s.vm.findClass ("[" ++ ft.toString) = some cA) (harr : ∀ cA : ClassId, vp_cell cA arr = arrV cA a (fun _ => defaultValue ft))
    (hcb : 1 ≤ cb) (hsb : a ≤ sb) (hJ : pm_J me d true X k kx (pc + 2) L (.ref (1 + w.length) :: t) (w ++ [.inl (tag, arr)]) (cb - 1) (sb - a)) : pm_J me d true X k kx pc L (.int (Int32.ofNat a) :: t) w cb sb := by
  intro p l e R s m args below meth c H locs cells slots dA D ad sa A ls F hP hD hS hz hl hn hcs hs
  obtain ⟨hx, htr, hbc, hml, hr, hlo, hown, hnm, hts, hex, hK, hA, hG, hfr, hlc, hX⟩ := id F
  obtain ⟨hz0, hz2⟩ := hz rfl
  refine va_newaK (N := a) hx hbc (hts _ h1) rfl hd rfl (nI_pos (n := a) (by omega)) (nI_clamp (n := a) (by omega)) ?_ (by omega) (by omega) rfl fun H1 cA e1 z1 o1 hAr hNm => ?_
  · rw [hft]
    exact Nat.le_trans (Nat.mul_le_mul_left a hby) (by omega)
  · rw [hft] at e1 hNm
    have hcA : cA = dA tag := Option.some.inj (hNm.symm.trans (hra _ _ (hK.2 tag _ (htag dA)).2))
    subst hcA
    have he : va_at D vwCl (ad (w.length + 1), pm_e dA ad (.inl (tag, arr))) H1 := by
      show H1[ad (w.length + 1)]? = some (vp_cell (dA tag) arr)
      rw [harr, ← hz0]
      exact e1
    obtain ⟨g1, g2, g3⟩ := pm_grow hP hD hS hA hz0 z1 o1 he
    have hh := hJ p l e R s m args below meth c H1 locs (cells + 1) (slots + a) dA D ad sa A ls F g1 g2 g3 (fun _ => ⟨by rw [z1, hz0, List.length_append]; exact (hz2 _).symm, hz2⟩) hl hn (by omega) (by omega)
    rw [show 1 + w.length = w.length + 1 by omega] at hh
    have e9 : (Value.ref (w.length + 1) :: t).map (pm_v ad) = .ref H.size :: t.map (pm_v ad) := by rw [hz0]; rfl
    rw [e9] at hh
    exact hh
theorem px_newarray {ty : ArrayType} (hd : decode (pm_pr me).2.1 pc = .ok (.newarray ty, 2)) (hN : ∀ L st w cb sb, go rs L st w cb sb → pm_J me d al X k kx (pc + 2) L st w cb sb) (h1 : Cond.arrayClass (newarray.typeOf ty) ∈ pm_tb) (h2 : a ≤ 100000)
    (h : pm_x me d al X k kx go pc (.newarray ty) a b c rs L st w cb sb) : pm_J me d al X k kx pc L st w cb sb := by
  cases al with
  | false => exact h.elim
  | true =>
    obtain ⟨n, t, rfl, ⟨rfl, hcb, hsb⟩, g⟩ := pm_i1_inv h
    cases ty with
    | int => exact pm_newa 0 (a, .inl (fun _ => 0)) hd h1 h2 rfl (by decide) (fun _ => rfl) (fun _ _ q => q) (fun _ => rfl) hcb hsb (hN _ _ _ _ _ (pm_snoc_inv _ _ _ _ g))
    | long => exact pm_newa 1 (a, .inr (.inl (fun _ => 0))) hd h1 h2 rfl (by decide) (fun _ => rfl) (fun _ _ q => q) (fun _ => rfl) hcb hsb (hN _ _ _ _ _ (pm_snoc_inv _ _ _ _ g))
    | boolean => exact pm_newa 2 (a, .inl (fun _ => 0)) hd h1 h2 rfl (by decide) (fun _ => rfl) (fun _ _ q => q) (fun _ => rfl) hcb hsb (hN _ _ _ _ _ (pm_snoc_inv _ _ _ _ g))
    | _ => exact g.elim
theorem pm_fit (n : Nat) : Bundle.fit (pm_en n) = true := by
  unfold pm_en
  split <;> decide +kernel
theorem px_throw {ix ic : Nat} {text : String} (hd : decode (pm_pr me).2.1 pc = .ok (.new ix, 3)) (d3 : decode (pm_pr me).2.1 (pc + 3) = .ok (.dup, 1)) (d4 : decode (pm_pr me).2.1 (pc + 4) = .ok (.ldc b, 2)) (d6 : decode (pm_pr me).2.1 (pc + 6) = .ok (.invokespecial (ic + 1), 3)) (d9 : decode (pm_pr me).2.1 (pc + 9) = .ok (.athrow, 1))
    (h1 : Cond.classLink (pm_pr me).1.cls ix (pm_en a) ∈ pm_tb) (h2 : Cond.initialized (pm_en a) ∈ pm_tb) (h3 : ∀ w ∈ vx_atS (pm_pr me).1.cls (ic + 1) (pm_en a) pm_nms, (w ∈ pm_tb ∨ w ∈ pm_nw) ∧ vx_ot w = true) (h4 : vx_ot (Cond.classLink (pm_pr me).1.cls ix (pm_en a)) = true) (h5 : vx_ot (Cond.initialized (pm_en a)) = true)
    (h6 : ((pm_pr me).1.cls, b, text) ∈ pm_ss) (h7 : (pm_pr me).2.2.2.2.1 = []) (h : pm_x me d al X k kx go pc (.new ix) a b (ic + 1) rs L st w cb sb) : pm_J me d al X k kx pc L st w cb sb := by
  have h8 : al = false ∧ pm_few st 8 = true ∧ (6 ≤ d ∧ 1 ≤ cb ∧ 6 ≤ sb) ∧ kx (pm_en a) w := by
    cases al with
    | true => exact h.elim
    | false =>
      have h0 : (match false, pm_few st 8 with
        | false, true => (6 ≤ d ∧ 1 ≤ cb ∧ 6 ≤ sb) ∧ kx (pm_en a) w
        | _, _ => False) := h
      cases hf : pm_few st 8 with
      | true => rw [hf] at h0; exact ⟨rfl, rfl, h0⟩
      | false => rw [hf] at h0; exact h0.elim
  clear h
  · obtain ⟨rfl, hfew, ⟨hd6, hcb, hsb⟩, hk⟩ := h8
    intro p l e R s m args below meth c H locs cells slots dA D ad sa A ls F hP hD hS hz hl hn hcs hs
    obtain ⟨hx, htr, hbc, hml, hr, hlo, hown, hnm, hts, hex, hK, hA, hG, hfr, hlc, hX⟩ := id F
    have hfew2 := pm_few_inv _ _ hfew
    refine vx_throwS (names := pm_nms) (sa := sa b) (A := A) hx hbc htr hown (pm_fit a) (by decide +kernel) (hts _ h1) (hts _ h2) (hG.2.1 _ h6) ?_ ?_ hG.2.2.2.1 hG.2.2.2.2 hS (hl.1.trans (hn.trans hml.symm)) hd d3 d4 d6 d9 ?_ ?_ ?_ (by omega) (by omega) hlo ?_ hS.2.2 (by omega) (by omega)
    · intro w9 hw9
      rcases (h3 w9 hw9).1 with q | q
      · exact hts _ q
      · exact va_tabs (pm_nw_ot q) rfl (hG.1 _ q)
    · intro w9 hw9
      rcases List.mem_cons.mp hw9 with q | q
      · rw [q]; exact h4
      · rcases List.mem_cons.mp q with q | q
        · rw [q]; exact h5
        · exact (h3 w9 q).2
    · rw [hex, h7]
      exact fun x hx => absurd hx List.not_mem_nil
    · show 2 + 3 < R.frames
      omega
    · rw [pm_cats]
      show _ + (13 * (2 + 1) + 43) ≤ R.locals
      omega
    · intro t hal hsz hsame
      refine ⟨⟨w, hk, hP.kept (fun k9 q9 hk9 => hsame _ ((hP k9 q9 hk9).lt)), hD, fun z => by cases X <;> cases z⟩, ?_⟩
      exact ⟨Nat.le_trans hS.1 hsz, fun q hq hA9 => (hsame q (Nat.lt_of_lt_of_le hq hS.1)).trans (hS.2.1 q hq hA9)⟩
end PMN
