/-! SOUNDNESS: fields, arrays, new cells, ends -/
def pm_ty (ci : Nat) : Nat → FieldType := match ci with
  | 0 => tyX2
  | 1 => tyX3
  | 2 => tyX4
  | 3 => tyX5
  | _ => tyX6
theorem pm_in0 : ∀ w ∈ u_ws RX2 TX2 6, w ∈ pm_tb := by decide +kernel
theorem pm_in1 : ∀ w ∈ u_ws RX3 TX3 9, w ∈ pm_tb := by decide +kernel
theorem pm_in2 : ∀ w ∈ u_ws RX4 TX4 5, w ∈ pm_tb := by decide +kernel
theorem pm_in3 : ∀ w ∈ u_ws RX5 TX5 4, w ∈ pm_tb := by decide +kernel
theorem pm_in4 : ∀ w ∈ u_ws RX6 TX6 20, w ∈ pm_tb := by decide +kernel
theorem pm_cls {ci : Nat} {C : String} {T : u_T} {N : Nat} (h : vwCl[ci]? = some (C, T, N)) : (∀ w ∈ u_ws C T N, w ∈ pm_tb) ∧ (∀ k, k < N → parseFieldDescriptor (T k).2.2.1 = some (pm_ty ci k)) ∧ (∀ a, a < N → ∀ b, b < N → a ≠ b → (T a).2.1 ≠ (T b).2.1) ∧ (∀ j, j < N → defaultValue (pm_ty ci j) = vp_V (pm_df ci) j) := by
  match ci, h with
  | 0, h => cases h; exact ⟨pm_in0, tyX2_ok, nmX2, by decide +kernel⟩
  | 1, h => cases h; exact ⟨pm_in1, tyX3_ok, nmX3, by decide +kernel⟩
  | 2, h => cases h; exact ⟨pm_in2, tyX4_ok, nmX4, by decide +kernel⟩
  | 3, h => cases h; exact ⟨pm_in3, tyX5_ok, nmX5, by decide +kernel⟩
  | 4, h => cases h; exact ⟨pm_in4, tyX6_ok, nmX6, by decide +kernel⟩
  | ci + 5, h => simp [vwCl] at h
/-! stores, and that the heap doesn't grow by them (after the kit's va_put, va_putF, va_iast, va_zast, va_last) -/
section PMZ
variable {p : Program} {l : Launch} {e : Env} {R : Room} {s : State} {m : MethodId} {args : Array Value} {below : List Frame} {meth : Method} {c : Code} {H : Heap} {locs : List Loc} {cells slots : Nat} {Q : State → Prop}
variable {cc : ByteArray} {pc : Nat} {ls : Array Slot} {rest : List Value} {D : va_G} {cl : List vw_C} {A : Nat → Prop} {a : Nat} {tys : List (ClassId × FieldType)} {ws : va_W} {H0 : Heap}
theorem pm_put (hexec : p.tables.exec = Jvm.exec) (hb : c.code = cc) {own ref C : String} {T : u_T} {N ci index : Nat} {Ts : List Cond} (hts : ∀ w ∈ Ts, w.before args s = true) (hin : ∀ w ∈ u_ws C T N, w ∈ Ts) (ty0 : Nat → FieldType) (hty : ∀ k, k < N → parseFieldDescriptor (T k).2.2.1 = some (ty0 k)) (hnm : ∀ a, a < N → ∀ b, b < N → a ≠ b → (T a).2.1 ≠ (T b).2.1) (hown : s.vm.findClass own = some m.cls) (hK : va_K D cl tys s) (hP : va_P D cl ws H) (hD : va_D A ws) (hS0 : va_S A H0 H locs) (q0 : Nat) {fs : List Value} (he : ws[q0]? = some (a, .inr (ci, fs))) (hc : cl[ci]? = some (C, T, N)) (k : Nat) (hk : k < N) (hlink : (Cond.fieldLink own index ref (T k).2.1 (T k).2.2.1).before args s = true) (hsame : ∀ x, s.fieldFound? (T k).1 (T k).2.1 (T k).2.2.1 = some x → s.fieldFound? ref (T k).2.1 (T k).2.2.1 = some x)
    (hfin : (T k).2.2.2 = false ∨ (meth.name = "<init>" ∧ (T k).1 = own)) {ty : FieldType} {v : Value} (hd : parseFieldDescriptor (T k).2.2.1 = some ty) (hn : narrow ty v = v) (hfit : fits ty v = true) (hl : k < fs.length)
    (hdg : decode cc pc = .ok (.putfield index, 3)) (kk : ∀ (H1 : Heap) (locs1 : List Loc), va_P D cl (ws.set q0 (a, .inr (ci, fs.set k v))) H1 → va_D A (ws.set q0 (a, .inr (ci, fs.set k v))) → va_S A H0 H1 locs1 → H1.size = H.size → W p l e R s m args below meth c H1 locs1 cells slots Q (F0 m (pc + 3) ls rest)) : W p l e R s m args below meth c H locs cells slots Q (F0 m pc ls (v :: .ref a :: rest)) := by
  have hap := va_apart (own := own) hts hin ty0 hty hnm hK hc
  obtain ⟨r, h1, cell, q1, q2, q3, q4⟩ := hP q0 _ he
  have hr : r = (C, T, N) := Option.some.inj (h1.symm.trans hc)
  subst hr
  obtain ⟨hS, hfc, kC, hkC, hkind⟩ := hK.1 ci _ hc
  obtain ⟨cf, kf, fi, f, hi, hsl⟩ := hS k hk
  have hlay := hts _ (hin _ (u_in_lay hk))
  have hst := (u_facts hfc hkC (u_lays hts hin hk) hi).1
  have fin : ∀ H' : Heap, H'[a]? = some (cell.setSlot f.slot v) → H'.size = H.size → (∀ q, q ≠ a → H'[q]? = H[q]?) → W p l e R s m args below meth c H' (locs ++ [⟨a, f.slot⟩]) cells slots Q (F0 m (pc + 3) ls rest) := by
    intro H' e1 e2 e3
    rw [hsl] at e1 ⊢
    exact kk H' _ (hP.set hD he ⟨_, hc, t_OB.to (V := updV (vp_V fs) k v) ⟨_, e1, q2, q3, t_set q4 hap hk v⟩ (fun j _ => vp_updV_set hl v j)⟩ e3) (hD.set he) (hS0.put e2 e3 (hD.2 q0 _ he)) e2
  unfold u_lay at hlay
  split at hlay
  · rename_i hf
    rcases hfin with hfin | ⟨hin2, hdecl⟩
    · rw [hfin] at hf; cases hf
    · have hcf : m.cls = cf := by
        obtain ⟨_, _, c', _, _, _, -, -, hf', -, -, -, hown2, -⟩ := Cond.laysFinal_spec hlay
        have e1 : c' = cf := by have := hi.symm.trans hf'; simp at this; exact this.1.symm
        rw [hdecl] at hown2
        rw [← e1]; exact Option.some.inj (hown.symm.trans hown2)
      have h6 := u_fits hfc hkC hkind (Or.inr hlay) hi hd hn hfit
      exact W.putFinK hexec hb hown hlink (hsame _ hi) hst hcf hin2 (by rw [q2]; exact h6) q1 q3 (by rw [hsl]; exact k2_hasslot (q4 k hk)) rfl rfl hdg fin
  · have h6 := u_store hfc hkC hkind hlay hi hd hn hfit
    exact W.putK hexec hb (f := f) ⟨hown, hlink, ⟨_, _, _, hsame _ hi⟩, hst⟩ (by rw [q2]; exact h6) q1 q3 (by rw [hsl]; exact k2_hasslot (q4 k hk)) rfl rfl hdg fin
theorem pm_iast (hexec : p.tables.exec = Jvm.exec) (hb : c.code = cc) (hK : va_K D cl tys s) (hP : va_P D cl ws H) (hD : va_D A ws) (hS : va_S A H0 H locs) (q0 t0 : Nat) {cA : ClassId} {n : Nat} {f : (Nat → Int32)} (ha : ws[q0]? = some (a, .inl (cA, n, .inl f))) (ht : tys[t0]? = some (cA, .int)) {i : Int32} {x : Int32} (hin : vp_in i n) (hdg : decode cc pc = .ok (.iastore, 1))
    (kk : ∀ (H1 : Heap) (locs1 : List Loc), va_P D cl (ws.set q0 (a, .inl (cA, n, .inl (upd f i.toNatClampNeg x)))) H1 → va_D A (ws.set q0 (a, .inl (cA, n, .inl (upd f i.toNatClampNeg x)))) → va_S A H0 H1 locs1 → H1.size = H.size → W p l e R s m args below meth c H1 locs1 cells slots Q (F0 m (pc + 1) ls rest)) : W p l e R s m args below meth c H locs cells slots Q (F0 m pc ls (.int x :: .int i :: .ref a :: rest)) := by
  refine W.iast hexec hb (hP q0 _ ha) ((hK.2 t0 _ ht).1 n (fun j => .int (f j))) (fun q => by cases q) (by show ¬ (i < 0 ∨ (arrV _ _ _).slots.size ≤ _); rw [arrV_size]; exact hin) rfl rfl hdg fun H1 e z oq => ?_
  refine kk H1 _ (hP.set hD ha ?_ oq) (hD.set ha) (hS.put z oq (hD.2 q0 _ ha)) z
  show H1[a]? = some (vp_cell _ _)
  rw [e]
  rw [vp_cell_i, vp_cell_i, arrV_store]
  congr 2
  funext q
  by_cases hq : q = i.toNatClampNeg
  · subst hq
    simp [updV, upd]
    try rfl
  · simp [updV, upd, hq]
theorem pm_zast (hexec : p.tables.exec = Jvm.exec) (hb : c.code = cc) (hK : va_K D cl tys s) (hP : va_P D cl ws H) (hD : va_D A ws) (hS : va_S A H0 H locs) (q0 t0 : Nat) {cA : ClassId} {n : Nat} {f : (Nat → Int32)} (ha : ws[q0]? = some (a, .inl (cA, n, .inl f))) (ht : tys[t0]? = some (cA, .boolean)) {i : Int32} {x : Int32} (hin : vp_in i n) (hdg : decode cc pc = .ok (.bastore, 1))
    (kk : ∀ (H1 : Heap) (locs1 : List Loc), va_P D cl (ws.set q0 (a, .inl (cA, n, .inl (upd f i.toNatClampNeg (x &&& 1))))) H1 → va_D A (ws.set q0 (a, .inl (cA, n, .inl (upd f i.toNatClampNeg (x &&& 1))))) → va_S A H0 H1 locs1 → H1.size = H.size → W p l e R s m args below meth c H1 locs1 cells slots Q (F0 m (pc + 1) ls rest)) : W p l e R s m args below meth c H locs cells slots Q (F0 m pc ls (.int x :: .int i :: .ref a :: rest)) := by
  refine W.zast hexec hb (hP q0 _ ha) ((hK.2 t0 _ ht).1 n (fun j => .int (f j))) (fun q => by cases q) (by show ¬ (i < 0 ∨ (arrV _ _ _).slots.size ≤ _); rw [arrV_size]; exact hin) rfl rfl hdg fun H1 e z oq => ?_
  refine kk H1 _ (hP.set hD ha ?_ oq) (hD.set ha) (hS.put z oq (hD.2 q0 _ ha)) z
  show H1[a]? = some (vp_cell _ _)
  rw [e]
  rw [vp_cell_i, vp_cell_i, arrV_store]
  congr 2
  funext q
  by_cases hq : q = i.toNatClampNeg
  · subst hq
    simp [updV, upd]
    try rfl
  · simp [updV, upd, hq]
theorem pm_last (hexec : p.tables.exec = Jvm.exec) (hb : c.code = cc) (hK : va_K D cl tys s) (hP : va_P D cl ws H) (hD : va_D A ws) (hS : va_S A H0 H locs) (q0 t0 : Nat) {cA : ClassId} {n : Nat} {f : (Nat → Int64)} (ha : ws[q0]? = some (a, .inl (cA, n, .inr (.inl f)))) (ht : tys[t0]? = some (cA, .long)) {i : Int32} {x : Int64} (hin : vp_in i n) (hdg : decode cc pc = .ok (.lastore, 1))
    (kk : ∀ (H1 : Heap) (locs1 : List Loc), va_P D cl (ws.set q0 (a, .inl (cA, n, .inr (.inl (vp_updL f i.toNatClampNeg x))))) H1 → va_D A (ws.set q0 (a, .inl (cA, n, .inr (.inl (vp_updL f i.toNatClampNeg x))))) → va_S A H0 H1 locs1 → H1.size = H.size → W p l e R s m args below meth c H1 locs1 cells slots Q (F0 m (pc + 1) ls rest)) : W p l e R s m args below meth c H locs cells slots Q (F0 m pc ls (.long x :: .int i :: .ref a :: rest)) := by
  refine W.last hexec hb (hP q0 _ ha) ((hK.2 t0 _ ht).1 n (fun j => .long (f j))) (fun q => by cases q) (by show ¬ (i < 0 ∨ (arrV _ _ _).slots.size ≤ _); rw [arrV_size]; exact hin) rfl rfl hdg fun H1 e z oq => ?_
  refine kk H1 _ (hP.set hD ha ?_ oq) (hD.set ha) (hS.put z oq (hD.2 q0 _ ha)) z
  show H1[a]? = some (vp_cell _ _)
  rw [e]
  rw [vp_cell_l, vp_cell_l, arrV_store]
  congr 2
  funext q
  by_cases hq : q = i.toNatClampNeg
  · subst hq
    simp [updV, vp_updL]
    try rfl
  · simp [updV, vp_updL, hq]
end PMZ
section PMH
variable {me d : Nat} {al : Bool} {X : Option (Nat × (Nat → Int32))} {k : pm_K} {kx : pm_X} {go : List pm_R → pm_V → List Value → pm_D → Nat → Nat → Prop} {pc a b c cb sb : Nat} {rs : List pm_R} {L : pm_V} {st : List Value} {w : pm_D}
theorem px_getfield {ix : Nat} {C : String} {T : u_T} {N : Nat} (hd : decode (pm_pr me).2.1 pc = .ok (.getfield ix, 3)) (hN : ∀ L st w cb sb, go rs L st w cb sb → pm_J me d al X k kx (pc + 3) L st w cb sb)
    (hc : vwCl[a]? = some (C, T, N)) (hb : b < N) (hC : (T b).1 = C) (hlk : Cond.fieldLink (pm_pr me).1.cls ix C (T b).2.1 (T b).2.2.1 ∈ pm_tb ∨ Cond.fieldLinkNest (pm_pr me).1.cls ix C (T b).2.1 (T b).2.2.1 "SelectiveLink" ∈ pm_nw)
    (h : pm_x me d al X k kx go pc (.getfield ix) a b c rs L st w cb sb) : pm_J me d al X k kx pc L st w cb sb := by
  obtain ⟨r, t, rfl, g1⟩ := pm_r1_inv h
  clear h
  cases r with
  | zero => exact g1.elim
  | succ q =>
    obtain ⟨e, he, g2⟩ := pm_get_inv _ _ _ g1
    clear g1
    cases e with
    | inl x => exact g2.elim
    | inr x =>
      obtain ⟨ci, fs⟩ := x
      cases hq : Nat.beq ci a with
      | false => simp only [hq] at g2
      | true =>
        simp only [hq] at g2
        have hq := Nat.eq_of_beq_eq_true hq
        subst hq
        obtain ⟨v, hv, g3⟩ := pm_get_inv _ _ _ g2
        intro p l e R s m args below meth c H locs cells slots dA D ad sa A ls F hP hD hS hz hl hn hcs hs
        obtain ⟨hx, htr, hbc, hml, hr, hlo, hown, hnm, hts, hex, hK, hA, hG, hfr, hlc, hX⟩ := id F
        have he2 := pm_pic_get (dA := dA) (ad := ad) he
        have hv2 : (fs.map (pm_v ad))[b]? = some (pm_v ad v) := by rw [List.getElem?_map, hv]; rfl
        have hkk := hN _ _ _ _ _ g3 p l e R s m args below meth c H locs cells slots dA D ad sa A ls F hP hD hS hz hl hn hcs hs
        rcases hlk with hlk | hlk
        · exact va_get hx hbc hts (pm_cls hc).1 hown hK hP q he2 hc b hb (hts _ hlk) (fun x hx => by rw [hC] at hx; exact hx) hv2 hd hkk
        · exact va_getN hx hbc hts (pm_cls hc).1 hown hK hP q he2 hc b hb (va_Nw.use rfl (hG.1 _ hlk)) (fun x hx => by rw [hC] at hx; exact hx) hv2 hd hkk
theorem pm_fv_inv {v : Value} {P : Prop} {ty : FieldType} (hk : (match c, some ty with
        | 0, some .int => true
        | 1, some .long => true
        | 2, some (.object _) => true
        | 2, some (.array _) => true
        | _, _ => false) = true) (ad : Nat → Nat) (h : pm_fv c v P) : P ∧ narrow ty (pm_v ad v) = pm_v ad v ∧ fits ty (pm_v ad v) = true := by
  unfold pm_fv at h
  split at h
  · cases ty <;> first | exact ⟨h, rfl, rfl⟩ | (simp at hk)
  · cases ty <;> first | exact ⟨h, rfl, rfl⟩ | (simp at hk)
  · cases ty <;> first | exact ⟨h, rfl, rfl⟩ | (simp at hk)
  · cases ty <;> first | exact ⟨h, rfl, rfl⟩ | (simp at hk)
  · exact h.elim
theorem px_putfield {ix : Nat} {C : String} {T : u_T} {N : Nat} {ty : FieldType} (hd : decode (pm_pr me).2.1 pc = .ok (.putfield ix, 3)) (hN : ∀ L st w cb sb, go rs L st w cb sb → pm_J me d al X k kx (pc + 3) L st w cb sb)
    (hc : vwCl[a]? = some (C, T, N)) (hb : b < N) (hC : (T b).1 = C) (hlk : Cond.fieldLink (pm_pr me).1.cls ix C (T b).2.1 (T b).2.2.1 ∈ pm_tb)
    (hfin : (T b).2.2.2 = false ∨ ((pm_pr me).1.name = "<init>" ∧ C = (pm_pr me).1.cls)) (hty : parseFieldDescriptor (T b).2.2.1 = some ty)
    (hk : (match c, some ty with
        | 0, some .int => true
        | 1, some .long => true
        | 2, some (.object _) => true
        | 2, some (.array _) => true
        | _, _ => false) = true)
    (h : pm_x me d al X k kx go pc (.putfield ix) a b c rs L st w cb sb) : pm_J me d al X k kx pc L st w cb sb := by
  dsimp only [pm_x] at h
  split at h
  · rename_i v q t
    obtain ⟨e, he, g2⟩ := pm_get_inv _ _ _ h
    clear h
    cases e with
    | inl x => exact g2.elim
    | inr x =>
      obtain ⟨ci, fs⟩ := x
      cases hq : Nat.beq ci a with
      | false => simp only [hq] at g2
      | true =>
        simp only [hq] at g2
        have hq := Nat.eq_of_beq_eq_true hq
        subst hq
        intro p l e R s m args below meth c H locs cells slots dA D ad sa A ls F hP hD hS hz hl hn hcs hs
        obtain ⟨g3, hn1, hf1⟩ := pm_fv_inv hk ad g2
        obtain ⟨hb2, g4⟩ := pm_set_inv _ _ _ _ g3
        obtain ⟨hq2, g5⟩ := pm_set_inv _ _ _ _ g4
        obtain ⟨hx, htr, hbc, hml, hr, hlo, hown, hnm, hts, hex, hK, hA, hG, hfr, hlc, hX⟩ := id F
        have he2 := pm_pic_get (dA := dA) (ad := ad) he
        have hbl : b < (fs.map (pm_v ad)).length := by rw [List.length_map]; exact hb2
        have eq1 : pm_pic dA ad (w.set q (.inr (ci, fs.set b v))) = (pm_pic dA ad w).set q (ad (q + 1), .inr (ci, (fs.map (pm_v ad)).set b (pm_v ad v))) := by
          rw [pm_pic_set, ← List.map_set]
          rfl
        have kk : ∀ (H1 : Heap) (locs1 : List Loc), va_P D vwCl ((pm_pic dA ad w).set q (ad (q + 1), .inr (ci, (fs.map (pm_v ad)).set b (pm_v ad v)))) H1 → va_D A ((pm_pic dA ad w).set q (ad (q + 1), .inr (ci, (fs.map (pm_v ad)).set b (pm_v ad v)))) → va_S A s.heap H1 locs1 → H1.size = H.size →
            W p l e R s m args below meth c H1 locs1 cells slots (vx_MQ below (pm_Qc dA D ad A (pm_qa al X) k) (pm_XC dA D ad A (pm_qa al X) kx) args s R.cells R.slots A) (F0 m (pc + 3) ls (t.map (pm_v ad))) := by
          intro H1 locs1 hP1 hD1 hS1 hz1
          rw [← eq1] at hP1 hD1
          exact hN _ _ _ _ _ g5 p l e R s m args below meth c H1 locs1 cells slots dA D ad sa A ls F hP1 hD1 hS1 (fun hal => by rw [hz1, List.length_set]; exact hz hal) hl hn hcs hs
        exact pm_put hx hbc hts (pm_cls hc).1 (pm_ty ci) (pm_cls hc).2.1 (pm_cls hc).2.2.1 hown hK hP hD hS q he2 hc b hb (hts _ hlk) (fun x hx => by rw [hC] at hx; exact hx) (hfin.imp id (fun z => ⟨hnm.trans z.1, hC.trans z.2⟩)) hty hn1 hf1 hbl hd kk
  · exact h.elim
theorem px_iaload (hd : decode (pm_pr me).2.1 pc = .ok (.iaload, 1)) (hN : ∀ L st w cb sb, go rs L st w cb sb → pm_J me d al X k kx (pc + 1) L st w cb sb) (h : pm_x me d al X k kx go pc (.iaload) a b c rs L st w cb sb) : pm_J me d al X k kx pc L st w cb sb := by
  obtain ⟨j, t1, rfl, g0⟩ := pm_i1_inv h
  clear h
  obtain ⟨r, t, rfl, h⟩ := pm_r1_inv g0
  clear g0
  cases r with
  | zero =>
    dsimp only at h
    split at h
    · rename_i N xs
      intro p l e R s m args below meth c H locs cells slots dA D ad sa A ls F hP hD hS hz hl hn hcs hs
      obtain ⟨hx, htr, hbc, hml, hr, hlo, hown, hnm, hts, hex, hK, hA, hG, hfr, hlc, hX⟩ := id F
      obtain ⟨g1, g2, g3⟩ := hX N xs rfl
      exact va_sld hx hbc g1 g2 g3 hS h.1 hd (hN _ _ _ _ _ h.2 p l e R s m args below meth c H locs cells slots dA D ad sa A ls F hP hD hS hz hl hn hcs hs)
    · exact h.elim
  | succ q =>
    obtain ⟨e, he, g2⟩ := pm_get_inv _ _ _ h
    clear h
    have h := g2
    clear g2
    split at h
    · intro p l e R s m args below meth c H locs cells slots dA D ad sa A ls F hP hD hS hz hl hn hcs hs
      obtain ⟨hx, htr, hbc, hml, hr, hlo, hown, hnm, hts, hex, hK, hA, hG, hfr, hlc, hX⟩ := id F
      exact va_iald hx hbc hK hP q 0 (pm_pic_get (dA := dA) (ad := ad) he) rfl h.1 hd (hN _ _ _ _ _ h.2 p l e R s m args below meth c H locs cells slots dA D ad sa A ls F hP hD hS hz hl hn hcs hs)
    · exact h.elim
theorem px_baload (hd : decode (pm_pr me).2.1 pc = .ok (.baload, 1)) (hN : ∀ L st w cb sb, go rs L st w cb sb → pm_J me d al X k kx (pc + 1) L st w cb sb) (h : pm_x me d al X k kx go pc (.baload) a b c rs L st w cb sb) : pm_J me d al X k kx pc L st w cb sb := by
  obtain ⟨j, t1, rfl, g0⟩ := pm_i1_inv h
  clear h
  obtain ⟨r, t, rfl, h⟩ := pm_r1_inv g0
  clear g0
  cases r with
  | zero => exact h.elim
  | succ q =>
    obtain ⟨e, he, g2⟩ := pm_get_inv _ _ _ h
    clear h
    have h := g2
    clear g2
    split at h
    · intro p l e R s m args below meth c H locs cells slots dA D ad sa A ls F hP hD hS hz hl hn hcs hs
      obtain ⟨hx, htr, hbc, hml, hr, hlo, hown, hnm, hts, hex, hK, hA, hG, hfr, hlc, hX⟩ := id F
      exact va_zald hx hbc hK hP q 2 (pm_pic_get (dA := dA) (ad := ad) he) rfl h.1 hd (hN _ _ _ _ _ h.2 p l e R s m args below meth c H locs cells slots dA D ad sa A ls F hP hD hS hz hl hn hcs hs)
    · exact h.elim
theorem px_laload (hd : decode (pm_pr me).2.1 pc = .ok (.laload, 1)) (hN : ∀ L st w cb sb, go rs L st w cb sb → pm_J me d al X k kx (pc + 1) L st w cb sb) (h : pm_x me d al X k kx go pc (.laload) a b c rs L st w cb sb) : pm_J me d al X k kx pc L st w cb sb := by
  obtain ⟨j, t1, rfl, g0⟩ := pm_i1_inv h
  clear h
  obtain ⟨r, t, rfl, h⟩ := pm_r1_inv g0
  clear g0
  cases r with
  | zero => exact h.elim
  | succ q =>
    obtain ⟨e, he, g2⟩ := pm_get_inv _ _ _ h
    clear h
    have h := g2
    clear g2
    split at h
    · intro p l e R s m args below meth c H locs cells slots dA D ad sa A ls F hP hD hS hz hl hn hcs hs
      obtain ⟨hx, htr, hbc, hml, hr, hlo, hown, hnm, hts, hex, hK, hA, hG, hfr, hlc, hX⟩ := id F
      exact va_lald hx hbc hK hP q 1 (pm_pic_get (dA := dA) (ad := ad) he) rfl h.1 hd (hN _ _ _ _ _ h.2 p l e R s m args below meth c H locs cells slots dA D ad sa A ls F hP hD hS hz hl hn hcs hs)
    · exact h.elim
theorem px_iastore (hd : decode (pm_pr me).2.1 pc = .ok (.iastore, 1)) (hN : ∀ L st w cb sb, go rs L st w cb sb → pm_J me d al X k kx (pc + 1) L st w cb sb) (h : pm_x me d al X k kx go pc (.iastore) a b c rs L st w cb sb) : pm_J me d al X k kx pc L st w cb sb := by
  obtain ⟨j, x, t1, rfl, g0⟩ := pm_i2_inv h
  clear h
  obtain ⟨r, t, rfl, h⟩ := pm_r1_inv g0
  clear g0
  cases r with
  | zero => exact h.elim
  | succ q =>
    obtain ⟨e, he, g2⟩ := pm_get_inv _ _ _ h
    clear h
    have h := g2
    clear g2
    split at h
    · obtain ⟨hin, g3⟩ := h
      obtain ⟨hq2, h⟩ := pm_set_inv _ _ _ _ g3
      intro p l e R s m args below meth c H locs cells slots dA D ad sa A ls F hP hD hS hz hl hn hcs hs
      obtain ⟨hx, htr, hbc, hml, hr, hlo, hown, hnm, hts, hex, hK, hA, hG, hfr, hlc, hX⟩ := id F
      refine pm_iast hx hbc hK hP hD hS q 0 (pm_pic_get (dA := dA) (ad := ad) he) rfl hin hd (fun H1 locs1 hP1 hD1 hS1 hz1 => ?_)
      exact hN _ _ _ _ _ h p l e R s m args below meth c H1 locs1 cells slots dA D ad sa A ls F (by rw [pm_pic_set]; exact hP1) (by rw [pm_pic_set]; exact hD1) hS1 (fun hal => by rw [hz1, List.length_set]; exact hz hal) hl hn hcs hs
    · exact h.elim
theorem px_bastore (hd : decode (pm_pr me).2.1 pc = .ok (.bastore, 1)) (hN : ∀ L st w cb sb, go rs L st w cb sb → pm_J me d al X k kx (pc + 1) L st w cb sb) (h : pm_x me d al X k kx go pc (.bastore) a b c rs L st w cb sb) : pm_J me d al X k kx pc L st w cb sb := by
  obtain ⟨j, x, t1, rfl, g0⟩ := pm_i2_inv h
  clear h
  obtain ⟨r, t, rfl, h⟩ := pm_r1_inv g0
  clear g0
  cases r with
  | zero => exact h.elim
  | succ q =>
    obtain ⟨e, he, g2⟩ := pm_get_inv _ _ _ h
    clear h
    have h := g2
    clear g2
    split at h
    · obtain ⟨hin, g3⟩ := h
      obtain ⟨hq2, h⟩ := pm_set_inv _ _ _ _ g3
      intro p l e R s m args below meth c H locs cells slots dA D ad sa A ls F hP hD hS hz hl hn hcs hs
      obtain ⟨hx, htr, hbc, hml, hr, hlo, hown, hnm, hts, hex, hK, hA, hG, hfr, hlc, hX⟩ := id F
      refine pm_zast hx hbc hK hP hD hS q 2 (pm_pic_get (dA := dA) (ad := ad) he) rfl hin hd (fun H1 locs1 hP1 hD1 hS1 hz1 => ?_)
      exact hN _ _ _ _ _ h p l e R s m args below meth c H1 locs1 cells slots dA D ad sa A ls F (by rw [pm_pic_set]; exact hP1) (by rw [pm_pic_set]; exact hD1) hS1 (fun hal => by rw [hz1, List.length_set]; exact hz hal) hl hn hcs hs
    · exact h.elim
theorem px_lastore (hd : decode (pm_pr me).2.1 pc = .ok (.lastore, 1)) (hN : ∀ L st w cb sb, go rs L st w cb sb → pm_J me d al X k kx (pc + 1) L st w cb sb) (h : pm_x me d al X k kx go pc (.lastore) a b c rs L st w cb sb) : pm_J me d al X k kx pc L st w cb sb := by
  obtain ⟨x, t, rfl, h⟩ := pm_l1_inv h
  obtain ⟨j, t1, rfl, g0⟩ := pm_i1_inv h
  clear h
  obtain ⟨r, t, rfl, h⟩ := pm_r1_inv g0
  clear g0
  cases r with
  | zero => exact h.elim
  | succ q =>
    obtain ⟨e, he, g2⟩ := pm_get_inv _ _ _ h
    clear h
    have h := g2
    clear g2
    split at h
    · obtain ⟨hin, g3⟩ := h
      obtain ⟨hq2, h⟩ := pm_set_inv _ _ _ _ g3
      intro p l e R s m args below meth c H locs cells slots dA D ad sa A ls F hP hD hS hz hl hn hcs hs
      obtain ⟨hx, htr, hbc, hml, hr, hlo, hown, hnm, hts, hex, hK, hA, hG, hfr, hlc, hX⟩ := id F
      refine pm_last hx hbc hK hP hD hS q 1 (pm_pic_get (dA := dA) (ad := ad) he) rfl hin hd (fun H1 locs1 hP1 hD1 hS1 hz1 => ?_)
      exact hN _ _ _ _ _ h p l e R s m args below meth c H1 locs1 cells slots dA D ad sa A ls F (by rw [pm_pic_set]; exact hP1) (by rw [pm_pic_set]; exact hD1) hS1 (fun hal => by rw [hz1, List.length_set]; exact hz hal) hl hn hcs hs
    · exact h.elim
theorem px_arraylength (hd : decode (pm_pr me).2.1 pc = .ok (.arraylength, 1)) (hN : ∀ L st w cb sb, go rs L st w cb sb → pm_J me d al X k kx (pc + 1) L st w cb sb) (h : pm_x me d al X k kx go pc .arraylength a b c rs L st w cb sb) : pm_J me d al X k kx pc L st w cb sb := by
  obtain ⟨r, t, rfl, g0⟩ := pm_r1_inv h
  clear h
  have h := g0
  clear g0
  cases r with
  | zero =>
    dsimp only at h
    split at h
    · rename_i N xs
      intro p l e R s m args below meth c H locs cells slots dA D ad sa A ls F hP hD hS hz hl hn hcs hs
      obtain ⟨hx, htr, hbc, hml, hr, hlo, hown, hnm, hts, hex, hK, hA, hG, hfr, hlc, hX⟩ := id F
      obtain ⟨g1, g2, g3⟩ := hX N xs rfl
      exact va_slen hx hbc g1 g2 g3 hS hd (hN _ _ _ _ _ h p l e R s m args below meth c H locs cells slots dA D ad sa A ls F hP hD hS hz hl hn hcs hs)
    · exact h.elim
  | succ q => exact h.elim
/-! ends -/
theorem px_ireturn (hd : decode (pm_pr me).2.1 pc = .ok (.ireturn, 1)) (h : pm_x me d al X k kx go pc .ireturn a b c rs L st w cb sb) : pm_J me d al X k kx pc L st w cb sb := by
  dsimp only [pm_x] at h
  split at h
  · rename_i x
    split at h
    · rename_i hret
      intro p l e R s m args below meth c H locs cells slots dA D ad sa A ls F hP hD hS hz hl hn hcs hs
      obtain ⟨hx, htr, hbc, hml, hr, hlo, hown, hnm, hts, hex, hK, hA, hG, hfr, hlc, hX⟩ := id F
      exact vx_ret (W.widen (k := R.cells) (n := R.slots) (by omega) (by omega) (W.iret (v := x) hx hbc (hr.trans hret) (fun t ht hW => ⟨⟨some (.int x), w, rfl, h, by rw [ht]; exact hP, hD, by rw [ht]; exact hz.q⟩, hS.F ht⟩) hS.2.2 hd hlo))
    · rename_i hret
      obtain ⟨h0, h⟩ := h
      intro p l e R s m args below meth c H locs cells slots dA D ad sa A ls F hP hD hS hz hl hn hcs hs
      obtain ⟨hx, htr, hbc, hml, hr, hlo, hown, hnm, hts, hex, hK, hA, hG, hfr, hlc, hX⟩ := id F
      exact vx_ret (W.widen (k := R.cells) (n := R.slots) (by omega) (by omega) (W.zret (v := x) (ty := .boolean) hx hbc (hr.trans hret) (by show Value.int (x &&& 1) = _; rw [h0]) (fun t ht hW => ⟨⟨some (.int x), w, rfl, h, by rw [ht]; exact hP, hD, by rw [ht]; exact hz.q⟩, hS.F ht⟩) hS.2.2 hd hlo))
    · exact h.elim
  · exact h.elim
theorem px_lreturn (hd : decode (pm_pr me).2.1 pc = .ok (.lreturn, 1)) (h : pm_x me d al X k kx go pc .lreturn a b c rs L st w cb sb) : pm_J me d al X k kx pc L st w cb sb := by
  dsimp only [pm_x] at h
  split at h
  · rename_i x
    split at h
    · rename_i hret
      intro p l e R s m args below meth c H locs cells slots dA D ad sa A ls F hP hD hS hz hl hn hcs hs
      obtain ⟨hx, htr, hbc, hml, hr, hlo, hown, hnm, hts, hex, hK, hA, hG, hfr, hlc, hX⟩ := id F
      exact vx_ret (W.widen (k := R.cells) (n := R.slots) (by omega) (by omega) (W.lret (v := x) hx hbc (hr.trans hret) (fun t ht hW => ⟨⟨some (.long x), w, rfl, h, by rw [ht]; exact hP, hD, by rw [ht]; exact hz.q⟩, hS.F ht⟩) hS.2.2 hd hlo))
    · exact h.elim
  · exact h.elim
theorem px_areturn (hd : decode (pm_pr me).2.1 pc = .ok (.areturn, 1)) (h : pm_x me d al X k kx go pc .areturn a b c rs L st w cb sb) : pm_J me d al X k kx pc L st w cb sb := by
  dsimp only [pm_x] at h
  split at h
  · rename_i x
    split at h
    · rename_i hret
      intro p l e R s m args below meth c H locs cells slots dA D ad sa A ls F hP hD hS hz hl hn hcs hs
      obtain ⟨hx, htr, hbc, hml, hr, hlo, hown, hnm, hts, hex, hK, hA, hG, hfr, hlc, hX⟩ := id F
      exact vx_ret (W.widen (k := R.cells) (n := R.slots) (by omega) (by omega) (W.aret (v := .ref (ad x)) hx hbc (hr.trans hret) (Or.inl ⟨_, rfl⟩) (Or.inr ⟨_, rfl⟩) (fun t ht hW => ⟨⟨some (.ref x), w, rfl, h, by rw [ht]; exact hP, hD, by rw [ht]; exact hz.q⟩, hS.F ht⟩) hS.2.2 hd hlo))
    · exact h.elim
  · exact h.elim
theorem px_return (hd : decode (pm_pr me).2.1 pc = .ok (.return_, 1)) (h : pm_x me d al X k kx go pc .return_ a b c rs L st w cb sb) : pm_J me d al X k kx pc L st w cb sb := by
  dsimp only [pm_x] at h
  split at h
  · split at h
    · rename_i hret
      intro p l e R s m args below meth c H locs cells slots dA D ad sa A ls F hP hD hS hz hl hn hcs hs
      obtain ⟨hx, htr, hbc, hml, hr, hlo, hown, hnm, hts, hex, hK, hA, hG, hfr, hlc, hX⟩ := id F
      exact vx_ret (W.widen (k := R.cells) (n := R.slots) (by omega) (by omega) (W.vret hx hbc (hr.trans hret) (fun t ht hW => ⟨⟨none, w, rfl, h, by rw [ht]; exact hP, hD, by rw [ht]; exact hz.q⟩, hS.F ht⟩) hS.2.2 hd hlo))
    · exact h.elim
  · exact h.elim
end PMH
