/-! SOUNDNESS: behind a call -/
theorem pm_castIA : Cond.castable pm_IA pm_IA ∈ pm_nw := by decide +kernel
theorem pm_castIO : Cond.castable pm_IO pm_IO ∈ pm_nw := by decide +kernel
theorem pm_castct (t : Nat) : Cond.castable (pm_ct t) (pm_ct t) ∈ pm_nw := by
  unfold pm_ct
  split
  · exact pm_castIA
  · exact pm_castIO
def pm_hck (M : pm_M) : Bool := M.2.2.2.2.1.all (fun q => decide (Cond.classLink M.1.cls q.2.2.2 (pm_ct q.2.2.2) ∈ pm_tb) && decide (q.2.2.2 ≠ 0))
set_option maxRecDepth 100000 in
theorem pm_hcks : pm_prs.all pm_hck = true := by decide +kernel
theorem pm_hok (me : Nat) : ∀ q ∈ (pm_pr me).2.2.2.2.1, Cond.classLink (pm_pr me).1.cls q.2.2.2 (pm_ct q.2.2.2) ∈ pm_tb ∧ q.2.2.2 ≠ 0 := by
  have h : pm_hck (pm_pr me) = true := by
    rcases pm_at_or pmL_law pm_prs me with h | h
    · exact List.all_eq_true.mp pm_hcks _ h
    · have h2 : pm_pr me = pmL_law := h
      rw [h2]
      exact List.all_eq_true.mp pm_hcks _ (by unfold pm_prs; simp only [List.mem_cons, true_or, or_true])
  intro q hq
  have h3 := List.all_eq_true.mp h q hq
  rw [Bool.and_eq_true, decide_eq_true_eq, decide_eq_true_eq] at h3
  exact h3
section PMB
variable {me d : Nat} {al : Bool} {X : Option (Nat × (Nat → Int32))} {k : pm_K} {kx : pm_X} {go : List pm_R → pm_V → List Value → pm_D → Nat → Nat → Prop} {pc a b cb sb : Nat} {rs : List pm_R} {L : pm_V} {w : pm_D}
variable {p : Program} {l : Launch} {e : Env} {R : Room} {s : State} {m : MethodId} {args : Array Value} {below : List Frame} {meth : Method} {c : Code} {H : Heap} {locs : List Loc} {cells slots : Nat} {dA : Nat → ClassId} {D : va_G} {ad sa : Nat → Nat} {A : Nat → Prop} {ls : Array Slot}
theorem pm_chW {Q : State → Prop} {E : String} {ce : Cell} {q : Addr} {rest : List Value} {gg : Nat → Prop} (F : pm_Fr me d X p l R s m args meth c dA D ad sa A) (hcell : H[q]? = some ce) (hv : ce.vm = .none) (hcl : s.vm.findClass E = some ce.cls)
    (hgo : ∀ hp, gg hp → W p l e R s m args below meth c H locs cells slots Q (F0 m hp ls [.ref q])) :
    ∀ (h2 h1 : List (Nat × Nat × Nat × Nat)), (pm_pr me).2.2.2.2.1 = h1 ++ h2 → (∀ z ∈ tableOf h1, covers z pc = false ∨ (z.catchType ≠ 0 ∧ ∃ nm : String, (Cond.classLink (pm_pr me).1.cls z.catchType nm).before args s = true ∧ va_Nc E nm s)) → pm_ch E pc gg h2 →
      vx_W p l e R s m args below meth c H locs cells slots Q (F0 m pc ls rest) q := by
  obtain ⟨hx, htr, hbc, hml, hr, hlo, hown, hnm, hts, hex, hK, hA, hG, hfr, hlc, hX⟩ := id F
  intro h2
  induction h2 with
  | nil => intro h1 _ _ h; exact h.elim
  | cons x t ih =>
    intro h1 hh hpass h
    obtain ⟨x1, x2, x3, x4⟩ := x
    have hmem : (x1, x2, x3, x4) ∈ (pm_pr me).2.2.2.2.1 := by rw [hh]; exact List.mem_append_right _ List.mem_cons_self
    obtain ⟨g1, g2⟩ := pm_hok me _ hmem
    unfold pm_ch at h
    cases hcov : (Nat.ble x1 pc && Nat.blt pc x2) with
    | false =>
      rw [hcov] at h
      refine ih (h1 ++ [(x1, x2, x3, x4)]) (by rw [hh, List.append_assoc]; rfl) ?_ h
      intro z hz
      unfold tableOf at hz
      rw [List.map_append] at hz
      rcases List.mem_append.mp hz with hz | hz
      · exact hpass z hz
      · rw [List.map_singleton, List.mem_singleton] at hz
        refine Or.inl ?_
        rw [hz]
        simp only [covers]
        simp only [Nat.blt, Bool.and_eq_false_iff] at hcov
        rcases hcov with hc | hc
        · have : ¬ x1 ≤ pc := fun z => by rw [Nat.ble_eq_true_of_le z] at hc; cases hc
          simp; omega
        · have : ¬ pc + 1 ≤ x2 := fun z => by rw [Nat.ble_eq_true_of_le z] at hc; cases hc
          simp; omega
    | true =>
      rw [hcov] at h
      obtain ⟨ha, hb⟩ := h
      have hcov2 : covers (⟨x1, x2, x3, x4⟩ : ExceptionTableEntry) pc = true := by
        simp only [Nat.blt, Bool.and_eq_true] at hcov
        have z1 := Nat.le_of_ble_eq_true hcov.1
        have z2 := Nat.le_of_ble_eq_true hcov.2
        simp only [covers]
        simp; omega
      by_cases hE : E = pm_ct x4
      · refine pm_catch (own := (pm_pr me).1.cls) (name := pm_ct x4) (E := E) hown (tableOf h1) ⟨x1, x2, x3, x4⟩ (tableOf t) ?_ hpass hcov2 g2 (hts _ g1) ?_ hcell hv hcl (hgo _ (ha hE))
        · rw [hex, hh]
          unfold tableOf
          rw [List.map_append]
          rfl
        · rw [hE]
          exact va_Nw.use rfl (hG.1 _ (pm_castct x4))
      · obtain ⟨⟨e1, e2⟩, hb⟩ := hb hE
        refine ih (h1 ++ [(x1, x2, x3, x4)]) (by rw [hh, List.append_assoc]; rfl) ?_ hb
        intro z hz
        unfold tableOf at hz
        rw [List.map_append] at hz
        rcases List.mem_append.mp hz with hz | hz
        · exact hpass z hz
        · rw [List.map_singleton, List.mem_singleton] at hz
          refine Or.inr ?_
          rw [hz]
          exact ⟨g2, pm_ct x4, hts _ g1, by rw [e1, e2]; exact hG.2.2.1⟩
/-- a handler begins: the exception is put away -/
theorem pm_hnW {cb2 sb2 : Nat} {w2 : pm_D} {q : Addr} {hp : Nat} (hJ : ∀ rs L st w cb sb, (∃ pre, (pm_pr me).2.2.2.2.2 = pre ++ rs) → go rs L st w cb sb → ∃ r t, rs = r :: t ∧ pm_J me d al X k kx r.1 L st w cb sb)
    (hrow : ∀ pre r t, (pm_pr me).2.2.2.2.2 = pre ++ r :: t → ∃ nx, pm_ck (pm_pr me) r nx = true ∧ ∀ q u, t = q :: u → q.1 = nx)
    (F : pm_Fr me d X p l R s m args meth c dA D ad sa A) (hP : va_P D vwCl (pm_pic dA ad w2) H) (hD : va_D A (pm_pic dA ad w2)) (hS : va_S A s.heap H locs) (hz : pm_Al al ad w2 H.size) (hl : lv_has ls L.length (pm_as ad 0 L)) (hn : L.length = (pm_pr me).2.2.1) (hcs : cells + cb2 ≤ R.cells) (hs : slots + sb2 ≤ R.slots)
    (h : pm_hn (pm_from (pm_pr me).2.2.2.2.2 hp) L (fun rs L => go rs L [] w2 cb2 sb2)) :
    W p l e R s m args below meth c H locs cells slots (vx_MQ below (pm_Qc dA D ad A (pm_qa al X) k) (pm_XC dA D ad A (pm_qa al X) kx) args s R.cells R.slots A) (F0 m hp ls [.ref q]) := by
  unfold pm_hn at h
  split at h
  · rename_i pc9 j h9 a9 b9 c9 rs9 hfrom
    obtain ⟨e1, pre, e2⟩ := pm_from_inv _ _ _ _ hfrom
    have e1 : pc9 = hp := e1
    subst e1
    obtain ⟨M, g1, hi, hM, h4⟩ := pm_st1_inv _ _ _ _ h
    obtain ⟨r, t, ht, hj⟩ := hJ _ _ _ _ _ _ ⟨pre ++ [_], by rw [e2, List.append_assoc]; rfl⟩ g1
    obtain ⟨nx, hck, hnx⟩ := hrow _ _ _ e2
    have hnx2 := hnx _ _ ht
    simp only [pm_ck, pm_len, pm_end, Bool.and_eq_true, decide_eq_true_eq, Bool.false_or] at hck
    have hd := of_decide_eq_true hck.1.1
    have hq9 : r.1 = pc9 + 1 := hnx2.trans (Nat.eq_of_beq_eq_true hck.1.2)
    rw [hq9] at hj
    refine lv_astore_n (x := q) (nL := L.length) F.1 F.2.2.1 hd rfl hl hi rfl (fun ls2 hl2 => ?_)
    exact hj p l e R s m args below meth c H locs cells slots dA D ad sa A ls2 F hP hD hS hz (pm_lst1 (o := none) hM (fun u hu => by cases hu) h4 hl2) (hM.trans hn) hcs hs
  · rename_i pc9 j h9 a9 b9 c9 rs9 hfrom
    obtain ⟨e1, pre, e2⟩ := pm_from_inv _ _ _ _ hfrom
    have e1 : pc9 = hp := e1
    subst e1
    obtain ⟨M, g1, hi, hM, h4⟩ := pm_st1_inv _ _ _ _ h
    obtain ⟨r, t, ht, hj⟩ := hJ _ _ _ _ _ _ ⟨pre ++ [_], by rw [e2, List.append_assoc]; rfl⟩ g1
    obtain ⟨nx, hck, hnx⟩ := hrow _ _ _ e2
    have hnx2 := hnx _ _ ht
    simp only [pm_ck, pm_len, pm_end, Bool.and_eq_true, decide_eq_true_eq, Bool.false_or] at hck
    have hd := of_decide_eq_true hck.1.1
    have hq9 : r.1 = pc9 + 2 := hnx2.trans (Nat.eq_of_beq_eq_true hck.1.2)
    rw [hq9] at hj
    refine lv_astore (x := q) (nL := L.length) F.1 F.2.2.1 hd hl hi rfl (fun ls2 hl2 => ?_)
    exact hj p l e R s m args below meth c H locs cells slots dA D ad sa A ls2 F hP hD hS hz (pm_lst1 (o := none) hM (fun u hu => by cases hu) h4 hl2) (hM.trans hn) hcs hs
  · exact h.elim
/-- behind a call -/
theorem pm_after {a9 : Array Value} {st0 : List Value} {mc ms : Nat} {t : List Value} {kk : pm_K} {kkx : pm_X} (hJ : ∀ rs L st w cb sb, (∃ pre, (pm_pr me).2.2.2.2.2 = pre ++ rs) → go rs L st w cb sb → ∃ r t, rs = r :: t ∧ pm_J me d al X k kx r.1 L st w cb sb)
    (hrow : ∀ pre r t, (pm_pr me).2.2.2.2.2 = pre ++ r :: t → ∃ nx, pm_ck (pm_pr me) r nx = true ∧ ∀ q u, t = q :: u → q.1 = nx)
    (F : pm_Fr me d X p l R s m args meth c dA D ad sa A) (hP : va_P D vwCl (pm_pic dA ad w) H) (hD : va_D A (pm_pic dA ad w)) (hS : va_S A s.heap H locs) (hl : lv_has ls L.length (pm_as ad 0 L)) (hn : L.length = (pm_pr me).2.2.1) (hcs : cells + cb ≤ R.cells) (hs : slots + sb ≤ R.slots) (hmc : mc ≤ cb) (hms : ms ≤ sb)
    (hr : vx_Run p l e R s m args below meth c H locs cells slots mc ms (F0 m pc ls st0) (t.map (pm_v ad)) (pm_Qc dA D ad (va_A (pm_pic dA ad w) H.size) al kk a9) (pm_XC dA D ad (va_A (pm_pic dA ad w) H.size) al kkx) (va_A (pm_pic dA ad w) H.size))
    (hk : ∀ v w2, kk v w2 → pm_ps v t (fun t => pm_J me d al X k kx (pc + 3) L t w2 (cb - mc) (sb - ms)))
    (hkx : ∀ E w2, kkx E w2 → (match (pm_pr me).2.2.2.2.1 with
          | [] => kx E w2
          | hh => pm_ch E pc (fun h => pm_hn (pm_from (pm_pr me).2.2.2.2.2 h) L (fun rs L => go rs L [] w2 (cb - mc) (sb - ms))) hh)) :
    W p l e R s m args below meth c H locs cells slots (vx_MQ below (pm_Qc dA D ad A (pm_qa al X) k) (pm_XC dA D ad A (pm_qa al X) kx) args s R.cells R.slots A) (F0 m pc ls st0) := by
  have hA1 : ∀ q, va_A (pm_pic dA ad w) H.size q → A q := by
    intro q h
    rcases h with ⟨j, e9, h⟩ | h
    · exact hD.2 j (q, e9) h
    · exact F.2.2.2.2.2.2.2.2.2.2.2.1 q (Nat.le_trans hS.1 h)
  intro T hT X0
  rcases hr T hT X0 with ⟨v, st₀, t9, T', L9, h0, X', hL, e1, e2, ⟨⟨v2, w2, hv, hkv, hP2, hD2, hz2⟩, hF⟩, st⟩ | ⟨q, st₀, t9, T', L9, E, ce, h0, X', hL, e1, e2, ⟨⟨w2, hkv, hP2, hD2, hz2⟩, hF⟩, hce, hcv, hcl, st⟩
  · obtain ⟨k1, k2, k3⟩ := vx_keep h0 e1 hS (fun q _ h => hA1 q h) hA1 hL hF
    have hq := hk v2 w2 hkv
    have hv : v = v2.map (pm_v ad) := Outcome.returned.inj hv
    subst hv
    rw [← e1] at hP2 hz2
    have hD3 := hD2.weaken (B := A) (fun _ q _ h => hA1 q.1 h)
    cases v2 with
    | none =>
      obtain ⟨t2, a1, b1⟩ := hq p l e R s m args below meth c T'.heap (locs ++ L9) (cells + mc) (slots + ms) dA D ad sa A ls F hP2 hD3 k3 hz2 hl hn (by omega) (by omega) T' rfl X'
      exact ⟨t2, st t2 a1, b1⟩
    | some u =>
      obtain ⟨t2, a1, b1⟩ := hq p l e R s m args below meth c T'.heap (locs ++ L9) (cells + mc) (slots + ms) dA D ad sa A ls F hP2 hD3 k3 hz2 hl hn (by omega) (by omega) T' rfl X'
      exact ⟨t2, st t2 a1, b1⟩
  · obtain ⟨k1, k2, k3⟩ := vx_keep h0 e1 hS (fun q _ h => hA1 q h) hA1 hL hF
    have hq := hkx E w2 hkv
    rw [← e1] at hP2 hz2
    have hD3 := hD2.weaken (B := A) (fun _ q _ h => hA1 q.1 h)
    have hce2 : T'.heap[q]? = some ce := by rw [e1]; exact hce
    have key : vx_W p l e R s m args below meth c T'.heap (locs ++ L9) (cells + mc) (slots + ms) (vx_MQ below (pm_Qc dA D ad A (pm_qa al X) k) (pm_XC dA D ad A (pm_qa al X) kx) args s R.cells R.slots A) (F0 m pc ls (t.map (pm_v ad))) q := by
      cases hh : (pm_pr me).2.2.2.2.1 with
      | nil =>
        rw [hh] at hq
        refine vx_out (E := E) (ce := ce) ?_ F.2.2.2.2.2.1 hce2 hcv hcl (fun t8 ht8 hal8 => ⟨⟨w2, hq, by rw [ht8]; exact hP2, hD3, by rw [ht8]; exact hz2.q⟩, k3.F ht8⟩) k3.2.2 (by omega) (by omega)
        rw [F.2.2.2.2.2.2.2.2.2.1, hh]
        exact fun x hx => absurd hx List.not_mem_nil
      | cons x8 t8 =>
        rw [hh] at hq
        exact pm_chW F hce2 hcv hcl (fun hp hg => pm_hnW hJ hrow F hP2 hD3 k3 hz2 hl hn (by omega) (by omega) hg) (x8 :: t8) [] hh (fun z hz => absurd hz List.not_mem_nil) hq
    obtain ⟨t2, a1, b1⟩ := key T' rfl X'
    exact ⟨t2, st.trans a1, b1⟩
end PMB
