/-! SOUNDNESS, an instruction a lemma: what pm_x says at an instruction gives pm_J there -/
section PMS
variable {me d : Nat} {al : Bool} {X : Option (Nat × (Nat → Int32))} {k : pm_K} {kx : pm_X} {go : List pm_R → pm_V → List Value → pm_D → Nat → Nat → Prop} {pc a b c cb sb : Nat} {rs : List pm_R} {L : pm_V} {st : List Value} {w : pm_D}
/-- an instruction that turns the stack alone -/
theorem pm_stk {pc2 : Nat} {st2 : List Value} (h : pm_J me d al X k kx pc2 L st2 w cb sb)
    (hw : ∀ (p : Program) (l : Launch) (e : Env) (R : Room) (s : State) (m : MethodId) (args : Array Value) (below : List Frame) (meth : Method) (c : Code) (H : Heap) (locs : List Loc) (cells slots : Nat) (Q : State → Prop) (ls : Array Slot) (ad : Nat → Nat), p.tables.exec = Jvm.exec → c.code = (pm_pr me).2.1 → s.vm.findClass (pm_pr me).1.cls = some m.cls → (∀ w ∈ pm_tb, w.before args s = true) → lv_has ls L.length (pm_as ad 0 L) →
      W p l e R s m args below meth c H locs cells slots Q (F0 m pc2 ls (st2.map (pm_v ad))) → W p l e R s m args below meth c H locs cells slots Q (F0 m pc ls (st.map (pm_v ad)))) : pm_J me d al X k kx pc L st w cb sb := by
  intro p l e R s m args below meth c H locs cells slots dA D ad sa A ls F hP hD hS hz hl hn hc hs
  exact hw p l e R s m args below meth c H locs cells slots _ ls ad F.1 F.2.2.1 F.2.2.2.2.2.2.1 F.2.2.2.2.2.2.2.2.1 hl (h p l e R s m args below meth c H locs cells slots dA D ad sa A ls F hP hD hS hz hl hn hc hs)
theorem pm_cn_inv {f : Int32 → Prop} (h : pm_cn a c f) : f (pm_c a c) := by cases c <;> exact h
theorem px_aload_n {j : Fin 4} (hd : decode (pm_pr me).2.1 pc = .ok (.aload_n j, 1)) (hN : ∀ L st w cb sb, go rs L st w cb sb → pm_J me d al X k kx (pc + 1) L st w cb sb) (h : pm_x me d al X k kx go pc (.aload_n j) a b c rs L st w cb sb) : pm_J me d al X k kx pc L st w cb sb := by
  obtain ⟨x, h1, h⟩ := pm_ldR_inv h
  exact pm_stk (hN _ _ _ _ _ h) (fun _ _ _ _ _ _ _ _ _ _ _ _ _ _ _ _ ad hx hb hown hts hl q => lv_aload_n hx hb hd rfl (pm_lget hl h1) q)
theorem px_aload {j : Nat} (hd : decode (pm_pr me).2.1 pc = .ok (.aload j, 2)) (hN : ∀ L st w cb sb, go rs L st w cb sb → pm_J me d al X k kx (pc + 2) L st w cb sb) (h : pm_x me d al X k kx go pc (.aload j) a b c rs L st w cb sb) : pm_J me d al X k kx pc L st w cb sb := by
  obtain ⟨x, h1, h⟩ := pm_ldR_inv h
  exact pm_stk (hN _ _ _ _ _ h) (fun _ _ _ _ _ _ _ _ _ _ _ _ _ _ _ _ ad hx hb hown hts hl q => lv_aload hx hb hd (pm_lget hl h1) q)
theorem px_iload_n {j : Fin 4} (hd : decode (pm_pr me).2.1 pc = .ok (.iload_n j, 1)) (hN : ∀ L st w cb sb, go rs L st w cb sb → pm_J me d al X k kx (pc + 1) L st w cb sb) (h : pm_x me d al X k kx go pc (.iload_n j) a b c rs L st w cb sb) : pm_J me d al X k kx pc L st w cb sb := by
  obtain ⟨x, h1, h⟩ := pm_ldI_inv h
  exact pm_stk (hN _ _ _ _ _ h) (fun _ _ _ _ _ _ _ _ _ _ _ _ _ _ _ _ ad hx hb hown hts hl q => lv_iload_n hx hb hd rfl (pm_lget hl h1) q)
theorem px_iload {j : Nat} (hd : decode (pm_pr me).2.1 pc = .ok (.iload j, 2)) (hN : ∀ L st w cb sb, go rs L st w cb sb → pm_J me d al X k kx (pc + 2) L st w cb sb) (h : pm_x me d al X k kx go pc (.iload j) a b c rs L st w cb sb) : pm_J me d al X k kx pc L st w cb sb := by
  obtain ⟨x, h1, h⟩ := pm_ldI_inv h
  exact pm_stk (hN _ _ _ _ _ h) (fun _ _ _ _ _ _ _ _ _ _ _ _ _ _ _ _ ad hx hb hown hts hl q => lv_iload hx hb hd (pm_lget hl h1) q)
theorem px_lload_n {j : Fin 4} (hd : decode (pm_pr me).2.1 pc = .ok (.lload_n j, 1)) (hN : ∀ L st w cb sb, go rs L st w cb sb → pm_J me d al X k kx (pc + 1) L st w cb sb) (h : pm_x me d al X k kx go pc (.lload_n j) a b c rs L st w cb sb) : pm_J me d al X k kx pc L st w cb sb := by
  obtain ⟨x, h1, h⟩ := pm_ldJ_inv h
  exact pm_stk (hN _ _ _ _ _ h) (fun _ _ _ _ _ _ _ _ _ _ _ _ _ _ _ _ ad hx hb hown hts hl q => lv_lload_n hx hb hd rfl (pm_lget hl h1) q)
theorem px_lload {j : Nat} (hd : decode (pm_pr me).2.1 pc = .ok (.lload j, 2)) (hN : ∀ L st w cb sb, go rs L st w cb sb → pm_J me d al X k kx (pc + 2) L st w cb sb) (h : pm_x me d al X k kx go pc (.lload j) a b c rs L st w cb sb) : pm_J me d al X k kx pc L st w cb sb := by
  obtain ⟨x, h1, h⟩ := pm_ldJ_inv h
  exact pm_stk (hN _ _ _ _ _ h) (fun _ _ _ _ _ _ _ _ _ _ _ _ _ _ _ _ ad hx hb hown hts hl q => lv_lload hx hb hd (pm_lget hl h1) q)
theorem px_iconst {v : Int} (hd : decode (pm_pr me).2.1 pc = .ok (.iconst v, 1)) (hN : ∀ L st w cb sb, go rs L st w cb sb → pm_J me d al X k kx (pc + 1) L st w cb sb) (hv : Int32.ofInt v = pm_c a c) (h : pm_x me d al X k kx go pc (.iconst v) a b c rs L st w cb sb) : pm_J me d al X k kx pc L st w cb sb := by
  exact pm_stk (hN _ _ _ _ _ (pm_cn_inv h)) (fun _ _ _ _ _ _ _ _ _ _ _ _ _ _ _ _ ad hx hb hown hts hl q => lv_iconst hx hb hd hv q)
theorem px_bipush {v : Int} (hd : decode (pm_pr me).2.1 pc = .ok (.bipush v, 2)) (hN : ∀ L st w cb sb, go rs L st w cb sb → pm_J me d al X k kx (pc + 2) L st w cb sb) (hv : (Int8.ofInt v).toInt32 = pm_c a c) (h : pm_x me d al X k kx go pc (.bipush v) a b c rs L st w cb sb) : pm_J me d al X k kx pc L st w cb sb := by
  exact pm_stk (hN _ _ _ _ _ (pm_cn_inv h)) (fun _ _ _ _ _ _ _ _ _ _ _ _ _ _ _ _ ad hx hb hown hts hl q => lv_bipush hx hb hd hv q)
theorem px_sipush {v : Int} (hd : decode (pm_pr me).2.1 pc = .ok (.sipush v, 3)) (hN : ∀ L st w cb sb, go rs L st w cb sb → pm_J me d al X k kx (pc + 3) L st w cb sb) (hv : (Int16.ofInt v).toInt32 = pm_c a c) (h : pm_x me d al X k kx go pc (.sipush v) a b c rs L st w cb sb) : pm_J me d al X k kx pc L st w cb sb := by
  exact pm_stk (hN _ _ _ _ _ (pm_cn_inv h)) (fun _ _ _ _ _ _ _ _ _ _ _ _ _ _ _ _ ad hx hb hown hts hl q => lv_sipush hx hb hd hv q)
theorem px_ldc {v : Nat} (hd : decode (pm_pr me).2.1 pc = .ok (.ldc v, 2)) (hN : ∀ L st w cb sb, go rs L st w cb sb → pm_J me d al X k kx (pc + 2) L st w cb sb) (hv : Cond.constant (pm_pr me).1.cls v (pm_c a c) ∈ pm_tb) (h9 : Nat.beq c 9 = false) (h : pm_x me d al X k kx go pc (.ldc v) a b c rs L st w cb sb) : pm_J me d al X k kx pc L st w cb sb := by
  dsimp only [pm_x] at h
  rw [h9] at h
  exact pm_stk (hN _ _ _ _ _ (pm_cn_inv h)) (fun _ _ _ _ _ _ _ _ _ _ _ _ _ _ _ _ ad hx hb hown hts hl q => lv_ldc hx hb hown (hts _ hv) hd q)
theorem px_ldc2_w {v : Nat} (hd : decode (pm_pr me).2.1 pc = .ok (.ldc2_w v, 3)) (hN : ∀ L st w cb sb, go rs L st w cb sb → pm_J me d al X k kx (pc + 3) L st w cb sb) (hv : Cond.constantLong (pm_pr me).1.cls v (Int64.ofNat a) ∈ pm_tb) (h : pm_x me d al X k kx go pc (.ldc2_w v) a b c rs L st w cb sb) : pm_J me d al X k kx pc L st w cb sb := by
  exact pm_stk (hN _ _ _ _ _ h) (fun _ _ _ _ _ _ _ _ _ _ _ _ _ _ _ _ ad hx hb hown hts hl q => lv_ldc2 hx hb hown (hts _ hv) hd q)
theorem px_lconst {j : Fin 2} (hd : decode (pm_pr me).2.1 pc = .ok (.lconst j, 1)) (hN : ∀ L st w cb sb, go rs L st w cb sb → pm_J me d al X k kx (pc + 1) L st w cb sb) (h : pm_x me d al X k kx go pc (.lconst j) a b c rs L st w cb sb) : pm_J me d al X k kx pc L st w cb sb := by
  exact pm_stk (hN _ _ _ _ _ h) (fun _ _ _ _ _ _ _ _ _ _ _ _ _ _ _ _ ad hx hb hown hts hl q => lv_lconst hx hb hd rfl q)
theorem px_iadd (hd : decode (pm_pr me).2.1 pc = .ok (.iadd, 1)) (hN : ∀ L st w cb sb, go rs L st w cb sb → pm_J me d al X k kx (pc + 1) L st w cb sb) (h : pm_x me d al X k kx go pc (.iadd) a b c rs L st w cb sb) : pm_J me d al X k kx pc L st w cb sb := by
  obtain ⟨x, y, t, rfl, h⟩ := pm_i2_inv h
  exact pm_stk (hN _ _ _ _ _ h) (fun _ _ _ _ _ _ _ _ _ _ _ _ _ _ _ _ ad hx hb hown hts hl q => lv_iadd hx hb hd q)
theorem px_isub (hd : decode (pm_pr me).2.1 pc = .ok (.isub, 1)) (hN : ∀ L st w cb sb, go rs L st w cb sb → pm_J me d al X k kx (pc + 1) L st w cb sb) (h : pm_x me d al X k kx go pc (.isub) a b c rs L st w cb sb) : pm_J me d al X k kx pc L st w cb sb := by
  obtain ⟨x, y, t, rfl, h⟩ := pm_i2_inv h
  exact pm_stk (hN _ _ _ _ _ h) (fun _ _ _ _ _ _ _ _ _ _ _ _ _ _ _ _ ad hx hb hown hts hl q => lv_isub hx hb hd q)
theorem px_imul (hd : decode (pm_pr me).2.1 pc = .ok (.imul, 1)) (hN : ∀ L st w cb sb, go rs L st w cb sb → pm_J me d al X k kx (pc + 1) L st w cb sb) (h : pm_x me d al X k kx go pc (.imul) a b c rs L st w cb sb) : pm_J me d al X k kx pc L st w cb sb := by
  obtain ⟨x, y, t, rfl, h⟩ := pm_i2_inv h
  exact pm_stk (hN _ _ _ _ _ h) (fun _ _ _ _ _ _ _ _ _ _ _ _ _ _ _ _ ad hx hb hown hts hl q => lv_imul hx hb hd q)
theorem px_iand (hd : decode (pm_pr me).2.1 pc = .ok (.iand, 1)) (hN : ∀ L st w cb sb, go rs L st w cb sb → pm_J me d al X k kx (pc + 1) L st w cb sb) (h : pm_x me d al X k kx go pc (.iand) a b c rs L st w cb sb) : pm_J me d al X k kx pc L st w cb sb := by
  obtain ⟨x, y, t, rfl, h⟩ := pm_i2_inv h
  exact pm_stk (hN _ _ _ _ _ h) (fun _ _ _ _ _ _ _ _ _ _ _ _ _ _ _ _ ad hx hb hown hts hl q => lv_iand hx hb hd q)
theorem px_ior (hd : decode (pm_pr me).2.1 pc = .ok (.ior, 1)) (hN : ∀ L st w cb sb, go rs L st w cb sb → pm_J me d al X k kx (pc + 1) L st w cb sb) (h : pm_x me d al X k kx go pc (.ior) a b c rs L st w cb sb) : pm_J me d al X k kx pc L st w cb sb := by
  obtain ⟨x, y, t, rfl, h⟩ := pm_i2_inv h
  exact pm_stk (hN _ _ _ _ _ h) (fun _ _ _ _ _ _ _ _ _ _ _ _ _ _ _ _ ad hx hb hown hts hl q => lv_ior hx hb hd q)
theorem px_ixor (hd : decode (pm_pr me).2.1 pc = .ok (.ixor, 1)) (hN : ∀ L st w cb sb, go rs L st w cb sb → pm_J me d al X k kx (pc + 1) L st w cb sb) (h : pm_x me d al X k kx go pc (.ixor) a b c rs L st w cb sb) : pm_J me d al X k kx pc L st w cb sb := by
  obtain ⟨x, y, t, rfl, h⟩ := pm_i2_inv h
  exact pm_stk (hN _ _ _ _ _ h) (fun _ _ _ _ _ _ _ _ _ _ _ _ _ _ _ _ ad hx hb hown hts hl q => lv_ixor hx hb hd q)
theorem px_ishl (hd : decode (pm_pr me).2.1 pc = .ok (.ishl, 1)) (hN : ∀ L st w cb sb, go rs L st w cb sb → pm_J me d al X k kx (pc + 1) L st w cb sb) (h : pm_x me d al X k kx go pc (.ishl) a b c rs L st w cb sb) : pm_J me d al X k kx pc L st w cb sb := by
  obtain ⟨x, y, t, rfl, h⟩ := pm_i2_inv h
  exact pm_stk (hN _ _ _ _ _ h) (fun _ _ _ _ _ _ _ _ _ _ _ _ _ _ _ _ ad hx hb hown hts hl q => lv_ishl hx hb hd q)
theorem px_ishr (hd : decode (pm_pr me).2.1 pc = .ok (.ishr, 1)) (hN : ∀ L st w cb sb, go rs L st w cb sb → pm_J me d al X k kx (pc + 1) L st w cb sb) (h : pm_x me d al X k kx go pc (.ishr) a b c rs L st w cb sb) : pm_J me d al X k kx pc L st w cb sb := by
  obtain ⟨x, y, t, rfl, h⟩ := pm_i2_inv h
  exact pm_stk (hN _ _ _ _ _ h) (fun _ _ _ _ _ _ _ _ _ _ _ _ _ _ _ _ ad hx hb hown hts hl q => lv_ishr hx hb hd q)
theorem px_iushr (hd : decode (pm_pr me).2.1 pc = .ok (.iushr, 1)) (hN : ∀ L st w cb sb, go rs L st w cb sb → pm_J me d al X k kx (pc + 1) L st w cb sb) (h : pm_x me d al X k kx go pc (.iushr) a b c rs L st w cb sb) : pm_J me d al X k kx pc L st w cb sb := by
  obtain ⟨x, y, t, rfl, h⟩ := pm_i2_inv h
  exact pm_stk (hN _ _ _ _ _ h) (fun _ _ _ _ _ _ _ _ _ _ _ _ _ _ _ _ ad hx hb hown hts hl q => lv_iushr hx hb hd rfl q)
theorem px_idiv (hd : decode (pm_pr me).2.1 pc = .ok (.idiv, 1)) (hN : ∀ L st w cb sb, go rs L st w cb sb → pm_J me d al X k kx (pc + 1) L st w cb sb) (h : pm_x me d al X k kx go pc (.idiv) a b c rs L st w cb sb) : pm_J me d al X k kx pc L st w cb sb := by
  obtain ⟨x, y, t, rfl, h0, h⟩ := pm_i2_inv h
  exact pm_stk (hN _ _ _ _ _ h) (fun _ _ _ _ _ _ _ _ _ _ _ _ _ _ _ _ ad hx hb hown hts hl q => lv_idiv hx hb hd h0 q)
theorem px_irem (hd : decode (pm_pr me).2.1 pc = .ok (.irem, 1)) (hN : ∀ L st w cb sb, go rs L st w cb sb → pm_J me d al X k kx (pc + 1) L st w cb sb) (h : pm_x me d al X k kx go pc (.irem) a b c rs L st w cb sb) : pm_J me d al X k kx pc L st w cb sb := by
  obtain ⟨x, y, t, rfl, h0, h⟩ := pm_i2_inv h
  exact pm_stk (hN _ _ _ _ _ h) (fun _ _ _ _ _ _ _ _ _ _ _ _ _ _ _ _ ad hx hb hown hts hl q => lv_irem hx hb hd h0 q)
theorem px_land (hd : decode (pm_pr me).2.1 pc = .ok (.land, 1)) (hN : ∀ L st w cb sb, go rs L st w cb sb → pm_J me d al X k kx (pc + 1) L st w cb sb) (h : pm_x me d al X k kx go pc (.land) a b c rs L st w cb sb) : pm_J me d al X k kx pc L st w cb sb := by
  obtain ⟨x, y, t, rfl, h⟩ := pm_l2_inv h
  exact pm_stk (hN _ _ _ _ _ h) (fun _ _ _ _ _ _ _ _ _ _ _ _ _ _ _ _ ad hx hb hown hts hl q => lv_land hx hb hd q)
theorem px_lor (hd : decode (pm_pr me).2.1 pc = .ok (.lor, 1)) (hN : ∀ L st w cb sb, go rs L st w cb sb → pm_J me d al X k kx (pc + 1) L st w cb sb) (h : pm_x me d al X k kx go pc (.lor) a b c rs L st w cb sb) : pm_J me d al X k kx pc L st w cb sb := by
  obtain ⟨x, y, t, rfl, h⟩ := pm_l2_inv h
  exact pm_stk (hN _ _ _ _ _ h) (fun _ _ _ _ _ _ _ _ _ _ _ _ _ _ _ _ ad hx hb hown hts hl q => lv_lor hx hb hd q)
theorem px_lxor (hd : decode (pm_pr me).2.1 pc = .ok (.lxor, 1)) (hN : ∀ L st w cb sb, go rs L st w cb sb → pm_J me d al X k kx (pc + 1) L st w cb sb) (h : pm_x me d al X k kx go pc (.lxor) a b c rs L st w cb sb) : pm_J me d al X k kx pc L st w cb sb := by
  obtain ⟨x, y, t, rfl, h⟩ := pm_l2_inv h
  exact pm_stk (hN _ _ _ _ _ h) (fun _ _ _ _ _ _ _ _ _ _ _ _ _ _ _ _ ad hx hb hown hts hl q => lv_lxor hx hb hd q)
theorem px_lshl (hd : decode (pm_pr me).2.1 pc = .ok (.lshl, 1)) (hN : ∀ L st w cb sb, go rs L st w cb sb → pm_J me d al X k kx (pc + 1) L st w cb sb) (h : pm_x me d al X k kx go pc (.lshl) a b c rs L st w cb sb) : pm_J me d al X k kx pc L st w cb sb := by
  obtain ⟨x, y, t, rfl, h⟩ := pm_li_inv h
  exact pm_stk (hN _ _ _ _ _ h) (fun _ _ _ _ _ _ _ _ _ _ _ _ _ _ _ _ ad hx hb hown hts hl q => lv_lshl hx hb hd rfl q)
theorem px_lshr (hd : decode (pm_pr me).2.1 pc = .ok (.lshr, 1)) (hN : ∀ L st w cb sb, go rs L st w cb sb → pm_J me d al X k kx (pc + 1) L st w cb sb) (h : pm_x me d al X k kx go pc (.lshr) a b c rs L st w cb sb) : pm_J me d al X k kx pc L st w cb sb := by
  obtain ⟨x, y, t, rfl, h⟩ := pm_li_inv h
  exact pm_stk (hN _ _ _ _ _ h) (fun _ _ _ _ _ _ _ _ _ _ _ _ _ _ _ _ ad hx hb hown hts hl q => lv_lshr hx hb hd rfl q)
theorem px_lushr (hd : decode (pm_pr me).2.1 pc = .ok (.lushr, 1)) (hN : ∀ L st w cb sb, go rs L st w cb sb → pm_J me d al X k kx (pc + 1) L st w cb sb) (h : pm_x me d al X k kx go pc (.lushr) a b c rs L st w cb sb) : pm_J me d al X k kx pc L st w cb sb := by
  obtain ⟨x, y, t, rfl, h⟩ := pm_li_inv h
  exact pm_stk (hN _ _ _ _ _ h) (fun _ _ _ _ _ _ _ _ _ _ _ _ _ _ _ _ ad hx hb hown hts hl q => lv_lushr hx hb hd rfl q)
theorem px_i2l (hd : decode (pm_pr me).2.1 pc = .ok (.i2l, 1)) (hN : ∀ L st w cb sb, go rs L st w cb sb → pm_J me d al X k kx (pc + 1) L st w cb sb) (h : pm_x me d al X k kx go pc (.i2l) a b c rs L st w cb sb) : pm_J me d al X k kx pc L st w cb sb := by
  obtain ⟨x, t, rfl, h⟩ := pm_i1_inv h
  exact pm_stk (hN _ _ _ _ _ h) (fun _ _ _ _ _ _ _ _ _ _ _ _ _ _ _ _ ad hx hb hown hts hl q => lv_i2l hx hb hd rfl q)
theorem px_l2i (hd : decode (pm_pr me).2.1 pc = .ok (.l2i, 1)) (hN : ∀ L st w cb sb, go rs L st w cb sb → pm_J me d al X k kx (pc + 1) L st w cb sb) (h : pm_x me d al X k kx go pc (.l2i) a b c rs L st w cb sb) : pm_J me d al X k kx pc L st w cb sb := by
  obtain ⟨x, t, rfl, h⟩ := pm_l1_inv h
  exact pm_stk (hN _ _ _ _ _ h) (fun _ _ _ _ _ _ _ _ _ _ _ _ _ _ _ _ ad hx hb hown hts hl q => lv_l2i hx hb hd rfl q)
theorem px_lcmp (hd : decode (pm_pr me).2.1 pc = .ok (.lcmp, 1)) (hN : ∀ L st w cb sb, go rs L st w cb sb → pm_J me d al X k kx (pc + 1) L st w cb sb) (h : pm_x me d al X k kx go pc (.lcmp) a b c rs L st w cb sb) : pm_J me d al X k kx pc L st w cb sb := by
  obtain ⟨x, y, t, rfl, h⟩ := pm_l2_inv h
  exact pm_stk (hN _ _ _ _ _ h) (fun _ _ _ _ _ _ _ _ _ _ _ _ _ _ _ _ ad hx hb hown hts hl q => W.lcmp hx hb hd q)
theorem px_pop2 (hd : decode (pm_pr me).2.1 pc = .ok (.pop2, 1)) (hN : ∀ L st w cb sb, go rs L st w cb sb → pm_J me d al X k kx (pc + 1) L st w cb sb) (h : pm_x me d al X k kx go pc (.pop2) a b c rs L st w cb sb) : pm_J me d al X k kx pc L st w cb sb := by
  obtain ⟨x, t, rfl, h⟩ := pm_l1_inv h
  exact pm_stk (hN _ _ _ _ _ h) (fun _ _ _ _ _ _ _ _ _ _ _ _ _ _ _ _ ad hx hb hown hts hl q => lv_pop2_2 (va := .long x) hx hb hd rfl q)
theorem px_dup (hd : decode (pm_pr me).2.1 pc = .ok (.dup, 1)) (hN : ∀ L st w cb sb, go rs L st w cb sb → pm_J me d al X k kx (pc + 1) L st w cb sb) (h : pm_x me d al X k kx go pc (.dup) a b c rs L st w cb sb) : pm_J me d al X k kx pc L st w cb sb := by
  dsimp only [pm_x] at h
  split at h
  · exact pm_stk (hN _ _ _ _ _ h) (fun _ _ _ _ _ _ _ _ _ _ _ _ _ _ _ _ ad hx hb hown hts hl q => lv_dup hx hb hd rfl q)
  · exact pm_stk (hN _ _ _ _ _ h) (fun _ _ _ _ _ _ _ _ _ _ _ _ _ _ _ _ ad hx hb hown hts hl q => lv_dup hx hb hd rfl q)
  · exact h.elim
theorem px_dup2 (hd : decode (pm_pr me).2.1 pc = .ok (.dup2, 1)) (hN : ∀ L st w cb sb, go rs L st w cb sb → pm_J me d al X k kx (pc + 1) L st w cb sb) (h : pm_x me d al X k kx go pc (.dup2) a b c rs L st w cb sb) : pm_J me d al X k kx pc L st w cb sb := by
  dsimp only [pm_x] at h
  split at h
  · exact pm_stk (hN _ _ _ _ _ h) (fun _ _ _ _ _ _ _ _ _ _ _ _ _ _ _ _ ad hx hb hown hts hl q => lv_dup2_11 hx hb hd rfl rfl q)
  · exact h.elim
theorem px_goto {off : Int} (hd : decode (pm_pr me).2.1 pc = .ok (.goto off, 3)) (hT : ∀ tg L st w cb sb, go (pm_from (pm_pr me).2.2.2.2.2 tg) L st w cb sb → pm_J me d al X k kx tg L st w cb sb) (ht : (pc : Int) + off = (a : Int)) (h : pm_x me d al X k kx go pc (.goto off) a b c rs L st w cb sb) : pm_J me d al X k kx pc L st w cb sb := by
  exact pm_stk (hT _ _ _ _ _ _ h) (fun _ _ _ _ _ _ _ _ _ _ _ _ _ _ _ _ ad hx hb hown hts hl q => lv_goto hx hb hd ht q)
/-- a fork -/
theorem pm_frk {P Q9 : Prop} {pc2 pc3 : Nat} {t : List Value} (hp : P → pm_J me d al X k kx pc2 L t w cb sb) (hq : Q9 → pm_J me d al X k kx pc3 L t w cb sb)
    (hw : ∀ (p : Program) (l : Launch) (e : Env) (R : Room) (s : State) (m : MethodId) (args : Array Value) (below : List Frame) (meth : Method) (c : Code) (H : Heap) (locs : List Loc) (cells slots : Nat) (Q : State → Prop) (ls : Array Slot) (ad : Nat → Nat), p.tables.exec = Jvm.exec → c.code = (pm_pr me).2.1 →
      (P → W p l e R s m args below meth c H locs cells slots Q (F0 m pc2 ls (t.map (pm_v ad)))) → (Q9 → W p l e R s m args below meth c H locs cells slots Q (F0 m pc3 ls (t.map (pm_v ad)))) → W p l e R s m args below meth c H locs cells slots Q (F0 m pc ls (st.map (pm_v ad)))) : pm_J me d al X k kx pc L st w cb sb := by
  intro p l e R s m args below meth c H locs cells slots dA D ad sa A ls F hP hD hS hz hl hn hc hs
  exact hw p l e R s m args below meth c H locs cells slots _ ls ad F.1 F.2.2.1 (fun h => hp h p l e R s m args below meth c H locs cells slots dA D ad sa A ls F hP hD hS hz hl hn hc hs) (fun h => hq h p l e R s m args below meth c H locs cells slots dA D ad sa A ls F hP hD hS hz hl hn hc hs)
theorem px_if_icmp {c0 : ClassFile.Cond} {off : Int} (hd : decode (pm_pr me).2.1 pc = .ok (.if_icmp c0 off, 3)) (hN : ∀ L st w cb sb, go rs L st w cb sb → pm_J me d al X k kx (pc + 3) L st w cb sb) (hT : ∀ tg L st w cb sb, go (pm_from (pm_pr me).2.2.2.2.2 tg) L st w cb sb → pm_J me d al X k kx tg L st w cb sb) (ht : (pc : Int) + off = (a : Int)) (h : pm_x me d al X k kx go pc (.if_icmp c0 off) a b c rs L st w cb sb) : pm_J me d al X k kx pc L st w cb sb := by
  obtain ⟨x, y, t, rfl, h⟩ := pm_i2_inv h
  cases c0
  · exact pm_frk (fun z => hT _ _ _ _ _ _ (h.1 z)) (fun z => hN _ _ _ _ _ (h.2 z)) (fun _ _ _ _ _ _ _ _ _ _ _ _ _ _ _ _ ad hx hb q1 q2 => lv_icmp_eq hx hb hd ht q1 q2)
  · exact pm_frk (fun z => hT _ _ _ _ _ _ (h.1 z)) (fun z => hN _ _ _ _ _ (h.2 z)) (fun _ _ _ _ _ _ _ _ _ _ _ _ _ _ _ _ ad hx hb q1 q2 => lv_icmp_ne hx hb hd ht q1 q2)
  · exact pm_frk (fun z => hT _ _ _ _ _ _ (h.1 z)) (fun z => hN _ _ _ _ _ (h.2 z)) (fun _ _ _ _ _ _ _ _ _ _ _ _ _ _ _ _ ad hx hb q1 q2 => lv_icmp_lt hx hb hd ht q1 q2)
  · exact pm_frk (fun z => hT _ _ _ _ _ _ (h.1 z)) (fun z => hN _ _ _ _ _ (h.2 z)) (fun _ _ _ _ _ _ _ _ _ _ _ _ _ _ _ _ ad hx hb q1 q2 => lv_icmp_ge hx hb hd ht q1 q2)
  · exact pm_frk (fun z => hT _ _ _ _ _ _ (h.1 z)) (fun z => hN _ _ _ _ _ (h.2 z)) (fun _ _ _ _ _ _ _ _ _ _ _ _ _ _ _ _ ad hx hb q1 q2 => lv_icmp_gt hx hb hd ht q1 q2)
  · exact pm_frk (fun z => hT _ _ _ _ _ _ (h.1 z)) (fun z => hN _ _ _ _ _ (h.2 z)) (fun _ _ _ _ _ _ _ _ _ _ _ _ _ _ _ _ ad hx hb q1 q2 => lv_icmp_le hx hb hd ht q1 q2)
theorem px_ifCond {c0 : ClassFile.Cond} {off : Int} (hd : decode (pm_pr me).2.1 pc = .ok (.ifCond c0 off, 3)) (hN : ∀ L st w cb sb, go rs L st w cb sb → pm_J me d al X k kx (pc + 3) L st w cb sb) (hT : ∀ tg L st w cb sb, go (pm_from (pm_pr me).2.2.2.2.2 tg) L st w cb sb → pm_J me d al X k kx tg L st w cb sb) (ht : (pc : Int) + off = (a : Int)) (h : pm_x me d al X k kx go pc (.ifCond c0 off) a b c rs L st w cb sb) : pm_J me d al X k kx pc L st w cb sb := by
  obtain ⟨x, t, rfl, h⟩ := pm_i1_inv h
  cases c0
  · exact pm_frk (fun z => hT _ _ _ _ _ _ (h.1 z)) (fun z => hN _ _ _ _ _ (h.2 z)) (fun _ _ _ _ _ _ _ _ _ _ _ _ _ _ _ _ ad hx hb q1 q2 => lv_if_eq hx hb hd ht q1 q2)
  · exact pm_frk (fun z => hT _ _ _ _ _ _ (h.1 z)) (fun z => hN _ _ _ _ _ (h.2 z)) (fun _ _ _ _ _ _ _ _ _ _ _ _ _ _ _ _ ad hx hb q1 q2 => lv_if_ne hx hb hd ht q1 q2)
  · exact pm_frk (fun z => hT _ _ _ _ _ _ (h.1 z)) (fun z => hN _ _ _ _ _ (h.2 z)) (fun _ _ _ _ _ _ _ _ _ _ _ _ _ _ _ _ ad hx hb q1 q2 => lv_if_lt hx hb hd ht q1 q2)
  · exact pm_frk (fun z => hT _ _ _ _ _ _ (h.1 z)) (fun z => hN _ _ _ _ _ (h.2 z)) (fun _ _ _ _ _ _ _ _ _ _ _ _ _ _ _ _ ad hx hb q1 q2 => lv_if_ge hx hb hd ht q1 q2)
  · exact pm_frk (fun z => hT _ _ _ _ _ _ (h.1 z)) (fun z => hN _ _ _ _ _ (h.2 z)) (fun _ _ _ _ _ _ _ _ _ _ _ _ _ _ _ _ ad hx hb q1 q2 => lv_if_gt hx hb hd ht q1 q2)
  · exact pm_frk (fun z => hT _ _ _ _ _ _ (h.1 z)) (fun z => hN _ _ _ _ _ (h.2 z)) (fun _ _ _ _ _ _ _ _ _ _ _ _ _ _ _ _ ad hx hb q1 q2 => lv_if_le hx hb hd ht q1 q2)
theorem px_istore_n {j : Fin 4} (hd : decode (pm_pr me).2.1 pc = .ok (.istore_n j, 1)) (hN : ∀ L st w cb sb, go rs L st w cb sb → pm_J me d al X k kx (pc + 1) L st w cb sb) (h : pm_x me d al X k kx go pc (.istore_n j) a b c rs L st w cb sb) : pm_J me d al X k kx pc L st w cb sb := by
  obtain ⟨x, t, rfl, h⟩ := pm_i1_inv h
  obtain ⟨M, h, hi, hM, h4⟩ := pm_st1_inv _ _ _ _ h
  intro p l e R s m args below meth c H locs cells slots dA D ad sa A ls F hP hD hS hz hl hn hc hs
  refine lv_istore_n (nL := L.length) F.1 F.2.2.1 hd rfl hl hi rfl (fun ls2 hl2 => ?_)
  exact hN _ _ _ _ _ h p l e R s m args below meth c H locs cells slots dA D ad sa A ls2 F hP hD hS hz (pm_lst1 (o := some (.int x)) hM (fun u hu => by cases hu; rfl) h4 hl2) (hM.trans hn) hc hs
theorem px_astore_n {j : Fin 4} (hd : decode (pm_pr me).2.1 pc = .ok (.astore_n j, 1)) (hN : ∀ L st w cb sb, go rs L st w cb sb → pm_J me d al X k kx (pc + 1) L st w cb sb) (h : pm_x me d al X k kx go pc (.astore_n j) a b c rs L st w cb sb) : pm_J me d al X k kx pc L st w cb sb := by
  obtain ⟨x, t, rfl, h⟩ := pm_r1_inv h
  obtain ⟨M, h, hi, hM, h4⟩ := pm_st1_inv _ _ _ _ h
  intro p l e R s m args below meth c H locs cells slots dA D ad sa A ls F hP hD hS hz hl hn hc hs
  refine lv_astore_n (nL := L.length) F.1 F.2.2.1 hd rfl hl hi rfl (fun ls2 hl2 => ?_)
  exact hN _ _ _ _ _ h p l e R s m args below meth c H locs cells slots dA D ad sa A ls2 F hP hD hS hz (pm_lst1 (o := some (.ref x)) hM (fun u hu => by cases hu; rfl) h4 hl2) (hM.trans hn) hc hs
theorem px_istore {j : Nat} (hd : decode (pm_pr me).2.1 pc = .ok (.istore j, 2)) (hN : ∀ L st w cb sb, go rs L st w cb sb → pm_J me d al X k kx (pc + 2) L st w cb sb) (h : pm_x me d al X k kx go pc (.istore j) a b c rs L st w cb sb) : pm_J me d al X k kx pc L st w cb sb := by
  obtain ⟨x, t, rfl, h⟩ := pm_i1_inv h
  obtain ⟨M, h, hi, hM, h4⟩ := pm_st1_inv _ _ _ _ h
  intro p l e R s m args below meth c H locs cells slots dA D ad sa A ls F hP hD hS hz hl hn hc hs
  refine lv_istore (nL := L.length) F.1 F.2.2.1 hd hl hi rfl (fun ls2 hl2 => ?_)
  exact hN _ _ _ _ _ h p l e R s m args below meth c H locs cells slots dA D ad sa A ls2 F hP hD hS hz (pm_lst1 (o := some (.int x)) hM (fun u hu => by cases hu; rfl) h4 hl2) (hM.trans hn) hc hs
theorem px_astore {j : Nat} (hd : decode (pm_pr me).2.1 pc = .ok (.astore j, 2)) (hN : ∀ L st w cb sb, go rs L st w cb sb → pm_J me d al X k kx (pc + 2) L st w cb sb) (h : pm_x me d al X k kx go pc (.astore j) a b c rs L st w cb sb) : pm_J me d al X k kx pc L st w cb sb := by
  obtain ⟨x, t, rfl, h⟩ := pm_r1_inv h
  obtain ⟨M, h, hi, hM, h4⟩ := pm_st1_inv _ _ _ _ h
  intro p l e R s m args below meth c H locs cells slots dA D ad sa A ls F hP hD hS hz hl hn hc hs
  refine lv_astore (nL := L.length) F.1 F.2.2.1 hd hl hi rfl (fun ls2 hl2 => ?_)
  exact hN _ _ _ _ _ h p l e R s m args below meth c H locs cells slots dA D ad sa A ls2 F hP hD hS hz (pm_lst1 (o := some (.ref x)) hM (fun u hu => by cases hu; rfl) h4 hl2) (hM.trans hn) hc hs
theorem px_lstore_n {j : Fin 4} (hd : decode (pm_pr me).2.1 pc = .ok (.lstore_n j, 1)) (hN : ∀ L st w cb sb, go rs L st w cb sb → pm_J me d al X k kx (pc + 1) L st w cb sb) (h : pm_x me d al X k kx go pc (.lstore_n j) a b c rs L st w cb sb) : pm_J me d al X k kx pc L st w cb sb := by
  obtain ⟨x, t, rfl, h⟩ := pm_l1_inv h
  obtain ⟨M, h, hi, hM, h4⟩ := pm_st2_inv _ _ _ _ h
  intro p l e R s m args below meth c H locs cells slots dA D ad sa A ls F hP hD hS hz hl hn hc hs
  refine lv_lstore_n (nL := L.length) F.1 F.2.2.1 hd rfl hl hi rfl (fun ls2 hl2 => ?_)
  exact hN _ _ _ _ _ h p l e R s m args below meth c H locs cells slots dA D ad sa A ls2 F hP hD hS hz (pm_lst2 (v := .long x) hM rfl h4 hl2) (hM.trans hn) hc hs
theorem px_lstore {j : Nat} (hd : decode (pm_pr me).2.1 pc = .ok (.lstore j, 2)) (hN : ∀ L st w cb sb, go rs L st w cb sb → pm_J me d al X k kx (pc + 2) L st w cb sb) (h : pm_x me d al X k kx go pc (.lstore j) a b c rs L st w cb sb) : pm_J me d al X k kx pc L st w cb sb := by
  obtain ⟨x, t, rfl, h⟩ := pm_l1_inv h
  obtain ⟨M, h, hi, hM, h4⟩ := pm_st2_inv _ _ _ _ h
  intro p l e R s m args below meth c H locs cells slots dA D ad sa A ls F hP hD hS hz hl hn hc hs
  refine lv_lstore (nL := L.length) F.1 F.2.2.1 hd hl hi rfl (fun ls2 hl2 => ?_)
  exact hN _ _ _ _ _ h p l e R s m args below meth c H locs cells slots dA D ad sa A ls2 F hP hD hS hz (pm_lst2 (v := .long x) hM rfl h4 hl2) (hM.trans hn) hc hs
theorem px_iinc {j : Nat} {v : Int} (hd : decode (pm_pr me).2.1 pc = .ok (.iinc j v, 3)) (hN : ∀ L st w cb sb, go rs L st w cb sb → pm_J me d al X k kx (pc + 3) L st w cb sb) (hv : Int32.ofInt v = pm_c a c) (h : pm_x me d al X k kx go pc (.iinc j v) a b c rs L st w cb sb) : pm_J me d al X k kx pc L st w cb sb := by
  obtain ⟨x, h1, h⟩ := pm_ldI_inv h
  obtain ⟨M, h, hi, hM, h4⟩ := pm_st1_inv _ _ _ _ (pm_cn_inv h)
  intro p l e R s m args below meth c H locs cells slots dA D ad sa A ls F hP hD hS hz hl hn hc hs
  obtain ⟨k9, hk9⟩ := pm_lidx (ad := ad) h1
  refine lv_iinc (nL := L.length) F.1 F.2.2.1 hd hl hk9 (by rw [hv]) hi rfl (fun ls2 hl2 => ?_)
  exact hN _ _ _ _ _ h p l e R s m args below meth _ H locs cells slots dA D ad sa A ls2 F hP hD hS hz (pm_lst1 (o := some (.int _)) hM (fun u hu => by cases hu; rfl) h4 hl2) (hM.trans hn) hc hs
end PMS
