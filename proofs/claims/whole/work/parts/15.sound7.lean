/-! SOUNDNESS: the composition -/
set_option maxHeartbeats 4000000 in
set_option maxRecDepth 20000 in
theorem pm_x_ok {me d : Nat} {al : Bool} {X : Option (Nat × (Nat → Int32))} {k : pm_K} {kx : pm_X} {go : List pm_R → pm_V → List Value → pm_D → Nat → Nat → Prop} {pc a b c cb sb : Nat} {hh : Bool} {i : Instr} {pre rs : List pm_R} {L : pm_V} {st : List Value} {w : pm_D}
    (hJ : ∀ rs L st w cb sb, (∃ pre, (pm_pr me).2.2.2.2.2 = pre ++ rs) → go rs L st w cb sb → ∃ r t, rs = r :: t ∧ pm_J me d al X k kx r.1 L st w cb sb)
    (hrow : ∀ pre r t, (pm_pr me).2.2.2.2.2 = pre ++ r :: t → ∃ nx, pm_ck (pm_pr me) r nx = true ∧ ∀ q u, t = q :: u → q.1 = nx)
    (hpre : (pm_pr me).2.2.2.2.2 = pre ++ (pc, i, hh, a, b, c) :: rs) (h : pm_x me d al X k kx go pc i a b c rs L st w cb sb) : pm_J me d al X k kx pc L st w cb sb := by
  obtain ⟨nx, hck, hnx⟩ := hrow _ _ _ hpre
  have hN : ∀ n, nx = pc + n → ∀ L st w cb sb, go rs L st w cb sb → pm_J me d al X k kx (pc + n) L st w cb sb := by
    intro n hn L st w cb sb hg
    obtain ⟨r, t, e1, e2⟩ := hJ rs L st w cb sb ⟨pre ++ [(pc, i, hh, a, b, c)], by rw [hpre, List.append_assoc]; rfl⟩ hg
    rw [hnx r t e1, hn] at e2
    exact e2
  have hT : ∀ tg L st w cb sb, go (pm_from (pm_pr me).2.2.2.2.2 tg) L st w cb sb → pm_J me d al X k kx tg L st w cb sb := by
    intro tg L st w cb sb hg
    cases hf : pm_from (pm_pr me).2.2.2.2.2 tg with
    | nil =>
      rw [hf] at hg
      obtain ⟨r, t, e1, -⟩ := hJ [] L st w cb sb ⟨(pm_pr me).2.2.2.2.2, by rw [List.append_nil]⟩ hg
      cases e1
    | cons r t =>
      obtain ⟨e1, pre2, e2⟩ := pm_from_inv _ _ _ _ hf
      rw [hf] at hg
      obtain ⟨r2, t2, e3, e4⟩ := hJ (r :: t) L st w cb sb ⟨pre2, e2⟩ hg
      cases e3
      rw [e1] at e4
      exact e4
  cases i with
  | aload_n j =>
    obtain ⟨⟨h1, h2⟩, h3⟩ := pm_and3 hck
    exact px_aload_n (of_decide_eq_true h1) (hN 1 (Nat.eq_of_beq_eq_true h2)) h
  | aload j =>
    obtain ⟨⟨h1, h2⟩, h3⟩ := pm_and3 hck
    exact px_aload (of_decide_eq_true h1) (hN 2 (Nat.eq_of_beq_eq_true h2)) h
  | iload_n j =>
    obtain ⟨⟨h1, h2⟩, h3⟩ := pm_and3 hck
    exact px_iload_n (of_decide_eq_true h1) (hN 1 (Nat.eq_of_beq_eq_true h2)) h
  | iload j =>
    obtain ⟨⟨h1, h2⟩, h3⟩ := pm_and3 hck
    exact px_iload (of_decide_eq_true h1) (hN 2 (Nat.eq_of_beq_eq_true h2)) h
  | lload_n j =>
    obtain ⟨⟨h1, h2⟩, h3⟩ := pm_and3 hck
    exact px_lload_n (of_decide_eq_true h1) (hN 1 (Nat.eq_of_beq_eq_true h2)) h
  | lload j =>
    obtain ⟨⟨h1, h2⟩, h3⟩ := pm_and3 hck
    exact px_lload (of_decide_eq_true h1) (hN 2 (Nat.eq_of_beq_eq_true h2)) h
  | astore_n j =>
    obtain ⟨⟨h1, h2⟩, h3⟩ := pm_and3 hck
    exact px_astore_n (of_decide_eq_true h1) (hN 1 (Nat.eq_of_beq_eq_true h2)) h
  | astore j =>
    obtain ⟨⟨h1, h2⟩, h3⟩ := pm_and3 hck
    exact px_astore (of_decide_eq_true h1) (hN 2 (Nat.eq_of_beq_eq_true h2)) h
  | istore_n j =>
    obtain ⟨⟨h1, h2⟩, h3⟩ := pm_and3 hck
    exact px_istore_n (of_decide_eq_true h1) (hN 1 (Nat.eq_of_beq_eq_true h2)) h
  | istore j =>
    obtain ⟨⟨h1, h2⟩, h3⟩ := pm_and3 hck
    exact px_istore (of_decide_eq_true h1) (hN 2 (Nat.eq_of_beq_eq_true h2)) h
  | lstore_n j =>
    obtain ⟨⟨h1, h2⟩, h3⟩ := pm_and3 hck
    exact px_lstore_n (of_decide_eq_true h1) (hN 1 (Nat.eq_of_beq_eq_true h2)) h
  | lstore j =>
    obtain ⟨⟨h1, h2⟩, h3⟩ := pm_and3 hck
    exact px_lstore (of_decide_eq_true h1) (hN 2 (Nat.eq_of_beq_eq_true h2)) h
  | lconst j =>
    obtain ⟨⟨h1, h2⟩, h3⟩ := pm_and3 hck
    exact px_lconst (of_decide_eq_true h1) (hN 1 (Nat.eq_of_beq_eq_true h2)) h
  | iadd =>
    obtain ⟨⟨h1, h2⟩, h3⟩ := pm_and3 hck
    exact px_iadd (of_decide_eq_true h1) (hN 1 (Nat.eq_of_beq_eq_true h2)) h
  | isub =>
    obtain ⟨⟨h1, h2⟩, h3⟩ := pm_and3 hck
    exact px_isub (of_decide_eq_true h1) (hN 1 (Nat.eq_of_beq_eq_true h2)) h
  | imul =>
    obtain ⟨⟨h1, h2⟩, h3⟩ := pm_and3 hck
    exact px_imul (of_decide_eq_true h1) (hN 1 (Nat.eq_of_beq_eq_true h2)) h
  | iand =>
    obtain ⟨⟨h1, h2⟩, h3⟩ := pm_and3 hck
    exact px_iand (of_decide_eq_true h1) (hN 1 (Nat.eq_of_beq_eq_true h2)) h
  | ior =>
    obtain ⟨⟨h1, h2⟩, h3⟩ := pm_and3 hck
    exact px_ior (of_decide_eq_true h1) (hN 1 (Nat.eq_of_beq_eq_true h2)) h
  | ixor =>
    obtain ⟨⟨h1, h2⟩, h3⟩ := pm_and3 hck
    exact px_ixor (of_decide_eq_true h1) (hN 1 (Nat.eq_of_beq_eq_true h2)) h
  | ishl =>
    obtain ⟨⟨h1, h2⟩, h3⟩ := pm_and3 hck
    exact px_ishl (of_decide_eq_true h1) (hN 1 (Nat.eq_of_beq_eq_true h2)) h
  | ishr =>
    obtain ⟨⟨h1, h2⟩, h3⟩ := pm_and3 hck
    exact px_ishr (of_decide_eq_true h1) (hN 1 (Nat.eq_of_beq_eq_true h2)) h
  | iushr =>
    obtain ⟨⟨h1, h2⟩, h3⟩ := pm_and3 hck
    exact px_iushr (of_decide_eq_true h1) (hN 1 (Nat.eq_of_beq_eq_true h2)) h
  | idiv =>
    obtain ⟨⟨h1, h2⟩, h3⟩ := pm_and3 hck
    exact px_idiv (of_decide_eq_true h1) (hN 1 (Nat.eq_of_beq_eq_true h2)) h
  | irem =>
    obtain ⟨⟨h1, h2⟩, h3⟩ := pm_and3 hck
    exact px_irem (of_decide_eq_true h1) (hN 1 (Nat.eq_of_beq_eq_true h2)) h
  | land =>
    obtain ⟨⟨h1, h2⟩, h3⟩ := pm_and3 hck
    exact px_land (of_decide_eq_true h1) (hN 1 (Nat.eq_of_beq_eq_true h2)) h
  | lor =>
    obtain ⟨⟨h1, h2⟩, h3⟩ := pm_and3 hck
    exact px_lor (of_decide_eq_true h1) (hN 1 (Nat.eq_of_beq_eq_true h2)) h
  | lxor =>
    obtain ⟨⟨h1, h2⟩, h3⟩ := pm_and3 hck
    exact px_lxor (of_decide_eq_true h1) (hN 1 (Nat.eq_of_beq_eq_true h2)) h
  | lshl =>
    obtain ⟨⟨h1, h2⟩, h3⟩ := pm_and3 hck
    exact px_lshl (of_decide_eq_true h1) (hN 1 (Nat.eq_of_beq_eq_true h2)) h
  | lshr =>
    obtain ⟨⟨h1, h2⟩, h3⟩ := pm_and3 hck
    exact px_lshr (of_decide_eq_true h1) (hN 1 (Nat.eq_of_beq_eq_true h2)) h
  | lushr =>
    obtain ⟨⟨h1, h2⟩, h3⟩ := pm_and3 hck
    exact px_lushr (of_decide_eq_true h1) (hN 1 (Nat.eq_of_beq_eq_true h2)) h
  | i2l =>
    obtain ⟨⟨h1, h2⟩, h3⟩ := pm_and3 hck
    exact px_i2l (of_decide_eq_true h1) (hN 1 (Nat.eq_of_beq_eq_true h2)) h
  | l2i =>
    obtain ⟨⟨h1, h2⟩, h3⟩ := pm_and3 hck
    exact px_l2i (of_decide_eq_true h1) (hN 1 (Nat.eq_of_beq_eq_true h2)) h
  | lcmp =>
    obtain ⟨⟨h1, h2⟩, h3⟩ := pm_and3 hck
    exact px_lcmp (of_decide_eq_true h1) (hN 1 (Nat.eq_of_beq_eq_true h2)) h
  | dup =>
    obtain ⟨⟨h1, h2⟩, h3⟩ := pm_and3 hck
    exact px_dup (of_decide_eq_true h1) (hN 1 (Nat.eq_of_beq_eq_true h2)) h
  | dup2 =>
    obtain ⟨⟨h1, h2⟩, h3⟩ := pm_and3 hck
    exact px_dup2 (of_decide_eq_true h1) (hN 1 (Nat.eq_of_beq_eq_true h2)) h
  | pop2 =>
    obtain ⟨⟨h1, h2⟩, h3⟩ := pm_and3 hck
    exact px_pop2 (of_decide_eq_true h1) (hN 1 (Nat.eq_of_beq_eq_true h2)) h
  | iaload =>
    obtain ⟨⟨h1, h2⟩, h3⟩ := pm_and3 hck
    exact px_iaload (of_decide_eq_true h1) (hN 1 (Nat.eq_of_beq_eq_true h2)) h
  | baload =>
    obtain ⟨⟨h1, h2⟩, h3⟩ := pm_and3 hck
    exact px_baload (of_decide_eq_true h1) (hN 1 (Nat.eq_of_beq_eq_true h2)) h
  | laload =>
    obtain ⟨⟨h1, h2⟩, h3⟩ := pm_and3 hck
    exact px_laload (of_decide_eq_true h1) (hN 1 (Nat.eq_of_beq_eq_true h2)) h
  | iastore =>
    obtain ⟨⟨h1, h2⟩, h3⟩ := pm_and3 hck
    exact px_iastore (of_decide_eq_true h1) (hN 1 (Nat.eq_of_beq_eq_true h2)) h
  | bastore =>
    obtain ⟨⟨h1, h2⟩, h3⟩ := pm_and3 hck
    exact px_bastore (of_decide_eq_true h1) (hN 1 (Nat.eq_of_beq_eq_true h2)) h
  | lastore =>
    obtain ⟨⟨h1, h2⟩, h3⟩ := pm_and3 hck
    exact px_lastore (of_decide_eq_true h1) (hN 1 (Nat.eq_of_beq_eq_true h2)) h
  | arraylength =>
    obtain ⟨⟨h1, h2⟩, h3⟩ := pm_and3 hck
    exact px_arraylength (of_decide_eq_true h1) (hN 1 (Nat.eq_of_beq_eq_true h2)) h
  | iconst v =>
    obtain ⟨⟨h1, h2⟩, h3⟩ := pm_and3 hck
    exact px_iconst (of_decide_eq_true h1) (hN 1 (Nat.eq_of_beq_eq_true h2)) (of_decide_eq_true h3) h
  | bipush v =>
    obtain ⟨⟨h1, h2⟩, h3⟩ := pm_and3 hck
    exact px_bipush (of_decide_eq_true h1) (hN 2 (Nat.eq_of_beq_eq_true h2)) (of_decide_eq_true h3) h
  | sipush v =>
    obtain ⟨⟨h1, h2⟩, h3⟩ := pm_and3 hck
    exact px_sipush (of_decide_eq_true h1) (hN 3 (Nat.eq_of_beq_eq_true h2)) (of_decide_eq_true h3) h
  | iinc j v =>
    obtain ⟨⟨h1, h2⟩, h3⟩ := pm_and3 hck
    exact px_iinc (of_decide_eq_true h1) (hN 3 (Nat.eq_of_beq_eq_true h2)) (of_decide_eq_true h3) h
  | ldc v =>
    obtain ⟨⟨h1, h2⟩, h3⟩ := pm_and3 hck
    cases h9 : Nat.beq c 9 with
    | true =>
      dsimp only [pm_x] at h
      rw [h9] at h
      exact h.elim
    | false =>
      have h3 : (Nat.beq c 9 || decide (Cond.constant (pm_pr me).1.cls v (pm_c a c) ∈ pm_tb)) = true := h3
      rw [h9, Bool.false_or] at h3
      exact px_ldc (of_decide_eq_true h1) (hN 2 (Nat.eq_of_beq_eq_true h2)) (of_decide_eq_true h3) h9 h
  | ldc2_w v =>
    obtain ⟨⟨h1, h2⟩, h3⟩ := pm_and3 hck
    exact px_ldc2_w (of_decide_eq_true h1) (hN 3 (Nat.eq_of_beq_eq_true h2)) (of_decide_eq_true h3) h
  | if_icmp c0 off =>
    obtain ⟨⟨h1, h2⟩, h3⟩ := pm_and3 hck
    exact px_if_icmp (of_decide_eq_true h1) (hN 3 (Nat.eq_of_beq_eq_true h2)) hT (of_decide_eq_true h3) h
  | ifCond c0 off =>
    obtain ⟨⟨h1, h2⟩, h3⟩ := pm_and3 hck
    exact px_ifCond (of_decide_eq_true h1) (hN 3 (Nat.eq_of_beq_eq_true h2)) hT (of_decide_eq_true h3) h
  | goto off =>
    obtain ⟨⟨h1, h2⟩, h3⟩ := pm_and3 hck
    exact px_goto (of_decide_eq_true h1) hT (of_decide_eq_true h3) h
  | tableswitch df lo hi offs =>
    obtain ⟨⟨h1, h2⟩, h3⟩ := pm_and3 hck
    have h1 : (pm_dc (decode (pm_pr me).2.1 pc) (.tableswitch df lo hi offs) && decide (hi + 1 = lo + (offs.size : Int)) && pm_swk pc lo offs.toList (pm_sw a).1 && decide ((pc : Int) + df = ((pm_sw a).2 : Int))) = true := h1
    obtain ⟨⟨⟨g1, g2⟩, g3⟩, g4⟩ := (by simpa only [Bool.and_eq_true] using h1 : ((pm_dc (decode (pm_pr me).2.1 pc) (.tableswitch df lo hi offs) = true ∧ decide (hi + 1 = lo + (offs.size : Int)) = true) ∧ pm_swk pc lo offs.toList (pm_sw a).1 = true) ∧ decide ((pc : Int) + df = ((pm_sw a).2 : Int)) = true)
    obtain ⟨len, hd⟩ := pm_dc_inv g1
    exact px_tableswitch hd (of_decide_eq_true g2) g3 (of_decide_eq_true g4) hT h
  | getfield ix =>
    obtain ⟨⟨h1, h2⟩, h3⟩ := pm_and3 hck
    dsimp only at h3
    split at h3
    · rename_i C T N hc
      obtain ⟨h4, h6⟩ := pm_and h3
      obtain ⟨h4, h5⟩ := pm_and h4
      refine px_getfield (of_decide_eq_true h1) (hN 3 (Nat.eq_of_beq_eq_true h2)) hc (of_decide_eq_true h4) (of_decide_eq_true h5) ?_ h
      split at h6
      · exact Or.inl (of_decide_eq_true h6)
      · exact Or.inr (of_decide_eq_true h6)
    · cases h3
  | putfield ix =>
    obtain ⟨⟨h1, h2⟩, h3⟩ := pm_and3 hck
    dsimp only at h3
    split at h3
    · rename_i C T N hc
      obtain ⟨h4, h8⟩ := pm_and h3
      obtain ⟨h4, h7⟩ := pm_and h4
      obtain ⟨h4, h6⟩ := pm_and h4
      obtain ⟨h4, h5⟩ := pm_and h4
      have hb9 := of_decide_eq_true h4
      have hty := (pm_cls hc).2.1 b hb9
      refine px_putfield (ty := pm_ty a b) (of_decide_eq_true h1) (hN 3 (Nat.eq_of_beq_eq_true h2)) hc hb9 (of_decide_eq_true h5) (of_decide_eq_true h6) ?_ hty ?_ h
      · rw [Bool.or_eq_true, Bool.and_eq_true] at h7
        rcases h7 with h7 | h7
        · left
          cases hq : (T b).2.2.2 with
          | true => rw [hq] at h7; cases h7
          | false => rfl
        · exact Or.inr ⟨of_decide_eq_true h7.1, of_decide_eq_true h7.2⟩
      · rw [hty] at h8
        exact h8
    · cases h3
  | newarray ty =>
    obtain ⟨⟨h1, h2⟩, h3⟩ := pm_and3 hck
    obtain ⟨h4, h5⟩ := pm_and h3
    exact px_newarray (of_decide_eq_true h1) (hN 2 (Nat.eq_of_beq_eq_true h2)) (of_decide_eq_true h4) (of_decide_eq_true h5) h
  | new ix =>
    obtain ⟨⟨h1, h2⟩, h3⟩ := pm_and3 hck
    cases c with
    | zero =>
      have h3 : (match vwCl[a]? with
        | some (C, T, N) => Nat.beq N b && decide (Cond.classLink (pm_pr me).1.cls ix C ∈ pm_tb) && decide (Cond.instantiable C N ∈ pm_tb) && decide (Cond.initialized C ∈ pm_tb)
        | none => false) = true := h3
      split at h3
      · rename_i C T N hc
        obtain ⟨h4, h7⟩ := pm_and h3
        obtain ⟨h4, h6⟩ := pm_and h4
        obtain ⟨h4, h5⟩ := pm_and h4
        exact px_new (of_decide_eq_true h1) (hN 3 (Nat.eq_of_beq_eq_true h2)) hc (Nat.eq_of_beq_eq_true h4) (of_decide_eq_true h5) (of_decide_eq_true h6) (of_decide_eq_true h7) h
      · cases h3
    | succ ic =>
      obtain ⟨g, g11⟩ := pm_and h3
      obtain ⟨g, g10⟩ := pm_and g
      obtain ⟨g, g9⟩ := pm_and g
      obtain ⟨g, g8⟩ := pm_and g
      obtain ⟨g, g7⟩ := pm_and g
      obtain ⟨g, g6⟩ := pm_and g
      obtain ⟨g, g5⟩ := pm_and g
      obtain ⟨g, g4⟩ := pm_and g
      obtain ⟨g, g3⟩ := pm_and g
      obtain ⟨g1, g2⟩ := pm_and g
      obtain ⟨q, hq, hq2⟩ := List.any_eq_true.mp g10
      obtain ⟨q1, q2⟩ := pm_and hq2
      have e1 := of_decide_eq_true q1
      have e2 := Nat.eq_of_beq_eq_true q2
      obtain ⟨qa, qb, qc⟩ := q
      dsimp only at e1 e2
      subst e1; subst e2
      refine px_throw (of_decide_eq_true h1) (of_decide_eq_true g1) (of_decide_eq_true g2) (of_decide_eq_true g3) (of_decide_eq_true g4) (of_decide_eq_true g5) (of_decide_eq_true g6) ?_ g8 g9 hq (List.isEmpty_iff.mp g11) h
      intro w9 hw9
      obtain ⟨z1, z2⟩ := pm_and (List.all_eq_true.mp g7 w9 hw9)
      rw [Bool.or_eq_true] at z1
      exact ⟨z1.imp of_decide_eq_true of_decide_eq_true, z2⟩
  | invokestatic ix =>
    obtain ⟨⟨h1, h2⟩, h3⟩ := pm_and3 hck
    obtain ⟨h4, h6⟩ := pm_and h3
    obtain ⟨h4, h5⟩ := pm_and h4
    exact px_invokestatic hJ hrow (of_decide_eq_true h1) (hN 3 (Nat.eq_of_beq_eq_true h2)) h4 (of_decide_eq_true h5) (of_decide_eq_true h6) h
  | invokevirtual ix =>
    obtain ⟨⟨h1, h2⟩, h3⟩ := pm_and3 hck
    cases b with
    | zero => cases h3
    | succ n =>
      obtain ⟨g, g6⟩ := pm_and h3
      obtain ⟨g, g5⟩ := pm_and g
      obtain ⟨g, g4⟩ := pm_and g
      obtain ⟨g, g3⟩ := pm_and g
      obtain ⟨g1, g2⟩ := pm_and g
      dsimp only at g6
      split at g6
      · rename_i C T9 N9 hc
        exact px_invokevirtual hJ hrow (of_decide_eq_true h1) (hN 3 (Nat.eq_of_beq_eq_true h2)) g1 (of_decide_eq_true g2) (of_decide_eq_true g3) (of_decide_eq_true g4) hc (of_decide_eq_true g6) h
      · cases g6
  | invokespecial ix =>
    obtain ⟨⟨h1, h2⟩, h3⟩ := pm_and3 hck
    cases h9 : Nat.beq a 9999 with
    | true =>
      dsimp only at h3
      rw [h9] at h3
      obtain ⟨h4, h6⟩ := pm_and h3
      obtain ⟨h4, h5⟩ := pm_and h4
      exact px_objInit (of_decide_eq_true h1) (hN 3 (Nat.eq_of_beq_eq_true h2)) h9 (of_decide_eq_true h4) (of_decide_eq_true h5) (of_decide_eq_true h6) h
    | false =>
      dsimp only at h3
      rw [h9] at h3
      cases h8 : Nat.beq a 9998 with
      | true =>
        dsimp only [pm_x] at h
        rw [h9] at h
        dsimp only at h
        rw [h8] at h
        exact h.elim
      | false =>
        rw [h8] at h3
        cases b with
        | zero => cases h3
        | succ n =>
          obtain ⟨g, g6⟩ := pm_and h3
          obtain ⟨g, g5⟩ := pm_and g
          obtain ⟨g, g4⟩ := pm_and g
          obtain ⟨g, g3⟩ := pm_and g
          obtain ⟨g1, g2⟩ := pm_and g
          refine px_invokespecial hJ hrow (of_decide_eq_true h1) (hN 3 (Nat.eq_of_beq_eq_true h2)) h9 h8 g1 (of_decide_eq_true g2) (of_decide_eq_true g3) (List.isEmpty_iff.mp g4) (of_decide_eq_true g5) ?_ h
          split at g6
          · exact Or.inl (of_decide_eq_true g6)
          · exact Or.inr (of_decide_eq_true g6)
  | ireturn =>
    obtain ⟨⟨h1, h2⟩, h3⟩ := pm_and3 hck
    exact px_ireturn (of_decide_eq_true h1) h
  | lreturn =>
    obtain ⟨⟨h1, h2⟩, h3⟩ := pm_and3 hck
    exact px_lreturn (of_decide_eq_true h1) h
  | areturn =>
    obtain ⟨⟨h1, h2⟩, h3⟩ := pm_and3 hck
    exact px_areturn (of_decide_eq_true h1) h
  | return_ =>
    obtain ⟨⟨h1, h2⟩, h3⟩ := pm_and3 hck
    exact px_return (of_decide_eq_true h1) h
  | _ => exact h.elim
