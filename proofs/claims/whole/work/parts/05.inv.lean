/-! what the machine's small words say -/
theorem pm_get_inv {α : Type} : ∀ (l : List α) (n : Nat) (k : α → Prop), pm_get l n k → ∃ a, l[n]? = some a ∧ k a
  | [], _, _, h => h.elim
  | a :: _, 0, _, h => ⟨a, rfl, h⟩
  | _ :: t, n + 1, k, h => by
    obtain ⟨a, h1, h2⟩ := pm_get_inv t n k h
    exact ⟨a, by simpa using h1, h2⟩
theorem pm_set_inv {α : Type} : ∀ (l : List α) (n : Nat) (x : α) (k : List α → Prop), pm_set l n x k → n < l.length ∧ k (l.set n x)
  | [], _, _, _, h => h.elim
  | _ :: _, 0, _, _, h => ⟨Nat.succ_pos _, h⟩
  | a :: t, n + 1, x, k, h => by
    obtain ⟨h1, h2⟩ := pm_set_inv t n x (fun u => k (a :: u)) h
    exact ⟨Nat.succ_lt_succ h1, h2⟩
theorem pm_i1_inv {st : List Value} {k : Int32 → List Value → Prop} (h : pm_i1 st k) : ∃ x t, st = .int x :: t ∧ k x t := by
  unfold pm_i1 at h
  split at h
  · exact ⟨_, _, rfl, h⟩
  · exact h.elim
theorem pm_i2_inv {st : List Value} {k : Int32 → Int32 → List Value → Prop} (h : pm_i2 st k) : ∃ x y t, st = .int y :: .int x :: t ∧ k x y t := by
  unfold pm_i2 at h
  split at h
  · exact ⟨_, _, _, rfl, h⟩
  · exact h.elim
theorem pm_l1_inv {st : List Value} {k : Int64 → List Value → Prop} (h : pm_l1 st k) : ∃ x t, st = .long x :: t ∧ k x t := by
  unfold pm_l1 at h
  split at h
  · exact ⟨_, _, rfl, h⟩
  · exact h.elim
theorem pm_l2_inv {st : List Value} {k : Int64 → Int64 → List Value → Prop} (h : pm_l2 st k) : ∃ x y t, st = .long y :: .long x :: t ∧ k x y t := by
  unfold pm_l2 at h
  split at h
  · exact ⟨_, _, _, rfl, h⟩
  · exact h.elim
theorem pm_li_inv {st : List Value} {k : Int64 → Int32 → List Value → Prop} (h : pm_li st k) : ∃ x y t, st = .int y :: .long x :: t ∧ k x y t := by
  unfold pm_li at h
  split at h
  · exact ⟨_, _, _, rfl, h⟩
  · exact h.elim
theorem pm_r1_inv {st : List Value} {k : Nat → List Value → Prop} (h : pm_r1 st k) : ∃ x t, st = .ref x :: t ∧ k x t := by
  unfold pm_r1 at h
  split at h
  · exact ⟨_, _, rfl, h⟩
  · exact h.elim
theorem pm_ldI_inv {L : pm_V} {i : Nat} {k : Int32 → Prop} (h : pm_ldI L i k) : ∃ x, L[i]? = some (some (.int x)) ∧ k x := by
  obtain ⟨o, h1, h2⟩ := pm_get_inv _ _ _ h
  split at h2
  · exact ⟨_, h1, h2⟩
  · exact h2.elim
theorem pm_ldJ_inv {L : pm_V} {i : Nat} {k : Int64 → Prop} (h : pm_ldJ L i k) : ∃ x, L[i]? = some (some (.long x)) ∧ k x := by
  obtain ⟨o, h1, h2⟩ := pm_get_inv _ _ _ h
  split at h2
  · exact ⟨_, h1, h2⟩
  · exact h2.elim
theorem pm_ldR_inv {L : pm_V} {i : Nat} {k : Nat → Prop} (h : pm_ldR L i k) : ∃ x, L[i]? = some (some (.ref x)) ∧ k x := by
  obtain ⟨o, h1, h2⟩ := pm_get_inv _ _ _ h
  split at h2
  · exact ⟨_, h1, h2⟩
  · exact h2.elim
theorem pm_pop_inv : ∀ (n : Nat) (st vs : List Value) (k : List Value → List Value → Prop), pm_pop n st vs k → ∃ us t, us.length = n ∧ st = us ++ t ∧ k (us.reverse ++ vs) t
  | 0, st, vs, k, h => ⟨[], st, rfl, rfl, h⟩
  | n + 1, v :: st, vs, k, h => by
    obtain ⟨us, t, h1, h2, h3⟩ := pm_pop_inv n st (v :: vs) k h
    exact ⟨v :: us, t, by simp [h1], by simp [h2], by simpa using h3⟩
  | _ + 1, [], _, _, h => h.elim
theorem pm_snoc_inv : ∀ (n : Nat) (w : pm_D) (e : va_E) (k : Nat → pm_D → Prop), pm_snoc n w e k → k (n + w.length) (w ++ [e])
  | n, [], e, k, h => h
  | n, x :: t, e, k, h => by
    have h1 := pm_snoc_inv (n + 1) t e (fun r u => k r (x :: u)) h
    have e1 : n + 1 + t.length = n + (x :: t).length := by simp; omega
    rw [e1] at h1
    exact h1
theorem pm_from_inv : ∀ (rs : List pm_R) (pc : Nat) (r : pm_R) (t : List pm_R), pm_from rs pc = r :: t → r.1 = pc ∧ ∃ pre, rs = pre ++ r :: t
  | [], _, _, _, h => by simp [pm_from] at h
  | q :: u, pc, r, t, h => by
    unfold pm_from at h
    split at h
    · rename_i hb
      cases h
      exact ⟨Nat.eq_of_beq_eq_true hb, [], rfl⟩
    · obtain ⟨h1, pre, h2⟩ := pm_from_inv u pc r t h
      exact ⟨h1, q :: pre, by rw [h2]; rfl⟩
theorem pm_few_inv : ∀ (st : List Value) (n : Nat), pm_few st n = true → (st.map fun v => v.category).sum ≤ n
  | [], n, _ => by simp
  | .long _ :: t, n + 2, h => by
    have h1 := pm_few_inv t n h
    rw [List.map_cons, List.sum_cons]
    show 2 + _ ≤ _
    omega
  | .double _ :: t, n + 2, h => by
    have h1 := pm_few_inv t n h
    rw [List.map_cons, List.sum_cons]
    show 2 + _ ≤ _
    omega
  | .int _ :: t, n + 1, h => by
    have h1 := pm_few_inv t n h
    rw [List.map_cons, List.sum_cons]
    show 1 + _ ≤ _
    omega
  | .ref _ :: t, n + 1, h => by
    have h1 := pm_few_inv t n h
    rw [List.map_cons, List.sum_cons]
    show 1 + _ ≤ _
    omega
  | .null :: t, n + 1, h => by
    have h1 := pm_few_inv t n h
    rw [List.map_cons, List.sum_cons]
    show 1 + _ ≤ _
    omega
  | .float _ :: _, _, h => by simp [pm_few] at h
  | .retAddr _ :: _, _, h => by simp [pm_few] at h
  | .long _ :: _, 0, h => by simp [pm_few] at h
  | .long _ :: _, 1, h => by simp [pm_few] at h
  | .double _ :: _, 0, h => by simp [pm_few] at h
  | .double _ :: _, 1, h => by simp [pm_few] at h
  | .int _ :: _, 0, h => by simp [pm_few] at h
  | .ref _ :: _, 0, h => by simp [pm_few] at h
  | .null :: _, 0, h => by simp [pm_few] at h
theorem pm_cat (ad : Nat → Nat) (v : Value) : (pm_v ad v).category = v.category := by cases v <;> rfl
theorem pm_cats (ad : Nat → Nat) (st : List Value) : ((st.map (pm_v ad)).map fun v => v.category) = st.map fun v => v.category := by
  rw [List.map_map]
  exact List.map_congr_left (fun v _ => pm_cat ad v)
/-! pictures -/
theorem pm_pf_get (dA : Nat → ClassId) (ad : Nat → Nat) : ∀ (w : pm_D) (i k : Nat), (pm_pf dA ad i w)[k]? = (w[k]?).map (fun e => (ad (i + k), pm_e dA ad e))
  | [], i, k => by simp [pm_pf]
  | e :: t, i, 0 => by simp [pm_pf]
  | e :: t, i, k + 1 => by
    have h := pm_pf_get dA ad t (i + 1) k
    simp only [pm_pf, List.getElem?_cons_succ, h]
    rw [show i + 1 + k = i + (k + 1) by omega]
theorem pm_pf_set (dA : Nat → ClassId) (ad : Nat → Nat) : ∀ (w : pm_D) (i k : Nat) (e : va_E), pm_pf dA ad i (w.set k e) = (pm_pf dA ad i w).set k (ad (i + k), pm_e dA ad e)
  | [], i, k, e => by simp [pm_pf]
  | x :: t, i, 0, e => by simp [pm_pf]
  | x :: t, i, k + 1, e => by
    have h := pm_pf_set dA ad t (i + 1) k e
    simp only [pm_pf, List.set_cons_succ, h]
    rw [show i + 1 + k = i + (k + 1) by omega]
theorem pm_pf_snoc (dA : Nat → ClassId) (ad : Nat → Nat) : ∀ (w : pm_D) (i : Nat) (e : va_E), pm_pf dA ad i (w ++ [e]) = pm_pf dA ad i w ++ [(ad (i + w.length), pm_e dA ad e)]
  | [], i, e => by simp [pm_pf]
  | x :: t, i, e => by
    have h := pm_pf_snoc dA ad t (i + 1) e
    simp only [pm_pf, List.cons_append, h]
    rw [show i + 1 + t.length = i + (x :: t).length by simp; omega]
theorem pm_pic_get {dA : Nat → ClassId} {ad : Nat → Nat} {w : pm_D} {k : Nat} {e : va_E} (h : w[k]? = some e) : (pm_pic dA ad w)[k]? = some (ad (k + 1), pm_e dA ad e) := by
  show (pm_pf dA ad 1 w)[k]? = _
  rw [pm_pf_get, h, Nat.add_comm 1 k]
  rfl
theorem pm_pic_set {dA : Nat → ClassId} {ad : Nat → Nat} {w : pm_D} {k : Nat} {e : va_E} : pm_pic dA ad (w.set k e) = (pm_pic dA ad w).set k (ad (k + 1), pm_e dA ad e) := by
  show pm_pf dA ad 1 (w.set k e) = (pm_pf dA ad 1 w).set k _
  rw [pm_pf_set, Nat.add_comm 1 k]
/-! locals -/
theorem pm_as_mem (ad : Nat → Nat) : ∀ (L : pm_V) (i j : Nat) (u : Value), (j, u) ∈ pm_as ad i L ↔ ∃ n v, j = i + n ∧ L[n]? = some (some v) ∧ u = pm_v ad v
  | [], i, j, u => by simp [pm_as]
  | none :: t, i, j, u => by
    simp only [pm_as, pm_as_mem ad t (i + 1) j u]
    constructor
    · rintro ⟨n, v, h1, h2, h3⟩
      exact ⟨n + 1, v, by omega, by simpa using h2, h3⟩
    · rintro ⟨n, v, h1, h2, h3⟩
      cases n with
      | zero => simp at h2
      | succ n => exact ⟨n, v, by omega, by simpa using h2, h3⟩
  | some x :: t, i, j, u => by
    simp only [pm_as, List.mem_cons, Prod.mk.injEq, pm_as_mem ad t (i + 1) j u]
    constructor
    · rintro (⟨h1, h2⟩ | ⟨n, v, h1, h2, h3⟩)
      · exact ⟨0, x, by omega, rfl, h2⟩
      · exact ⟨n + 1, v, by omega, by simpa using h2, h3⟩
    · rintro ⟨n, v, h1, h2, h3⟩
      cases n with
      | zero =>
        simp only [List.getElem?_cons_zero, Option.some.injEq] at h2
        exact Or.inl ⟨by omega, by rw [h3, h2]⟩
      | succ n => exact Or.inr ⟨n, v, by omega, by simpa using h2, h3⟩
theorem pm_lget {ad : Nat → Nat} {ls : Array Slot} {n : Nat} {L : pm_V} {i : Nat} {v : Value} (h : lv_has ls n (pm_as ad 0 L)) (hi : L[i]? = some (some v)) : ls[i]? = some (.val (pm_v ad v)) :=
  h.2.2 (i, pm_v ad v) ((pm_as_mem ad L 0 i _).mpr ⟨i, v, by omega, hi, rfl⟩)
theorem pm_lidx {ad : Nat → Nat} {L : pm_V} {i : Nat} {v : Value} (hi : L[i]? = some (some v)) : ∃ k : Nat, (pm_as ad 0 L)[k]? = some (i, pm_v ad v) :=
  List.getElem?_of_mem ((pm_as_mem ad L 0 i _).mpr ⟨i, v, by omega, hi, rfl⟩)
theorem pm_cl_inv {n : Nat} {a : Option Value} {k : Option Value → Prop} (h : pm_cl n a k) : ∃ b, k b ∧ ∀ u, b = some u → a = some u ∧ ¬ (n = 0 ∧ u.category = 2) := by
  unfold pm_cl at h
  split at h
  · exact ⟨none, h, fun u hu => by cases hu⟩
  · exact ⟨none, h, fun u hu => by cases hu⟩
  · rename_i h1 h2
    refine ⟨a, h, fun u hu => ⟨hu, fun ⟨hn, hc⟩ => ?_⟩⟩
    subst hn
    cases u with
    | long x => exact h1 x rfl hu
    | double x => exact h2 x rfl hu
    | _ => simp [Value.category] at hc
theorem pm_st1_inv : ∀ (L : pm_V) (i : Nat) (o : Option Value) (k : pm_V → Prop), pm_st1 L i o k → ∃ M : pm_V, k M ∧ i < L.length ∧ M.length = L.length ∧ ∀ j u, M[j]? = some (some u) → (j = i ∧ o = some u) ∨ (j ≠ i ∧ L[j]? = some (some u) ∧ ¬ (j + 1 = i ∧ u.category = 2))
  | [], _, _, _, h => h.elim
  | a :: t, 0, o, k, h => by
    refine ⟨o :: t, h, Nat.succ_pos _, rfl, fun j u hj => ?_⟩
    cases j with
    | zero => simp at hj; exact Or.inl ⟨rfl, hj⟩
    | succ j => exact Or.inr ⟨by omega, by simpa using hj, by omega⟩
  | a :: t, n + 1, o, k, h => by
    obtain ⟨M, h1, h2, h3, h4⟩ := pm_st1_inv t n o _ h
    obtain ⟨b, h5, h6⟩ := pm_cl_inv h1
    refine ⟨b :: M, h5, Nat.succ_lt_succ h2, by simp [h3], fun j u hj => ?_⟩
    cases j with
    | zero =>
      simp at hj
      obtain ⟨g1, g2⟩ := h6 u hj
      exact Or.inr ⟨by omega, by simp [g1], fun ⟨z1, z2⟩ => g2 ⟨by omega, z2⟩⟩
    | succ j =>
      rcases h4 j u (by simpa using hj) with ⟨e1, e2⟩ | ⟨e1, e2, e3⟩
      · exact Or.inl ⟨by omega, e2⟩
      · exact Or.inr ⟨by omega, by simpa using e2, fun ⟨z1, z2⟩ => e3 ⟨by omega, z2⟩⟩
theorem pm_st2_inv : ∀ (L : pm_V) (i : Nat) (v : Value) (k : pm_V → Prop), pm_st2 L i v k → ∃ M : pm_V, k M ∧ i + 1 < L.length ∧ M.length = L.length ∧ ∀ j u, M[j]? = some (some u) → (j = i ∧ v = u) ∨ (j ≠ i ∧ j ≠ i + 1 ∧ L[j]? = some (some u) ∧ ¬ (j + 1 = i ∧ u.category = 2))
  | [], _, _, _, h => h.elim
  | [_], 0, _, _, h => h.elim
  | [_], _ + 1, _, _, h => h.elim
  | a :: b :: t, 0, v, k, h => by
    refine ⟨some v :: none :: t, h, by simp, rfl, fun j u hj => ?_⟩
    match j, hj with
    | 0, hj => simp at hj; exact Or.inl ⟨rfl, hj⟩
    | 1, hj => simp at hj
    | j + 2, hj => exact Or.inr ⟨by omega, by omega, by simpa using hj, by omega⟩
  | a :: b :: t, n + 1, v, k, h => by
    obtain ⟨M, h1, h2, h3, h4⟩ := pm_st2_inv (b :: t) n v _ h
    obtain ⟨b1, h5, h6⟩ := pm_cl_inv h1
    refine ⟨b1 :: M, h5, Nat.succ_lt_succ h2, by simp [h3], fun j u hj => ?_⟩
    cases j with
    | zero =>
      simp at hj
      obtain ⟨g1, g2⟩ := h6 u hj
      exact Or.inr ⟨by omega, by omega, by simp [g1], fun ⟨z1, z2⟩ => g2 ⟨by omega, z2⟩⟩
    | succ j =>
      rcases h4 j u (by simpa using hj) with ⟨e1, e2⟩ | ⟨e1, e2, e3, e4⟩
      · exact Or.inl ⟨by omega, e2⟩
      · exact Or.inr ⟨by omega, by omega, by simpa using e3, fun ⟨z1, z2⟩ => e4 ⟨by omega, z2⟩⟩
/-- behind a store: of one slot (M: the list with o at i) -/
theorem pm_lst1 {ad : Nat → Nat} {ls : Array Slot} {nL : Nat} {L M : pm_V} {i : Nat} {v : Value} {o : Option Value} (hM : M.length = nL) (ho : ∀ u, o = some u → v = pm_v ad u)
    (h4 : ∀ j u, M[j]? = some (some u) → (j = i ∧ o = some u) ∨ (j ≠ i ∧ L[j]? = some (some u) ∧ ¬ (j + 1 = i ∧ u.category = 2)))
    (h : lv_has ls nL ((i, v) :: (pm_as ad 0 L).filter (fun q => !(q.1 == i) && !(q.1 + 1 == i && q.2.category == 2)))) : lv_has ls M.length (pm_as ad 0 M) := by
  refine ⟨by rw [hM]; exact h.1, h.2.1, fun q hq => h.2.2 q ?_⟩
  obtain ⟨j, u⟩ := q
  obtain ⟨n, x, e1, e2, e3⟩ := (pm_as_mem ad M 0 j u).mp hq
  have e4 : j = n := by omega
  subst e4
  rcases h4 j x e2 with ⟨g1, g2⟩ | ⟨g1, g2, g3⟩
  · rw [e3, g1, ho x g2]
    exact List.mem_cons_self
  · refine List.mem_cons_of_mem _ (List.mem_filter.mpr ⟨(pm_as_mem ad L 0 j u).mpr ⟨j, x, by omega, g2, e3⟩, ?_⟩)
    have c1 : (pm_v ad x).category = x.category := pm_cat ad x
    simp only [e3, c1, Bool.and_eq_true, Bool.not_eq_true', beq_eq_false_iff_ne, Bool.and_eq_false_iff, ne_eq]
    refine ⟨g1, ?_⟩
    by_cases z : j + 1 = i
    · exact Or.inr (fun z2 => g3 ⟨z, z2⟩)
    · exact Or.inl z
theorem pm_lst2 {ad : Nat → Nat} {ls : Array Slot} {nL : Nat} {L M : pm_V} {i : Nat} {v : Value} (hM : M.length = nL) (hv : pm_v ad v = v)
    (h4 : ∀ j u, M[j]? = some (some u) → (j = i ∧ v = u) ∨ (j ≠ i ∧ j ≠ i + 1 ∧ L[j]? = some (some u) ∧ ¬ (j + 1 = i ∧ u.category = 2)))
    (h : lv_has ls nL ((i, v) :: (pm_as ad 0 L).filter (fun q => !(q.1 == i) && (!(q.1 == i + 1) && !(q.1 + 1 == i && q.2.category == 2))))) : lv_has ls M.length (pm_as ad 0 M) := by
  refine ⟨by rw [hM]; exact h.1, h.2.1, fun q hq => h.2.2 q ?_⟩
  obtain ⟨j, u⟩ := q
  obtain ⟨n, x, e1, e2, e3⟩ := (pm_as_mem ad M 0 j u).mp hq
  have e4 : j = n := by omega
  subst e4
  rcases h4 j x e2 with ⟨g1, g2⟩ | ⟨g1, g1', g2, g3⟩
  · rw [e3, g1, ← g2, hv]
    exact List.mem_cons_self
  · refine List.mem_cons_of_mem _ (List.mem_filter.mpr ⟨(pm_as_mem ad L 0 j u).mpr ⟨j, x, by omega, g2, e3⟩, ?_⟩)
    have c1 : (pm_v ad x).category = x.category := pm_cat ad x
    simp only [e3, c1, Bool.and_eq_true, Bool.not_eq_true', beq_eq_false_iff_ne, Bool.and_eq_false_iff, ne_eq]
    refine ⟨g1, g1', ?_⟩
    by_cases z : j + 1 = i
    · exact Or.inr (fun z2 => g3 ⟨z, z2⟩)
    · exact Or.inl z
