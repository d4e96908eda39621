/-! RINGS: a list that lies in an array, from a place on, round the end; wires as lists of frames -/
def rg {α : Type} (m : Nat) (f : Nat → α) (b : Nat) (l : List α) : Prop := ∀ (i : Nat) (x : α), l[i]? = some x → f ((b + i) % m) = x
theorem rg_set {α : Type} {m : Nat} {f g : Nat → α} {b i : Nat} {l : List α} {x : α} (inj : ∀ i j, i < m → j < m → (b + i) % m = (b + j) % m → i = j) (hl : l.length ≤ m) (h : rg m f b l) (hi : i < m) (hg : g ((b + i) % m) = x) (hn : ∀ j, j ≠ (b + i) % m → g j = f j) : rg m g b (l.set i x) := by
  intro j y hj
  have hjl : j < l.length := by
    have := (List.getElem?_eq_some_iff.mp hj).1
    simpa using this
  by_cases hij : i = j
  · subst hij
    rw [List.getElem?_set_self hjl] at hj
    rw [hg]
    exact Option.some.inj hj
  · rw [List.getElem?_set_ne hij] at hj
    rw [hn _ (fun q => hij (inj i j hi (by omega) q.symm))]
    exact h j y hj
theorem rg_snoc {α : Type} {m : Nat} {f g : Nat → α} {b : Nat} {l : List α} {x : α} (inj : ∀ i j, i < m → j < m → (b + i) % m = (b + j) % m → i = j) (hl : l.length < m) (h : rg m f b l) (hg : g ((b + l.length) % m) = x) (hn : ∀ j, j ≠ (b + l.length) % m → g j = f j) : rg m g b (l ++ [x]) := by
  intro j y hj
  by_cases hjl : j < l.length
  · rw [List.getElem?_append_left hjl] at hj
    rw [hn _ (fun q => by have := inj j l.length (by omega) hl q; omega)]
    exact h j y hj
  · rw [List.getElem?_append_right (by omega)] at hj
    have hz : j - l.length < 1 := (List.getElem?_eq_some_iff.mp hj).1
    have hj2 : j = l.length := by omega
    subst hj2
    simp at hj
    rw [hg, hj]
theorem rg_tail {α : Type} {m : Nat} {f : Nat → α} {b : Nat} {l : List α} {x : α} (h : rg m f b (x :: l)) : f (b % m) = x ∧ rg m f (b + 1) l := by
  refine ⟨by simpa using h 0 x rfl, fun i y hi => ?_⟩
  have := h (i + 1) y (by simpa using hi)
  rw [show b + 1 + i = b + (i + 1) by omega]
  exact this
theorem rg_base {α : Type} {m : Nat} {f : Nat → α} {b b2 : Nat} {l : List α} (hb : ∀ i, (b + i) % m = (b2 + i) % m) (h : rg m f b l) : rg m f b2 l := fun i x hi => by rw [← hb i]; exact h i x hi
theorem rg_cons {α : Type} {m : Nat} {f g : Nat → α} {b b2 : Nat} {l : List α} {x : α} (inj : ∀ i j, i < m → j < m → (b + i) % m = (b + j) % m → i = j) (hb : ∀ i, (b + (i + 1)) % m = (b2 + i) % m) (hl : l.length < m) (h : rg m f b2 l) (hg : g (b % m) = x) (hn : ∀ j, j ≠ b % m → g j = f j) : rg m g b (x :: l) := by
  intro j y hj
  cases j with
  | zero => simp at hj; rw [Nat.add_zero, hg, hj]
  | succ j =>
    have hj2 : l[j]? = some y := by simpa using hj
    have hjl : j < l.length := (List.getElem?_eq_some_iff.mp hj2).1
    rw [hn _ (fun q => by
      have := inj (j + 1) 0 (by omega) (by omega) (by rw [Nat.add_zero]; exact q)
      omega), hb j]
    exact h j y hj2
theorem rg_map {α β : Type} {m : Nat} {f : Nat → β} {b : Nat} {g : α → β} {l : List α} {i : Nat} {x : α} (h : rg m f b (l.map g)) (hi : l[i]? = some x) : f ((b + i) % m) = g x := h i (g x) (by rw [List.getElem?_map, hi]; rfl)
theorem inj16 (b : Nat) : ∀ i j, i < 16 → j < 16 → (b + i) % 16 = (b + j) % 16 → i = j := by intro i j h1 h2 h3; omega
theorem inj32 (b : Nat) : ∀ i j, i < 32 → j < 32 → (b + i) % 32 = (b + j) % 32 → i = j := by intro i j h1 h2 h3; omega
theorem inj256 (b : Nat) : ∀ i j, i < 256 → j < 256 → (b + i) % 256 = (b + j) % 256 → i = j := by intro i j h1 h2 h3; omega
/-! numbers of the machine -/
theorem n31 {n : Nat} (h : n < 2 ^ 32) : nI n &&& 31 = nI (n % 32) := pk_andN h (m := 31) 5 (by decide +kernel)
theorem n15 {n : Nat} (h : n < 2 ^ 32) : nI n &&& 15 = nI (n % 16) := pk_andN h (m := 15) 4 (by decide +kernel)
theorem n255 {n : Nat} (h : n < 2 ^ 32) : nI n &&& 255 = nI (n % 256) := pk_andN h (m := 255) 8 (by decide +kernel)
theorem nsub {a b : Nat} (ha : a ≤ 256) (hb : b < 65536) : (nI b - nI a) &&& 255 = nI ((b + 256 - a) % 256) := by
  rw [pk_and (nI b - nI a) (m := 255) 8 (by decide +kernel)]
  refine congrArg nI ?_
  have e1 : (nI b).toBitVec.toNat = b := pk_tn (by omega)
  have e2 : (nI a).toBitVec.toNat = a := pk_tn (by omega)
  show (nI b - nI a).toBitVec.toNat % 256 = _
  rw [Int32.toBitVec_sub, BitVec.toNat_sub, e1, e2]
  omega
theorem nm1 {a : Nat} (h : a < 65536) : (nI a + -1) &&& 31 = nI ((a + 31) % 32) := by
  rw [pk_and (nI a + -1) (m := 31) 5 (by decide +kernel)]
  refine congrArg nI ?_
  have e1 : (nI a).toBitVec.toNat = a := pk_tn (by omega)
  have e2 : (-1 : Int32).toBitVec.toNat = 4294967295 := by decide +kernel
  show (nI a + -1).toBitVec.toNat % 32 = _
  rw [Int32.toBitVec_add, BitVec.toNat_add, e1, e2]
  omega
theorem vin {n N : Nat} (h : n < N) (hN : N < 2 ^ 31) : vp_in (nI n) N := vp_in_nI h hN
/-! wires -/
def rW (Rm : Nat) (q : List (Int64 × Int32)) (o c r : Int32) (b : Nat → Int64) (s : Nat → Int32) : Prop := ∃ O : Nat, O < 32 ∧ o = nI O ∧ c = nI q.length ∧ r = nI Rm ∧ Rm ≤ 32 ∧ q.length ≤ Rm ∧ rg 32 b O (q.map (·.1)) ∧ rg 32 s O (q.map (·.2))
theorem rW_put {Rm : Nat} {q : List (Int64 × Int32)} {o c r : Int32} {b : Nat → Int64} {s : Nat → Int32} {x : Int64} {y : Int32} (h : rW Rm q o c r b s) (hq : q.length < Rm) : rW Rm (q ++ [(x, y)]) o (c + 1) r (vp_updL b ((o + c) &&& 31).toNatClampNeg x) (upd s ((o + c) &&& 31).toNatClampNeg y) := by
  obtain ⟨O, h1, rfl, rfl, rfl, h5, h6, h7, h8⟩ := h
  have e : ((nI O + nI q.length) &&& 31).toNatClampNeg = (O + q.length) % 32 := by rw [nI_add, n31 (by omega), nI_clamp (by omega)]
  rw [e]
  refine ⟨O, h1, rfl, by rw [nI_1]; simp, rfl, h5, by simp; omega, ?_, ?_⟩
  · rw [List.map_append]
    exact rg_snoc (inj32 O) (by simp; omega) h7 (by simp [pk_uLs]) (fun j hj => pk_uLn (by simpa using hj))
  · rw [List.map_append]
    exact rg_snoc (inj32 O) (by simp; omega) h8 (by simp [pk_us]) (fun j hj => pk_un (by simpa using hj))
theorem rW_in {Rm : Nat} {q : List (Int64 × Int32)} {o c r : Int32} {b : Nat → Int64} {s : Nat → Int32} (h : rW Rm q o c r b s) : vp_in o 32 := by
  obtain ⟨O, h1, rfl, -⟩ := h
  exact vin h1 (by omega)
theorem rW_take {Rm : Nat} {f : Int64 × Int32} {q : List (Int64 × Int32)} {o c r : Int32} {b : Nat → Int64} {s : Nat → Int32} (h : rW Rm (f :: q) o c r b s) : b o.toNatClampNeg = f.1 ∧ s o.toNatClampNeg = f.2 ∧ rW Rm q ((o + 1) &&& 31) (c - 1) r b s := by
  obtain ⟨O, h1, rfl, rfl, rfl, h5, h6, h7, h8⟩ := h
  obtain ⟨g1, g2⟩ := rg_tail h7
  obtain ⟨g3, g4⟩ := rg_tail h8
  simp only [List.length_cons] at h6
  rw [Nat.mod_eq_of_lt h1] at g1 g3
  rw [nI_clamp (by omega)]
  refine ⟨g1, g3, (O + 1) % 32, by omega, ?_, ?_, rfl, h5, by omega, rg_base (fun i => by omega) g2, rg_base (fun i => by omega) g4⟩
  · rw [nI_1, n31 (by omega)]
  · simp only [List.length_cons]
    exact nI_pred _
theorem rW_double {Rm : Nat} {f : Int64 × Int32} {q : List (Int64 × Int32)} {o c r : Int32} {b : Nat → Int64} {s : Nat → Int32} (h : rW Rm (f :: q) o c r b s) (hq : q.length + 1 < Rm) : rW Rm (f :: f :: q) ((o + -1) &&& 31) (c + 1) r (vp_updL b ((o + -1) &&& 31).toNatClampNeg (b o.toNatClampNeg)) (upd s ((o + -1) &&& 31).toNatClampNeg (s o.toNatClampNeg)) := by
  obtain ⟨f1, f2, -⟩ := rW_take h
  rw [f1, f2]
  obtain ⟨O, h1, rfl, rfl, rfl, h5, h6, h7, h8⟩ := h
  have e : (nI O + -1) &&& 31 = nI ((O + 31) % 32) := nm1 (by omega)
  rw [e, nI_clamp (by omega)]
  refine ⟨(O + 31) % 32, by omega, rfl, by rw [nI_1]; simp, rfl, h5, by simp; omega, ?_, ?_⟩
  · refine rg_cons (m := 32) (f := b) (b2 := O) (inj32 _) (fun i => by omega) (by simp; omega) h7 ?_ (fun j hj => pk_uLn ?_)
    · rw [Nat.mod_mod, pk_uLs]
    · rw [Nat.mod_mod] at hj; exact hj
  · refine rg_cons (m := 32) (f := s) (b2 := O) (inj32 _) (fun i => by omega) (by simp; omega) h8 ?_ (fun j hj => pk_un ?_)
    · rw [Nat.mod_mod, pk_us]
    · rw [Nat.mod_mod] at hj; exact hj
theorem rW_turnB {Rm : Nat} {f : Int64 × Int32} {q : List (Int64 × Int32)} {o c r : Int32} {b : Nat → Int64} {s : Nat → Int32} {z : Int64} (h : rW Rm (f :: q) o c r b s) : rW Rm ((f.1 ^^^ z, f.2) :: q) o c r (vp_updL b o.toNatClampNeg (b o.toNatClampNeg ^^^ z)) s := by
  obtain ⟨f1, f2, -⟩ := rW_take h
  rw [f1]
  obtain ⟨O, h1, rfl, rfl, rfl, h5, h6, h7, h8⟩ := h
  rw [nI_clamp (by omega)]
  refine ⟨O, h1, rfl, rfl, rfl, h5, h6, ?_, h8⟩
  have := rg_set (i := 0) (x := f.1 ^^^ z) (g := vp_updL b O (f.1 ^^^ z)) (inj32 O) (by simp only [List.length_map]; omega) h7 (by omega) (by rw [Nat.add_zero, Nat.mod_eq_of_lt h1, pk_uLs]) (fun j hj => pk_uLn (by rw [Nat.add_zero, Nat.mod_eq_of_lt h1] at hj; exact hj))
  exact this
theorem rW_turnS {Rm : Nat} {f : Int64 × Int32} {q : List (Int64 × Int32)} {o c r : Int32} {b : Nat → Int64} {s : Nat → Int32} {z : Int32} (h : rW Rm (f :: q) o c r b s) : rW Rm ((f.1, f.2 ^^^ z) :: q) o c r b (upd s o.toNatClampNeg (s o.toNatClampNeg ^^^ z)) := by
  obtain ⟨f1, f2, -⟩ := rW_take h
  rw [f2]
  obtain ⟨O, h1, rfl, rfl, rfl, h5, h6, h7, h8⟩ := h
  rw [nI_clamp (by omega)]
  refine ⟨O, h1, rfl, rfl, rfl, h5, h6, h7, ?_⟩
  have := rg_set (i := 0) (x := f.2 ^^^ z) (g := upd s O (f.2 ^^^ z)) (inj32 O) (by simp only [List.length_map]; omega) h8 (by omega) (by rw [Nat.add_zero, Nat.mod_eq_of_lt h1, pk_us]) (fun j hj => pk_un (by rw [Nat.add_zero, Nat.mod_eq_of_lt h1] at hj; exact hj))
  exact this
theorem rW_move {Rm : Nat} {f : Int64 × Int32} {q : List (Int64 × Int32)} {o c r : Int32} {b : Nat → Int64} {s : Nat → Int32} (h : rW Rm (f :: q) o c r b s) : rW Rm (q ++ [f]) ((o + 1) &&& 31) (c - 1 + 1) r (vp_updL b ((((o + 1) &&& 31) + (c - 1)) &&& 31).toNatClampNeg (b o.toNatClampNeg)) (upd s ((((o + 1) &&& 31) + (c - 1)) &&& 31).toNatClampNeg (s o.toNatClampNeg)) := by
  obtain ⟨f1, f2, h2⟩ := rW_take h
  rw [f1, f2]
  refine rW_put h2 ?_
  obtain ⟨O, h1, -, -, -, -, h6, -⟩ := h
  simp only [List.length_cons] at h6
  omega
theorem rW_at {Rm : Nat} {q : List (Int64 × Int32)} {o c r : Int32} {b : Nat → Int64} {s : Nat → Int32} {i : Nat} {f : Int64 × Int32} (h : rW Rm q o c r b s) (hi : q[i]? = some f) : b ((o + nI i) &&& 31).toNatClampNeg = f.1 ∧ s ((o + nI i) &&& 31).toNatClampNeg = f.2 := by
  obtain ⟨O, h1, rfl, rfl, rfl, h5, h6, h7, h8⟩ := h
  have hil : i < q.length := (List.getElem?_eq_some_iff.mp hi).1
  rw [nI_add, n31 (by omega), nI_clamp (by omega)]
  exact ⟨rg_map h7 hi, rg_map h8 hi⟩
theorem rW_0 {Rm : Nat} (h : Rm ≤ 32) (b : Nat → Int64) (s : Nat → Int32) : rW Rm [] 0 0 (nI Rm) b s := ⟨0, by omega, rfl, rfl, rfl, h, Nat.zero_le _, fun i x hi => by simp at hi, fun i x hi => by simp at hi⟩
