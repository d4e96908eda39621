/-! ABSTRACT STATES: entries of the sender by their distance from base; the receiver's words by their distance from first; m is 16 in the class, 256 in the reference -/
def bI (h : Bool) : Int32 := if h then 1 else 0
theorem bI0 {h : Bool} : bI h = 0 ↔ h = false := by cases h <;> simp [bI]
theorem bI1 {h : Bool} : ¬ bI h = 0 ↔ h = true := by cases h <;> simp [bI]
abbrev Ent : Type := Int32 × Int32 × Bool
abbrev EF : Type := Nat → Ent
abbrev Qu : Type := List (Int64 × Int32)
def uE (A : EF) (k : Nat) (e : Ent) : EF := fun j => if j = k then e else A j
theorem uE_s {A : EF} {k : Nat} {e : Ent} : uE A k e k = e := if_pos rfl
theorem uE_n {A : EF} {k j : Nat} {e : Ent} (h : j ≠ k) : uE A k e j = A j := if_neg h
def rE (m B h : Nat) (A : EF) (ws ags ack : Nat → Int32) : Prop := ∀ i, i < h → ws ((B + i) % m) = (A i).1 ∧ ags ((B + i) % m) = (A i).2.1 ∧ ack ((B + i) % m) = bI (A i).2.2
def m2 (m : Nat) : Prop := m = 16 ∨ m = 256
theorem m2_ge {m : Nat} (hm : m2 m) : 16 ≤ m := by rcases hm with rfl | rfl <;> omega
theorem m2_inj {m : Nat} (hm : m2 m) (b : Nat) {i j : Nat} (hi : i < m) (hj : j < m) (h : (b + i) % m = (b + j) % m) : i = j := by rcases hm with rfl | rfl <;> omega
theorem m2_ne {m : Nat} (hm : m2 m) (b : Nat) {i j : Nat} (hi : i < 16) (hj : j < 16) (e : i ≠ j) : (b + i) % m ≠ (b + j) % m := fun q => e (m2_inj hm b (by have := m2_ge hm; omega) (by have := m2_ge hm; omega) q)
theorem m2_sh {m : Nat} (hm : m2 m) (b i : Nat) : ((b + 1) % 256 + i) % m = (b + (i + 1)) % m := by rcases hm with rfl | rfl <;> omega
section RE
variable {m B h k : Nat} {A : EF} {ws ags ack : Nat → Int32}
theorem rE_age (hm : m2 m) (hh : h ≤ 16) (hr : rE m B h A ws ags ack) (hk : k < h) (a : Int32) : rE m B h (uE A k ((A k).1, a, (A k).2.2)) ws (upd ags ((B + k) % m) a) ack := by
  intro i hi
  obtain ⟨h1, h2, h3⟩ := hr i hi
  by_cases e : i = k
  · subst e
    rw [uE_s]
    exact ⟨h1, pk_us, h3⟩
  · rw [uE_n e]
    exact ⟨h1, (pk_un (m2_ne hm B (by omega) (by omega) e)).trans h2, h3⟩
theorem rE_ack (hm : m2 m) (hh : h ≤ 16) (hr : rE m B h A ws ags ack) (hk : k < h) : rE m B h (uE A k ((A k).1, (A k).2.1, true)) ws ags (upd ack ((B + k) % m) 1) := by
  intro i hi
  obtain ⟨h1, h2, h3⟩ := hr i hi
  by_cases e : i = k
  · subst e
    rw [uE_s]
    exact ⟨h1, h2, pk_us⟩
  · rw [uE_n e]
    exact ⟨h1, h2, (pk_un (m2_ne hm B (by omega) (by omega) e)).trans h3⟩
theorem rE_shift (hm : m2 m) (hr : rE m B (h + 1) A ws ags ack) : rE m ((B + 1) % 256) h (fun i => A (i + 1)) ws ags ack := by
  intro i hi
  rw [m2_sh hm]
  exact hr (i + 1) (by omega)
theorem rE_snoc (hm : m2 m) (hh : h < 16) (hr : rE m B h A ws ags ack) (w : Int32) : rE m B (h + 1) (uE A h (w, 0, false)) (upd ws ((B + h) % m) w) (upd ags ((B + h) % m) 0) (upd ack ((B + h) % m) 0) := by
  intro i hi
  by_cases e : i = h
  · subst e
    rw [uE_s]
    exact ⟨pk_us, pk_us, pk_us⟩
  · obtain ⟨h1, h2, h3⟩ := hr i (by omega)
    have e2 := m2_ne hm B (i := i) (j := h) (by omega) (by omega) e
    rw [uE_n e]
    exact ⟨(pk_un e2).trans h1, (pk_un e2).trans h2, (pk_un e2).trans h3⟩
end RE
def fr (x : Int64) : Int64 × Int32 := (x, f_sum x)
abbrev tS : Type := EF × Qu × Nat
/-- a tick, at number k from base -/
def tk1 (T : Int32) (Rm B k : Nat) (s : tS) : tS := match (s.1 k).2.2 with
  | true => s
  | false => if T ≤ (s.1 k).2.1 + 1 ∧ s.2.1.length < Rm then (uE s.1 k ((s.1 k).1, 0, false), s.2.1 ++ [fr (f_of 0 (nI ((B + k) % 256)) (s.1 k).1 0)], s.2.2 + 1) else (uE s.1 k ((s.1 k).1, (s.1 k).2.1 + 1, false), s.2.1, s.2.2)
def tkN (T : Int32) (Rm B : Nat) : Nat → Nat → tS → tS
  | 0, _, s => s
  | r + 1, k, s => tkN T Rm B r (k + 1) (tk1 T Rm B k s)
theorem tk1_t {T : Int32} {Rm B k : Nat} {A : EF} {q : Qu} {n : Nat} (h : (A k).2.2 = true) : tk1 T Rm B k (A, q, n) = (A, q, n) := by simp only [tk1, h]
theorem tk1_s {T : Int32} {Rm B k : Nat} {A : EF} {q : Qu} {n : Nat} (h : (A k).2.2 = false) (h1 : T ≤ (A k).2.1 + 1) (h2 : q.length < Rm) : tk1 T Rm B k (A, q, n) = (uE A k ((A k).1, 0, false), q ++ [fr (f_of 0 (nI ((B + k) % 256)) (A k).1 0)], n + 1) := by simp only [tk1, h, h1, h2, and_self, if_true]
theorem tk1_n {T : Int32} {Rm B k : Nat} {A : EF} {q : Qu} {n : Nat} (h : (A k).2.2 = false) (h1 : ¬ (T ≤ (A k).2.1 + 1 ∧ q.length < Rm)) : tk1 T Rm B k (A, q, n) = (uE A k ((A k).1, (A k).2.1 + 1, false), q, n) := by simp only [tk1, h, h1, if_false]
/-- marking those that P names -/
def mk1 (P : Nat → Bool) (k : Nat) (s : EF × Nat) : EF × Nat := if P k = true ∧ (s.1 k).2.2 = false then (uE s.1 k ((s.1 k).1, (s.1 k).2.1, true), s.2 + 1) else s
def mkN (P : Nat → Bool) : Nat → Nat → EF × Nat → EF × Nat
  | 0, _, s => s
  | r + 1, k, s => mkN P r (k + 1) (mk1 P k s)
/-- base goes on -/
def mvB : Nat → Nat → EF → Nat × Nat × EF
  | 0, B, A => (0, B, A)
  | h + 1, B, A => match (A 0).2.2 with
    | true => mvB h ((B + 1) % 256) (fun i => A (i + 1))
    | false => (h + 1, B, A)
/-- how many are not acknowledged -/
def unN (A : EF) : Nat → Nat → Nat → Nat
  | 0, _, c => c
  | r + 1, k, c => unN A r (k + 1) (if (A k).2.2 then c else c + 1)
/-- the bit of the map -/
def f_bit (m i : Int32) : Int32 := (m.toUInt32 >>> (i.toUInt32 &&& Int32.toUInt32 31)).toInt32 &&& 1
/-- what an acknowledgement names: before b, or in its map -/
def akP (mp : Int32) (b k : Nat) : Bool := decide (k < b) || (decide (b < k) && !decide (f_bit mp (nI (k - b - 1)) = 0))
/-! the receiver -/
abbrev VF : Type := Nat → Option Int32
def rV (m F : Nat) (V : VF) (wd th : Nat → Int32) : Prop := ∀ i, i < m → th ((F + i) % m) = bI (V i).isSome ∧ ∀ x, V i = some x → wd ((F + i) % m) = x
def uV (V : VF) (k : Nat) (x : Int32) : VF := fun j => if j = k then some x else V j
abbrev dS : Type := VF × Nat × Nat × (Nat → Int32)
def dlv : Nat → dS → dS
  | 0, s => s
  | r + 1, s => match s.1 0 with
    | none => s
    | some x => dlv r (fun i => s.1 (i + 1), (s.2.1 + 1) % 256, s.2.2.1 + 1, upd s.2.2.2 (s.2.2.1 % 256) x)
theorem rV_put {m F k : Nat} {V : VF} {wd th : Nat → Int32} {x : Int32} (hm : m2 m) (hr : rV m F V wd th) (hk : k < m) : rV m F (uV V k x) (upd wd ((F + k) % m) x) (upd th ((F + k) % m) 1) := by
  intro i hi
  by_cases e : i = k
  · subst e
    have e2 : uV V i x i = some x := if_pos rfl
    rw [e2]
    exact ⟨pk_us, fun y hy => by rw [pk_us]; exact Option.some.inj hy⟩
  · have e2 : uV V k x i = V i := if_neg e
    have e3 : (F + i) % m ≠ (F + k) % m := fun q => e (m2_inj hm F hi hk q)
    rw [e2, pk_un e3, pk_un e3]
    exact hr i hi
theorem rV_shift {m F : Nat} {V : VF} {wd th : Nat → Int32} (hm : m2 m) (hr : rV m F V wd th) (hV : V m = none) : rV m ((F + 1) % 256) (fun i => V (i + 1)) wd (upd th (F % m) 0) := by
  intro i hi
  rw [m2_sh hm]
  by_cases e : i + 1 = m
  · have e2 : (F + (i + 1)) % m = F % m := by rw [e, Nat.add_mod_right]
    rw [e2, pk_us]
    show 0 = bI (V (i + 1)).isSome ∧ ∀ x, V (i + 1) = some x → wd (F % m) = x
    rw [e, hV]
    exact ⟨rfl, fun x hx => by cases hx⟩
  · have e3 : (F + (i + 1)) % m ≠ F % m := fun q => by
      have := m2_inj hm F (i := i + 1) (j := 0) (by omega) (by omega) (by rw [Nat.add_zero]; exact q)
      omega
    rw [pk_un e3]
    exact hr (i + 1) (by omega)
theorem mk1_y {P : Nat → Bool} {k : Nat} {A : EF} {c : Nat} (h : P k = true) (h2 : (A k).2.2 = false) : mk1 P k (A, c) = (uE A k ((A k).1, (A k).2.1, true), c + 1) := by simp [mk1, h, h2]
theorem mk1_n {P : Nat → Bool} {k : Nat} {A : EF} {c : Nat} (h : P k = false) : mk1 P k (A, c) = (A, c) := by simp [mk1, h]
theorem mk1_a {P : Nat → Bool} {k : Nat} {A : EF} {c : Nat} (h : (A k).2.2 = true) : mk1 P k (A, c) = (A, c) := by simp [mk1, h]
theorem mvB_ok {m : Nat} (hm : m2 m) {ws ags ack : Nat → Int32} : ∀ (h B : Nat) (A : EF), B < 256 → rE m B h A ws ags ack → rE m (mvB h B A).2.1 (mvB h B A).1 (mvB h B A).2.2 ws ags ack ∧ (mvB h B A).2.1 < 256 ∧ ((mvB h B A).2.1 + (mvB h B A).1) % 256 = (B + h) % 256 ∧ (mvB h B A).1 ≤ h
  | 0, B, A, hB, hr => ⟨hr, hB, rfl, Nat.le_refl _⟩
  | h + 1, B, A, hB, hr => by
    unfold mvB
    cases e : (A 0).2.2 with
    | false => exact ⟨hr, hB, rfl, Nat.le_refl _⟩
    | true =>
      obtain ⟨h1, h2, h3, h4⟩ := mvB_ok hm h ((B + 1) % 256) (fun i => A (i + 1)) (Nat.mod_lt _ (by omega)) (rE_shift hm hr)
      exact ⟨h1, h2, h3.trans (by omega), Nat.le_succ_of_le h4⟩
theorem akP_lt {mp : Int32} {b k : Nat} (h : k < b) : akP mp b k = true := by simp [akP, h]
theorem akP_eq {mp : Int32} {b : Nat} : akP mp b b = false := by simp [akP]
theorem akP_gt {mp : Int32} {b k : Nat} (h : b < k) (h0 : ¬ f_bit mp (nI (k - b - 1)) = 0) : akP mp b k = true := by simp [akP, h, h0]
theorem akP_g0 {mp : Int32} {b k : Nat} (h : b < k) (h0 : f_bit mp (nI (k - b - 1)) = 0) : akP mp b k = false := by
  have : ¬ k < b := by omega
  simp [akP, h0, this]
/-! where frames lie: wires, sender, receiver as tuples of the machine's values -/
abbrev WP : Type := Int32 × Int32 × Int32 × (Nat → Int64) × (Nat → Int32)
abbrev SP : Type := Int32 × Int32 × Int32 × Int32 × Int32 × Int32 × (Nat → Int32) × (Nat → Int32) × (Nat → Int32)
abbrev RP : Type := (Nat → Int32) × (Nat → Int32) × (Nat → Int32) × Int32 × Int32 × Int32
abbrev wL (a b : WP) (s : SP) (r : RP) (R : pm_D) : pm_D :=
  .inr (3, [.ref 2, .ref 5, .ref 8, .ref 12]) :: .inr (2, [.ref 3, .ref 4, .int a.1, .int a.2.1, .int a.2.2.1]) :: .inl (1, 32, .inr (.inl a.2.2.2.1)) :: .inl (0, 32, .inl a.2.2.2.2)
  :: .inr (2, [.ref 6, .ref 7, .int b.1, .int b.2.1, .int b.2.2.1]) :: .inl (1, 32, .inr (.inl b.2.2.2.1)) :: .inl (0, 32, .inl b.2.2.2.2)
  :: .inr (1, [.ref 9, .ref 10, .ref 11, .int s.1, .int s.2.1, .int s.2.2.1, .int s.2.2.2.1, .int s.2.2.2.2.1, .int s.2.2.2.2.2.1]) :: .inl (0, 16, .inl s.2.2.2.2.2.2.1) :: .inl (0, 16, .inl s.2.2.2.2.2.2.2.1) :: .inl (2, 16, .inl s.2.2.2.2.2.2.2.2)
  :: .inr (0, [.ref 13, .ref 14, .ref 15, .int r.2.2.2.1, .int r.2.2.2.2.1, .int r.2.2.2.2.2]) :: .inl (0, 16, .inl r.1) :: .inl (2, 16, .inl r.2.1) :: .inl (0, 256, .inl r.2.2.1) :: R
def qW (Rm : Nat) (q : Qu) (P : WP) : Prop := rW Rm q P.1 P.2.1 P.2.2.1 P.2.2.2.1 P.2.2.2.2
def qS (Wn : Nat) (T : Int32) (B h : Nat) (A : EF) (tk ag : Int32) (s : SP) : Prop := s.1 = nI Wn ∧ s.2.1 = T ∧ s.2.2.1 = nI B ∧ s.2.2.2.1 = nI ((B + h) % 256) ∧ s.2.2.2.2.1 = tk ∧ s.2.2.2.2.2.1 = ag ∧ rE 16 B h A s.2.2.2.2.2.2.1 s.2.2.2.2.2.2.2.1 s.2.2.2.2.2.2.2.2
def qR (Wn F : Nat) (V : VF) (D : Nat) (LG : Nat → Int32) (r : RP) : Prop := r.2.2.2.1 = nI Wn ∧ r.2.2.2.2.1 = nI F ∧ r.2.2.2.2.2 = nI D ∧ r.2.2.1 = LG ∧ rV 16 F V r.1 r.2.1
abbrev pPut (P : WP) (x : Int64) (y : Int32) : WP := (P.1, P.2.1 + 1, P.2.2.1, vp_updL P.2.2.2.1 ((P.1 + P.2.1) &&& 31).toNatClampNeg x, upd P.2.2.2.2 ((P.1 + P.2.1) &&& 31).toNatClampNeg y)
theorem qW_put {Rm : Nat} {q : Qu} {P : WP} {x : Int64} {y : Int32} (h : qW Rm q P) (hq : q.length < Rm) : qW Rm (q ++ [(x, y)]) (pPut P x y) := rW_put h hq
