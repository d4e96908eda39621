/-! ABSTRACT STATES: entries of the sender by their distance from base; the receiver's words by their distance from first; m is 16 in the class, 256 in the reference -/
def bI (h : Bool) : Int32 := if h then 1 else 0
theorem bI0 {h : Bool} : bI h = 0 ↔ h = false := by cases h <;> simp [bI]
theorem bI1 {h : Bool} : ¬ bI h = 0 ↔ h = true := by cases h <;> simp [bI]
abbrev Ent : Type := Int32 × Int32 × Bool
abbrev EF : Type := Nat → Ent
abbrev Qu : Type := List (Int64 × Int32)
def uE (A : EF) (k : Nat) (e : Ent) : EF := fun j => if j = k then e else A j
theorem uE_s {A : EF} {k : Nat} {e : Ent} : uE A k e k = e := if_pos rfl
theorem uE_n {A : EF} {k j : Nat} {e : Ent} (h : j ≠ k) : uE A k e j = A j := if_neg h
def rE (m B h : Nat) (A : EF) (ws ags ack : Nat → Int32) : Prop := ∀ i, i < h → ws ((B + i) % m) = (A i).1 ∧ ags ((B + i) % m) = (A i).2.1 ∧ ack ((B + i) % m) = bI (A i).2.2
def m2 (m : Nat) : Prop := m = 16 ∨ m = 256
theorem m2_ge {m : Nat} (hm : m2 m) : 16 ≤ m := by rcases hm with rfl | rfl <;> omega
theorem m2_inj {m : Nat} (hm : m2 m) (b : Nat) {i j : Nat} (hi : i < m) (hj : j < m) (h : (b + i) % m = (b + j) % m) : i = j := by rcases hm with rfl | rfl <;> omega
theorem m2_ne {m : Nat} (hm : m2 m) (b : Nat) {i j : Nat} (hi : i < 16) (hj : j < 16) (e : i ≠ j) : (b + i) % m ≠ (b + j) % m := fun q => e (m2_inj hm b (by have := m2_ge hm; omega) (by have := m2_ge hm; omega) q)
theorem m2_sh {m : Nat} (hm : m2 m) (b i : Nat) : ((b + 1) % 256 + i) % m = (b + (i + 1)) % m := by rcases hm with rfl | rfl <;> omega
section RE
variable {m B h k : Nat} {A : EF} {ws ags ack : Nat → Int32}
theorem rE_age (hm : m2 m) (hh : h ≤ 16) (hr : rE m B h A ws ags ack) (hk : k < h) (a : Int32) : rE m B h (uE A k ((A k).1, a, (A k).2.2)) ws (upd ags ((B + k) % m) a) ack := by
  intro i hi
  obtain ⟨h1, h2, h3⟩ := hr i hi
  by_cases e : i = k
  · subst e
    rw [uE_s]
    exact ⟨h1, pk_us, h3⟩
  · rw [uE_n e]
    exact ⟨h1, (pk_un (m2_ne hm B (by omega) (by omega) e)).trans h2, h3⟩
theorem rE_ack (hm : m2 m) (hh : h ≤ 16) (hr : rE m B h A ws ags ack) (hk : k < h) : rE m B h (uE A k ((A k).1, (A k).2.1, true)) ws ags (upd ack ((B + k) % m) 1) := by
  intro i hi
  obtain ⟨h1, h2, h3⟩ := hr i hi
  by_cases e : i = k
  · subst e
    rw [uE_s]
    exact ⟨h1, h2, pk_us⟩
  · rw [uE_n e]
    exact ⟨h1, h2, (pk_un (m2_ne hm B (by omega) (by omega) e)).trans h3⟩
theorem rE_shift (hm : m2 m) (hr : rE m B (h + 1) A ws ags ack) : rE m ((B + 1) % 256) h (fun i => A (i + 1)) ws ags ack := by
  intro i hi
  rw [m2_sh hm]
  exact hr (i + 1) (by omega)
theorem rE_snoc (hm : m2 m) (hh : h < 16) (hr : rE m B h A ws ags ack) (w : Int32) : rE m B (h + 1) (uE A h (w, 0, false)) (upd ws ((B + h) % m) w) (upd ags ((B + h) % m) 0) (upd ack ((B + h) % m) 0) := by
  intro i hi
  by_cases e : i = h
  · subst e
    rw [uE_s]
    exact ⟨pk_us, pk_us, pk_us⟩
  · obtain ⟨h1, h2, h3⟩ := hr i (by omega)
    have e2 := m2_ne hm B (i := i) (j := h) (by omega) (by omega) e
    rw [uE_n e]
    exact ⟨(pk_un e2).trans h1, (pk_un e2).trans h2, (pk_un e2).trans h3⟩
end RE
def fr (x : Int64) : Int64 × Int32 := (x, f_sum x)
abbrev tS : Type := EF × Qu × Nat
/-- a tick, at number k from base -/
def tk1 (T : Int32) (Rm B k : Nat) (s : tS) : tS := match (s.1 k).2.2 with
  | true => s
  | false => if T ≤ (s.1 k).2.1 + 1 ∧ s.2.1.length < Rm then (uE s.1 k ((s.1 k).1, 0, false), s.2.1 ++ [fr (f_of 0 (nI ((B + k) % 256)) (s.1 k).1 0)], s.2.2 + 1) else (uE s.1 k ((s.1 k).1, (s.1 k).2.1 + 1, false), s.2.1, s.2.2)
def tkN (T : Int32) (Rm B : Nat) : Nat → Nat → tS → tS
  | 0, _, s => s
  | r + 1, k, s => tkN T Rm B r (k + 1) (tk1 T Rm B k s)
theorem tk1_t {T : Int32} {Rm B k : Nat} {A : EF} {q : Qu} {n : Nat} (h : (A k).2.2 = true) : tk1 T Rm B k (A, q, n) = (A, q, n) := by simp only [tk1, h]
theorem tk1_s {T : Int32} {Rm B k : Nat} {A : EF} {q : Qu} {n : Nat} (h : (A k).2.2 = false) (h1 : T ≤ (A k).2.1 + 1) (h2 : q.length < Rm) : tk1 T Rm B k (A, q, n) = (uE A k ((A k).1, 0, false), q ++ [fr (f_of 0 (nI ((B + k) % 256)) (A k).1 0)], n + 1) := by simp only [tk1, h, h1, h2, and_self, if_true]
theorem tk1_n {T : Int32} {Rm B k : Nat} {A : EF} {q : Qu} {n : Nat} (h : (A k).2.2 = false) (h1 : ¬ (T ≤ (A k).2.1 + 1 ∧ q.length < Rm)) : tk1 T Rm B k (A, q, n) = (uE A k ((A k).1, (A k).2.1 + 1, false), q, n) := by simp only [tk1, h, h1, if_false]
/-- marking those that P names -/
def mk1 (P : Nat → Bool) (k : Nat) (s : EF × Nat) : EF × Nat := if P k = true ∧ (s.1 k).2.2 = false then (uE s.1 k ((s.1 k).1, (s.1 k).2.1, true), s.2 + 1) else s
def mkN (P : Nat → Bool) : Nat → Nat → EF × Nat → EF × Nat
  | 0, _, s => s
  | r + 1, k, s => mkN P r (k + 1) (mk1 P k s)
/-- base goes on -/
def mvB : Nat → Nat → EF → Nat × Nat × EF
  | 0, B, A => (0, B, A)
  | h + 1, B, A => match (A 0).2.2 with
    | true => mvB h ((B + 1) % 256) (fun i => A (i + 1))
    | false => (h + 1, B, A)
/-- how many are not acknowledged -/
def unN (A : EF) : Nat → Nat → Nat → Nat
  | 0, _, c => c
  | r + 1, k, c => unN A r (k + 1) (if (A k).2.2 then c else c + 1)
/-- the bit of the map -/
def f_bit (m i : Int32) : Int32 := (m.toUInt32 >>> (i.toUInt32 &&& Int32.toUInt32 31)).toInt32 &&& 1
/-- what an acknowledgement names: before b, or in its map -/
def akP (mp : Int32) (b k : Nat) : Bool := decide (k < b) || (decide (b < k) && !decide (f_bit mp (nI (k - b - 1)) = 0))
/-! the receiver -/
abbrev VF : Type := Nat → Option Int32
def rV (m F : Nat) (V : VF) (wd th : Nat → Int32) : Prop := ∀ i, i < m → th ((F + i) % m) = bI (V i).isSome ∧ ∀ x, V i = some x → wd ((F + i) % m) = x
def uV (V : VF) (k : Nat) (x : Int32) : VF := fun j => if j = k then some x else V j
abbrev dS : Type := VF × Nat × Nat × (Nat → Int32)
def dlv : Nat → dS → dS
  | 0, s => s
  | r + 1, s => match s.1 0 with
    | none => s
    | some x => dlv r (fun i => s.1 (i + 1), (s.2.1 + 1) % 256, s.2.2.1 + 1, upd s.2.2.2 (s.2.2.1 % 256) x)
theorem rV_put {m F k : Nat} {V : VF} {wd th : Nat → Int32} {x : Int32} (hm : m2 m) (hr : rV m F V wd th) (hk : k < m) : rV m F (uV V k x) (upd wd ((F + k) % m) x) (upd th ((F + k) % m) 1) := by
  intro i hi
  by_cases e : i = k
  · subst e
    have e2 : uV V i x i = some x := if_pos rfl
    rw [e2]
    exact ⟨pk_us, fun y hy => by rw [pk_us]; exact Option.some.inj hy⟩
  · have e2 : uV V k x i = V i := if_neg e
    have e3 : (F + i) % m ≠ (F + k) % m := fun q => e (m2_inj hm F hi hk q)
    rw [e2, pk_un e3, pk_un e3]
    exact hr i hi
theorem rV_shift {m F : Nat} {V : VF} {wd th : Nat → Int32} (hm : m2 m) (hr : rV m F V wd th) (hV : V m = none) : rV m ((F + 1) % 256) (fun i => V (i + 1)) wd (upd th (F % m) 0) := by
  intro i hi
  rw [m2_sh hm]
  by_cases e : i + 1 = m
  · have e2 : (F + (i + 1)) % m = F % m := by rw [e, Nat.add_mod_right]
    rw [e2, pk_us]
    show 0 = bI (V (i + 1)).isSome ∧ ∀ x, V (i + 1) = some x → wd (F % m) = x
    rw [e, hV]
    exact ⟨rfl, fun x hx => by cases hx⟩
  · have e3 : (F + (i + 1)) % m ≠ F % m := fun q => by
      have := m2_inj hm F (i := i + 1) (j := 0) (by omega) (by omega) (by rw [Nat.add_zero]; exact q)
      omega
    rw [pk_un e3]
    exact hr (i + 1) (by omega)
theorem mk1_y {P : Nat → Bool} {k : Nat} {A : EF} {c : Nat} (h : P k = true) (h2 : (A k).2.2 = false) : mk1 P k (A, c) = (uE A k ((A k).1, (A k).2.1, true), c + 1) := by simp [mk1, h, h2]
theorem mk1_n {P : Nat → Bool} {k : Nat} {A : EF} {c : Nat} (h : P k = false) : mk1 P k (A, c) = (A, c) := by simp [mk1, h]
theorem mk1_a {P : Nat → Bool} {k : Nat} {A : EF} {c : Nat} (h : (A k).2.2 = true) : mk1 P k (A, c) = (A, c) := by simp [mk1, h]
theorem mvB_ok {m : Nat} (hm : m2 m) {ws ags ack : Nat → Int32} : ∀ (h B : Nat) (A : EF), B < 256 → rE m B h A ws ags ack → rE m (mvB h B A).2.1 (mvB h B A).1 (mvB h B A).2.2 ws ags ack ∧ (mvB h B A).2.1 < 256 ∧ ((mvB h B A).2.1 + (mvB h B A).1) % 256 = (B + h) % 256 ∧ (mvB h B A).1 ≤ h
  | 0, B, A, hB, hr => ⟨hr, hB, rfl, Nat.le_refl _⟩
  | h + 1, B, A, hB, hr => by
    unfold mvB
    cases e : (A 0).2.2 with
    | false => exact ⟨hr, hB, rfl, Nat.le_refl _⟩
    | true =>
      obtain ⟨h1, h2, h3, h4⟩ := mvB_ok hm h ((B + 1) % 256) (fun i => A (i + 1)) (Nat.mod_lt _ (by omega)) (rE_shift hm hr)
      exact ⟨h1, h2, h3.trans (by omega), Nat.le_succ_of_le h4⟩
theorem akP_lt {mp : Int32} {b k : Nat} (h : k < b) : akP mp b k = true := by simp [akP, h]
theorem akP_eq {mp : Int32} {b : Nat} : akP mp b b = false := by simp [akP]
theorem akP_gt {mp : Int32} {b k : Nat} (h : b < k) (h0 : ¬ f_bit mp (nI (k - b - 1)) = 0) : akP mp b k = true := by simp [akP, h, h0]
theorem akP_g0 {mp : Int32} {b k : Nat} (h : b < k) (h0 : f_bit mp (nI (k - b - 1)) = 0) : akP mp b k = false := by
  have : ¬ k < b := by omega
  simp [akP, h0, this]
/-! where frames lie: wires, sender, receiver as tuples of the machine's values -/
abbrev WP : Type := Int32 × Int32 × Int32 × (Nat → Int64) × (Nat → Int32)
abbrev SP : Type := Int32 × Int32 × Int32 × Int32 × Int32 × Int32 × (Nat → Int32) × (Nat → Int32) × (Nat → Int32)
abbrev RP : Type := (Nat → Int32) × (Nat → Int32) × (Nat → Int32) × Int32 × Int32 × Int32
abbrev wL (a b : WP) (s : SP) (r : RP) (R : pm_D) : pm_D :=
  .inr (3, [.ref 2, .ref 5, .ref 8, .ref 12]) :: .inr (2, [.ref 3, .ref 4, .int a.1, .int a.2.1, .int a.2.2.1]) :: .inl (1, 32, .inr (.inl a.2.2.2.1)) :: .inl (0, 32, .inl a.2.2.2.2)
  :: .inr (2, [.ref 6, .ref 7, .int b.1, .int b.2.1, .int b.2.2.1]) :: .inl (1, 32, .inr (.inl b.2.2.2.1)) :: .inl (0, 32, .inl b.2.2.2.2)
  :: .inr (1, [.ref 9, .ref 10, .ref 11, .int s.1, .int s.2.1, .int s.2.2.1, .int s.2.2.2.1, .int s.2.2.2.2.1, .int s.2.2.2.2.2.1]) :: .inl (0, 16, .inl s.2.2.2.2.2.2.1) :: .inl (0, 16, .inl s.2.2.2.2.2.2.2.1) :: .inl (2, 16, .inl s.2.2.2.2.2.2.2.2)
  :: .inr (0, [.ref 13, .ref 14, .ref 15, .int r.2.2.2.1, .int r.2.2.2.2.1, .int r.2.2.2.2.2]) :: .inl (0, 16, .inl r.1) :: .inl (2, 16, .inl r.2.1) :: .inl (0, 256, .inl r.2.2.1) :: R
def qW (Rm : Nat) (q : Qu) (P : WP) : Prop := rW Rm q P.1 P.2.1 P.2.2.1 P.2.2.2.1 P.2.2.2.2
def qS (Wn : Nat) (T : Int32) (B h : Nat) (A : EF) (tk ag : Int32) (s : SP) : Prop := ∃ ws ags ack : Nat → Int32, s = (nI Wn, T, nI B, nI ((B + h) % 256), tk, ag, ws, ags, ack) ∧ rE 16 B h A ws ags ack
def qR (Wn F : Nat) (V : VF) (D : Nat) (LG : Nat → Int32) (r : RP) : Prop := ∃ rw th : Nat → Int32, r = (rw, th, LG, nI Wn, nI F, nI D) ∧ rV 16 F V rw th
abbrev LkP : Type := WP × WP × SP × RP
abbrev wl (P : LkP) (R : pm_D) : pm_D := wL P.1 P.2.1 P.2.2.1 P.2.2.2 R
/-- the class's cells show this state -/
def rLk (Wn Rm : Nat) (T : Int32) (qa qb : Qu) (B h : Nat) (A : EF) (tk ag : Int32) (F : Nat) (V : VF) (D : Nat) (LG : Nat → Int32) (P : LkP) : Prop := qW Rm qa P.1 ∧ qW Rm qb P.2.1 ∧ qS Wn T B h A tk ag P.2.2.1 ∧ qR Wn F V D LG P.2.2.2
/-- what holds of every state -/
def IV (Wn Rm B h F : Nat) (V : VF) : Prop := 1 ≤ Wn ∧ Wn ≤ 16 ∧ 1 ≤ Rm ∧ Rm ≤ 32 ∧ B < 256 ∧ h ≤ Wn ∧ F < 256 ∧ (∀ j, Wn ≤ j → V j = none) ∧ V 0 = none
/-! the calls -/
def lsQ : Qu → Int32 × Qu
  | [] => (0, [])
  | _ :: q => (1, q)
def twQ (Rm : Nat) : Qu → Int32 × Qu
  | [] => (0, [])
  | f :: q => if q.length + 1 < Rm then (1, f :: f :: q) else (0, f :: q)
def dyQ : Qu → Int32 × Qu
  | f :: g :: q => (1, (g :: q) ++ [f])
  | q => (0, q)
def chF (x : Int32) (f : Int64 × Int32) : Int64 × Int32 := if 32 ≤ x then (f.1 ^^^ ((1 : Int64) <<< ((x - 32).toInt64 &&& 63)), f.2) else (f.1, f.2 ^^^ ((1 : Int32) <<< (x &&& 31)))
def chQ (x : Int32) : Qu → Int32 × Qu
  | [] => (0, [])
  | f :: q => (1, chF x f :: q)
def akM (V : VF) : Nat → Nat → Int32 → Int32
  | 0, _, m => m
  | r + 1, k, m => akM V r (k + 1) (if (V (k + 1)).isSome then m ||| ((1 : Int32) <<< (nI k &&& 31)) else m)
def akQ (Rm : Nat) (q : Qu) (F : Nat) (V : VF) : Qu := if q.length < Rm then q ++ [fr (f_of 1 (nI F) 0 (akM V 16 0 0))] else q
def fN (x : Int64) : Nat := (f_num x).toNatClampNeg
theorem fN_ok (x : Int64) : f_num x = nI (fN x) ∧ fN x < 256 := by
  obtain ⟨j, hj, e⟩ := pk_andE (f_ushr x 48).toInt32 (m := 255) 8 (by decide +kernel)
  have e2 : f_num x = nI j := e
  have e3 : fN x = j := by unfold fN; rw [e2, nI_clamp (by omega)]
  rw [e3]
  exact ⟨e2, hj⟩
abbrev cBS : Type := Int32 × Qu × Qu × dS
def cB (Wn Rm : Nat) (qa qb : Qu) (s : dS) : cBS := match qa with
  | [] => (-1, [], qb, s)
  | f :: q => if f_sum f.1 = f.2 ∧ f_kind f.1 = 0 then
      (if (fN f.1 + 256 - s.2.1) % 256 < Wn ∧ (s.1 ((fN f.1 + 256 - s.2.1) % 256)).isSome = false then
        (0, q, akQ Rm qb (dlv 16 (uV s.1 ((fN f.1 + 256 - s.2.1) % 256) (f_word f.1), s.2)).2.1 (dlv 16 (uV s.1 ((fN f.1 + 256 - s.2.1) % 256) (f_word f.1), s.2)).1, dlv 16 (uV s.1 ((fN f.1 + 256 - s.2.1) % 256) (f_word f.1), s.2))
      else (1, q, akQ Rm qb s.2.1 s.1, s))
    else (2, q, qb, s)
abbrev cAS : Type := Int32 × Qu × Nat × Nat × EF
def cA (qb : Qu) (h B : Nat) (A : EF) : cAS := match qb with
  | [] => (-1, [], h, B, A)
  | f :: q => if f_sum f.1 = f.2 ∧ f_kind f.1 = 1 then
      (if h < (fN f.1 + 256 - B) % 256 then (-2, q, h, B, A)
      else (nI (mkN (akP (f_map f.1) ((fN f.1 + 256 - B) % 256)) h 0 (A, 0)).2, q, mvB h B (mkN (akP (f_map f.1) ((fN f.1 + 256 - B) % 256)) h 0 (A, 0)).1))
    else (-3, q, h, B, A)
def snd (Wn Rm : Nat) (x : Int32) (qa : Qu) (B h : Nat) (A : EF) : Int32 × Qu × Nat × EF × Int32 := if h < Wn ∧ qa.length < Rm then (1, qa ++ [fr (f_of 0 (nI ((B + h) % 256)) x 0)], h + 1, uE A h (x, 0, false), 1) else (0, qa, h, A, 0)
abbrev pPut (P : WP) (x : Int64) (y : Int32) : WP := (P.1, P.2.1 + 1, P.2.2.1, vp_updL P.2.2.2.1 ((P.1 + P.2.1) &&& 31).toNatClampNeg x, upd P.2.2.2.2 ((P.1 + P.2.1) &&& 31).toNatClampNeg y)
theorem qW_put {Rm : Nat} {q : Qu} {P : WP} {x : Int64} {y : Int32} (h : qW Rm q P) (hq : q.length < Rm) : qW Rm (q ++ [(x, y)]) (pPut P x y) := rW_put h hq
abbrev pTake (P : WP) : WP := ((P.1 + 1) &&& 31, P.2.1 - 1, P.2.2.1, P.2.2.2.1, P.2.2.2.2)
abbrev pDbl (P : WP) (j : Int32) : WP := (j, P.2.1 + 1, P.2.2.1, vp_updL P.2.2.2.1 j.toNatClampNeg (P.2.2.2.1 P.1.toNatClampNeg), upd P.2.2.2.2 j.toNatClampNeg (P.2.2.2.2 P.1.toNatClampNeg))
abbrev pTrB (P : WP) (z : Int64) : WP := (P.1, P.2.1, P.2.2.1, vp_updL P.2.2.2.1 P.1.toNatClampNeg (P.2.2.2.1 P.1.toNatClampNeg ^^^ z), P.2.2.2.2)
abbrev pTrS (P : WP) (z : Int32) : WP := (P.1, P.2.1, P.2.2.1, P.2.2.2.1, upd P.2.2.2.2 P.1.toNatClampNeg (P.2.2.2.2 P.1.toNatClampNeg ^^^ z))
abbrev pMov (P : WP) : WP := ((P.1 + 1) &&& 31, P.2.1 - 1 + 1, P.2.2.1, vp_updL P.2.2.2.1 ((((P.1 + 1) &&& 31) + (P.2.1 - 1)) &&& 31).toNatClampNeg (P.2.2.2.1 P.1.toNatClampNeg), upd P.2.2.2.2 ((((P.1 + 1) &&& 31) + (P.2.1 - 1)) &&& 31).toNatClampNeg (P.2.2.2.2 P.1.toNatClampNeg))
theorem qW_take {Rm : Nat} {f : Int64 × Int32} {q : Qu} {P : WP} (h : qW Rm (f :: q) P) : qW Rm q (pTake P) := (rW_take h).2.2
theorem qW_dbl {Rm : Nat} {f : Int64 × Int32} {q : Qu} {P : WP} {j : Int32} (hj : (P.1 + -1) &&& 31 = j) (h : qW Rm (f :: q) P) (hq : q.length + 1 < Rm) : qW Rm (f :: f :: q) (pDbl P j) := by
  obtain ⟨o, c, r, b, s⟩ := P
  have h2 := rW_double (o := o) (c := c) (r := r) (b := b) (s := s) h hq
  have hj : (o + -1) &&& 31 = j := hj
  rw [hj] at h2
  exact h2
theorem c_dbl_A {d : Nat} {al : Bool} {k : pm_K} {kx : pm_X} {e1 : va_E} {o c r j : Int32} {b : Nat → Int64} {s : Nat → Int32} {R : pm_D} (hj : (o + -1) &&& 31 = j) (ho : vp_in o 32) (hk : k none (wA e1 j (c + 1) r (vp_updL b j.toNatClampNeg (b o.toNatClampNeg)) (upd s j.toNatClampNeg (s o.toNatClampNeg)) R)) : pm_C 43 (d + 1) al [.ref 2] (wA e1 o c r b s R) k kx := by
  subst hj
  exact c_doubleOldest_A ho hk
theorem c_dbl_B {d : Nat} {al : Bool} {k : pm_K} {kx : pm_X} {e1 e2 e3 e4 : va_E} {o c r j : Int32} {b : Nat → Int64} {s : Nat → Int32} {R : pm_D} (hj : (o + -1) &&& 31 = j) (ho : vp_in o 32) (hk : k none (wB e1 e2 e3 e4 j (c + 1) r (vp_updL b j.toNatClampNeg (b o.toNatClampNeg)) (upd s j.toNatClampNeg (s o.toNatClampNeg)) R)) : pm_C 43 (d + 1) al [.ref 5] (wB e1 e2 e3 e4 o c r b s R) k kx := by
  subst hj
  exact c_doubleOldest_B ho hk
theorem qW_trB {Rm : Nat} {f : Int64 × Int32} {q : Qu} {P : WP} {z : Int64} (h : qW Rm (f :: q) P) : qW Rm ((f.1 ^^^ z, f.2) :: q) (pTrB P z) := rW_turnB h
theorem qW_trS {Rm : Nat} {f : Int64 × Int32} {q : Qu} {P : WP} {z : Int32} (h : qW Rm (f :: q) P) : qW Rm ((f.1, f.2 ^^^ z) :: q) (pTrS P z) := rW_turnS h
theorem qW_mov {Rm : Nat} {f : Int64 × Int32} {q : Qu} {P : WP} (h : qW Rm (f :: q) P) : qW Rm (q ++ [f]) (pMov P) := rW_move h
