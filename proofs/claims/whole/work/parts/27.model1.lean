/-! THE REFERENCE: its small methods -/
abbrev wm (P : LkP) (t W T Rr B N F D we ag tk : Int32) (wi ma wo he ae ca tr lo hd : Nat → Int32) (R : pm_D) : pm_D :=
  wl P (.inr (4, [.int t, .int W, .int T, .int Rr, .ref 17, .ref 18, .int B, .int N, .ref 19, .ref 20, .ref 21, .int F, .ref 22, .ref 23, .int D, .ref 24, .int we, .int ag, .int tk, .ref 25])
  :: .inl (0, 768, .inl wi) :: .inl (0, 2, .inl ma) :: .inl (0, 256, .inl wo) :: .inl (2, 256, .inl he) :: .inl (0, 256, .inl ae) :: .inl (0, 256, .inl ca) :: .inl (2, 256, .inl tr) :: .inl (0, 256, .inl lo) :: .inl (0, 12, .inl hd) :: R)
theorem ix2 {a b N : Nat} (h : a + b < N) (hN : N < 2 ^ 31) : vp_in (nI a + nI b) N := by rw [nI_add]; exact vin h hN
theorem ix3 {a b c N : Nat} (h : a + b + c < N) (hN : N < 2 ^ 31) : vp_in (nI a + nI b + nI c) N := by rw [nI_add, nI_add]; exact vin h hN
theorem cl2 {a b : Nat} (h : a + b < 2 ^ 31) : (nI a + nI b).toNatClampNeg = a + b := by rw [nI_add, nI_clamp h]
theorem cl3 {a b c : Nat} (h : a + b + c < 2 ^ 31) : (nI a + nI b + nI c).toNatClampNeg = a + b + c := by rw [nI_add, nI_add, nI_clamp h]
/-! arrays that are written in a loop -/
def wr (f : Nat → Int32) (a : Nat) (g : Nat → Int32) (n : Nat) : Nat → Int32 := fun j => if a ≤ j ∧ j < a + n then g (j - a) else f j
theorem wr_0 {f : Nat → Int32} {a : Nat} {g : Nat → Int32} : wr f a g 0 = f := funext fun j => if_neg (by omega)
theorem wr_s {f : Nat → Int32} {a : Nat} {g : Nat → Int32} {n : Nat} : upd (wr f a g n) (a + n) (g n) = wr f a g (n + 1) := by
  funext j
  by_cases e : j = a + n
  · subst e
    rw [pk_us]
    unfold wr
    rw [if_pos (by omega), Nat.add_sub_cancel_left]
  · rw [pk_un e]
    unfold wr
    by_cases h : a ≤ j ∧ j < a + n
    · rw [if_pos h, if_pos (by omega)]
    · rw [if_neg h, if_neg (by omega)]
theorem wr_in {f : Nat → Int32} {a : Nat} {g : Nat → Int32} {n j : Nat} (h : j < n) : wr f a g n (a + j) = g j := by
  unfold wr
  rw [if_pos (by omega), Nat.add_sub_cancel_left]
theorem wr_out {f : Nat → Int32} {a : Nat} {g : Nat → Int32} {n j : Nat} (h : j < a ∨ a + n ≤ j) : wr f a g n j = f j := if_neg (by omega)
def cp (f : Nat → Int32) (a n : Nat) : Nat → Int32 := fun j => if a ≤ j ∧ j < a + n then f (j + 12) else f j
theorem cp_0 {f : Nat → Int32} {a : Nat} : cp f a 0 = f := funext fun j => if_neg (by omega)
theorem cp_s {f : Nat → Int32} {a n : Nat} : upd (cp f a n) (a + n) (cp f a n (a + n + 12)) = cp f a (n + 1) := by
  funext j
  by_cases e : j = a + n
  · subst e
    rw [pk_us]
    unfold cp
    rw [if_neg (by omega), if_pos (by omega)]
  · rw [pk_un e]
    unfold cp
    by_cases h : a ≤ j ∧ j < a + n
    · rw [if_pos h, if_pos (by omega)]
    · rw [if_neg h, if_neg (by omega)]
/-- moved up by 12, from the end on: those from n to N are done -/
def up (f : Nat → Int32) (a n N : Nat) : Nat → Int32 := fun j => if a + 12 + n ≤ j ∧ j < a + 12 + N then f (j - 12) else f j
theorem up_0 {f : Nat → Int32} {a N : Nat} : up f a N N = f := funext fun j => if_neg (by omega)
theorem up_s {f : Nat → Int32} {a n N : Nat} (h : n < N) : upd (up f a (n + 1) N) (a + n + 12) (up f a (n + 1) N (a + n)) = up f a n N := by
  funext j
  by_cases e : j = a + n + 12
  · subst e
    rw [pk_us]
    unfold up
    rw [if_neg (by omega), if_pos (by omega), Nat.add_sub_cancel]
  · rw [pk_un e]
    unfold up
    by_cases h : a + 12 + (n + 1) ≤ j ∧ j < a + 12 + N
    · rw [if_pos h, if_pos (by omega)]
    · rw [if_neg h, if_neg (by omega)]
/-! the wires' bytes -/
def rB (wi : Nat → Int32) (w : Nat) (q : Qu) : Prop := ∀ (i : Nat) (f : Int64 × Int32), q[i]? = some f → ∀ j, j < 12 → wi (384 * w + 12 * i + j) = nI (fB f j)
def rQ (Rm : Nat) (Q : Nat → Qu) (wi ma : Nat → Int32) : Prop := ∀ w, w < 2 → rB wi w (Q w) ∧ ma w = nI (Q w).length ∧ (Q w).length ≤ Rm
def uQ (Q : Nat → Qu) (w : Nat) (q : Qu) : Nat → Qu := fun v => if v = w then q else Q v
theorem rQ_upd {Rm : Nat} {Q : Nat → Qu} {wi ma wi' ma' : Nat → Int32} {w : Nat} {q : Qu} (h : rQ Rm Q wi ma) (hR : Rm ≤ 32) (hq : q.length ≤ Rm) (hb : rB wi' w q) (hm : ma' w = nI q.length) (hm2 : ∀ v, v < 2 → v ≠ w → ma' v = ma v) (ho : ∀ j, (j < 384 * w ∨ 384 * w + 384 ≤ j) → wi' j = wi j) : rQ Rm (uQ Q w q) wi' ma' := by
  intro v hv
  by_cases e : v = w
  · subst e
    have e2 : uQ Q v q v = q := if_pos rfl
    rw [e2]
    exact ⟨hb, hm, hq⟩
  · have e2 : uQ Q w q v = Q v := if_neg e
    rw [e2, hm2 v hv e]
    obtain ⟨h1, h2, h3⟩ := h v hv
    refine ⟨fun i f hi j hj => ?_, h2, h3⟩
    have hil : i < (Q v).length := (List.getElem?_eq_some_iff.mp hi).1
    rw [ho _ (by omega)]
    exact h1 i f hi j hj
theorem rB_put {wi : Nat → Int32} {w : Nat} {q : Qu} {f : Int64 × Int32} (h : rB wi w q) : rB (wr wi (384 * w + 12 * q.length) (fun j => nI (fB f j)) 12) w (q ++ [f]) := by
  intro i g hi j hj
  rcases Nat.lt_or_ge i q.length with hl | hl
  · rw [List.getElem?_append_left hl] at hi
    rw [wr_out (by omega)]
    exact h i g hi j hj
  · rw [List.getElem?_append_right hl] at hi
    have h0 : i - q.length < 1 := (List.getElem?_eq_some_iff.mp hi).1
    have hi2 : i = q.length := by omega
    subst hi2
    rw [Nat.sub_self] at hi
    have : f = g := by simpa using hi
    subst this
    rw [wr_in hj]
theorem rB_cp {wi : Nat → Int32} {w : Nat} {q : Qu} {f : Int64 × Int32} (h : rB wi w (f :: q)) : rB (cp wi (384 * w) (12 * q.length)) w q := by
  intro i g hi j hj
  have hl : i < q.length := (List.getElem?_eq_some_iff.mp hi).1
  have := h (i + 1) g (by simpa using hi) j hj
  unfold cp
  rw [if_pos (by omega), ← this]
  exact congrArg wi (by omega)
theorem rB_up {wi : Nat → Int32} {w : Nat} {q : Qu} {f : Int64 × Int32} (h : rB wi w (f :: q)) : rB (up wi (384 * w) 0 (12 * (q.length + 1))) w (f :: f :: q) := by
  intro i g hi j hj
  have hl : i < q.length + 2 := by
    have := (List.getElem?_eq_some_iff.mp hi).1
    simpa using this
  cases i with
  | zero =>
    unfold up
    rw [if_neg (by omega)]
    exact h 0 g (by simpa using hi) j hj
  | succ i =>
    have := h i g (by simpa using hi) j hj
    unfold up
    rw [if_pos (by omega), ← this]
    exact congrArg wi (by omega)
section PM1
variable {d : Nat} {al : Bool} {k : pm_K} {kx : pm_X} {cb sb : Nat} {R : pm_D} {P : LkP} {t W T Rr B N F D we ag tk : Int32} {wi ma wo he ae ca tr lo hd : Nat → Int32}
theorem c_thrown (hk : k (some (.int t)) (wm P t W T Rr B N F D we ag tk wi ma wo he ae ca tr lo hd R)) : pm_C 66 d al [.ref 16] (wm P t W T Rr B N F D we ag tk wi ma wo he ae ca tr lo hd R) k kx := pm_Ci rfl (pm_run 40 hk)
theorem l_crc {w : pm_D} (a b : Int32) : ∀ (n i : Nat) (m : Int32), i + n = 8 → k (some (.int (f_cn n m))) w → pm_J 68 d al none k kx 6 [some (.int a), some (.int b), some (.int m), some (.int (nI i))] [] w cb sb := by
  intro n
  induction n with
  | zero =>
    intro i m hi hk
    exact pm_run 40 (And.intro (fun _ => hk) (fun h => absurd (nI_le (a := 8) (by omega) (by omega)) h))
  | succ n ih =>
    intro i m hi hk
    refine pm_run 60 (And.intro (fun h => absurd h (nI_ge (b := 8) (by omega) (by omega))) (fun _ => And.intro (fun (h0 : ¬ m &&& 1 = 1) => ?_) (fun (h0 : m &&& 1 = 1) => ?_)))
    · have h1 : m &&& 1 = 0 := by
        obtain ⟨j, hj, e⟩ := pk_andE m (m := 1) 1 (by decide +kernel)
        rw [e] at h0 ⊢
        rcases Nat.lt_or_ge j 1 with h | h
        · have : j = 0 := by omega
          subst this
          rfl
        · have : j = 1 := by omega
          subst this
          exact absurd rfl h0
      refine pm_J.locals (M := [some (.int a), some (.int b), some (.int (f_sh m)), some (.int (nI (i + 1)))]) (ih (i + 1) (f_sh m) (by omega) ?_) ⟨rfl, rfl, rfl, congrArg (fun z => some (Value.int z)) (nI_succ i).symm, trivial⟩
      have e : f_cn (n + 1) m = f_cn n (f_sh m) := by
        show f_cn n (f_c1 m) = _
        rw [f_c1, if_pos h1]
      rw [← e]
      exact hk
    · have h1 : ¬ m &&& 1 = 0 := by rw [h0]; decide
      refine pm_J.locals (M := [some (.int a), some (.int b), some (.int (f_sh m ^^^ (-306674912))), some (.int (nI (i + 1)))]) (ih (i + 1) _ (by omega) ?_) ⟨rfl, rfl, rfl, congrArg (fun z => some (Value.int z)) (nI_succ i).symm, trivial⟩
      have e : f_cn (n + 1) m = f_cn n (f_sh m ^^^ (-306674912)) := by
        show f_cn n (f_c1 m) = _
        rw [f_c1, if_neg h1]
      rw [← e]
      exact hk
theorem c_crc {w : pm_D} {a b : Int32} (hk : k (some (.int (f_cn 8 (a ^^^ b)))) w) : pm_C 68 d al [.int a, .int b] w k kx := pm_Ci rfl (pm_run 40 (l_crc a b 8 0 _ rfl hk))
def f_k : Nat → Int32
  | 0 => -1
  | n + 1 => nI n
theorem f_k_step : ∀ n, n < 400 → f_k (n + 1) + (-1) = f_k n := by decide +kernel
theorem f_k_pos (n : Nat) (h : n < 400) : ¬ f_k (n + 1) < 0 := nI_pos (by omega)
theorem l_msum (x : Int64) : ∀ (n : Nat) (r : Int32), n ≤ 8 → k (some (.int (f_cks x n r ^^^ (-1)))) (wm P t W T Rr B N F D we ag tk wi ma wo he ae ca tr lo hd R) → pm_J 69 (d + 1) al none k kx 11 [some (.ref 16), some (.long x), none, some (.int r), some (.int (f_k n))] [] (wm P t W T Rr B N F D we ag tk wi ma wo he ae ca tr lo hd R) cb sb := by
  intro n
  induction n with
  | zero =>
    intro r _ hk
    exact pm_run 40 (And.intro (fun _ => hk) (fun h => absurd (by decide +kernel) h))
  | succ n ih =>
    intro r hn hk
    refine pm_run 60 (And.intro (fun h => absurd h (f_k_pos n (by omega))) (fun _ => And.intro ⟨Nat.zero_le _, Nat.zero_le _⟩ (c_crc ?_)))
    have e : ((x >>> ((Int32.ofNat 8 * nI n).toInt64 &&& 63)) &&& 255).toInt32 = f_byte x (nI (8 * n)) := by
      rw [show Int32.ofNat 8 * nI n = nI (8 * n) from pk_mul 8 n, m_byteN x (by omega), f_byteN x (by omega)]
    have hJ := ih (f_cn 8 (r ^^^ f_byte x (nI (8 * n)))) (by omega) hk
    refine pm_J.locals (M := [some (.ref 16), some (.long x), none, some (.int (f_cn 8 (r ^^^ f_byte x (nI (8 * n))))), some (.int (f_k n))]) hJ ⟨rfl, rfl, congrArg (fun z => some (Value.int (f_cn 8 (r ^^^ z)))) e, congrArg (fun z => some (Value.int z)) (f_k_step n (by omega)), trivial⟩
theorem c_msum {x : Int64} (hk : k (some (.int (f_sum x))) (wm P 0 W T Rr B N F D we ag tk wi ma wo he ae ca tr lo hd R)) : pm_C 69 (d + 1) al [.ref 16, .long x] (wm P t W T Rr B N F D we ag tk wi ma wo he ae ca tr lo hd R) k kx :=
  pm_Ci rfl (pm_run 40 (l_msum x 8 (-1) (Nat.le_refl 8) hk))
theorem c_at {u : pm_D} {w i : Nat} (hk : k (some (.int (nI (384 * w + 12 * i)))) u) : pm_C 70 d al [.int (nI w), .int (nI i)] u k kx := by
  refine pm_Ci rfl (pm_run 40 ?_)
  have e : Int32.ofNat 384 * nI w + Int32.ofNat 12 * nI i = nI (384 * w + 12 * i) := by
    rw [show Int32.ofNat 384 * nI w = nI (384 * w) from pk_mul 384 w, show Int32.ofNat 12 * nI i = nI (12 * i) from pk_mul 12 i, nI_add]
  rw [← e] at hk
  exact hk
theorem c_far {x y : Int32} {u : pm_D} {e0 : va_E} (hk : k (some (.int ((y - x) &&& 255))) (wm P t W T Rr B N F D we ag tk wi ma wo he ae ca tr lo hd R)) : pm_C 75 d al [.ref 16, .int x, .int y] (wm P t W T Rr B N F D we ag tk wi ma wo he ae ca tr lo hd R) k kx := pm_Ci rfl (pm_run 40 hk)
theorem c_mnoWire {x : Int32} (h1 : x < 0 ∨ 1 < x → k (some (.int 1)) (wm P t W T Rr B N F D we ag tk wi ma wo he ae ca tr lo hd R)) (h0 : ¬ x < 0 → x ≤ 1 → k (some (.int 0)) (wm P t W T Rr B N F D we ag tk wi ma wo he ae ca tr lo hd R)) : pm_C 81 d al [.ref 16, .int x] (wm P t W T Rr B N F D we ag tk wi ma wo he ae ca tr lo hd R) k kx :=
  pm_Ci rfl (pm_run 40 (And.intro (fun h => And.intro rfl (h1 (Or.inl h))) (fun g => And.intro (fun h => And.intro rfl (h0 g h)) (fun h => And.intro rfl (h1 (Or.inr (Int32.not_le.mp h)))))))
theorem c_hear {n : Nat} (hn : n < 256) (h1 : he n = 0 → k (some (.int 1)) (wm P t W T Rr B N F D we ag tk wi ma wo (upd he n 1) ae ca tr lo hd R)) (h0 : ¬ he n = 0 → k (some (.int 0)) (wm P t W T Rr B N F D we ag tk wi ma wo he ae ca tr lo hd R)) : pm_C 78 d al [.ref 16, .int (nI n)] (wm P t W T Rr B N F D we ag tk wi ma wo he ae ca tr lo hd R) k kx := by
  have e : (nI n).toNatClampNeg = n := nI_clamp (by omega)
  refine pm_Ci rfl (pm_run 40 (And.intro (vin hn (by omega)) (And.intro (fun h => And.intro (vin hn (by omega)) ?_) (fun h => ?_))))
  · rw [e] at h ⊢
    exact h1 h
  · rw [e] at h
    exact h0 h
theorem l_bytes (g : Nat → Nat) (hg : ∀ i, g i < 256) {a n : Nat} (hn : n ≤ 8) (ha : a + n ≤ 768) (hw : ∀ i, i < n → wi (a + i) = nI (g i)) : ∀ (r i : Nat), i + r = n → k (some (.long (lN (acN g n)))) (wm P t W T Rr B N F D we ag tk wi ma wo he ae ca tr lo hd R) → pm_J 71 d al none k kx 5 [some (.ref 16), some (.int (nI a)), some (.int (nI n)), some (.long (lN (acN g i))), none, some (.int (nI i))] [] (wm P t W T Rr B N F D we ag tk wi ma wo he ae ca tr lo hd R) cb sb := by
  intro r
  induction r with
  | zero =>
    intro i hi hk
    have : i = n := by omega
    subst this
    exact pm_run 40 (And.intro (fun _ => hk) (fun h => absurd (nI_le (by omega) (by omega)) h))
  | succ r ih =>
    intro i hi hk
    have h1 := acN_lt hg (i + 1)
    have h2 : 2 ^ (8 * (i + 1)) ≤ 2 ^ 64 := Nat.pow_le_pow_right (by decide) (by omega)
    rw [acN] at h1
    refine pm_run 60 (And.intro (fun h => absurd h (nI_ge (by omega) (by omega))) (fun _ => And.intro (ix2 (by omega) (by omega)) ?_))
    rw [cl2 (by omega), hw i (by omega)]
    exact pm_J.locals (M := [some (.ref 16), some (.int (nI a)), some (.int (nI n)), some (.long (lN (acN g (i + 1)))), none, some (.int (nI (i + 1)))]) (ih (i + 1) (by omega) hk) ⟨rfl, rfl, rfl, congrArg (fun z => some (Value.long z)) (b_step (hg i) (by omega)), congrArg (fun z => some (Value.int z)) (nI_succ i).symm, trivial⟩
theorem c_bytes (g : Nat → Nat) (hg : ∀ i, g i < 256) {a n : Nat} (hn : n ≤ 8) (ha : a + n ≤ 768) (hw : ∀ i, i < n → wi (a + i) = nI (g i)) (hk : k (some (.long (lN (acN g n)))) (wm P t W T Rr B N F D we ag tk wi ma wo he ae ca tr lo hd R)) : pm_C 71 d al [.ref 16, .int (nI a), .int (nI n)] (wm P t W T Rr B N F D we ag tk wi ma wo he ae ca tr lo hd R) k kx :=
  pm_Ci rfl (pm_run 40 (l_bytes g hg hn ha hw n 0 (by omega) hk))

theorem l_put2 {x : Int64} {y : Int32} {w a n : Nat} (hw : w < 2) (ha : a + 12 ≤ 768) (hm : ma w = nI n) : ∀ (r i : Nat), i + r = 4 → k (some (.int 1)) (wm P t W T Rr B N F D we ag tk (wr wi a (fun j => nI (fB (x, y) j)) 12) (upd ma w (nI (n + 1))) wo he ae ca tr lo hd R) →
    pm_J 72 d al none k kx 108 [some (.ref 16), some (.int (nI w)), none, none, none, none, some (.long x), none, some (.int y), some (.int (nI a)), some (.int (nI i))] [] (wm P t W T Rr B N F D we ag tk (wr wi a (fun j => nI (fB (x, y) j)) (8 + i)) ma wo he ae ca tr lo hd R) cb sb := by
  intro r
  have ew : (nI w).toNatClampNeg = w := nI_clamp (by omega)
  induction r with
  | zero =>
    intro i hi hk
    have : i = 4 := by omega
    subst this
    refine pm_run 60 (And.intro (fun _ => And.intro (vin hw (by omega)) (And.intro (vin hw (by omega)) (And.intro rfl ?_))) (fun h => absurd (nI_le (a := 4) (by omega) (by omega)) h))
    rw [ew, hm]
    rw [nI_succ] at hk
    exact hk
  | succ r ih =>
    intro i hi hk
    have e : (y >>> ((Int32.ofNat 8 * (Int32.ofNat 3 - nI i)) &&& 31)) &&& Int32.ofNat 255 = nI (fB (x, y) (8 + i)) := by
      rw [show Int32.ofNat 3 - nI i = nI (3 - i) from pk_sub (a := 3) (by omega), show Int32.ofNat 8 * nI (3 - i) = nI (8 * (3 - i)) from pk_mul 8 (3 - i)]
      refine (m_chkN y (n := 3 - i) (by omega)).trans ?_
      rw [fB, if_neg (by omega), show 11 - (8 + i) = 3 - i by omega]
    refine pm_run 60 (And.intro (fun h => absurd h (nI_ge (b := 4) (by omega) (by omega))) (fun _ => And.intro (ix3 (b := 8) (by omega) (by omega)) ?_))
    refine pm_J.locals (M := [some (.ref 16), some (.int (nI w)), none, none, none, none, some (.long x), none, some (.int y), some (.int (nI a)), some (.int (nI (i + 1)))]) ?_ ⟨rfl, rfl, rfl, rfl, rfl, congrArg (fun z => some (Value.int z)) (nI_succ i).symm, trivial⟩
    have hJ := ih (i + 1) (by omega) hk
    rw [show (nI a + Int32.ofNat 8 + nI i).toNatClampNeg = a + (8 + i) from (cl3 (b := 8) (by omega)).trans (by omega), e]
    have e2 : upd (wr wi a (fun j => nI (fB (x, y) j)) (8 + i)) (a + (8 + i)) (nI (fB (x, y) (8 + i))) = wr wi a (fun j => nI (fB (x, y) j)) (8 + (i + 1)) := wr_s (g := fun j => nI (fB (x, y) j))
    rw [e2]
    exact hJ
theorem l_put1 {x : Int64} {y : Int32} {w a n : Nat} (hw : w < 2) (ha : a + 12 ≤ 768) (hm : ma w = nI n) : ∀ (r i : Nat), i + r = 8 → k (some (.int 1)) (wm P t W T Rr B N F D we ag tk (wr wi a (fun j => nI (fB (x, y) j)) 12) (upd ma w (nI (n + 1))) wo he ae ca tr lo hd R) →
    pm_J 72 d al none k kx 66 [some (.ref 16), some (.int (nI w)), none, none, none, none, some (.long x), none, some (.int y), some (.int (nI a)), some (.int (nI i))] [] (wm P t W T Rr B N F D we ag tk (wr wi a (fun j => nI (fB (x, y) j)) i) ma wo he ae ca tr lo hd R) cb sb := by
  intro r
  induction r with
  | zero =>
    intro i hi hk
    have : i = 8 := by omega
    subst this
    exact pm_run 60 (And.intro (fun _ => pm_J.locals (l_put2 hw ha hm 4 0 rfl hk) ⟨rfl, rfl, rfl, rfl, rfl, rfl, trivial⟩) (fun h => absurd (nI_le (a := 8) (by omega) (by omega)) h))
  | succ r ih =>
    intro i hi hk
    have e : ((x >>> ((Int32.ofNat 8 * (Int32.ofNat 7 - nI i)).toInt64 &&& 63)) &&& Int64.ofNat 255).toInt32 = nI (fB (x, y) i) := by
      rw [show Int32.ofNat 7 - nI i = nI (7 - i) from pk_sub (a := 7) (by omega), show Int32.ofNat 8 * nI (7 - i) = nI (8 * (7 - i)) from pk_mul 8 (7 - i)]
      refine (m_byteN x (n := 7 - i) (by omega)).trans ?_
      rw [fB, if_pos (by omega)]
    refine pm_run 60 (And.intro (fun h => absurd h (nI_ge (b := 8) (by omega) (by omega))) (fun _ => And.intro (ix2 (by omega) (by omega)) ?_))
    refine pm_J.locals (M := [some (.ref 16), some (.int (nI w)), none, none, none, none, some (.long x), none, some (.int y), some (.int (nI a)), some (.int (nI (i + 1)))]) ?_ ⟨rfl, rfl, rfl, rfl, rfl, congrArg (fun z => some (Value.int z)) (nI_succ i).symm, trivial⟩
    have hJ := ih (i + 1) (by omega) hk
    rw [cl2 (by omega), e]
    have e2 : upd (wr wi a (fun j => nI (fB (x, y) j)) i) (a + i) (nI (fB (x, y) i)) = wr wi a (fun j => nI (fB (x, y) j)) (i + 1) := wr_s (g := fun j => nI (fB (x, y) j))
    rw [e2]
    exact hJ
theorem c_mput {Rm w : Nat} {Q : Nat → Qu} {kd nu wd mp : Int32} (hw : w < 2) (hR : Rm ≤ 32) (hQ : rQ Rm Q wi ma) (h0 : Rm ≤ (Q w).length → k (some (.int 0)) (wm P t W T (nI Rm) B N F D we ag tk wi ma wo he ae ca tr lo hd R))
    (h1 : (Q w).length < Rm → ∀ wi' ma' : Nat → Int32, rQ Rm (uQ Q w (Q w ++ [fr (f_of kd nu wd mp)])) wi' ma' → k (some (.int 1)) (wm P 0 W T (nI Rm) B N F D we ag tk wi' ma' wo he ae ca tr lo hd R)) : pm_C 72 (d + 2) al [.ref 16, .int (nI w), .int kd, .int nu, .int wd, .int mp] (wm P t W T (nI Rm) B N F D we ag tk wi ma wo he ae ca tr lo hd R) k kx := by
  obtain ⟨q1, q2, q3⟩ := hQ w hw
  have ew : (nI w).toNatClampNeg = w := nI_clamp (by omega)
  refine pm_Ci rfl (pm_run 80 (And.intro (vin hw (by omega)) (And.intro (fun h => ?_) (fun h => And.intro rfl (h0 ?_)))))
  · rw [ew, q2, nI_eq (by omega) (by omega)] at h
    refine And.intro ⟨Nat.zero_le _, Nat.zero_le _⟩ (c_msum (And.intro (vin hw (by omega)) (And.intro ⟨Nat.zero_le _, Nat.zero_le _⟩ ?_)))
    rw [ew, q2]
    refine c_at ?_
    have hJ := l_put1 (d := d + 2) (al := al) (k := k) (kx := kx) (cb := 0) (sb := 0) (R := R) (P := P) (t := 0) (W := W) (T := T) (Rr := nI Rm) (B := B) (N := N) (F := F) (D := D) (we := we) (ag := ag) (tk := tk) (wi := wi) (ma := ma) (wo := wo) (he := he) (ae := ae) (ca := ca) (tr := tr) (lo := lo) (hd := hd) (x := f_of kd nu wd mp) (y := f_sum (f_of kd nu wd mp)) (w := w) (a := 384 * w + 12 * (Q w).length) (n := (Q w).length) hw (by omega) q2 8 0 rfl (h1 (by omega) _ _ (rQ_upd hQ hR (by simp; omega) (rB_put q1) (by rw [pk_us]; simp) (fun v _ hv => pk_un hv) (fun j hj => wr_out (by omega))))
    rw [wr_0] at hJ
    exact pm_J.room (pm_J.locals hJ ⟨rfl, rfl, rfl, rfl, rfl, rfl, trivial⟩) (Nat.zero_le _) (Nat.zero_le _)
  · rw [ew, q2, nI_eq (by omega) (by omega)] at h
    omega
theorem l_drop {w n : Nat} (hw : w < 2) (hn : n < 32) (hm : ma w = nI n) : ∀ (r i : Nat), i + r = 12 * n → k none (wm P t W T Rr B N F D we ag tk (cp wi (384 * w) (12 * n)) ma wo he ae ca tr lo hd R) → pm_J 73 d al none k kx 18 [some (.ref 16), some (.int (nI w)), some (.int (nI (384 * w))), some (.int (nI i))] [] (wm P t W T Rr B N F D we ag tk (cp wi (384 * w) i) ma wo he ae ca tr lo hd R) cb sb := by
  intro r
  have ew : (nI w).toNatClampNeg = w := nI_clamp (by omega)
  have em : Int32.ofNat 12 * ma (nI w).toNatClampNeg = nI (12 * n) := by rw [ew, hm]; exact pk_mul 12 n
  induction r with
  | zero =>
    intro i hi hk
    have : i = 12 * n := by omega
    subst this
    refine pm_run 60 (And.intro (vin hw (by omega)) (And.intro (fun _ => hk) (fun h => absurd ?_ h)))
    rw [em]
    exact nI_le (by omega) (by omega)
  | succ r ih =>
    intro i hi hk
    refine pm_run 60 (And.intro (vin hw (by omega)) (And.intro (fun h => absurd h ?_) (fun _ => And.intro (ix3 (c := 12) (by omega) (by omega)) (And.intro (ix2 (by omega) (by omega)) ?_))))
    · rw [em]
      exact nI_ge (by omega) (by omega)
    · rw [show (nI (384 * w) + nI i + Int32.ofNat 12).toNatClampNeg = 384 * w + i + 12 from cl3 (c := 12) (by omega), cl2 (by omega), cp_s]
      exact pm_J.locals (M := [some (.ref 16), some (.int (nI w)), some (.int (nI (384 * w))), some (.int (nI (i + 1)))]) (ih (i + 1) (by omega) hk) ⟨rfl, rfl, rfl, congrArg (fun z => some (Value.int z)) (nI_succ i).symm, trivial⟩
theorem c_drop {Rm w : Nat} {Q : Nat → Qu} {f : Int64 × Int32} {q : Qu} (hw : w < 2) (hR : Rm ≤ 32) (hQ : rQ Rm Q wi ma) (hq : Q w = f :: q) (hk : ∀ wi' ma' : Nat → Int32, rQ Rm (uQ Q w q) wi' ma' → k none (wm P t W T Rr B N F D we ag tk wi' ma' wo he ae ca tr lo hd R)) : pm_C 73 (d + 1) al [.ref 16, .int (nI w)] (wm P t W T Rr B N F D we ag tk wi ma wo he ae ca tr lo hd R) k kx := by
  obtain ⟨q1, q2, q3⟩ := hQ w hw
  rw [hq] at q1 q2 q3
  simp only [List.length_cons] at q2 q3
  have ew : (nI w).toNatClampNeg = w := nI_clamp (by omega)
  refine pm_Ci rfl (pm_run 80 (And.intro (vin hw (by omega)) (And.intro (vin hw (by omega)) (And.intro ⟨Nat.zero_le _, Nat.zero_le _⟩ (c_at (i := 0) ?_)))))
  have e1 : ma (nI w).toNatClampNeg - Int32.ofNat 1 = nI q.length := by rw [ew, q2]; exact nI_pred _
  rw [e1, ew]
  have hJ := l_drop (d := d + 1) (al := al) (k := k) (kx := kx) (cb := 0) (sb := 0) (R := R) (P := P) (t := t) (W := W) (T := T) (Rr := Rr) (B := B) (N := N) (F := F) (D := D) (we := we) (ag := ag) (tk := tk) (wi := wi) (ma := upd ma w (nI q.length)) (wo := wo) (he := he) (ae := ae) (ca := ca) (tr := tr) (lo := lo) (hd := hd) (w := w) (n := q.length) hw (by omega) pk_us (12 * q.length) 0 (by omega) (hk _ _ (rQ_upd hQ hR (by omega) (rB_cp q1) pk_us (fun v _ hv => pk_un hv) (fun j hj => if_neg (by omega))))
  rw [cp_0] at hJ
  exact pm_J.room (pm_J.locals hJ ⟨rfl, rfl, rfl, rfl, trivial⟩) (Nat.zero_le _) (Nat.zero_le _)
theorem c_mgood {Rm w : Nat} {Q : Nat → Qu} {f : Int64 × Int32} {q : Qu} (hw : w < 2) (hR : Rm ≤ 32) (hQ : rQ Rm Q wi ma) (hq : Q w = f :: q) (h1 : f_sum f.1 = f.2 → f_kind f.1 = nI w → k (some (.int 1)) (wm P 0 W T Rr B N F D we ag tk wi ma wo he ae ca tr lo hd R)) (h0 : ¬ (f_sum f.1 = f.2 ∧ f_kind f.1 = nI w) → k (some (.int 0)) (wm P 0 W T Rr B N F D we ag tk wi ma wo he ae ca tr lo hd R)) : pm_C 74 (d + 2) al [.ref 16, .int (nI w)] (wm P 0 W T Rr B N F D we ag tk wi ma wo he ae ca tr lo hd R) k kx := by
  obtain ⟨q1, q2, q3⟩ := hQ w hw
  rw [hq] at q1 q2 q3
  have hb : ∀ j, j < 12 → wi (384 * w + j) = nI (fB f j) := fun j hj => q1 0 f rfl j hj
  have e0 : (nI (384 * w + 12 * 0)).toNatClampNeg = 384 * w + 0 := nI_clamp (by omega)
  refine pm_Ci rfl (pm_run 80 (And.intro ⟨Nat.zero_le _, Nat.zero_le _⟩ (c_at (i := 0) (And.intro (vin (by omega) (by omega)) (And.intro (fun h => And.intro rfl (h0 (fun z => ?_))) (fun h => And.intro ⟨Nat.zero_le _, Nat.zero_le _⟩ (c_bytes (fun i => fB f (0 + i)) (fun i => fB_lt f _) (n := 8) (by omega) (by omega) (fun i hi => by rw [Nat.zero_add]; exact hb i (by omega)) (And.intro ⟨Nat.zero_le _, Nat.zero_le _⟩ (c_msum (And.intro ⟨Nat.zero_le _, Nat.zero_le _⟩ ?_))))))))))
  · rw [e0, hb 0 (by omega), fB_kind] at h
    exact h z.2
  · rw [e0, hb 0 (by omega), fB_kind] at h
    rw [show nI (384 * w + 12 * 0) + Int32.ofNat 8 = nI (384 * w + 8) from nI_add (384 * w) 8]
    refine c_bytes (fun i => fB f (8 + i)) (fun i => fB_lt f _) (n := 4) (by omega) (by omega) (fun i hi => by rw [Nat.add_assoc]; exact hb (8 + i) (by omega)) ?_
    rw [ac8, ac4]
    have e9 : (lN f.2.toBitVec.toNat).toInt32 = f.2 := by rw [lN_w, nI_of32]
    exact And.intro (fun g => And.intro rfl (h0 (fun z => g (z.1.trans e9.symm)))) (fun g => And.intro rfl (h1 (g.trans e9) h))
end PM1
