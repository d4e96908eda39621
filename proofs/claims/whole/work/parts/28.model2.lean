/-! THE REFERENCE: its calls on wires -/
theorem nw {w : Nat} (hw : w < 2) : ¬ (nI w < 0 ∨ 1 < nI w) := by
  intro h
  rcases h with h | h
  · exact nI_pos (by omega) h
  · exact nI_nlt (a := 1) (b := w) (by omega) (by omega) h
theorem nw_le {w : Nat} (hw : w < 2) : nI w ≤ 1 := nI_le (b := 1) (by omega) (by omega)
section PM2
variable {d : Nat} {al : Bool} {k : pm_K} {kx : pm_X} {cb sb : Nat} {R : pm_D} {P : LkP} {t W T Rr B N F D we ag tk : Int32} {wi ma wo he ae ca tr lo hd : Nat → Int32}
theorem c_mloseX {x : Int32} (hx : x < 0 ∨ 1 < x) (hk : k (some (.int 0)) (wm P 1 W T Rr B N F D we ag tk wi ma wo he ae ca tr lo hd R)) : pm_C 82 (d + 2) al [.ref 16, .int x] (wm P t W T Rr B N F D we ag tk wi ma wo he ae ca tr lo hd R) k kx :=
  pm_Ci rfl (pm_run 80 (And.intro ⟨Nat.zero_le _, Nat.zero_le _⟩ (c_mnoWire (fun g => And.intro (fun h => absurd h (by decide)) (fun _ => And.intro (fun _ => And.intro rfl hk) (fun h => absurd (by decide) h))) (fun g1 g2 => absurd hx (fun z => z.elim g1 (fun z => absurd g2 (Int32.not_le.mpr z)))))))
theorem c_mlose {Rm w : Nat} {Q : Nat → Qu} (hw : w < 2) (hR : Rm ≤ 32) (hQ : rQ Rm Q wi ma) (hk : ∀ wi' ma' : Nat → Int32, rQ Rm (uQ Q w (lsQ (Q w)).2) wi' ma' → k (some (.int (lsQ (Q w)).1)) (wm P 0 W T Rr B N F D we ag tk wi' ma' wo he ae ca tr lo hd R)) : pm_C 82 (d + 2) al [.ref 16, .int (nI w)] (wm P t W T Rr B N F D we ag tk wi ma wo he ae ca tr lo hd R) k kx := by
  obtain ⟨q1, q2, q3⟩ := hQ w hw
  have ew : (nI w).toNatClampNeg = w := nI_clamp (by omega)
  refine pm_Ci rfl (pm_run 80 (And.intro ⟨Nat.zero_le _, Nat.zero_le _⟩ (c_mnoWire (fun g => absurd g (nw hw)) (fun g1 g2 => And.intro (fun _ => And.intro (fun h => absurd h (by decide)) (fun _ => And.intro (vin hw (by omega)) (And.intro (fun h => And.intro ⟨Nat.zero_le _, Nat.zero_le _⟩ ?_) (fun h => And.intro rfl ?_)))) (fun h => absurd rfl h)))))
  · rw [ew, q2] at h
    match hq : Q w, h with
    | [], h => exact absurd rfl h
    | f :: q, _ =>
      rw [hq] at hk
      exact c_drop hw hR hQ hq (fun wi' ma' h2 => And.intro rfl (hk wi' ma' h2))
  · rw [ew, q2, ← nI_0, nI_eq (by omega) (by omega), List.length_eq_zero_iff] at h
    have e : uQ Q w (lsQ (Q w)).2 = Q := by
      funext v
      unfold uQ
      by_cases e : v = w
      · rw [if_pos e, e, h]
        rfl
      · rw [if_neg e]
    have e2 : (lsQ (Q w)).1 = 0 := by rw [h]; rfl
    rw [e, e2] at hk
    exact hk wi ma hQ
theorem uQ_id {Q : Nat → Qu} {w : Nat} {q : Qu} (h : q = Q w) : uQ Q w q = Q := by
  funext v
  unfold uQ
  by_cases e : v = w
  · rw [if_pos e, e, h]
  · rw [if_neg e]
theorem l_mtwice {w n : Nat} {k2 : pm_K} (hw : w < 2) (hn : n ≤ 31) : ∀ (i : Nat), i ≤ 12 * n → (pm_J 84 d al none k kx 95 [some (.ref 16), some (.int (nI w)), none, none] [] (wm P t W T Rr B N F D we ag tk (up wi (384 * w) 0 (12 * n)) ma wo he ae ca tr lo hd R) cb sb) → pm_J 84 d al none k kx 66 [some (.ref 16), some (.int (nI w)), some (.int (nI (384 * w))), some (.int (f_k i))] [] (wm P t W T Rr B N F D we ag tk (up wi (384 * w) i (12 * n)) ma wo he ae ca tr lo hd R) cb sb := by
  intro i
  induction i with
  | zero =>
    intro _ hk
    exact pm_run 2 (And.intro (fun _ => pm_J.locals hk ⟨rfl, rfl, trivial⟩) (fun h => absurd (by decide +kernel) h))
  | succ i ih =>
    intro hi hk
    refine pm_run 60 (And.intro (fun h => absurd h (f_k_pos i (by omega))) (fun _ => And.intro (ix2 (by omega) (by omega)) (And.intro (ix3 (c := 12) (by omega) (by omega)) ?_)))
    refine pm_J.locals (M := [some (.ref 16), some (.int (nI w)), some (.int (nI (384 * w))), some (.int (f_k i))]) ?_ ⟨rfl, rfl, rfl, congrArg (fun z => some (Value.int z)) (f_k_step i (by omega)), trivial⟩
    have e1 : (nI (384 * w) + f_k (i + 1) + Int32.ofNat 12).toNatClampNeg = 384 * w + i + 12 := cl3 (c := 12) (by omega)
    have e2 : (nI (384 * w) + f_k (i + 1)).toNatClampNeg = 384 * w + i := cl2 (by omega)
    rw [e1, e2, up_s (by omega)]
    exact ih (by omega) hk
theorem c_mtwiceX {x : Int32} (hx : x < 0 ∨ 1 < x) (hk : k (some (.int 0)) (wm P 1 W T Rr B N F D we ag tk wi ma wo he ae ca tr lo hd R)) : pm_C 84 (d + 2) al [.ref 16, .int x] (wm P t W T Rr B N F D we ag tk wi ma wo he ae ca tr lo hd R) k kx :=
  pm_Ci rfl (pm_run 80 (And.intro ⟨Nat.zero_le _, Nat.zero_le _⟩ (c_mnoWire (fun g => And.intro (fun h => absurd h (by decide)) (fun _ => And.intro (fun _ => And.intro rfl hk) (fun h => absurd (by decide) h))) (fun g1 g2 => absurd hx (fun z => z.elim g1 (fun z => absurd g2 (Int32.not_le.mpr z)))))))
theorem c_mtwice {Rm w : Nat} {Q : Nat → Qu} (hw : w < 2) (hR : Rm ≤ 32) (hQ : rQ Rm Q wi ma) (hk : ∀ wi' ma' : Nat → Int32, rQ Rm (uQ Q w (twQ Rm (Q w)).2) wi' ma' → k (some (.int (twQ Rm (Q w)).1)) (wm P 0 W T (nI Rm) B N F D we ag tk wi' ma' wo he ae ca tr lo hd R)) : pm_C 84 (d + 2) al [.ref 16, .int (nI w)] (wm P t W T (nI Rm) B N F D we ag tk wi ma wo he ae ca tr lo hd R) k kx := by
  obtain ⟨q1, q2, q3⟩ := hQ w hw
  have ew : (nI w).toNatClampNeg = w := nI_clamp (by omega)
  have no : (twQ Rm (Q w)) = (0, Q w) → k (some (.int 0)) (wm P 0 W T (nI Rm) B N F D we ag tk wi ma wo he ae ca tr lo hd R) := fun e => by
    rw [e, uQ_id rfl] at hk
    exact hk wi ma hQ
  refine pm_Ci rfl (pm_run 120 (And.intro ⟨Nat.zero_le _, Nat.zero_le _⟩ (c_mnoWire (fun g => absurd g (nw hw)) (fun g1 g2 => And.intro (fun _ => And.intro (fun h => absurd h (by decide)) (fun _ => And.intro (vin hw (by omega)) (And.intro (fun h => And.intro rfl (no ?_)) (fun h => And.intro (vin hw (by omega)) (And.intro (fun h2 => And.intro ⟨Nat.zero_le _, Nat.zero_le _⟩ (c_at (i := 0) (And.intro (vin hw (by omega)) ?_))) (fun h2 => And.intro rfl (no ?_))))))) (fun h => absurd rfl h)))))
  · rw [ew, q2, ← nI_0, nI_eq (by omega) (by omega), List.length_eq_zero_iff] at h
    rw [h]
    rfl
  · rw [ew, q2, nI_eq (by omega) (by omega)] at h2
    rw [ew, q2] at h
    match hq : Q w, h with
    | [], h => exact absurd rfl h
    | f :: q, _ =>
      rw [hq] at hk q1 q2 q3 h2
      simp only [List.length_cons] at q2 q3 h2
      have e : twQ Rm (f :: q) = (1, f :: f :: q) := if_pos (by omega)
      rw [e] at hk
      have e3 : Int32.ofNat 12 * ma (nI w).toNatClampNeg - Int32.ofNat 1 = f_k (12 * (q.length + 1)) := by
        rw [ew, q2, show Int32.ofNat 12 * nI (q.length + 1) = nI (12 * (q.length + 1)) from pk_mul 12 _]
        exact pk_sub (b := 1) (by omega)
      have hJ := l_mtwice (d := d + 2) (al := al) (k := k) (kx := kx) (cb := 0) (sb := 0) (R := R) (P := P) (t := 0) (W := W) (T := T) (Rr := nI Rm) (B := B) (N := N) (F := F) (D := D) (we := we) (ag := ag) (tk := tk) (wi := wi) (ma := ma) (wo := wo) (he := he) (ae := ae) (ca := ca) (tr := tr) (lo := lo) (hd := hd) (w := w) (n := q.length + 1) (k2 := k) hw (by omega) (12 * (q.length + 1)) (Nat.le_refl _) (pm_run 60 (And.intro (vin hw (by omega)) (And.intro (vin hw (by omega)) (And.intro rfl (by rw [ew, q2]; exact hk _ _ (rQ_upd hQ hR (by simp; omega) (rB_up q1) (by rw [pk_us]; exact nI_1 _) (fun v _ hv => pk_un hv) (fun j hj => if_neg (by omega))))))))
      rw [up_0] at hJ
      exact pm_J.room (pm_J.locals hJ ⟨rfl, rfl, rfl, congrArg (fun z => some (Value.int z)) e3, trivial⟩) (Nat.zero_le _) (Nat.zero_le _)
  · rw [ew, q2, nI_eq (by omega) (by omega)] at h2
    match hq : Q w with
    | [] => rfl
    | f :: q =>
      rw [hq] at h2
      simp only [List.length_cons] at h2
      exact if_neg (by omega)
theorem l_mdel1 {w : Nat} (hw : w < 2) : ∀ (r i : Nat), i + r = 12 → (pm_J 85 d al none k kx 70 [some (.ref 16), some (.int (nI w)), none, none] [] (wm P t W T Rr B N F D we ag tk wi ma wo he ae ca tr lo (wr hd 0 (fun j => wi (384 * w + j)) 12) R) cb sb) → pm_J 85 d al none k kx 44 [some (.ref 16), some (.int (nI w)), some (.int (nI (384 * w))), some (.int (nI i))] [] (wm P t W T Rr B N F D we ag tk wi ma wo he ae ca tr lo (wr hd 0 (fun j => wi (384 * w + j)) i) R) cb sb := by
  intro r
  induction r with
  | zero =>
    intro i hi hk
    have : i = 12 := by omega
    subst this
    exact pm_run 3 (And.intro (fun _ => pm_J.locals hk ⟨rfl, rfl, trivial⟩) (fun h => absurd (nI_le (a := 12) (by omega) (by omega)) h))
  | succ r ih =>
    intro i hi hk
    refine pm_run 60 (And.intro (fun h => absurd h (nI_ge (b := 12) (by omega) (by omega))) (fun _ => And.intro (ix2 (by omega) (by omega)) (And.intro (vin (by omega) (by omega)) ?_)))
    refine pm_J.locals (M := [some (.ref 16), some (.int (nI w)), some (.int (nI (384 * w))), some (.int (nI (i + 1)))]) ?_ ⟨rfl, rfl, rfl, congrArg (fun z => some (Value.int z)) (nI_succ i).symm, trivial⟩
    have e2 : upd (wr hd 0 (fun j => wi (384 * w + j)) i) i (wi (384 * w + i)) = wr hd 0 (fun j => wi (384 * w + j)) (i + 1) := by
      have := wr_s (f := hd) (a := 0) (g := fun j => wi (384 * w + j)) (n := i)
      rw [Nat.zero_add] at this
      exact this
    rw [cl2 (by omega), nI_clamp (by omega), e2]
    exact ih (i + 1) (by omega) hk
theorem l_mdel2 {w n : Nat} (hw : w < 2) (hn : n < 32) (hm : ma w = nI n) : ∀ (r i : Nat), i + r = 12 → (pm_J 85 (d + 1) al none k kx 112 [some (.ref 16), some (.int (nI w)), none, none] [] (wm P t W T Rr B N F D we ag tk (wr wi (384 * w + 12 * n) hd 12) ma wo he ae ca tr lo hd R) cb sb) → pm_J 85 (d + 1) al none k kx 77 [some (.ref 16), some (.int (nI w)), none, some (.int (nI i))] [] (wm P t W T Rr B N F D we ag tk (wr wi (384 * w + 12 * n) hd i) ma wo he ae ca tr lo hd R) cb sb := by
  intro r
  have ew : (nI w).toNatClampNeg = w := nI_clamp (by omega)
  induction r with
  | zero =>
    intro i hi hk
    have : i = 12 := by omega
    subst this
    exact pm_run 3 (And.intro (fun _ => pm_J.locals hk ⟨rfl, rfl, trivial⟩) (fun h => absurd (nI_le (a := 12) (by omega) (by omega)) h))
  | succ r ih =>
    intro i hi hk
    refine pm_run 60 (And.intro (fun h => absurd h (nI_ge (b := 12) (by omega) (by omega))) (fun _ => And.intro (vin hw (by omega)) (And.intro ⟨Nat.zero_le _, Nat.zero_le _⟩ ?_)))
    rw [ew, hm]
    refine c_at (And.intro (vin (by omega) (by omega)) (And.intro (ix2 (by omega) (by omega)) ?_))
    refine pm_J.locals (M := [some (.ref 16), some (.int (nI w)), none, some (.int (nI (i + 1)))]) ?_ ⟨rfl, rfl, congrArg (fun z => some (Value.int z)) (nI_succ i).symm, trivial⟩
    rw [cl2 (by omega), nI_clamp (by omega), wr_s]
    exact ih (i + 1) (by omega) hk
theorem c_mdelayX {x : Int32} (hx : x < 0 ∨ 1 < x) (hk : k (some (.int 0)) (wm P 1 W T Rr B N F D we ag tk wi ma wo he ae ca tr lo hd R)) : pm_C 85 (d + 2) al [.ref 16, .int x] (wm P t W T Rr B N F D we ag tk wi ma wo he ae ca tr lo hd R) k kx :=
  pm_Ci rfl (pm_run 80 (And.intro ⟨Nat.zero_le _, Nat.zero_le _⟩ (c_mnoWire (fun g => And.intro (fun h => absurd h (by decide)) (fun _ => And.intro (fun _ => And.intro rfl hk) (fun h => absurd (by decide) h))) (fun g1 g2 => absurd hx (fun z => z.elim g1 (fun z => absurd g2 (Int32.not_le.mpr z)))))))
theorem c_mdelay {Rm w : Nat} {Q : Nat → Qu} (hw : w < 2) (hR : Rm ≤ 32) (hQ : rQ Rm Q wi ma) (hk : ∀ wi' ma' hd' : Nat → Int32, rQ Rm (uQ Q w (dyQ (Q w)).2) wi' ma' → k (some (.int (dyQ (Q w)).1)) (wm P 0 W T Rr B N F D we ag tk wi' ma' wo he ae ca tr lo hd' R)) : pm_C 85 (d + 2) al [.ref 16, .int (nI w)] (wm P t W T Rr B N F D we ag tk wi ma wo he ae ca tr lo hd R) k kx := by
  obtain ⟨q1, q2, q3⟩ := hQ w hw
  have ew : (nI w).toNatClampNeg = w := nI_clamp (by omega)
  refine pm_Ci rfl (pm_run 120 (And.intro ⟨Nat.zero_le _, Nat.zero_le _⟩ (c_mnoWire (fun g => absurd g (nw hw)) (fun g1 g2 => And.intro (fun _ => And.intro (fun h => absurd h (by decide)) (fun _ => And.intro (vin hw (by omega)) (And.intro (fun h => And.intro ⟨Nat.zero_le _, Nat.zero_le _⟩ (c_at (i := 0) ?_)) (fun h => And.intro rfl ?_)))) (fun h => absurd rfl h)))))
  · have h : nI 2 ≤ ma (nI w).toNatClampNeg := h
    rw [ew, q2, nI_leI (by omega) (by omega)] at h
    match hq : Q w, h with
    | f :: g :: q, _ =>
      rw [hq] at hk q1 q2 q3
      have e : dyQ (f :: g :: q) = (1, (g :: q) ++ [f]) := rfl
      rw [e] at hk
      have hJ := l_mdel1 (d := d + 2) (al := al) (k := k) (kx := kx) (cb := 0) (sb := 0) (R := R) (P := P) (t := 0) (W := W) (T := T) (Rr := Rr) (B := B) (N := N) (F := F) (D := D) (we := we) (ag := ag) (tk := tk) (wi := wi) (ma := ma) (wo := wo) (he := he) (ae := ae) (ca := ca) (tr := tr) (lo := lo) (hd := hd) (w := w) hw 12 0 rfl (pm_run 60 (And.intro ⟨Nat.zero_le _, Nat.zero_le _⟩ (c_drop hw hR hQ hq (fun wi2 ma2 hQ2 => ?_))))
      · rw [wr_0] at hJ
        exact pm_J.room (pm_J.locals hJ ⟨rfl, rfl, rfl, rfl, trivial⟩) (Nat.zero_le _) (Nat.zero_le _)
      · obtain ⟨p1, p2, p3⟩ := hQ2 w hw
        have eu : uQ Q w (g :: q) w = g :: q := if_pos rfl
        rw [eu] at p1 p2 p3
        have eh : wr wi2 (384 * w + 12 * (g :: q).length) (wr hd 0 (fun j => wi (384 * w + j)) 12) 12 = wr wi2 (384 * w + 12 * (g :: q).length) (fun j => nI (fB f j)) 12 := by
          funext j
          unfold wr
          by_cases c : 384 * w + 12 * (g :: q).length ≤ j ∧ j < 384 * w + 12 * (g :: q).length + 12
          · rw [if_pos c, if_pos c, if_pos (by omega), Nat.sub_zero]
            exact q1 0 f rfl _ (by omega)
          · rw [if_neg c, if_neg c]
        have hU := rQ_upd (w := w) (q := (g :: q) ++ [f]) (wi' := wr wi2 (384 * w + 12 * (g :: q).length) (fun j => nI (fB f j)) 12) (ma' := upd ma2 w (nI (g :: q).length + Int32.ofNat 1)) hQ2 hR (by simp only [List.length_append, List.length_cons, List.length_nil] at q3 ⊢; omega) (rB_put p1) (by rw [pk_us]; exact (nI_1 _).trans (by simp)) (fun v _ hv => pk_un hv) (fun j hj => wr_out (by simp only [List.length_cons] at q3 ⊢; omega))
        have eq2 : uQ (uQ Q w (g :: q)) w ((g :: q) ++ [f]) = uQ Q w ((g :: q) ++ [f]) := by
          funext v
          unfold uQ
          by_cases e : v = w <;> simp [e]
        rw [eq2, ← eh] at hU
        have hJ2 := l_mdel2 (d := d + 1) (al := al) (k := k) (kx := kx) (cb := 0) (sb := 0) (R := R) (P := P) (t := 0) (W := W) (T := T) (Rr := Rr) (B := B) (N := N) (F := F) (D := D) (we := we) (ag := ag) (tk := tk) (wi := wi2) (ma := ma2) (wo := wo) (he := he) (ae := ae) (ca := ca) (tr := tr) (lo := lo) (hd := wr hd 0 (fun j => wi (384 * w + j)) 12) (w := w) (n := (g :: q).length) hw (by simp only [List.length_cons] at q3 ⊢; omega) p2 12 0 rfl (pm_run 60 (And.intro (vin hw (by omega)) (And.intro (vin hw (by omega)) (And.intro rfl (by rw [ew, p2]; exact hk _ _ _ hU)))))
        rw [wr_0] at hJ2
        exact pm_J.room (pm_J.locals hJ2 ⟨rfl, rfl, rfl, trivial⟩) (Nat.zero_le _) (Nat.zero_le _)
  · have h : ¬ nI 2 ≤ ma (nI w).toNatClampNeg := h
    rw [ew, q2, nI_leI (by omega) (by omega)] at h
    have e : dyQ (Q w) = (0, Q w) := by
      match hq : Q w with
      | [] => rfl
      | [f] => rfl
      | f :: g :: q =>
        rw [hq] at h
        exact absurd (by simp) h
    rw [e, uQ_id rfl] at hk
    exact hk wi ma hd hQ
theorem c_mchangeX {x y : Int32} (hx : (x < 0 ∨ 1 < x) ∨ y < 0 ∨ 95 < y) (hk : k (some (.int 0)) (wm P 1 W T Rr B N F D we ag tk wi ma wo he ae ca tr lo hd R)) : pm_C 83 (d + 2) al [.ref 16, .int x, .int y] (wm P t W T Rr B N F D we ag tk wi ma wo he ae ca tr lo hd R) k kx :=
  pm_Ci rfl (pm_run 80 (And.intro ⟨Nat.zero_le _, Nat.zero_le _⟩ (c_mnoWire (fun g => And.intro (fun _ => And.intro (fun _ => And.intro rfl hk) (fun h => absurd (by decide) h)) (fun h => absurd h (by decide))) (fun g1 g2 => And.intro (fun h => absurd rfl h) (fun _ => And.intro (fun h => And.intro (fun _ => And.intro rfl hk) (fun h => absurd (by decide) h)) (fun h3 => And.intro (fun h4 => absurd hx (fun z => z.elim (fun z => z.elim g1 (fun z => absurd g2 (Int32.not_le.mpr z))) (fun z => z.elim h3 (fun z => absurd h4 (Int32.not_le.mpr z))))) (fun h4 => And.intro (fun _ => And.intro rfl hk) (fun h => absurd (by decide) h))))))))
theorem c_mchange {Rm w b : Nat} {Q : Nat → Qu} (hw : w < 2) (hb : b < 96) (hR : Rm ≤ 32) (hQ : rQ Rm Q wi ma) (hk : ∀ wi' ma' : Nat → Int32, rQ Rm (uQ Q w (chQ (nI b) (Q w)).2) wi' ma' → k (some (.int (chQ (nI b) (Q w)).1)) (wm P 0 W T Rr B N F D we ag tk wi' ma' wo he ae ca tr lo hd R)) : pm_C 83 (d + 2) al [.ref 16, .int (nI w), .int (nI b)] (wm P t W T Rr B N F D we ag tk wi ma wo he ae ca tr lo hd R) k kx := by
  obtain ⟨q1, q2, q3⟩ := hQ w hw
  have ew : (nI w).toNatClampNeg = w := nI_clamp (by omega)
  have e1 : nI (384 * w + 12 * 0) + Int32.ofNat 11 - nI b / Int32.ofNat 8 = nI (384 * w + (11 - b / 8)) := by
    rw [show nI b / Int32.ofNat 8 = nI (b / 8) from pk_div (d := 8) (by omega) (by omega) (by omega), show nI (384 * w + 12 * 0) + Int32.ofNat 11 = nI (384 * w + 12 * 0 + 11) from nI_add _ 11, pk_sub (by omega)]
    exact congrArg nI (by omega)
  have e2 : nI b - nI b / Int32.ofNat 8 * Int32.ofNat 8 = nI (b % 8) := pk_rem (d := 8) (by omega) (by omega) (by omega)
  refine pm_Ci rfl (pm_run 120 (And.intro ⟨Nat.zero_le _, Nat.zero_le _⟩ (c_mnoWire (fun g => absurd g (nw hw)) (fun g1 g2 => And.intro (fun h => absurd rfl h) (fun _ => And.intro (fun h => absurd h (nI_pos (by omega))) (fun _ => And.intro (fun _ => And.intro (fun h => absurd h (by decide)) (fun _ => And.intro (vin hw (by omega)) (And.intro (fun h => And.intro ⟨Nat.zero_le _, Nat.zero_le _⟩ (c_at (i := 0) (And.intro (by decide) ?_))) (fun h => And.intro rfl ?_)))) (fun h => absurd (nI_le (b := 95) (by omega) (by omega)) h)))))))
  · have hin : vp_in (nI (384 * w + 12 * 0) + Int32.ofNat 11 - nI b / Int32.ofNat 8) 768 := by rw [e1]; exact vin (by omega) (by omega)
    refine And.intro hin (And.intro (by decide) (And.intro hin (And.intro rfl ?_)))
    show k (some (.int 1)) (wm P 0 W T Rr B N F D we ag tk (upd wi (nI (384 * w + 12 * 0) + Int32.ofNat 11 - nI b / Int32.ofNat 8).toNatClampNeg (wi (nI (384 * w + 12 * 0) + Int32.ofNat 11 - nI b / Int32.ofNat 8).toNatClampNeg ^^^ (Int32.ofNat 1 <<< ((nI b - nI b / Int32.ofNat 8 * Int32.ofNat 8) &&& 31)))) ma wo he ae ca tr lo hd R)
    rw [e1, e2]
    rw [ew, q2] at h
    match hq : Q w, h with
    | [], h => exact absurd rfl h
    | f :: q, _ =>
      rw [hq] at hk q1 q2 q3
      have e3 : chQ (nI b) (f :: q) = (1, chF (nI b) f :: q) := rfl
      rw [e3] at hk
      rw [nI_clamp (by omega)]
      refine hk _ ma (rQ_upd hQ hR (by simpa using q3) (fun i g hi j hj => ?_) (by simpa using q2) (fun _ _ _ => rfl) (fun j hj => pk_un (by omega)))
      have e5 : (Int32.ofNat 1 <<< (nI (b % 8) &&& 31)) = nI (2 ^ (b % 8)) := one_shl (b % 8) (by omega)
      have e6 : wi (384 * w + (11 - b / 8)) = nI (fB f (11 - b / 8)) := q1 0 f rfl _ (by omega)
      rw [e5, e6, nI_xor]
      cases i with
      | zero =>
        have hg : chF (nI b) f = g := by simpa using hi
        subst hg
        rw [fB_ch f hb hj, Nat.mul_zero, Nat.add_zero]
        by_cases c : j = 11 - b / 8
        · rw [if_pos c, c, pk_us]
        · rw [if_neg c, pk_un (by omega)]
          exact q1 0 f rfl j hj
      | succ i =>
        rw [pk_un (by omega)]
        exact q1 (i + 1) g (by simpa using hi) j hj
  · rw [ew, q2, ← nI_0, nI_eq (by omega) (by omega), List.length_eq_zero_iff] at h
    have e : chQ (nI b) (Q w) = (0, Q w) := by rw [h]; rfl
    rw [e, uQ_id rfl] at hk
    exact hk wi ma hQ
theorem c_mframeX {x y z : Int32} (hx : (x < 0 ∨ 1 < x) ∨ z < 0 ∨ 1 < z) (hk : k (some (.long 0)) (wm P 1 W T Rr B N F D we ag tk wi ma wo he ae ca tr lo hd R)) : pm_C 88 (d + 2) al [.ref 16, .int x, .int y, .int z] (wm P t W T Rr B N F D we ag tk wi ma wo he ae ca tr lo hd R) k kx :=
  pm_Ci rfl (pm_run 80 (And.intro ⟨Nat.zero_le _, Nat.zero_le _⟩ (c_mnoWire (fun g => And.intro (fun _ => And.intro (fun h => absurd h (by decide)) (fun _ => hk)) (fun h => absurd h (by decide))) (fun g1 g2 => And.intro (fun h => absurd rfl h) (fun _ => And.intro (fun h => And.intro (fun h => absurd h (by decide)) (fun _ => hk)) (fun h3 => And.intro (fun h4 => absurd hx (fun z => z.elim (fun z => z.elim g1 (fun z => absurd g2 (Int32.not_le.mpr z))) (fun z => z.elim h3 (fun z => absurd h4 (Int32.not_le.mpr z))))) (fun h4 => And.intro (fun h => absurd h (by decide)) (fun _ => hk))))))))
theorem c_mframeY {Rm w : Nat} {Q : Nat → Qu} {y z : Int32} (hw : w < 2) (hR : Rm ≤ 32) (hQ : rQ Rm Q wi ma) (hz : ¬ (z < 0 ∨ 1 < z)) (hy : y < 0 ∨ nI (Q w).length ≤ y) (hk : k (some (.long 0)) (wm P 2 W T Rr B N F D we ag tk wi ma wo he ae ca tr lo hd R)) : pm_C 88 (d + 2) al [.ref 16, .int (nI w), .int y, .int z] (wm P t W T Rr B N F D we ag tk wi ma wo he ae ca tr lo hd R) k kx := by
  obtain ⟨q1, q2, q3⟩ := hQ w hw
  have ew : (nI w).toNatClampNeg = w := nI_clamp (by omega)
  refine pm_Ci rfl (pm_run 80 (And.intro ⟨Nat.zero_le _, Nat.zero_le _⟩ (c_mnoWire (fun g => absurd g (nw hw)) (fun g1 g2 => And.intro (fun h => absurd rfl h) (fun _ => And.intro (fun h => absurd (Or.inl h) hz) (fun h3 => And.intro (fun h4 => And.intro (fun h => And.intro (fun h => absurd h (by decide)) (fun _ => hk)) (fun h5 => And.intro (vin hw (by omega)) (And.intro (fun h => ?_) (fun h => And.intro (fun h => absurd h (by decide)) (fun _ => hk))))) (fun h4 => absurd (Or.inr (Int32.not_le.mp h4)) hz)))))))
  rw [ew, q2] at h
  exact absurd h (hy.elim (fun z => absurd z h5) (fun z => Int32.not_lt.mpr z))
theorem c_mframe {Rm w i : Nat} {Q : Nat → Qu} {z : Int32} {f : Int64 × Int32} (hw : w < 2) (hR : Rm ≤ 32) (hQ : rQ Rm Q wi ma) (hf : (Q w)[i]? = some f) (h0 : z = 0 → k (some (.long f.1)) (wm P 0 W T Rr B N F D we ag tk wi ma wo he ae ca tr lo hd R)) (h1 : z = 1 → k (some (.long (f.2.toInt64 &&& 4294967295))) (wm P 0 W T Rr B N F D we ag tk wi ma wo he ae ca tr lo hd R)) (hz : z = 0 ∨ z = 1) : pm_C 88 (d + 2) al [.ref 16, .int (nI w), .int (nI i), .int z] (wm P t W T Rr B N F D we ag tk wi ma wo he ae ca tr lo hd R) k kx := by
  obtain ⟨q1, q2, q3⟩ := hQ w hw
  have hil : i < (Q w).length := (List.getElem?_eq_some_iff.mp hf).1
  have ew : (nI w).toNatClampNeg = w := nI_clamp (by omega)
  have z1 : ¬ z < 0 := by rcases hz with h | h <;> rw [h] <;> decide
  have z2 : z ≤ 1 := by rcases hz with h | h <;> rw [h] <;> decide
  have hb : ∀ j, j < 12 → wi (384 * w + 12 * i + j) = nI (fB f j) := fun j hj => q1 i f hf j hj
  refine pm_Ci rfl (pm_run 120 (And.intro ⟨Nat.zero_le _, Nat.zero_le _⟩ (c_mnoWire (fun g => absurd g (nw hw)) (fun g1 g2 => And.intro (fun h => absurd rfl h) (fun _ => And.intro (fun h => absurd h z1) (fun _ => And.intro (fun _ => And.intro (fun h => absurd h (nI_pos (by omega))) (fun _ => And.intro (vin hw (by omega)) (And.intro (fun _ => And.intro (fun _ => And.intro (fun h => And.intro ⟨Nat.zero_le _, Nat.zero_le _⟩ (c_at (And.intro ⟨Nat.zero_le _, Nat.zero_le _⟩ ?_))) (fun h => And.intro ⟨Nat.zero_le _, Nat.zero_le _⟩ (c_at (And.intro ⟨Nat.zero_le _, Nat.zero_le _⟩ (c_bytes (fun j => fB f (0 + j)) (fun j => fB_lt f _) (n := 8) (by omega) (by omega) (fun j hj => by rw [Nat.zero_add]; exact hb j (by omega)) ?_))))) (fun h => absurd (by decide) h)) (fun h => absurd ?_ h)))) (fun h => absurd z2 h)))))))
  · rw [show nI (384 * w + 12 * i) + Int32.ofNat 8 = nI (384 * w + 12 * i + 8) from nI_add _ 8]
    refine c_bytes (fun j => fB f (8 + j)) (fun j => fB_lt f _) (n := 4) (by omega) (by omega) (fun j hj => by rw [Nat.add_assoc]; exact hb (8 + j) (by omega)) ?_
    rw [ac4, ← l_mask]
    exact h1 (hz.elim (fun q => absurd q h) id)
  · rw [ac8]
    exact h0 h
  · rw [ew, q2]
    exact nI_lt hil (by omega)
end PM2
