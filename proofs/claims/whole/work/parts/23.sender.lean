/-! THE SENDER: its methods, and what they do to the list of its entries (word, age, acknowledged) -/
theorem ps_in (z : Int32) : vp_in (z &&& 15) 16 := pk_andIn z (m := 15) 4 (by decide +kernel) (by decide)
abbrev wS (e1 e2 e3 e4 e5 e6 e7 : va_E) (W T B N tk ag : Int32) (ws ags ack : Nat → Int32) (R : pm_D) : pm_D := e1 :: e2 :: e3 :: e4 :: e5 :: e6 :: e7 :: .inr (1, [.ref 9, .ref 10, .ref 11, .int W, .int T, .int B, .int N, .int tk, .int ag]) :: .inl (0, 16, .inl ws) :: .inl (0, 16, .inl ags) :: .inl (2, 16, .inl ack) :: R
theorem pz : (0 : Nat) ≤ 0 ∧ (0 : Nat) ≤ 0 := ⟨Nat.le_refl 0, Nat.le_refl 0⟩
section PS
variable {d : Nat} {al : Bool} {k : pm_K} {kx : pm_X} {e1 e2 e3 e4 e5 e6 e7 : va_E} {W T B N tk ag : Int32} {ws ags ack : Nat → Int32} {R : pm_D} {cb sb : Nat}
theorem c_sClear {x y : Int32} (hk : k none (wS e1 e2 e3 e4 e5 e6 e7 x y 0 0 0 0 ws ags ack R)) : pm_C 20 d al [.ref 8, .int x, .int y] (wS e1 e2 e3 e4 e5 e6 e7 W T B N tk ag ws ags ack R) k kx := pm_Ci rfl (pm_run 60 hk)
theorem c_held (hk : k (some (.int ((N - B) &&& 255))) (wS e1 e2 e3 e4 e5 e6 e7 W T B N tk ag ws ags ack R)) : pm_C 27 (d + 1) al [.ref 8] (wS e1 e2 e3 e4 e5 e6 e7 W T B N tk ag ws ags ack R) k kx := pm_Ci rfl (pm_run 40 (And.intro ⟨Nat.zero_le _, Nat.zero_le _⟩ (c_distance hk)))
theorem c_sHasRoom (h0 : W ≤ (N - B) &&& 255 → k (some (.int 0)) (wS e1 e2 e3 e4 e5 e6 e7 W T B N tk ag ws ags ack R)) (h1 : ¬ W ≤ (N - B) &&& 255 → k (some (.int 1)) (wS e1 e2 e3 e4 e5 e6 e7 W T B N tk ag ws ags ack R)) : pm_C 21 (d + 2) al [.ref 8] (wS e1 e2 e3 e4 e5 e6 e7 W T B N tk ag ws ags ack R) k kx :=
  pm_Ci rfl (pm_run 40 (And.intro ⟨Nat.zero_le _, Nat.zero_le _⟩ (c_held (And.intro (fun h => And.intro rfl (h0 h)) (fun h => And.intro rfl (h1 h))))))
theorem c_frameOf {x : Int32} (hk : k (some (.long (f_of 0 x (ws (x &&& 15).toNatClampNeg) 0))) (wS e1 e2 e3 e4 e5 e6 e7 W T B N tk ag ws ags ack R)) : pm_C 28 (d + 1) al [.ref 8, .int x] (wS e1 e2 e3 e4 e5 e6 e7 W T B N tk ag ws ags ack R) k kx :=
  pm_Ci rfl (pm_run 40 (And.intro ⟨Nat.zero_le _, Nat.zero_le _⟩ (c_slotOf (And.intro (ps_in _) (And.intro ⟨Nat.zero_le _, Nat.zero_le _⟩ (c_of hk))))))
theorem c_takeWord {x : Int32} (hk : k (some (.long (f_of 0 N (upd ws (N &&& 15).toNatClampNeg x (N &&& 15).toNatClampNeg) 0))) (wS e1 e2 e3 e4 e5 e6 e7 W T B ((N + 1) &&& 255) (tk + 1) ag (upd ws (N &&& 15).toNatClampNeg x) (upd ags (N &&& 15).toNatClampNeg 0) (upd ack (N &&& 15).toNatClampNeg (0 &&& 1)) R)) : pm_C 22 (d + 2) al [.ref 8, .int x] (wS e1 e2 e3 e4 e5 e6 e7 W T B N tk ag ws ags ack R) k kx :=
  pm_Ci rfl (pm_run 80 (And.intro ⟨Nat.zero_le _, Nat.zero_le _⟩ (c_slotOf (And.intro (ps_in _) (And.intro (ps_in _) (And.intro (ps_in _) (And.intro ⟨Nat.zero_le _, Nat.zero_le _⟩ (c_plus (And.intro ⟨Nat.zero_le _, Nat.zero_le _⟩ (c_frameOf hk))))))))))
theorem c_isGood {x : Int32} (h0 : (N - B) &&& 255 < (x - B) &&& 255 → k (some (.int 0)) (wS e1 e2 e3 e4 e5 e6 e7 W T B N tk ag ws ags ack R)) (h1 : ¬ (N - B) &&& 255 < (x - B) &&& 255 → k (some (.int 1)) (wS e1 e2 e3 e4 e5 e6 e7 W T B N tk ag ws ags ack R)) : pm_C 24 (d + 2) al [.ref 8, .int x] (wS e1 e2 e3 e4 e5 e6 e7 W T B N tk ag ws ags ack R) k kx :=
  pm_Ci rfl (pm_run 40 (And.intro ⟨Nat.zero_le _, Nat.zero_le _⟩ (c_distance (And.intro ⟨Nat.zero_le _, Nat.zero_le _⟩ (c_held (And.intro (fun h => And.intro rfl (h0 h)) (fun h => And.intro rfl (h1 h))))))))
def f_bit (m i : Int32) : Int32 := (m.toUInt32 >>> (i.toUInt32 &&& Int32.toUInt32 31)).toInt32 &&& 1
theorem c_isInMap {w : pm_D} {x y : Int32} (h1 : ¬ y < 0 → ¬ 16 ≤ y → ¬ f_bit x y = 0 → k (some (.int 1)) w) (h0 : y < 0 ∨ 16 ≤ y ∨ f_bit x y = 0 → k (some (.int 0)) w) : pm_C 29 d al [.int x, .int y] w k kx :=
  pm_Ci rfl (pm_run 40 (And.intro (fun h => And.intro rfl (h0 (Or.inl h))) (fun g1 => And.intro (fun h => And.intro rfl (h0 (Or.inr (Or.inl h)))) (fun g2 => And.intro (fun h => And.intro rfl (h0 (Or.inr (Or.inr h)))) (fun g3 => And.intro rfl (h1 g1 g2 g3))))))
theorem c_mark {x : Int32} (h1 : ack (x &&& 15).toNatClampNeg = 0 → k (some (.int 1)) (wS e1 e2 e3 e4 e5 e6 e7 W T B N tk ag ws ags (upd ack (x &&& 15).toNatClampNeg (1 &&& 1)) R)) (h0 : ¬ ack (x &&& 15).toNatClampNeg = 0 → k (some (.int 0)) (wS e1 e2 e3 e4 e5 e6 e7 W T B N tk ag ws ags ack R)) : pm_C 30 (d + 1) al [.ref 8, .int x] (wS e1 e2 e3 e4 e5 e6 e7 W T B N tk ag ws ags ack R) k kx :=
  pm_Ci rfl (pm_run 40 (And.intro ⟨Nat.zero_le _, Nat.zero_le _⟩ (c_slotOf (And.intro (ps_in _) (And.intro (fun h => And.intro (ps_in _) (h1 h)) (fun h => h0 h))))))
end PS
/-! entries -/
abbrev En : Type := List (Int32 × Int32 × Bool)
def bI (h : Bool) : Int32 := if h then 1 else 0
theorem bI0 {h : Bool} : bI h = 0 ↔ h = false := by cases h <;> simp [bI]
def rS (Wn : Nat) (Bn : Nat) (E : En) (W B N : Int32) (ws ags ack : Nat → Int32) : Prop :=
  W = nI Wn ∧ Wn ≤ 16 ∧ Bn < 256 ∧ E.length ≤ Wn ∧ B = nI Bn ∧ N = nI ((Bn + E.length) % 256) ∧ rg 16 ws Bn (E.map (·.1)) ∧ rg 16 ags Bn (E.map (·.2.1)) ∧ rg 16 ack Bn (E.map (fun e => bI e.2.2))
theorem rS_held {Wn Bn : Nat} {E : En} {W B N : Int32} {ws ags ack : Nat → Int32} (h : rS Wn Bn E W B N ws ags ack) : (N - B) &&& 255 = nI E.length := by
  obtain ⟨-, h2, h3, h4, rfl, rfl, -⟩ := h
  rw [nsub (by omega) (by omega)]
  refine congrArg nI ?_
  omega
theorem slot16 {a i : Nat} (h : a < 65536) (hi : i < 65536) : ((nI a + nI i) &&& 255) &&& 15 = nI ((a + i) % 16) := by
  rw [nI_add, n255 (by omega), n15 (by omega)]
  refine congrArg nI ?_
  omega
theorem slot16c {a i : Nat} (h : a < 65536) (hi : i < 65536) : (((nI a + nI i) &&& 255) &&& 15).toNatClampNeg = (a + i) % 16 := by rw [slot16 h hi, nI_clamp (by omega)]
def cU : En → Nat
  | [] => 0
  | (_, _, h) :: t => (if h then 0 else 1) + cU t
section PS2
variable {d : Nat} {al : Bool} {k : pm_K} {kx : pm_X} {e1 e2 e3 e4 e5 e6 e7 : va_E} {W T B N tk ag : Int32} {ws ags ack : Nat → Int32} {R : pm_D} {cb sb : Nat}
theorem l_unack {Wn Bn : Nat} {E : En} (hr : rS Wn Bn E W B N ws ags ack) : ∀ (rest done : En) (c : Nat), E = done ++ rest → k (some (.int (nI (c + cU rest)))) (wS e1 e2 e3 e4 e5 e6 e7 W T B N tk ag ws ags ack R) →
    pm_J 26 (d + 1) al none k kx 9 [some (.ref 8), some (.int (nI c)), some (.int (nI E.length)), some (.int (nI done.length))] [] (wS e1 e2 e3 e4 e5 e6 e7 W T B N tk ag ws ags ack R) cb sb := by
  obtain ⟨-, h2, h3, h4, rfl, rfl, h7, h8, h9⟩ := hr
  intro rest
  induction rest with
  | nil =>
    intro done c hE hk
    have hd : done.length = E.length := by rw [hE]; simp
    refine pm_run 40 (And.intro (fun _ => hk) (fun h => absurd (nI_le (by omega) (by omega)) h))
  | cons e t ih =>
    intro done c hE hk
    have hlen : done.length < E.length := by rw [hE]; simp
    have hget : E[done.length]? = some e := by rw [hE]; simp
    have hv := rg_map h9 hget
    refine pm_run 80 (And.intro (fun h => absurd h (nI_ge hlen (by omega))) (fun _ => And.intro ⟨Nat.zero_le _, Nat.zero_le _⟩ (c_plus (And.intro ⟨Nat.zero_le _, Nat.zero_le _⟩ (c_slotOf (And.intro (ps_in _) (And.intro (fun h => ?_) (fun h => ?_))))))))
    · rw [slot16c (by omega) (by omega), hv, bI0] at h
      refine pm_J.locals (M := [some (.ref 8), some (.int (nI c)), some (.int (nI E.length)), some (.int (nI (done ++ [e]).length))]) (ih (done ++ [e]) c (by rw [hE]; simp) ?_) ⟨rfl, rfl, rfl, congrArg (fun z => some (Value.int z)) (by simp [nI_succ]), trivial⟩
      obtain ⟨x, y, z⟩ := e
      have hz : z = true := by simpa using h
      have e9 : cU ((x, y, z) :: t) = cU t := by simp [cU, hz]
      rw [e9] at hk
      exact hk
    · rw [slot16c (by omega) (by omega), hv, bI0] at h
      refine pm_J.locals (M := [some (.ref 8), some (.int (nI (c + 1))), some (.int (nI E.length)), some (.int (nI (done ++ [e]).length))]) (ih (done ++ [e]) (c + 1) (by rw [hE]; simp) ?_) ⟨rfl, congrArg (fun z => some (Value.int z)) (nI_succ c).symm, rfl, congrArg (fun z => some (Value.int z)) (by simp [nI_succ]), trivial⟩
      obtain ⟨x, y, z⟩ := e
      have hz : z = false := by simpa using h
      have e9 : cU ((x, y, z) :: t) = 1 + cU t := by simp [cU, hz]
      rw [e9, ← Nat.add_assoc] at hk
      exact hk
theorem c_unack {Wn Bn : Nat} {E : En} (hr : rS Wn Bn E W B N ws ags ack) (hk : k (some (.int (nI (cU E)))) (wS e1 e2 e3 e4 e5 e6 e7 W T B N tk ag ws ags ack R)) : pm_C 26 (d + 2) al [.ref 8] (wS e1 e2 e3 e4 e5 e6 e7 W T B N tk ag ws ags ack R) k kx := by
  refine pm_Ci rfl (pm_run 40 (And.intro ⟨Nat.zero_le _, Nat.zero_le _⟩ (c_held ?_)))
  rw [rS_held hr]
  exact l_unack (d := d + 1) hr E [] 0 rfl (by rw [Nat.zero_add]; exact hk)
end PS2
