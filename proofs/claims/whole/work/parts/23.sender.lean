/-! THE SENDER: its methods, and what they do to the list of its entries (word, age, acknowledged) -/
theorem ps_in (z : Int32) : vp_in (z &&& 15) 16 := pk_andIn z (m := 15) 4 (by decide +kernel) (by decide)
abbrev wS (e1 e2 e3 e4 e5 e6 e7 : va_E) (W T B N tk ag : Int32) (ws ags ack : Nat → Int32) (R : pm_D) : pm_D := e1 :: e2 :: e3 :: e4 :: e5 :: e6 :: e7 :: .inr (1, [.ref 9, .ref 10, .ref 11, .int W, .int T, .int B, .int N, .int tk, .int ag]) :: .inl (0, 16, .inl ws) :: .inl (0, 16, .inl ags) :: .inl (2, 16, .inl ack) :: R
theorem pz : (0 : Nat) ≤ 0 ∧ (0 : Nat) ≤ 0 := ⟨Nat.le_refl 0, Nat.le_refl 0⟩
section PS
variable {d : Nat} {al : Bool} {k : pm_K} {kx : pm_X} {e1 e2 e3 e4 e5 e6 e7 : va_E} {W T B N tk ag : Int32} {ws ags ack : Nat → Int32} {R : pm_D} {cb sb : Nat}
theorem c_sClear {x y : Int32} (hk : k none (wS e1 e2 e3 e4 e5 e6 e7 x y 0 0 0 0 ws ags ack R)) : pm_C 20 d al [.ref 8, .int x, .int y] (wS e1 e2 e3 e4 e5 e6 e7 W T B N tk ag ws ags ack R) k kx := pm_Ci rfl (pm_run 60 hk)
theorem c_held (hk : k (some (.int ((N - B) &&& 255))) (wS e1 e2 e3 e4 e5 e6 e7 W T B N tk ag ws ags ack R)) : pm_C 27 (d + 1) al [.ref 8] (wS e1 e2 e3 e4 e5 e6 e7 W T B N tk ag ws ags ack R) k kx := pm_Ci rfl (pm_run 40 (And.intro ⟨Nat.zero_le _, Nat.zero_le _⟩ (c_distance hk)))
theorem c_sHasRoom (h0 : W ≤ (N - B) &&& 255 → k (some (.int 0)) (wS e1 e2 e3 e4 e5 e6 e7 W T B N tk ag ws ags ack R)) (h1 : ¬ W ≤ (N - B) &&& 255 → k (some (.int 1)) (wS e1 e2 e3 e4 e5 e6 e7 W T B N tk ag ws ags ack R)) : pm_C 21 (d + 2) al [.ref 8] (wS e1 e2 e3 e4 e5 e6 e7 W T B N tk ag ws ags ack R) k kx :=
  pm_Ci rfl (pm_run 40 (And.intro ⟨Nat.zero_le _, Nat.zero_le _⟩ (c_held (And.intro (fun h => And.intro rfl (h0 h)) (fun h => And.intro rfl (h1 h))))))
theorem c_frameOf {x : Int32} (hk : k (some (.long (f_of 0 x (ws (x &&& 15).toNatClampNeg) 0))) (wS e1 e2 e3 e4 e5 e6 e7 W T B N tk ag ws ags ack R)) : pm_C 28 (d + 1) al [.ref 8, .int x] (wS e1 e2 e3 e4 e5 e6 e7 W T B N tk ag ws ags ack R) k kx :=
  pm_Ci rfl (pm_run 40 (And.intro ⟨Nat.zero_le _, Nat.zero_le _⟩ (c_slotOf (And.intro (ps_in _) (And.intro ⟨Nat.zero_le _, Nat.zero_le _⟩ (c_of hk))))))
theorem c_takeWord {x : Int32} (hk : k (some (.long (f_of 0 N (upd ws (N &&& 15).toNatClampNeg x (N &&& 15).toNatClampNeg) 0))) (wS e1 e2 e3 e4 e5 e6 e7 W T B ((N + 1) &&& 255) (tk + 1) ag (upd ws (N &&& 15).toNatClampNeg x) (upd ags (N &&& 15).toNatClampNeg 0) (upd ack (N &&& 15).toNatClampNeg (0 &&& 1)) R)) : pm_C 22 (d + 2) al [.ref 8, .int x] (wS e1 e2 e3 e4 e5 e6 e7 W T B N tk ag ws ags ack R) k kx :=
  pm_Ci rfl (pm_run 80 (And.intro ⟨Nat.zero_le _, Nat.zero_le _⟩ (c_slotOf (And.intro (ps_in _) (And.intro (ps_in _) (And.intro (ps_in _) (And.intro ⟨Nat.zero_le _, Nat.zero_le _⟩ (c_plus (And.intro ⟨Nat.zero_le _, Nat.zero_le _⟩ (c_frameOf hk))))))))))
theorem c_isGood {x : Int32} (h0 : (N - B) &&& 255 < (x - B) &&& 255 → k (some (.int 0)) (wS e1 e2 e3 e4 e5 e6 e7 W T B N tk ag ws ags ack R)) (h1 : ¬ (N - B) &&& 255 < (x - B) &&& 255 → k (some (.int 1)) (wS e1 e2 e3 e4 e5 e6 e7 W T B N tk ag ws ags ack R)) : pm_C 24 (d + 2) al [.ref 8, .int x] (wS e1 e2 e3 e4 e5 e6 e7 W T B N tk ag ws ags ack R) k kx :=
  pm_Ci rfl (pm_run 40 (And.intro ⟨Nat.zero_le _, Nat.zero_le _⟩ (c_distance (And.intro ⟨Nat.zero_le _, Nat.zero_le _⟩ (c_held (And.intro (fun h => And.intro rfl (h0 h)) (fun h => And.intro rfl (h1 h))))))))
theorem c_isInMap {w : pm_D} {x y : Int32} (h1 : ¬ y < 0 → ¬ 16 ≤ y → ¬ f_bit x y = 0 → k (some (.int 1)) w) (h0 : y < 0 ∨ 16 ≤ y ∨ f_bit x y = 0 → k (some (.int 0)) w) : pm_C 29 d al [.int x, .int y] w k kx :=
  pm_Ci rfl (pm_run 40 (And.intro (fun h => And.intro rfl (h0 (Or.inl h))) (fun g1 => And.intro (fun h => And.intro rfl (h0 (Or.inr (Or.inl h)))) (fun g2 => And.intro (fun h => And.intro rfl (h0 (Or.inr (Or.inr h)))) (fun g3 => And.intro rfl (h1 g1 g2 g3))))))
theorem c_mark {x : Int32} (h1 : ack (x &&& 15).toNatClampNeg = 0 → k (some (.int 1)) (wS e1 e2 e3 e4 e5 e6 e7 W T B N tk ag ws ags (upd ack (x &&& 15).toNatClampNeg (1 &&& 1)) R)) (h0 : ¬ ack (x &&& 15).toNatClampNeg = 0 → k (some (.int 0)) (wS e1 e2 e3 e4 e5 e6 e7 W T B N tk ag ws ags ack R)) : pm_C 30 (d + 1) al [.ref 8, .int x] (wS e1 e2 e3 e4 e5 e6 e7 W T B N tk ag ws ags ack R) k kx :=
  pm_Ci rfl (pm_run 40 (And.intro ⟨Nat.zero_le _, Nat.zero_le _⟩ (c_slotOf (And.intro (ps_in _) (And.intro (fun h => And.intro (ps_in _) (h1 h)) (fun h => h0 h))))))
end PS
theorem slot16 {a i : Nat} (h : a < 65536) (hi : i < 65536) : ((nI a + nI i) &&& 255) &&& 15 = nI ((a + i) % 16) := by
  rw [nI_add, n255 (by omega), n15 (by omega)]
  refine congrArg nI ?_
  omega
theorem slot16c {a i : Nat} (h : a < 65536) (hi : i < 65536) : (((nI a + nI i) &&& 255) &&& 15).toNatClampNeg = (a + i) % 16 := by rw [slot16 h hi, nI_clamp (by omega)]
theorem plus256 {a i : Nat} (h : a < 65536) (hi : i < 65536) : (nI a + nI i) &&& 255 = nI ((a + i) % 256) := by rw [nI_add, n255 (by omega)]
theorem held_eq {B h : Nat} (hB : B < 256) (hh : h ≤ 16) : (nI ((B + h) % 256) - nI B) &&& 255 = nI h := by
  rw [nsub (by omega) (by omega)]
  refine congrArg nI ?_
  omega
theorem rW_room {Rm : Nat} {q : Qu} {o c r : Int32} {b : Nat → Int64} {s : Nat → Int32} (h : rW Rm q o c r b s) : (r ≤ c ↔ Rm ≤ q.length) := by
  obtain ⟨O, h1, rfl, rfl, rfl, h5, h6, h7, h8⟩ := h
  exact nI_leI (by omega) (by omega)
theorem rW_emp {Rm : Nat} {q : Qu} {o c r : Int32} {b : Nat → Int64} {s : Nat → Int32} (h : rW Rm q o c r b s) : (c = 0 ↔ q = []) := by
  obtain ⟨O, h1, rfl, rfl, rfl, h5, h6, h7, h8⟩ := h
  rw [← nI_0, nI_eq (by omega) (by omega), List.length_eq_zero_iff]
section PS2
variable {d : Nat} {al : Bool} {k : pm_K} {kx : pm_X} {cb sb : Nat} {R : pm_D}
theorem l_unack {e1 e2 e3 e4 e5 e6 e7 : va_E} {W T N tk ag : Int32} {ws ags ack : Nat → Int32} {B h : Nat} {A : EF} (hB : B < 256) (hh : h ≤ 16) (hr : rE 16 B h A ws ags ack) : ∀ (r i c : Nat), i + r = h → k (some (.int (nI (unN A r i c)))) (wS e1 e2 e3 e4 e5 e6 e7 W T (nI B) N tk ag ws ags ack R) →
    pm_J 26 (d + 1) al none k kx 9 [some (.ref 8), some (.int (nI c)), some (.int (nI h)), some (.int (nI i))] [] (wS e1 e2 e3 e4 e5 e6 e7 W T (nI B) N tk ag ws ags ack R) cb sb := by
  intro r
  induction r with
  | zero =>
    intro i c hi hk
    exact pm_run 40 (And.intro (fun _ => hk) (fun h => absurd (nI_le (by omega) (by omega)) h))
  | succ r ih =>
    intro i c hi hk
    obtain ⟨-, -, hv⟩ := hr i (by omega)
    refine pm_run 80 (And.intro (fun h => absurd h (nI_ge (by omega) (by omega))) (fun _ => And.intro ⟨Nat.zero_le _, Nat.zero_le _⟩ (c_plus (And.intro ⟨Nat.zero_le _, Nat.zero_le _⟩ (c_slotOf (And.intro (ps_in _) (And.intro (fun h => ?_) (fun h => ?_))))))))
    · rw [slot16c (by omega) (by omega), hv, bI1] at h
      refine pm_J.locals (M := [some (.ref 8), some (.int (nI c)), some (.int (nI _)), some (.int (nI (i + 1)))]) (ih (i + 1) c (by omega) ?_) ⟨rfl, rfl, rfl, congrArg (fun z => some (Value.int z)) (nI_succ i).symm, trivial⟩
      have e9 : unN A (r + 1) i c = unN A r (i + 1) c := by simp only [unN, if_pos h]
      rw [e9] at hk
      exact hk
    · rw [slot16c (by omega) (by omega), hv, bI0] at h
      refine pm_J.locals (M := [some (.ref 8), some (.int (nI (c + 1))), some (.int (nI _)), some (.int (nI (i + 1)))]) (ih (i + 1) (c + 1) (by omega) ?_) ⟨rfl, congrArg (fun z => some (Value.int z)) (nI_succ c).symm, rfl, congrArg (fun z => some (Value.int z)) (nI_succ i).symm, trivial⟩
      have e9 : unN A (r + 1) i c = unN A r (i + 1) (c + 1) := by simp [unN, h]
      rw [e9] at hk
      exact hk
theorem c_unack {e1 e2 e3 e4 e5 e6 e7 : va_E} {W T N tk ag : Int32} {ws ags ack : Nat → Int32} {B h : Nat} {A : EF} (hB : B < 256) (hh : h ≤ 16) (hN : N = nI ((B + h) % 256)) (hr : rE 16 B h A ws ags ack) (hk : k (some (.int (nI (unN A h 0 0)))) (wS e1 e2 e3 e4 e5 e6 e7 W T (nI B) N tk ag ws ags ack R)) : pm_C 26 (d + 2) al [.ref 8] (wS e1 e2 e3 e4 e5 e6 e7 W T (nI B) N tk ag ws ags ack R) k kx := by
  refine pm_Ci rfl (pm_run 40 (And.intro ⟨Nat.zero_le _, Nat.zero_le _⟩ (c_held ?_)))
  rw [hN, held_eq hB hh, ← hN]
  exact l_unack (d := d + 1) hB hh hr h 0 0 (by omega) hk
theorem l_move {e1 e2 e3 e4 e5 e6 e7 : va_E} {W T N tk ag : Int32} {ws ags ack : Nat → Int32} {h0 : Nat} (hh : h0 ≤ 16) : ∀ (h i B : Nat) (A : EF), i + h = h0 → B < 256 → rE 16 B h A ws ags ack → k none (wS e1 e2 e3 e4 e5 e6 e7 W T (nI (mvB h B A).2.1) N tk ag ws ags ack R) →
    pm_J 31 (d + 1) al none k kx 7 [some (.ref 8), some (.int (nI h0)), some (.int (nI i))] [] (wS e1 e2 e3 e4 e5 e6 e7 W T (nI B) N tk ag ws ags ack R) cb sb := by
  intro h
  induction h with
  | zero =>
    intro i B A hi hB hr hk
    exact pm_run 40 (And.intro (fun _ => hk) (fun h => absurd (nI_le (by omega) (by omega)) h))
  | succ h ih =>
    intro i B A hi hB hr hk
    obtain ⟨-, -, hv⟩ := hr 0 (by omega)
    have e15 : (nI B &&& 15).toNatClampNeg = (B + 0) % 16 := by rw [n15 (by omega), nI_clamp (by omega)]; rfl
    refine pm_run 80 (And.intro (fun h => absurd h (nI_ge (by omega) (by omega))) (fun _ => And.intro ⟨Nat.zero_le _, Nat.zero_le _⟩ (c_slotOf (And.intro (ps_in _) (And.intro (fun h => ?_) (fun h => And.intro ⟨Nat.zero_le _, Nat.zero_le _⟩ (c_plus ?_)))))))
    · rw [e15, hv, bI0] at h
      unfold mvB at hk
      rw [h] at hk
      exact hk
    · rw [e15, hv, bI1] at h
      have e2 : (nI B + 1) &&& 255 = nI ((B + 1) % 256) := by rw [nI_1, n255 (by omega)]
      unfold mvB at hk
      rw [h] at hk
      refine pm_J.locals (M := [some (.ref 8), some (.int (nI h0)), some (.int (nI (i + 1)))]) ?_ ⟨rfl, rfl, congrArg (fun z => some (Value.int z)) (nI_succ i).symm, trivial⟩
      have := ih (i + 1) ((B + 1) % 256) (fun i => A (i + 1)) (by omega) (Nat.mod_lt _ (by omega)) (rE_shift (Or.inl rfl) hr) hk
      rw [← e2] at this
      exact this
theorem c_move {e1 e2 e3 e4 e5 e6 e7 : va_E} {W T N tk ag : Int32} {ws ags ack : Nat → Int32} {B h : Nat} {A : EF} (hB : B < 256) (hh : h ≤ 16) (hN : N = nI ((B + h) % 256)) (hr : rE 16 B h A ws ags ack) (hk : k none (wS e1 e2 e3 e4 e5 e6 e7 W T (nI (mvB h B A).2.1) N tk ag ws ags ack R)) : pm_C 31 (d + 2) al [.ref 8] (wS e1 e2 e3 e4 e5 e6 e7 W T (nI B) N tk ag ws ags ack R) k kx := by
  refine pm_Ci rfl (pm_run 40 (And.intro ⟨Nat.zero_le _, Nat.zero_le _⟩ (c_held ?_)))
  rw [hN, held_eq hB hh, ← hN]
  exact l_move (d := d + 1) hh h 0 B A (by omega) hB hr hk
theorem l_ack {e1 e2 e3 e4 e5 e6 e7 : va_E} {W T N tk ag mp : Int32} {ws ags : Nat → Int32} {B h b : Nat} (hB : B < 256) (hh : h ≤ 16) (hb : b ≤ h) (hN : N = nI ((B + h) % 256)) : ∀ (r i : Nat) (A : EF) (c : Nat) (ack : Nat → Int32), i + r = h → rE 16 B h A ws ags ack → (∀ ack' : Nat → Int32, rE 16 B h (mkN (akP mp b) r i (A, c)).1 ws ags ack' → k (some (.int (nI (mkN (akP mp b) r i (A, c)).2))) (wS e1 e2 e3 e4 e5 e6 e7 W T (nI (mvB h B (mkN (akP mp b) r i (A, c)).1).2.1) N tk ag ws ags ack' R)) →
    pm_J 25 (d + 3) al none k kx 21 [some (.ref 8), none, some (.int mp), some (.int (nI h)), some (.int (nI b)), some (.int (nI c)), some (.int (nI i))] [] (wS e1 e2 e3 e4 e5 e6 e7 W T (nI B) N tk ag ws ags ack R) cb sb := by
  intro r
  induction r with
  | zero =>
    intro i A c ack hi hr hk
    exact pm_run 40 (And.intro (fun _ => And.intro ⟨Nat.zero_le _, Nat.zero_le _⟩ (c_move hB hh hN hr (hk ack hr))) (fun h => absurd (nI_le (by omega) (by omega)) h))
  | succ r ih =>
    intro i A c ack hi hr hk
    obtain ⟨-, -, hv⟩ := hr i (by omega)
    refine pm_run 80 (And.intro (fun h => absurd h (nI_ge (by omega) (by omega))) (fun _ => And.intro (fun hlt => ?_) (fun hlt => And.intro ⟨Nat.zero_le _, Nat.zero_le _⟩ (c_isInMap (fun g1 g2 g3 => And.intro (fun h => absurd h (by decide)) (fun _ => ?_)) (fun g => And.intro (fun _ => ?_) (fun h => absurd rfl h))))))
    · -- mark: below
      have hP : akP mp b i = true := akP_lt ((nI_ltI (by omega) (by omega)).mp hlt)
      refine And.intro ⟨Nat.zero_le _, Nat.zero_le _⟩ (c_plus (And.intro ⟨Nat.zero_le _, Nat.zero_le _⟩ (c_mark (fun h => ?_) (fun h => ?_))))
      · rw [slot16c (by omega) (by omega), hv, bI0] at h
        refine pm_J.locals (M := [some (.ref 8), none, some (.int mp), some (.int (nI _)), some (.int (nI b)), some (.int (nI (c + 1))), some (.int (nI (i + 1)))]) (ih (i + 1) _ (c + 1) _ (by omega) (by rw [slot16c (by omega) (by omega)]; exact rE_ack (Or.inl rfl) hh hr (by omega)) ?_) ⟨rfl, rfl, rfl, rfl, congrArg (fun z => some (Value.int z)) (nI_succ c).symm, congrArg (fun z => some (Value.int z)) (nI_succ i).symm, trivial⟩
        have e9 : mkN (akP mp b) (r + 1) i (A, c) = mkN (akP mp b) r (i + 1) (uE A i ((A i).1, (A i).2.1, true), c + 1) := by rw [mkN, mk1_y hP h]
        rw [e9] at hk
        exact hk
      · rw [slot16c (by omega) (by omega), hv, bI1] at h
        refine pm_J.locals (M := [some (.ref 8), none, some (.int mp), some (.int (nI _)), some (.int (nI b)), some (.int (nI c)), some (.int (nI (i + 1)))]) (ih (i + 1) A c ack (by omega) hr ?_) ⟨rfl, rfl, rfl, rfl, congrArg (fun z => some (Value.int z)) (Int32.add_zero _), congrArg (fun z => some (Value.int z)) (nI_succ i).symm, trivial⟩
        have e9 : mkN (akP mp b) (r + 1) i (A, c) = mkN (akP mp b) r (i + 1) (A, c) := by rw [mkN, mk1_a h]
        rw [e9] at hk
        exact hk
    · -- mark: in the map
      have hP : akP mp b i = true := by
        have hlt : ¬ i < b := fun q => hlt ((nI_ltI (by omega) (by omega)).mpr q)
        by_cases e : i = b
        · subst e
          exact absurd (by rw [Int32.sub_self]; decide) g1
        · have e3 : nI i - nI b - Int32.ofNat 1 = nI (i - b - 1) := by rw [pk_sub (by omega)]; exact pk_sub (b := 1) (by omega)
          rw [e3] at g3
          exact akP_gt (by omega) g3
      refine And.intro ⟨Nat.zero_le _, Nat.zero_le _⟩ (c_plus (And.intro ⟨Nat.zero_le _, Nat.zero_le _⟩ (c_mark (fun h => ?_) (fun h => ?_))))
      · rw [slot16c (by omega) (by omega), hv, bI0] at h
        refine pm_J.locals (M := [some (.ref 8), none, some (.int mp), some (.int (nI _)), some (.int (nI b)), some (.int (nI (c + 1))), some (.int (nI (i + 1)))]) (ih (i + 1) _ (c + 1) _ (by omega) (by rw [slot16c (by omega) (by omega)]; exact rE_ack (Or.inl rfl) hh hr (by omega)) ?_) ⟨rfl, rfl, rfl, rfl, congrArg (fun z => some (Value.int z)) (nI_succ c).symm, congrArg (fun z => some (Value.int z)) (nI_succ i).symm, trivial⟩
        have e9 : mkN (akP mp b) (r + 1) i (A, c) = mkN (akP mp b) r (i + 1) (uE A i ((A i).1, (A i).2.1, true), c + 1) := by rw [mkN, mk1_y hP h]
        rw [e9] at hk
        exact hk
      · rw [slot16c (by omega) (by omega), hv, bI1] at h
        refine pm_J.locals (M := [some (.ref 8), none, some (.int mp), some (.int (nI _)), some (.int (nI b)), some (.int (nI c)), some (.int (nI (i + 1)))]) (ih (i + 1) A c ack (by omega) hr ?_) ⟨rfl, rfl, rfl, rfl, congrArg (fun z => some (Value.int z)) (Int32.add_zero _), congrArg (fun z => some (Value.int z)) (nI_succ i).symm, trivial⟩
        have e9 : mkN (akP mp b) (r + 1) i (A, c) = mkN (akP mp b) r (i + 1) (A, c) := by rw [mkN, mk1_a h]
        rw [e9] at hk
        exact hk
    · have hlt : ¬ i < b := fun q => hlt ((nI_ltI (by omega) (by omega)).mpr q)
      have hP : akP mp b i = false := by
        by_cases e : i = b
        · subst e
          exact akP_eq
        · have e3 : nI i - nI b - Int32.ofNat 1 = nI (i - b - 1) := by rw [pk_sub (by omega)]; exact pk_sub (b := 1) (by omega)
          rw [e3] at g
          rcases g with g | g | g
          · exact absurd g (nI_pos (by omega))
          · exact absurd g (nI_ge (b := 16) (by omega) (by omega))
          · exact akP_g0 (by omega) g
      refine pm_J.locals (M := [some (.ref 8), none, some (.int mp), some (.int (nI _)), some (.int (nI b)), some (.int (nI c)), some (.int (nI (i + 1)))]) (ih (i + 1) A c ack (by omega) hr ?_) ⟨rfl, rfl, rfl, rfl, rfl, congrArg (fun z => some (Value.int z)) (nI_succ i).symm, trivial⟩
      have e9 : mkN (akP mp b) (r + 1) i (A, c) = mkN (akP mp b) r (i + 1) (A, c) := by rw [mkN, mk1_n hP]
      rw [e9] at hk
      exact hk
theorem c_ack {e1 e2 e3 e4 e5 e6 e7 : va_E} {W T N tk ag x mp : Int32} {ws ags ack : Nat → Int32} {B h b : Nat} {A : EF} (hB : B < 256) (hh : h ≤ 16) (hN : N = nI ((B + h) % 256)) (hx : (x - nI B) &&& 255 = nI b) (hb : b ≤ h) (hr : rE 16 B h A ws ags ack)
    (hk : ∀ ack' : Nat → Int32, rE 16 B h (mkN (akP mp b) h 0 (A, 0)).1 ws ags ack' → k (some (.int (nI (mkN (akP mp b) h 0 (A, 0)).2))) (wS e1 e2 e3 e4 e5 e6 e7 W T (nI (mvB h B (mkN (akP mp b) h 0 (A, 0)).1).2.1) N tk ag ws ags ack' R)) : pm_C 25 (d + 4) al [.ref 8, .int x, .int mp] (wS e1 e2 e3 e4 e5 e6 e7 W T (nI B) N tk ag ws ags ack R) k kx := by
  refine pm_Ci rfl (pm_run 40 (And.intro ⟨Nat.zero_le _, Nat.zero_le _⟩ (c_held ?_)))
  rw [hN, held_eq hB hh, ← hN]
  refine And.intro ⟨Nat.zero_le _, Nat.zero_le _⟩ (c_distance ?_)
  rw [hx]
  exact pm_J.locals (l_ack (d := d + 1) hB hh hb hN h 0 A 0 ack (by omega) hr hk) ⟨rfl, rfl, rfl, rfl, rfl, rfl, trivial⟩
abbrev wAS (e1 e5 e6 e7 : va_E) (a : WP) (W T B N tk ag : Int32) (ws ags ack : Nat → Int32) (R : pm_D) : pm_D := wS e1 (.inr (2, [.ref 3, .ref 4, .int a.1, .int a.2.1, .int a.2.2.1])) (.inl (1, 32, .inr (.inl a.2.2.2.1))) (.inl (0, 32, .inl a.2.2.2.2)) e5 e6 e7 W T B N tk ag ws ags ack R
theorem l_again {e1 e5 e6 e7 : va_E} {W T N tk ag : Int32} {ws ack : Nat → Int32} {Rm B h : Nat} (hB : B < 256) (hh : h ≤ 16) : ∀ (r i : Nat) (A : EF) (q : Qu) (n : Nat) (P : WP) (ags : Nat → Int32), i + r = h → qW Rm q P → rE 16 B h A ws ags ack → (∀ (P' : WP) (ags' : Nat → Int32), qW Rm (tkN T Rm B r i (A, q, n)).2.1 P' → rE 16 B h (tkN T Rm B r i (A, q, n)).1 ws ags' ack → k (some (.int (nI (tkN T Rm B r i (A, q, n)).2.2))) (wAS e1 e5 e6 e7 P' W T (nI B) N tk (ag + nI (tkN T Rm B r i (A, q, n)).2.2) ws ags' ack R)) →
    pm_J 23 (d + 3) al none k kx 10 [some (.ref 8), some (.ref 2), some (.int (nI n)), some (.int (nI h)), some (.int (nI i)), none, none] [] (wAS e1 e5 e6 e7 P W T (nI B) N tk ag ws ags ack R) cb sb := by
  intro r
  induction r with
  | zero =>
    intro i A q n P ags hi hw hr hk
    exact pm_run 40 (And.intro (fun _ => hk P ags hw hr) (fun h => absurd (nI_le (by omega) (by omega)) h))
  | succ r ih =>
    intro i A q n P ags hi hw hr hk
    obtain ⟨hv1, hv2, hv⟩ := hr i (by omega)
    have es : (((nI B + nI i) &&& 255) &&& 15).toNatClampNeg = (B + i) % 16 := slot16c (by omega) (by omega)
    have en : (nI B + nI i) &&& 255 = nI ((B + i) % 256) := plus256 (by omega) (by omega)
    have ea : upd ags ((B + i) % 16) (ags ((B + i) % 16) + 1) ((B + i) % 16) = (A i).2.1 + 1 := by rw [pk_us, hv2]
    refine pm_run 120 (And.intro (fun h => absurd h (nI_ge (by omega) (by omega))) (fun _ => And.intro ⟨Nat.zero_le _, Nat.zero_le _⟩ (c_plus (And.intro ⟨Nat.zero_le _, Nat.zero_le _⟩ (c_slotOf (And.intro (ps_in _) (And.intro (fun h0 => And.intro (ps_in _) (And.intro (ps_in _) (And.intro (ps_in _) (And.intro (fun hT => ?_) (fun hT => And.intro ⟨Nat.zero_le _, Nat.zero_le _⟩ (c_hasRoom_A (fun hq => And.intro (fun _ => ?_) (fun h => absurd rfl h)) (fun hq => And.intro (fun h => absurd h (by decide)) (fun _ => And.intro ⟨Nat.zero_le _, Nat.zero_le _⟩ (c_frameOf (And.intro ⟨Nat.zero_le _, Nat.zero_le _⟩ (c_put_A (And.intro (ps_in _) ?_)))))))))))) (fun h0 => ?_))))))))
    · rw [es, hv, bI0] at h0
      rw [es] at hT
      have hT : ¬ T ≤ (A i).2.1 + 1 := by rw [← ea]; exact Int32.not_le.mpr hT
      refine pm_J.locals (M := [some (.ref 8), some (.ref 2), some (.int (nI n)), some (.int (nI h)), some (.int (nI (i + 1))), none, none]) (ih (i + 1) _ q n P _ (by omega) hw (by rw [es]; exact rE_age (Or.inl rfl) hh hr (by omega) _) ?_) ⟨rfl, rfl, rfl, rfl, congrArg (fun z => some (Value.int z)) (nI_succ i).symm, trivial⟩
      have e9 : tkN T Rm B (r + 1) i (A, q, n) = tkN T Rm B r (i + 1) (uE A i ((A i).1, ags ((B + i) % 16) + 1, (A i).2.2), q, n) := by rw [tkN, tk1_n h0 (fun z => hT z.1), hv2, h0]
      rw [e9] at hk
      exact hk
    · rw [es, hv, bI0] at h0
      have hq : Rm ≤ q.length := (rW_room hw).mp hq
      refine pm_J.locals (M := [some (.ref 8), some (.ref 2), some (.int (nI n)), some (.int (nI h)), some (.int (nI (i + 1))), none, none]) (ih (i + 1) _ q n P _ (by omega) hw (by rw [es]; exact rE_age (Or.inl rfl) hh hr (by omega) _) ?_) ⟨rfl, rfl, rfl, rfl, congrArg (fun z => some (Value.int z)) (nI_succ i).symm, trivial⟩
      have e9 : tkN T Rm B (r + 1) i (A, q, n) = tkN T Rm B r (i + 1) (uE A i ((A i).1, ags ((B + i) % 16) + 1, (A i).2.2), q, n) := by rw [tkN, tk1_n h0 (fun z => absurd z.2 (by omega)), hv2, h0]
      rw [e9] at hk
      exact hk
    · rw [es, hv, bI0] at h0
      rw [es] at hT
      have hT : T ≤ (A i).2.1 + 1 := by rw [← ea]; exact Int32.not_lt.mp hT
      have hq : q.length < Rm := Nat.lt_of_not_le (fun z => hq ((rW_room hw).mpr z))
      refine pm_J.locals (M := [some (.ref 8), some (.ref 2), some (.int (nI (n + 1))), some (.int (nI h)), some (.int (nI (i + 1))), none, none]) (ih (i + 1) _ _ (n + 1) (pPut P (f_of 0 ((nI B + nI i) &&& 255) (ws ((((nI B + nI i) &&& 255) &&& 15).toNatClampNeg)) 0) (f_sum (f_of 0 ((nI B + nI i) &&& 255) (ws ((((nI B + nI i) &&& 255) &&& 15).toNatClampNeg)) 0))) (upd (upd ags ((((nI B + nI i) &&& 255) &&& 15).toNatClampNeg) (ags ((((nI B + nI i) &&& 255) &&& 15).toNatClampNeg) + 1)) ((((nI B + nI i) &&& 255) &&& 15).toNatClampNeg) 0) (by omega) (qW_put hw hq) (by rw [es]; exact rE_age (Or.inl rfl) hh (rE_age (Or.inl rfl) hh hr (by omega) _) (by omega) _) ?_) ⟨rfl, rfl, congrArg (fun z => some (Value.int z)) (nI_succ n).symm, rfl, congrArg (fun z => some (Value.int z)) (nI_succ i).symm, trivial⟩
      rw [es, en, hv1]
      have e8 : uE (uE A i ((A i).1, ags ((B + i) % 16) + 1, (A i).2.2)) i ((uE A i ((A i).1, ags ((B + i) % 16) + 1, (A i).2.2) i).1, 0, (uE A i ((A i).1, ags ((B + i) % 16) + 1, (A i).2.2) i).2.2) = uE A i ((A i).1, 0, false) := by
        rw [uE_s, h0]
        funext j
        unfold uE
        by_cases e : j = i <;> simp [e]
      have e9 : tkN T Rm B (r + 1) i (A, q, n) = tkN T Rm B r (i + 1) (uE A i ((A i).1, 0, false), q ++ [fr (f_of 0 (nI ((B + i) % 256)) (A i).1 0)], n + 1) := by rw [tkN, tk1_s h0 hT hq]
      rw [e9, ← e8] at hk
      exact hk
    · rw [es, hv, bI1] at h0
      refine pm_J.locals (M := [some (.ref 8), some (.ref 2), some (.int (nI n)), some (.int (nI h)), some (.int (nI (i + 1))), none, none]) (ih (i + 1) A q n P ags (by omega) hw hr ?_) ⟨rfl, rfl, rfl, rfl, congrArg (fun z => some (Value.int z)) (nI_succ i).symm, trivial⟩
      have e9 : tkN T Rm B (r + 1) i (A, q, n) = tkN T Rm B r (i + 1) (A, q, n) := by rw [tkN, tk1_t h0]
      rw [e9] at hk
      exact hk
theorem c_again {e1 e5 e6 e7 : va_E} {W T N tk ag : Int32} {ws ags ack : Nat → Int32} {Rm B h : Nat} {A : EF} {q : Qu} {P : WP} (hB : B < 256) (hh : h ≤ 16) (hN : N = nI ((B + h) % 256)) (hw : qW Rm q P) (hr : rE 16 B h A ws ags ack)
    (hk : ∀ (P' : WP) (ags' : Nat → Int32), qW Rm (tkN T Rm B h 0 (A, q, 0)).2.1 P' → rE 16 B h (tkN T Rm B h 0 (A, q, 0)).1 ws ags' ack → k (some (.int (nI (tkN T Rm B h 0 (A, q, 0)).2.2))) (wAS e1 e5 e6 e7 P' W T (nI B) N tk (ag + nI (tkN T Rm B h 0 (A, q, 0)).2.2) ws ags' ack R)) : pm_C 23 (d + 4) al [.ref 8, .ref 2] (wAS e1 e5 e6 e7 P W T (nI B) N tk ag ws ags ack R) k kx := by
  refine pm_Ci rfl (pm_run 40 (And.intro ⟨Nat.zero_le _, Nat.zero_le _⟩ (c_held ?_)))
  rw [hN, held_eq hB hh, ← hN]
  exact pm_J.locals (l_again (d := d + 1) hB hh h 0 A q 0 P ags (by omega) hw hr hk) ⟨rfl, rfl, rfl, rfl, rfl, trivial⟩
end PS2
