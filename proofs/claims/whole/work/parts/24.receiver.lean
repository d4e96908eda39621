/-! THE RECEIVER -/
theorem pr_in (z : Int32) : vp_in (z &&& 255) 256 := pk_andIn z (m := 255) 8 (by decide +kernel) (by decide)
abbrev wR (e1 e2 e3 e4 e5 e6 e7 e8 e9 e10 e11 : va_E) (W F D : Int32) (rw th kp : Nat → Int32) (R : pm_D) : pm_D := e1 :: e2 :: e3 :: e4 :: e5 :: e6 :: e7 :: e8 :: e9 :: e10 :: e11 :: .inr (0, [.ref 13, .ref 14, .ref 15, .int W, .int F, .int D]) :: .inl (0, 16, .inl rw) :: .inl (2, 16, .inl th) :: .inl (0, 256, .inl kp) :: R
theorem akM_none {V : VF} : ∀ (r k : Nat) (m : Int32), (∀ j, k < j → V j = none) → akM V r k m = m
  | 0, _, _, _ => rfl
  | r + 1, k, m, h => by
    unfold akM
    rw [h (k + 1) (by omega)]
    exact akM_none r (k + 1) m (fun j hj => h j (by omega))
theorem akM_add {V : VF} : ∀ (a b k : Nat) (m : Int32), (∀ j, k + a < j → V j = none) → akM V (a + b) k m = akM V a k m
  | 0, b, k, m, h => by
    rw [Nat.zero_add]
    exact akM_none b k m (fun j hj => h j (by omega))
  | a + 1, b, k, m, h => by
    rw [show a + 1 + b = (a + b) + 1 by omega]
    unfold akM
    exact akM_add a b (k + 1) _ (fun j hj => h j (by omega))
def smN (g : Nat → Nat) : Nat → Nat
  | 0 => 0
  | n + 1 => smN g n + g n
theorem smN_sh (g : Nat → Nat) : ∀ n, smN (fun i => g (i + 1)) n + g 0 = smN g (n + 1)
  | 0 => by simp [smN]
  | n + 1 => by
    have := smN_sh g n
    rw [smN, smN]
    omega
theorem smN_ext {g f : Nat → Nat} : ∀ n, (∀ i, i < n → g i = f i) → smN g n = smN f n
  | 0, _ => rfl
  | n + 1, h => by rw [smN, smN, smN_ext n (fun i hi => h i (by omega)), h n (by omega)]
theorem smN_rot (g : Nat → Nat) (m : Nat) (hm : 0 < m) : ∀ F, smN (fun i => g ((F + i) % m)) m = smN g m
  | 0 => smN_ext m (fun i hi => by show g ((0 + i) % m) = g i; rw [Nat.zero_add, Nat.mod_eq_of_lt hi])
  | F + 1 => by
    have h1 : smN (fun i => g ((F + (i + 1)) % m)) m + g ((F + 0) % m) = smN (fun i => g ((F + i) % m)) m + g ((F + m) % m) := smN_sh (fun i => g ((F + i) % m)) m
    have h2 := smN_rot g m hm F
    have h3 : g ((F + m) % m) = g ((F + 0) % m) := by rw [Nat.add_mod_right, Nat.add_zero]
    have h4 : smN (fun i => g ((F + 1 + i) % m)) m = smN (fun i => g ((F + (i + 1)) % m)) m := smN_ext m (fun i _ => by show g ((F + 1 + i) % m) = g ((F + (i + 1)) % m); rw [show F + 1 + i = F + (i + 1) by omega])
    rw [h4]
    omega
theorem smN_0 {g : Nat → Nat} : ∀ (a b : Nat), (∀ i, a ≤ i → g i = 0) → smN g (a + b) = smN g a
  | a, 0, _ => rfl
  | a, b + 1, h => by
    show smN g (a + b) + g (a + b) = _
    rw [h (a + b) (by omega), Nat.add_zero]
    exact smN_0 a b h
def cV (V : VF) (n : Nat) : Nat := smN (fun i => if (V i).isSome then 1 else 0) n
theorem rV_cnt {m F : Nat} {V : VF} {wd th : Nat → Int32} (hm : m2 m) (hr : rV m F V wd th) (hV : ∀ j, 16 ≤ j → V j = none) : smN (fun j => if th j = 0 then 0 else 1) m = cV V 16 := by
  have h0 : 0 < m := by have := m2_ge hm; omega
  rw [← smN_rot _ m h0 F]
  have e1 : smN (fun i => if th ((F + i) % m) = 0 then 0 else 1) m = cV V m := smN_ext m (fun i hi => by
    show (if th ((F + i) % m) = 0 then 0 else 1) = if (V i).isSome then 1 else 0
    rw [(hr i hi).1]
    cases (V i).isSome <;> rfl)
  rw [e1]
  obtain ⟨c, rfl⟩ : ∃ c, m = 16 + c := ⟨m - 16, by have := m2_ge hm; omega⟩
  exact smN_0 16 c (fun i hi => by show (if (V i).isSome then 1 else 0) = 0; rw [hV i hi]; rfl)
theorem dlv_ok : ∀ (r : Nat) (s : dS), s.2.1 < 256 → (∀ j, 16 ≤ j → s.1 j = none) → (dlv r s).2.1 < 256 ∧ (∀ j, 16 ≤ j → (dlv r s).1 j = none) ∧ (dlv r s).2.2.1 ≤ s.2.2.1 + r
  | 0, s, h, hV => ⟨h, hV, Nat.le_refl _⟩
  | r + 1, s, h, hV => by
    unfold dlv
    cases e : s.1 0 with
    | none => exact ⟨h, hV, by simp only; omega⟩
    | some x =>
      obtain ⟨h1, h2, h3⟩ := dlv_ok r (fun i => s.1 (i + 1), (s.2.1 + 1) % 256, s.2.2.1 + 1, upd s.2.2.2 (s.2.2.1 % 256) x) (Nat.mod_lt _ (by omega)) (fun j hj => hV (j + 1) (by omega))
      exact ⟨h1, h2, by simp only at h3 ⊢; omega⟩
/-- nothing at the window's end or behind it stays so -/
theorem dlv_win {n : Nat} : ∀ (r : Nat) (s : dS), (∀ j, n ≤ j → s.1 j = none) → ∀ j, n ≤ j → (dlv r s).1 j = none
  | 0, s, h => h
  | r + 1, s, h => by
    unfold dlv
    cases e : s.1 0 with
    | none => exact h
    | some x => exact dlv_win r _ (fun j hj => h (j + 1) (by omega))
section PR
variable {d : Nat} {al : Bool} {k : pm_K} {kx : pm_X} {cb sb : Nat} {R : pm_D} {e1 e2 e3 e4 e5 e6 e7 e8 e9 e10 e11 : va_E} {W F D : Int32} {rw th kp : Nat → Int32}
theorem l_rClear : ∀ (r i : Nat) (th : Nat → Int32), i + r = 16 → (∀ j, j < i → th j = 0) → (∀ th' : Nat → Int32, (∀ j, j < 16 → th' j = 0) → k none (wR e1 e2 e3 e4 e5 e6 e7 e8 e9 e10 e11 W F D rw th' kp R)) →
    pm_J 11 d al none k kx 17 [some (.ref 12), none, some (.int (nI i))] [] (wR e1 e2 e3 e4 e5 e6 e7 e8 e9 e10 e11 W F D rw th kp R) cb sb := by
  intro r
  induction r with
  | zero =>
    intro i th hi h0 hk
    exact pm_run 40 (And.intro (fun _ => hk th (fun j hj => h0 j (by omega))) (fun h => absurd (nI_le (a := 16) (by omega) (by omega)) h))
  | succ r ih =>
    intro i th hi h0 hk
    refine pm_run 40 (And.intro (fun h => absurd h (nI_ge (b := 16) (by omega) (by omega))) (fun _ => And.intro (vin (by omega) (by omega)) ?_))
    refine pm_J.locals (M := [some (.ref 12), none, some (.int (nI (i + 1)))]) (ih (i + 1) _ (by omega) (fun j hj => ?_) hk) ⟨rfl, congrArg (fun z => some (Value.int z)) (nI_succ i).symm, trivial⟩
    rw [nI_clamp (by omega)]
    by_cases e : j = i
    · subst e
      exact pk_us
    · rw [pk_un e]
      exact h0 j (by omega)
theorem c_rClear {x : Int32} (hk : ∀ th' : Nat → Int32, (∀ j, j < 16 → th' j = 0) → k none (wR e1 e2 e3 e4 e5 e6 e7 e8 e9 e10 e11 x 0 0 rw th' kp R)) : pm_C 11 d al [.ref 12, .int x] (wR e1 e2 e3 e4 e5 e6 e7 e8 e9 e10 e11 W F D rw th kp R) k kx :=
  pm_Ci rfl (pm_run 40 (pm_J.locals (l_rClear 16 0 th rfl (fun j hj => absurd hj (by omega)) hk) ⟨rfl, rfl, trivial⟩))
theorem l_dlv : ∀ (r i : Nat) (V : VF) (F D : Nat) (kp th : Nat → Int32), i + r = 16 → F < 256 → D + r < 2 ^ 31 → rV 16 F V rw th → (∀ j, 16 ≤ j → V j = none) → (∀ th' : Nat → Int32, rV 16 (dlv r (V, F, D, kp)).2.1 (dlv r (V, F, D, kp)).1 rw th' → k none (wR e1 e2 e3 e4 e5 e6 e7 e8 e9 e10 e11 W (nI (dlv r (V, F, D, kp)).2.1) (nI (dlv r (V, F, D, kp)).2.2.1) rw th' (dlv r (V, F, D, kp)).2.2.2 R)) →
    pm_J 18 (d + 1) al none k kx 2 [some (.ref 12), some (.int (nI i)), none] [] (wR e1 e2 e3 e4 e5 e6 e7 e8 e9 e10 e11 W (nI F) (nI D) rw th kp R) cb sb := by
  intro r
  induction r with
  | zero =>
    intro i V F D kp th hi hF hD hr hV hk
    exact pm_run 40 (And.intro (fun _ => hk th hr) (fun h => absurd (nI_le (a := 16) (by omega) (by omega)) h))
  | succ r ih =>
    intro i V F D kp th hi hF hD hr hV hk
    obtain ⟨hv, hw⟩ := hr 0 (by omega)
    have e15 : (nI F &&& 15).toNatClampNeg = (F + 0) % 16 := by rw [n15 (by omega), nI_clamp (by omega)]; rfl
    refine pm_run 120 (And.intro (fun h => absurd h (nI_ge (b := 16) (by omega) (by omega))) (fun _ => And.intro ⟨Nat.zero_le _, Nat.zero_le _⟩ (c_slotOf (And.intro (ps_in _) (And.intro (fun h => ?_) (fun h => And.intro ⟨Nat.zero_le _, Nat.zero_le _⟩ (c_slotOf (And.intro (ps_in _) (And.intro (ps_in _) (And.intro (pr_in _) (And.intro ⟨Nat.zero_le _, Nat.zero_le _⟩ (c_plus ?_)))))))))))) 
    · rw [e15, hv, bI0] at h
      have hn : V 0 = none := Option.isSome_eq_false_iff.mp h |> Option.isNone_iff_eq_none.mp
      unfold dlv at hk
      simp only [hn] at hk
      exact hk th hr
    · rw [e15, hv, bI1] at h
      obtain ⟨x, hx⟩ := Option.isSome_iff_exists.mp h
      have e2 : (nI F + 1) &&& 255 = nI ((F + 1) % 256) := by rw [nI_1, n255 (by omega)]
      have e3 : (nI D &&& Int32.ofNat 255).toNatClampNeg = D % 256 := by
        show (nI D &&& 255).toNatClampNeg = _
        rw [n255 (by omega), nI_clamp (by omega)]
      unfold dlv at hk
      simp only [hx] at hk
      have hs := rV_shift (Or.inl rfl) hr (hV 16 (by omega))
      have := ih (i + 1) (fun i => V (i + 1)) ((F + 1) % 256) (D + 1) (upd kp (D % 256) x) (upd th (F % 16) 0) (by omega) (Nat.mod_lt _ (by omega)) (by omega) hs (fun j hj => hV (j + 1) (by omega)) hk
      refine pm_J.locals (M := [some (.ref 12), some (.int (nI (i + 1))), none]) ?_ ⟨rfl, congrArg (fun z => some (Value.int z)) (nI_succ i).symm, trivial⟩
      rw [e15, e3, hw x hx]
      rw [← e2, nI_succ D] at this
      exact this
theorem c_dlv {V : VF} {F D : Nat} (hF : F < 256) (hD : D + 16 < 2 ^ 31) (hr : rV 16 F V rw th) (hV : ∀ j, 16 ≤ j → V j = none) (hk : ∀ th' : Nat → Int32, rV 16 (dlv 16 (V, F, D, kp)).2.1 (dlv 16 (V, F, D, kp)).1 rw th' → k none (wR e1 e2 e3 e4 e5 e6 e7 e8 e9 e10 e11 W (nI (dlv 16 (V, F, D, kp)).2.1) (nI (dlv 16 (V, F, D, kp)).2.2.1) rw th' (dlv 16 (V, F, D, kp)).2.2.2 R)) :
    pm_C 18 (d + 1) al [.ref 12] (wR e1 e2 e3 e4 e5 e6 e7 e8 e9 e10 e11 W (nI F) (nI D) rw th kp R) k kx :=
  pm_Ci rfl (pm_run 40 (l_dlv 16 0 V F D kp th rfl hF hD hr hV hk))
theorem c_accept {V : VF} {F D n b Wn : Nat} {x : Int32} (hF : F < 256) (hn : n < 256) (hb : b = (n + 256 - F) % 256) (hW : Wn ≤ 16) (hD : D + 16 < 2 ^ 31) (hr : rV 16 F V rw th) (hV : ∀ j, 16 ≤ j → V j = none)
    (h0 : Wn ≤ b ∨ (V b).isSome = true → k (some (.int 0)) (wR e1 e2 e3 e4 e5 e6 e7 e8 e9 e10 e11 (nI Wn) (nI F) (nI D) rw th kp R))
    (h1 : b < Wn → V b = none → ∀ rw' th' : Nat → Int32, rV 16 (dlv 16 (uV V b x, F, D, kp)).2.1 (dlv 16 (uV V b x, F, D, kp)).1 rw' th' → k (some (.int 1)) (wR e1 e2 e3 e4 e5 e6 e7 e8 e9 e10 e11 (nI Wn) (nI (dlv 16 (uV V b x, F, D, kp)).2.1) (nI (dlv 16 (uV V b x, F, D, kp)).2.2.1) rw' th' (dlv 16 (uV V b x, F, D, kp)).2.2.2 R)) :
    pm_C 12 (d + 2) al [.ref 12, .int (nI n), .int x] (wR e1 e2 e3 e4 e5 e6 e7 e8 e9 e10 e11 (nI Wn) (nI F) (nI D) rw th kp R) k kx := by
  have eb : (nI n - nI F) &&& 255 = nI b := by rw [nsub (by omega) (by omega), hb]
  have es : (nI n &&& 15).toNatClampNeg = (F + b) % 16 := by
    rw [n15 (by omega), nI_clamp (by omega), hb]
    omega
  refine pm_Ci rfl (pm_run 80 (And.intro ⟨Nat.zero_le _, Nat.zero_le _⟩ (c_slotOf (And.intro ⟨Nat.zero_le _, Nat.zero_le _⟩ (c_distance (And.intro (fun h => And.intro rfl (h0 (Or.inl ?_))) (fun h => And.intro (ps_in _) (And.intro (fun g => And.intro (ps_in _) (And.intro (ps_in _) (And.intro ⟨Nat.zero_le _, Nat.zero_le _⟩ ?_))) (fun g => And.intro rfl (h0 (Or.inr ?_)))))))))))
  · rw [eb] at h
    exact (nI_leI (by omega) (by omega)).mp h
  · rw [eb] at h
    have hlt : b < Wn := Nat.lt_of_not_le (fun z => h ((nI_leI (by omega) (by omega)).mpr z))
    rw [es, (hr b (by omega)).1, bI0] at g
    have hnn : V b = none := Option.isSome_eq_false_iff.mp g |> Option.isNone_iff_eq_none.mp
    rw [es]
    refine c_dlv (V := uV V b x) hF hD (rV_put (Or.inl rfl) hr (by omega)) (fun j hj => ?_) (fun th' ht => And.intro rfl (h1 hlt hnn _ th' ht))
    have e : uV V b x j = V j := if_neg (by omega)
    rw [e]
    exact hV j hj
  · rw [eb] at h
    have hlt : b < Wn := Nat.lt_of_not_le (fun z => h ((nI_leI (by omega) (by omega)).mpr z))
    rw [es, (hr b (by omega)).1, bI1] at g
    exact g
theorem l_akm {V : VF} {F Wn : Nat} (hF : F < 256) (hW : Wn ≤ 16) (hr : rV 16 F V rw th) : ∀ (r i : Nat) (m : Int32), i + r = Wn → k (some (.long (f_of 1 (nI F) 0 (akM V r i m)))) (wR e1 e2 e3 e4 e5 e6 e7 e8 e9 e10 e11 (nI (Wn + 1)) (nI F) D rw th kp R) → Wn < 16 →
    pm_J 13 (d + 1) al none k kx 4 [some (.ref 12), some (.int m), some (.int (nI i))] [] (wR e1 e2 e3 e4 e5 e6 e7 e8 e9 e10 e11 (nI (Wn + 1)) (nI F) D rw th kp R) cb sb := by
  intro r
  induction r with
  | zero =>
    intro i m hi hk h16
    refine pm_run 60 (And.intro (fun _ => And.intro ⟨Nat.zero_le _, Nat.zero_le _⟩ (c_of hk)) (fun h => absurd ?_ h))
    show nI (Wn + 1) - 1 ≤ nI i
    rw [nI_pred]
    exact nI_le (by omega) (by omega)
  | succ r ih =>
    intro i m hi hk h16
    obtain ⟨hv, -⟩ := hr (i + 1) (by omega)
    have es : (((nI F + ((1 : Int32) + nI i)) &&& 255) &&& 15).toNatClampNeg = (F + (i + 1)) % 16 := by
      rw [show (1 : Int32) + nI i = nI (i + 1) from (Int32.add_comm _ _).trans (nI_1 i)]
      exact slot16c (by omega) (by omega)
    refine pm_run 80 (And.intro (fun h => absurd h ?_) (fun _ => And.intro ⟨Nat.zero_le _, Nat.zero_le _⟩ (c_plus (And.intro ⟨Nat.zero_le _, Nat.zero_le _⟩ (c_slotOf (And.intro (ps_in _) (And.intro (fun h => ?_) (fun h => ?_))))))))
    · show ¬ nI (Wn + 1) - 1 ≤ nI i
      rw [nI_pred]
      exact nI_ge (by omega) (by omega)
    · have h : (V (i + 1)).isSome = false := bI0.mp (hv.symm.trans ((congrArg th es.symm).trans h))
      refine pm_J.locals (M := [some (.ref 12), some (.int m), some (.int (nI (i + 1)))]) (ih (i + 1) m (by omega) ?_ h16) ⟨rfl, rfl, congrArg (fun z => some (Value.int z)) (nI_succ i).symm, trivial⟩
      unfold akM at hk
      rw [h] at hk
      exact hk
    · have h : (V (i + 1)).isSome = true := bI1.mp (fun q => h ((congrArg th es).trans (hv.trans q)))
      refine pm_J.locals (M := [some (.ref 12), some (.int (m ||| ((1 : Int32) <<< (nI i &&& 31)))), some (.int (nI (i + 1)))]) (ih (i + 1) _ (by omega) ?_ h16) ⟨rfl, rfl, congrArg (fun z => some (Value.int z)) (nI_succ i).symm, trivial⟩
      unfold akM at hk
      rw [h] at hk
      exact hk
theorem c_akm {V : VF} {F Wn : Nat} (hF : F < 256) (hW1 : 1 ≤ Wn) (hW : Wn ≤ 16) (hr : rV 16 F V rw th) (hV : ∀ j, Wn ≤ j → V j = none) (hk : k (some (.long (f_of 1 (nI F) 0 (akM V 16 0 0)))) (wR e1 e2 e3 e4 e5 e6 e7 e8 e9 e10 e11 (nI Wn) (nI F) D rw th kp R)) : pm_C 13 (d + 1) al [.ref 12] (wR e1 e2 e3 e4 e5 e6 e7 e8 e9 e10 e11 (nI Wn) (nI F) D rw th kp R) k kx := by
  obtain ⟨n, rfl⟩ : ∃ n, Wn = n + 1 := ⟨Wn - 1, by omega⟩
  have e : akM V 16 0 0 = akM V n 0 0 := by
    rw [show (16 : Nat) = n + (16 - n) by omega]
    exact akM_add n (16 - n) 0 0 (fun j hj => hV j (by omega))
  rw [e] at hk
  exact pm_Ci rfl (pm_run 40 (l_akm hF (by omega) hr n 0 0 (by omega) hk (by omega)))
theorem l_gap : ∀ (r i : Nat), i + r = 16 → k (some (.int (nI (smN (fun j => if th j = 0 then 0 else 1) 16)))) (wR e1 e2 e3 e4 e5 e6 e7 e8 e9 e10 e11 W F D rw th kp R) →
    pm_J 14 d al none k kx 4 [some (.ref 12), some (.int (nI (smN (fun j => if th j = 0 then 0 else 1) i))), some (.int (nI i))] [] (wR e1 e2 e3 e4 e5 e6 e7 e8 e9 e10 e11 W F D rw th kp R) cb sb := by
  intro r
  induction r with
  | zero =>
    intro i hi hk
    have hi : i = 16 := by omega
    subst hi
    exact pm_run 40 (And.intro (fun _ => hk) (fun h => absurd (nI_le (a := 16) (by omega) (by omega)) h))
  | succ r ih =>
    intro i hi hk
    refine pm_run 60 (And.intro (fun h => absurd h (nI_ge (b := 16) (by omega) (by omega))) (fun _ => And.intro (vin (by omega) (by omega)) (And.intro (fun h => ?_) (fun h => ?_))))
    · rw [nI_clamp (by omega)] at h
      refine pm_J.locals (ih (i + 1) (by omega) hk) ⟨rfl, congrArg (fun z => some (Value.int z)) ?_, congrArg (fun z => some (Value.int z)) (nI_succ i).symm, trivial⟩
      rw [smN, if_pos h]
      rfl
    · rw [nI_clamp (by omega)] at h
      refine pm_J.locals (ih (i + 1) (by omega) hk) ⟨rfl, congrArg (fun z => some (Value.int z)) ?_, congrArg (fun z => some (Value.int z)) (nI_succ i).symm, trivial⟩
      rw [smN, if_neg h]
      exact (nI_succ _).symm
theorem c_gap (hk : k (some (.int (nI (smN (fun j => if th j = 0 then 0 else 1) 16)))) (wR e1 e2 e3 e4 e5 e6 e7 e8 e9 e10 e11 W F D rw th kp R)) : pm_C 14 d al [.ref 12] (wR e1 e2 e3 e4 e5 e6 e7 e8 e9 e10 e11 W F D rw th kp R) k kx :=
  pm_Ci rfl (pm_run 40 (l_gap 16 0 rfl hk))
theorem c_dCount (hk : k (some (.int D)) (wR e1 e2 e3 e4 e5 e6 e7 e8 e9 e10 e11 W F D rw th kp R)) : pm_C 15 d al [.ref 12] (wR e1 e2 e3 e4 e5 e6 e7 e8 e9 e10 e11 W F D rw th kp R) k kx := pm_Ci rfl (pm_run 40 hk)
theorem c_keeps {x : Int32} (h1 : ¬ x < 0 → ¬ D ≤ x → ¬ x < D - 256 → k (some (.int 1)) (wR e1 e2 e3 e4 e5 e6 e7 e8 e9 e10 e11 W F D rw th kp R)) (h0 : x < 0 ∨ D ≤ x ∨ x < D - 256 → k (some (.int 0)) (wR e1 e2 e3 e4 e5 e6 e7 e8 e9 e10 e11 W F D rw th kp R)) : pm_C 16 d al [.ref 12, .int x] (wR e1 e2 e3 e4 e5 e6 e7 e8 e9 e10 e11 W F D rw th kp R) k kx :=
  pm_Ci rfl (pm_run 40 (And.intro (fun h => And.intro rfl (h0 (Or.inl h))) (fun g1 => And.intro (fun h => And.intro rfl (h0 (Or.inr (Or.inl h)))) (fun g2 => And.intro (fun h => And.intro rfl (h0 (Or.inr (Or.inr h)))) (fun g3 => And.intro rfl (h1 g1 g2 g3))))))
theorem c_kept {x : Int32} (hk : k (some (.int (kp (x &&& 255).toNatClampNeg))) (wR e1 e2 e3 e4 e5 e6 e7 e8 e9 e10 e11 W F D rw th kp R)) : pm_C 17 d al [.ref 12, .int x] (wR e1 e2 e3 e4 e5 e6 e7 e8 e9 e10 e11 W F D rw th kp R) k kx := pm_Ci rfl (pm_run 40 (And.intro (pr_in _) hk))
end PR
