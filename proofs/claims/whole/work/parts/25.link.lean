/-! THE LINK: its methods over the abstract state -/
section PL
variable {d : Nat} {al : Bool} {k : pm_K} {kx : pm_X} {cb sb : Nat} {R : pm_D} {Wn Rm B h F D : Nat} {T tk ag : Int32} {qa qb : Qu} {A : EF} {V : VF} {LG : Nat → Int32} {P : LkP}
theorem c_within {w : pm_D} {x y z : Int32} (h1 : ¬ x < y → ¬ z < x → k (some (.int 1)) w) (h0 : x < y ∨ z < x → k (some (.int 0)) w) : pm_C 64 d al [.int x, .int y, .int z] w k kx :=
  pm_Ci rfl (pm_run 40 (And.intro (fun h => And.intro rfl (h0 (Or.inl h))) (fun g => And.intro (fun h => And.intro rfl (h0 (Or.inr h))) (fun g2 => And.intro rfl (h1 g g2)))))
theorem c_restart {y : Int32} (hL : P.2.2.2.2.2.1 = LG) (hR : Rm ≤ 32) (hk : ∀ P', rLk Wn Rm y [] [] 0 0 A 0 0 0 (fun _ => none) 0 LG P' → k none (wl P' R)) : pm_C 62 (d + 1) al [.ref 1, .int (nI Wn), .int y, .int (nI Rm)] (wl P R) k kx := by
  obtain ⟨⟨oa, ca, ra, ba, sa⟩, ⟨ob, cb, rb, bb, sb⟩, ⟨W, T', B', N, tk', ag', ws, ags, ack⟩, ⟨rw, th, kp, W2, F', D'⟩⟩ := P
  have hL : kp = LG := hL
  subst hL
  refine pm_Ci rfl (pm_run 60 (And.intro ⟨Nat.zero_le _, Nat.zero_le _⟩ (c_clear_A (And.intro ⟨Nat.zero_le _, Nat.zero_le _⟩ (c_clear_B (And.intro ⟨Nat.zero_le _, Nat.zero_le _⟩ (c_sClear (And.intro ⟨Nat.zero_le _, Nat.zero_le _⟩ (c_rClear (fun th' ht => hk ((0, 0, nI Rm, ba, sa), (0, 0, nI Rm, bb, sb), (nI Wn, y, 0, 0, 0, 0, ws, ags, ack), (rw, th', kp, nI Wn, 0, 0)) ⟨rW_0 hR _ _, rW_0 hR _ _, ⟨ws, ags, ack, rfl, fun i hi => absurd hi (by omega)⟩, ⟨rw, th', rfl, fun i hi => ⟨?_, fun x hx => by cases hx⟩⟩⟩))))))))))
  rw [Nat.zero_add, Nat.mod_eq_of_lt hi]
  exact ht i hi
theorem c_begin {x y z : Int32} (hL : P.2.2.2.2.2.1 = LG) (hx : x < 1 ∨ 16 < x ∨ y < 1 ∨ 50 < y ∨ z < 1 ∨ 32 < z → kx pm_IA (wl P R)) (hk : ∀ Wn Rm : Nat, x = nI Wn → z = nI Rm → 1 ≤ Wn → Wn ≤ 16 → 1 ≤ Rm → Rm ≤ 32 → ¬ y < 1 → ¬ 50 < y → ∀ P', rLk Wn Rm y [] [] 0 0 A 0 0 0 (fun _ => none) 0 LG P' → k none (wl P' R)) : pm_C 48 (d + 6) false [.ref 1, .int x, .int y, .int z] (wl P R) k kx := by
  refine pm_Ci rfl (pm_run 60 (And.intro ⟨Nat.zero_le _, Nat.zero_le _⟩ (c_within (fun g1 g2 => And.intro (fun h => absurd h (by decide)) (fun _ => And.intro ⟨Nat.zero_le _, Nat.zero_le _⟩ (c_within (fun g3 g4 => And.intro (fun h => absurd h (by decide)) (fun _ => And.intro ⟨Nat.zero_le _, Nat.zero_le _⟩ (c_within (fun g5 g6 => And.intro (fun _ => ?_) (fun h => absurd h (by decide))) (fun g => And.intro (fun h => absurd rfl h) (fun _ => And.intro ⟨Nat.le_add_left _ _, by decide, by decide⟩ (hx (Or.inr (Or.inr (Or.inr (Or.inr g)))))))))) (fun g => And.intro (fun _ => And.intro ⟨Nat.le_add_left _ _, by decide, by decide⟩ (hx (Or.inr (Or.inr (g.elim Or.inl (fun z => Or.inr (Or.inl z))))))) (fun h => absurd rfl h))))) (fun g => And.intro (fun _ => And.intro ⟨Nat.le_add_left _ _, by decide, by decide⟩ (hx (g.elim Or.inl (fun z => Or.inr (Or.inl z))))) (fun h => absurd rfl h)))))
  obtain ⟨a, ha, e1⟩ := nI_of2 (n := 16) (M := 16) (by decide) (fun q => g1 (Int32.lt_trans q (by decide))) (Int32.not_lt.mp g2)
  obtain ⟨c, hc, e2⟩ := nI_of2 (n := 32) (M := 32) (by decide) (fun q => g5 (Int32.lt_trans q (by decide))) (Int32.not_lt.mp g6)
  subst e1 e2
  have ha1 : 1 ≤ a := Nat.le_of_not_lt (fun q => g1 (nI_lt (b := 1) q (by omega)))
  have hc1 : 1 ≤ c := Nat.le_of_not_lt (fun q => g5 (nI_lt (b := 1) q (by omega)))
  exact And.intro ⟨Nat.zero_le _, Nat.zero_le _⟩ (c_restart (A := A) hL hc (hk a c rfl rfl ha1 ha hc1 hc g3 g4))
theorem c_send {x : Int32} (iv : IV Wn Rm B h F V) (hL : rLk Wn Rm T qa qb B h A tk ag F V D LG P) (hk : ∀ P', rLk Wn Rm T (snd Wn Rm x qa B h A).2.1 qb B (snd Wn Rm x qa B h A).2.2.1 (snd Wn Rm x qa B h A).2.2.2.1 (tk + (snd Wn Rm x qa B h A).2.2.2.2) ag F V D LG P' → k (some (.int (snd Wn Rm x qa B h A).1)) (wl P' R)) : pm_C 49 (d + 3) al [.ref 1, .int x] (wl P R) k kx := by
  obtain ⟨i1, i2, i3, i4, i5, i6, i7, i8, i9⟩ := iv
  obtain ⟨a, b, s, r⟩ := P
  have hL' := hL
  obtain ⟨ha, hb, ⟨ws, ags, ack, rfl, hE⟩, hr⟩ := hL
  have eh : (nI ((B + h) % 256) - nI B) &&& 255 = nI h := held_eq i5 (by omega)
  have no : ¬ (h < Wn ∧ qa.length < Rm) → k (some (.int 0)) (wl (a, b, (nI Wn, T, nI B, nI ((B + h) % 256), tk, ag, ws, ags, ack), r) R) := fun z => by
    have e : snd Wn Rm x qa B h A = (0, qa, h, A, 0) := if_neg z
    rw [e] at hk
    exact hk _ (by simp only [Int32.add_zero]; exact hL')
  refine pm_Ci rfl (pm_run 80 (And.intro ⟨Nat.zero_le _, Nat.zero_le _⟩ (c_sHasRoom (fun g => And.intro (fun _ => And.intro rfl (no ?_)) (fun h => absurd rfl h)) (fun g => And.intro (fun h => absurd h (by decide)) (fun _ => And.intro ⟨Nat.zero_le _, Nat.zero_le _⟩ (c_hasRoom_A (fun g2 => And.intro (fun h => absurd rfl h) (fun _ => And.intro rfl (no ?_))) (fun g2 => And.intro (fun _ => And.intro ⟨Nat.zero_le _, Nat.zero_le _⟩ (c_takeWord (And.intro ⟨Nat.zero_le _, Nat.zero_le _⟩ (c_put_A (And.intro rfl ?_))))) (fun h => absurd h (by decide)))))))))
  · intro z
    rw [eh] at g
    exact nI_ge z.1 (by omega) g
  · intro z
    have := (rW_room ha).mp g2
    omega
  · rw [eh] at g
    have hlt : h < Wn := Nat.lt_of_not_le (fun z => g (nI_le z (by omega)))
    have hq : qa.length < Rm := Nat.lt_of_not_le (fun z => g2 ((rW_room ha).mpr z))
    have e : snd Wn Rm x qa B h A = (1, qa ++ [fr (f_of 0 (nI ((B + h) % 256)) x 0)], h + 1, uE A h (x, 0, false), 1) := if_pos ⟨hlt, hq⟩
    have es : (nI ((B + h) % 256) &&& 15).toNatClampNeg = (B + h) % 16 := by
      rw [n15 (by omega), nI_clamp (by omega)]
      omega
    have en : (nI ((B + h) % 256) + 1) &&& 255 = nI ((B + (h + 1)) % 256) := by
      rw [nI_1, n255 (by omega)]
      refine congrArg nI ?_
      omega
    rw [e] at hk
    refine hk (pPut a _ _, b, (_, _, _, _, _, _, upd ws (nI ((B + h) % 256) &&& 15).toNatClampNeg x, upd ags (nI ((B + h) % 256) &&& 15).toNatClampNeg 0, upd ack (nI ((B + h) % 256) &&& 15).toNatClampNeg (0 &&& 1)), r) ⟨?_, hb, ⟨_, _, _, by rw [← en], by rw [es]; exact rE_snoc (Or.inl rfl) (by omega) hE x⟩, hr⟩
    rw [pk_us]
    exact qW_put ha hq
theorem c_tick (iv : IV Wn Rm B h F V) (hL : rLk Wn Rm T qa qb B h A tk ag F V D LG P) (hk : ∀ P', rLk Wn Rm T (tkN T Rm B h 0 (A, qa, 0)).2.1 qb B h (tkN T Rm B h 0 (A, qa, 0)).1 tk (ag + nI (tkN T Rm B h 0 (A, qa, 0)).2.2) F V D LG P' → k (some (.int (nI (tkN T Rm B h 0 (A, qa, 0)).2.2))) (wl P' R)) : pm_C 50 (d + 5) al [.ref 1] (wl P R) k kx := by
  obtain ⟨i1, i2, i3, i4, i5, i6, i7, i8, i9⟩ := iv
  obtain ⟨a, b, s, r⟩ := P
  obtain ⟨ha, hb, ⟨ws, ags, ack, rfl, hE⟩, hr⟩ := hL
  exact pm_Ci rfl (pm_run 40 (And.intro ⟨Nat.zero_le _, Nat.zero_le _⟩ (c_again (P := a) i5 (by omega) rfl ha hE (fun P' ags' h1 h2 => hk (P', b, (nI Wn, T, nI B, nI ((B + h) % 256), tk, ag + nI (tkN T Rm B h 0 (A, qa, 0)).2.2, ws, ags', ack), r) ⟨h1, hb, ⟨_, _, _, rfl, h2⟩, hr⟩))))
theorem c_comeB (iv : IV Wn Rm B h F V) (hD : D + 16 < 2 ^ 31) (hL : rLk Wn Rm T qa qb B h A tk ag F V D LG P) (hk : ∀ P', rLk Wn Rm T (cB Wn Rm qa qb (V, F, D, LG)).2.1 (cB Wn Rm qa qb (V, F, D, LG)).2.2.1 B h A tk ag (cB Wn Rm qa qb (V, F, D, LG)).2.2.2.2.1 (cB Wn Rm qa qb (V, F, D, LG)).2.2.2.1 (cB Wn Rm qa qb (V, F, D, LG)).2.2.2.2.2.1 (cB Wn Rm qa qb (V, F, D, LG)).2.2.2.2.2.2 P' → k (some (.int (cB Wn Rm qa qb (V, F, D, LG)).1)) (wl P' R)) : pm_C 51 (d + 3) al [.ref 1] (wl P R) k kx := by
  obtain ⟨i1, i2, i3, i4, i5, i6, i7, i8, i9⟩ := iv
  obtain ⟨a, b, s, r⟩ := P
  have hL' := hL
  obtain ⟨ha, hb, hs, ⟨rw, th, rfl, hV⟩⟩ := hL
  cases qa with
  | nil =>
    exact pm_Ci rfl (pm_run 120 (And.intro ⟨Nat.zero_le _, Nat.zero_le _⟩ (c_isEmpty_A (fun g => absurd ((rW_emp ha).mpr rfl) g) (fun g => And.intro (fun h => absurd h (by decide)) (fun _ => hk _ hL')))))
  | cons f q =>
    obtain ⟨t1, t2, t3⟩ := rW_take ha
    obtain ⟨en, hn⟩ := fN_ok f.1
    refine pm_Ci rfl (pm_run 120 (And.intro ⟨Nat.zero_le _, Nat.zero_le _⟩ (c_isEmpty_A (fun g => And.intro (fun _ => And.intro ⟨Nat.zero_le _, Nat.zero_le _⟩ (c_isOldestSound_A (rW_in ha) (fun g2 => And.intro ⟨Nat.zero_le _, Nat.zero_le _⟩ (c_takeOldest_A (rW_in ha) (And.intro (fun h => absurd rfl h) (fun _ => ?_)))) (fun g2 g3 => And.intro ⟨Nat.zero_le _, Nat.zero_le _⟩ (c_takeOldest_A (rW_in ha) (And.intro (fun _ => And.intro ⟨Nat.zero_le _, Nat.zero_le _⟩ (c_numberOf (And.intro ⟨Nat.zero_le _, Nat.zero_le _⟩ (c_wordOf (And.intro ⟨Nat.zero_le _, Nat.zero_le _⟩ ?_))))) (fun h => absurd h (by decide))))))) (fun h => absurd rfl h)) (fun g => absurd ((rW_emp ha).mp g) (by simp)))))
    · rw [t1, t2] at g2
      have e : cB Wn Rm (f :: q) qb (V, F, D, LG) = (2, q, qb, V, F, D, LG) := if_neg g2
      rw [e] at hk
      exact hk (pTake a, b, s, _) ⟨qW_take ha, hb, hs, ⟨rw, th, rfl, hV⟩⟩
    · rw [t1, t2] at g2
      rw [t1] at g3
      rw [t1, en]
      have e0 : cB Wn Rm (f :: q) qb (V, F, D, LG) = if (fN f.1 + 256 - F) % 256 < Wn ∧ (V ((fN f.1 + 256 - F) % 256)).isSome = false then
        (0, q, akQ Rm qb (dlv 16 (uV V ((fN f.1 + 256 - F) % 256) (f_word f.1), F, D, LG)).2.1 (dlv 16 (uV V ((fN f.1 + 256 - F) % 256) (f_word f.1), F, D, LG)).1, dlv 16 (uV V ((fN f.1 + 256 - F) % 256) (f_word f.1), F, D, LG))
      else (1, q, akQ Rm qb F V, V, F, D, LG) := if_pos ⟨g2, g3⟩
      have hV16 : ∀ j, 16 ≤ j → V j = none := fun j hj => i8 j (by omega)
      refine c_accept (b := (fN f.1 + 256 - F) % 256) i7 hn rfl i2 hD hV hV16 (fun g4 => ?_) (fun g4 g5 rw' th' g6 => ?_)
      · have e : cB Wn Rm (f :: q) qb (V, F, D, LG) = (1, q, akQ Rm qb F V, V, F, D, LG) := by
          rw [e0]
          refine if_neg (fun z => ?_)
          rcases g4 with g4 | g4
          · omega
          · rw [g4] at z
            exact absurd z.2 (by decide)
        rw [e] at hk
        refine And.intro ⟨Nat.zero_le _, Nat.zero_le _⟩ (c_hasRoom_B (fun g7 => And.intro (fun _ => And.intro (fun _ => ?_) (fun h => absurd rfl h)) (fun h => absurd rfl h)) (fun g7 => And.intro (fun h => absurd h (by decide)) (fun _ => And.intro ⟨Nat.zero_le _, Nat.zero_le _⟩ (c_akm i7 i1 i2 hV i8 (And.intro ⟨Nat.zero_le _, Nat.zero_le _⟩ (c_put_B (And.intro (fun _ => ?_) (fun h => absurd rfl h))))))))
        · have e2 : akQ Rm qb F V = qb := if_neg (by have := (rW_room hb).mp g7; omega)
          rw [e2] at hk
          exact hk (pTake a, b, s, _) ⟨qW_take ha, hb, hs, ⟨rw, th, rfl, hV⟩⟩
        · have hq : qb.length < Rm := Nat.lt_of_not_le (fun z => g7 ((rW_room hb).mpr z))
          have e2 : akQ Rm qb F V = qb ++ [fr (f_of 1 (nI F) 0 (akM V 16 0 0))] := if_pos hq
          rw [e2] at hk
          exact hk (pTake a, pPut b _ _, s, _) ⟨qW_take ha, qW_put hb hq, hs, ⟨rw, th, rfl, hV⟩⟩
      · have e : cB Wn Rm (f :: q) qb (V, F, D, LG) = (0, q, akQ Rm qb (dlv 16 (uV V ((fN f.1 + 256 - F) % 256) (f_word f.1), F, D, LG)).2.1 (dlv 16 (uV V ((fN f.1 + 256 - F) % 256) (f_word f.1), F, D, LG)).1, dlv 16 (uV V ((fN f.1 + 256 - F) % 256) (f_word f.1), F, D, LG)) := by
          rw [e0]
          exact if_pos ⟨g4, by rw [g5]; rfl⟩
        rw [e] at hk
        have hw : ∀ j, Wn ≤ j → uV V ((fN f.1 + 256 - F) % 256) (f_word f.1) j = none := fun j hj => (if_neg (by omega)).trans (i8 j hj)
        obtain ⟨k1, k2, k3⟩ := dlv_ok 16 (uV V ((fN f.1 + 256 - F) % 256) (f_word f.1), F, D, LG) i7 (fun j hj => hw j (by omega))
        have k4 := dlv_win (n := Wn) 16 (uV V ((fN f.1 + 256 - F) % 256) (f_word f.1), F, D, LG) hw
        generalize dlv 16 (uV V ((fN f.1 + 256 - F) % 256) (f_word f.1), F, D, LG) = S at hk k1 k2 k3 k4 g6 ⊢
        obtain ⟨V2, F2, D2, L2⟩ := S
        refine And.intro ⟨Nat.zero_le _, Nat.zero_le _⟩ (c_hasRoom_B (fun g7 => And.intro (fun _ => And.intro (fun h => absurd h (by decide)) (fun _ => ?_)) (fun h => absurd rfl h)) (fun g7 => And.intro (fun h => absurd h (by decide)) (fun _ => And.intro ⟨Nat.zero_le _, Nat.zero_le _⟩ (c_akm k1 i1 i2 g6 k4 (And.intro ⟨Nat.zero_le _, Nat.zero_le _⟩ (c_put_B (And.intro (fun h => absurd h (by decide)) (fun _ => ?_))))))))
        · have e2 : akQ Rm qb F2 V2 = qb := if_neg (by have := (rW_room hb).mp g7; omega)
          simp only [e2] at hk
          exact hk (pTake a, b, s, (rw', th', L2, nI Wn, nI F2, nI D2)) ⟨qW_take ha, hb, hs, ⟨rw', th', rfl, g6⟩⟩
        · have hq : qb.length < Rm := Nat.lt_of_not_le (fun z => g7 ((rW_room hb).mpr z))
          have e2 : akQ Rm qb F2 V2 = qb ++ [fr (f_of 1 (nI F2) 0 (akM V2 16 0 0))] := if_pos hq
          simp only [e2] at hk
          exact hk (pTake a, pPut b _ _, s, (rw', th', L2, nI Wn, nI F2, nI D2)) ⟨qW_take ha, qW_put hb hq, hs, ⟨rw', th', rfl, g6⟩⟩
theorem c_comeA (iv : IV Wn Rm B h F V) (hL : rLk Wn Rm T qa qb B h A tk ag F V D LG P) (hk : ∀ P', rLk Wn Rm T qa (cA qb h B A).2.1 (cA qb h B A).2.2.2.1 (cA qb h B A).2.2.1 (cA qb h B A).2.2.2.2 tk ag F V D LG P' → k (some (.int (cA qb h B A).1)) (wl P' R)) : pm_C 52 (d + 5) al [.ref 1] (wl P R) k kx := by
  obtain ⟨i1, i2, i3, i4, i5, i6, i7, i8, i9⟩ := iv
  obtain ⟨a, b, s, r⟩ := P
  have hL' := hL
  obtain ⟨ha, hb, ⟨ws, ags, ack, rfl, hE⟩, hr⟩ := hL
  cases qb with
  | nil =>
    exact pm_Ci rfl (pm_run 120 (And.intro ⟨Nat.zero_le _, Nat.zero_le _⟩ (c_isEmpty_B (fun g => absurd ((rW_emp hb).mpr rfl) g) (fun g => And.intro (fun h => absurd h (by decide)) (fun _ => hk _ hL')))))
  | cons f q =>
    obtain ⟨t1, t2, t3⟩ := rW_take hb
    obtain ⟨en, hn⟩ := fN_ok f.1
    have eh : (nI ((B + h) % 256) - nI B) &&& 255 = nI h := held_eq i5 (by omega)
    have eb : (nI (fN f.1) - nI B) &&& 255 = nI ((fN f.1 + 256 - B) % 256) := nsub (by omega) (by omega)
    refine pm_Ci rfl (pm_run 120 (And.intro ⟨Nat.zero_le _, Nat.zero_le _⟩ (c_isEmpty_B (fun g => And.intro (fun _ => And.intro ⟨Nat.zero_le _, Nat.zero_le _⟩ (c_isOldestSound_B (rW_in hb) (fun g2 => And.intro ⟨Nat.zero_le _, Nat.zero_le _⟩ (c_takeOldest_B (rW_in hb) (And.intro (fun h => absurd rfl h) (fun _ => ?_)))) (fun g2 g3 => And.intro ⟨Nat.zero_le _, Nat.zero_le _⟩ (c_takeOldest_B (rW_in hb) (And.intro (fun _ => And.intro ⟨Nat.zero_le _, Nat.zero_le _⟩ (c_numberOf (And.intro ⟨Nat.zero_le _, Nat.zero_le _⟩ (c_isGood (fun g4 => And.intro (fun h => absurd rfl h) (fun _ => ?_)) (fun g4 => And.intro (fun _ => And.intro ⟨Nat.zero_le _, Nat.zero_le _⟩ (c_mapOf (And.intro ⟨Nat.zero_le _, Nat.zero_le _⟩ ?_))) (fun h => absurd h (by decide))))))) (fun h => absurd h (by decide))))))) (fun h => absurd rfl h)) (fun g => absurd ((rW_emp hb).mp g) (by simp)))))
    · rw [t1, t2] at g2
      have e : cA (f :: q) h B A = (-3, q, h, B, A) := if_neg g2
      rw [e] at hk
      exact hk (a, pTake b, (nI Wn, T, nI B, nI ((B + h) % 256), tk, ag, ws, ags, ack), r) ⟨ha, qW_take hb, ⟨ws, ags, ack, rfl, hE⟩, hr⟩
    · rw [t1, t2] at g2
      rw [t1] at g3
      rw [t1, en, eb, eh] at g4
      have g4 : h < (fN f.1 + 256 - B) % 256 := (nI_ltI (by omega) (by omega)).mp g4
      have e : cA (f :: q) h B A = (-2, q, h, B, A) := (if_pos ⟨g2, g3⟩).trans (if_pos g4)
      rw [e] at hk
      exact hk (a, pTake b, (nI Wn, T, nI B, nI ((B + h) % 256), tk, ag, ws, ags, ack), r) ⟨ha, qW_take hb, ⟨ws, ags, ack, rfl, hE⟩, hr⟩
    · rw [t1, t2] at g2
      rw [t1] at g3
      rw [t1, en, eb, eh] at g4
      have g4 : ¬ h < (fN f.1 + 256 - B) % 256 := fun z => g4 ((nI_ltI (by omega) (by omega)).mpr z)
      have e : cA (f :: q) h B A = (nI (mkN (akP (f_map f.1) ((fN f.1 + 256 - B) % 256)) h 0 (A, 0)).2, q, mvB h B (mkN (akP (f_map f.1) ((fN f.1 + 256 - B) % 256)) h 0 (A, 0)).1) := (if_pos ⟨g2, g3⟩).trans (if_neg g4)
      rw [e] at hk
      rw [t1, en]
      refine c_ack (b := (fN f.1 + 256 - B) % 256) (A := A) i5 (by omega) rfl eb (by omega) hE (fun ack' h2 => ?_)
      obtain ⟨k1, k2, k3, k4⟩ := mvB_ok (Or.inl rfl) h B (mkN (akP (f_map f.1) ((fN f.1 + 256 - B) % 256)) h 0 (A, 0)).1 i5 h2
      exact hk (a, pTake b, (nI Wn, T, nI (mvB h B (mkN (akP (f_map f.1) ((fN f.1 + 256 - B) % 256)) h 0 (A, 0)).1).2.1, nI ((B + h) % 256), tk, ag, ws, ags, ack'), r) ⟨ha, qW_take hb, ⟨ws, ags, ack', by rw [← k3], k1⟩, hr⟩
theorem c_wireOf {x : Int32} (hx : x < 0 ∨ 1 < x → kx pm_IA (wl P R)) (h0 : x = 0 → k (some (.ref 2)) (wl P R)) (h1 : x = 1 → k (some (.ref 5)) (wl P R)) : pm_C 63 (d + 6) false [.ref 1, .int x] (wl P R) k kx := by
  refine pm_Ci rfl (pm_run 60 (And.intro ⟨Nat.zero_le _, Nat.zero_le _⟩ (c_within (fun g1 g2 => And.intro (fun _ => And.intro (fun g3 => h1 ?_) (fun g3 => h0 g3)) (fun h => absurd h (by decide))) (fun g => And.intro (fun h => absurd rfl h) (fun _ => And.intro ⟨Nat.le_add_left _ _, by decide, by decide⟩ (hx g))))))
  obtain ⟨a, ha, e1⟩ := nI_of2 (n := 1) (M := 1) (by decide) g1 (Int32.not_lt.mp g2)
  subst e1
  rcases Nat.lt_or_ge a 1 with h | h
  · have : a = 0 := by omega
    subst this
    exact absurd rfl g3
  · have : a = 1 := by omega
    subst this
    rfl
theorem c_loseA {x : Int32} (hx : x = 0) (hL : rLk Wn Rm T qa qb B h A tk ag F V D LG P) (hk : ∀ P', rLk Wn Rm T (lsQ qa).2 qb B h A tk ag F V D LG P' → k (some (.int (lsQ qa).1)) (wl P' R)) : pm_C 53 (d + 7) false [.ref 1, .int x] (wl P R) k kx := by
  obtain ⟨a, b, s, r⟩ := P
  have hL' := hL
  obtain ⟨ha, hb, hs, hr⟩ := hL
  have hw := ha
  cases qa with
  | nil => exact pm_Ci rfl (pm_run 80 (And.intro ⟨by decide, by decide⟩ (c_wireOf (fun z => absurd z (by rw [hx]; decide)) (fun _ => And.intro ⟨Nat.zero_le _, Nat.zero_le _⟩ (c_isEmpty_A (fun g => absurd ((rW_emp hw).mpr rfl) g) (fun g => And.intro (fun h => absurd h (by decide)) (fun _ => And.intro rfl (hk _ hL'))))) (fun z => absurd (hx.symm.trans z) (by decide)))))
  | cons f q => exact pm_Ci rfl (pm_run 80 (And.intro ⟨by decide, by decide⟩ (c_wireOf (fun z => absurd z (by rw [hx]; decide)) (fun _ => And.intro ⟨Nat.zero_le _, Nat.zero_le _⟩ (c_isEmpty_A (fun g => And.intro (fun _ => And.intro ⟨Nat.zero_le _, Nat.zero_le _⟩ (c_takeOldest_A (rW_in hw) (And.intro rfl (hk ((pTake a), b, s, r) ⟨qW_take hw, hb, hs, hr⟩)))) (fun h => absurd rfl h)) (fun g => absurd ((rW_emp hw).mp g) (by simp)))) (fun z => absurd (hx.symm.trans z) (by decide)))))
theorem c_twiceA {x : Int32} (hx : x = 0) (hL : rLk Wn Rm T qa qb B h A tk ag F V D LG P) (hk : ∀ P', rLk Wn Rm T (twQ Rm qa).2 qb B h A tk ag F V D LG P' → k (some (.int (twQ Rm qa).1)) (wl P' R)) : pm_C 55 (d + 7) false [.ref 1, .int x] (wl P R) k kx := by
  obtain ⟨a, b, s, r⟩ := P
  have hL' := hL
  obtain ⟨ha, hb, hs, hr⟩ := hL
  have hw := ha
  cases qa with
  | nil => exact pm_Ci rfl (pm_run 80 (And.intro ⟨by decide, by decide⟩ (c_wireOf (fun z => absurd z (by rw [hx]; decide)) (fun _ => And.intro ⟨Nat.zero_le _, Nat.zero_le _⟩ (c_isEmpty_A (fun g => absurd ((rW_emp hw).mpr rfl) g) (fun g => And.intro (fun _ => And.intro rfl (hk _ hL')) (fun h => absurd h (by decide))))) (fun z => absurd (hx.symm.trans z) (by decide)))))
  | cons f q =>
    obtain ⟨j, hj⟩ : ∃ j : Int32, (a.1 + -1) &&& 31 = j := ⟨_, rfl⟩
    refine pm_Ci rfl (pm_run 80 (And.intro ⟨by decide, by decide⟩ (c_wireOf (fun z => absurd z (by rw [hx]; decide)) (fun _ => And.intro ⟨Nat.zero_le _, Nat.zero_le _⟩ (c_isEmpty_A (fun g => And.intro (fun h => absurd rfl h) (fun _ => And.intro ⟨Nat.zero_le _, Nat.zero_le _⟩ (c_hasRoom_A (fun g2 => And.intro (fun h => absurd rfl h) (fun _ => And.intro rfl ?_)) (fun g2 => And.intro (fun _ => And.intro ⟨Nat.zero_le _, Nat.zero_le _⟩ (c_dbl_A hj (rW_in hw) (And.intro rfl ?_))) (fun h => absurd h (by decide)))))) (fun g => absurd ((rW_emp hw).mp g) (by simp)))) (fun z => absurd (hx.symm.trans z) (by decide)))))
    · have e : twQ Rm (f :: q) = (0, f :: q) := if_neg (by have := (rW_room hw).mp g2; simp only [List.length_cons] at this; omega)
      rw [e] at hk
      exact hk _ hL'
    · have hq : q.length + 1 < Rm := Nat.lt_of_not_le (fun z => g2 ((rW_room hw).mpr (by simpa using z)))
      have e : twQ Rm (f :: q) = (1, f :: f :: q) := if_pos hq
      rw [e] at hk
      exact hk ((pDbl a j), b, s, r) ⟨qW_dbl hj hw hq, hb, hs, hr⟩
theorem c_delayA {x : Int32} (iv : IV Wn Rm B h F V) (hx : x = 0) (hL : rLk Wn Rm T qa qb B h A tk ag F V D LG P) (hk : ∀ P', rLk Wn Rm T (dyQ qa).2 qb B h A tk ag F V D LG P' → k (some (.int (dyQ qa).1)) (wl P' R)) : pm_C 56 (d + 7) false [.ref 1, .int x] (wl P R) k kx := by
  obtain ⟨a, b, s, r⟩ := P
  have hL' := hL
  obtain ⟨ha, hb, hs, hr⟩ := hL
  have hw := ha
  obtain ⟨O, w1, w2, w3, w4, w5, w6, w7, w8⟩ := hw
  have ec : (a.2.1 : Int32) = nI qa.length := w3
  refine pm_Ci rfl (pm_run 80 (And.intro ⟨by decide, by decide⟩ (c_wireOf (fun z => absurd z (by rw [hx]; decide)) (fun _ => And.intro ⟨Nat.zero_le _, Nat.zero_le _⟩ (c_size_A (And.intro (fun g => And.intro ⟨Nat.zero_le _, Nat.zero_le _⟩ (c_moveOldestBack_A (rW_in ha) (And.intro rfl ?_))) (fun g => And.intro rfl ?_)))) (fun z => absurd (hx.symm.trans z) (by decide)))))
  · have g : nI 2 ≤ a.2.1 := g
    rw [ec, nI_leI (by omega) (by omega)] at g
    match qa, g, hk, ha with
    | f :: g2 :: q, _, hk, hw => exact hk ((pMov a), b, s, r) ⟨qW_mov hw, hb, hs, hr⟩
  · have g : ¬ nI 2 ≤ a.2.1 := g
    rw [ec, nI_leI (by omega) (by omega)] at g
    have e : dyQ qa = (0, qa) := by
      match qa, g with
      | [], _ => rfl
      | [f], _ => rfl
      | f :: g2 :: q, g => exact absurd (by simp) g
    rw [e] at hk
    exact hk _ hL'
theorem c_changeA {x y : Int32} (hx : x = 0) (hy : y < 0 ∨ 95 < y → kx pm_IA (wl P R)) (hL : rLk Wn Rm T qa qb B h A tk ag F V D LG P) (hk : ¬ y < 0 → ¬ 95 < y → ∀ P', rLk Wn Rm T (chQ y qa).2 qb B h A tk ag F V D LG P' → k (some (.int (chQ y qa).1)) (wl P' R)) : pm_C 54 (d + 7) false [.ref 1, .int x, .int y] (wl P R) k kx := by
  obtain ⟨a, b, s, r⟩ := P
  have hL' := hL
  obtain ⟨ha, hb, hs, hr⟩ := hL
  have hw := ha
  refine pm_Ci rfl (pm_run 80 (And.intro ⟨by decide, by decide⟩ (c_wireOf (fun z => absurd z (by rw [hx]; decide)) (fun _ => And.intro ⟨Nat.zero_le _, Nat.zero_le _⟩ (c_within (fun g1 g2 => And.intro (fun _ => And.intro ⟨Nat.zero_le _, Nat.zero_le _⟩ ?_) (fun h => absurd h (by decide))) (fun g => And.intro (fun h => absurd rfl h) (fun _ => And.intro ⟨Nat.le_trans (by decide) (Nat.le_add_left _ _), by decide, by decide⟩ (hy g))))) (fun z => absurd (hx.symm.trans z) (by decide)))))
  cases qa with
  | nil => exact c_isEmpty_A (fun g => absurd ((rW_emp hw).mpr rfl) g) (fun g => And.intro (fun h => absurd h (by decide)) (fun _ => And.intro rfl (hk g1 g2 _ hL')))
  | cons f q =>
    refine c_isEmpty_A (fun g => And.intro (fun _ => And.intro ⟨Nat.zero_le _, Nat.zero_le _⟩ (c_turnBit_A (rW_in hw) (fun g3 => And.intro rfl ?_) (fun g3 => And.intro rfl ?_))) (fun h => absurd rfl h)) (fun g => absurd ((rW_emp hw).mp g) (by simp))
    · have e : chQ y (f :: q) = (1, (f.1, f.2 ^^^ ((1 : Int32) <<< (y &&& 31))) :: q) := by simp only [chQ, chF, if_neg g3]
      rw [e] at hk
      exact hk g1 g2 ((pTrS a ((1 : Int32) <<< (y &&& 31))), b, s, r) ⟨qW_trS hw, hb, hs, hr⟩
    · have e : chQ y (f :: q) = (1, (f.1 ^^^ ((1 : Int64) <<< ((y - 32).toInt64 &&& 63)), f.2) :: q) := by simp only [chQ, chF, if_pos g3]
      rw [e] at hk
      exact hk g1 g2 ((pTrB a ((1 : Int64) <<< ((y - 32).toInt64 &&& 63))), b, s, r) ⟨qW_trB hw, hb, hs, hr⟩
theorem c_frameA {x y z : Int32} (iv : IV Wn Rm B h F V) (hx : x = 0) (hz : z < 0 ∨ 1 < z → kx pm_IA (wl P R)) (hy : ¬ (z < 0 ∨ 1 < z) → (y < 0 ∨ nI qa.length ≤ y) → kx pm_IO (wl P R)) (hL : rLk Wn Rm T qa qb B h A tk ag F V D LG P) (hk0 : z = 0 → ∀ (i : Nat) (f : Int64 × Int32), y = nI i → qa[i]? = some f → k (some (.long f.1)) (wl P R)) (hk1 : z = 1 → ∀ (i : Nat) (f : Int64 × Int32), y = nI i → qa[i]? = some f → k (some (.long (f.2.toInt64 &&& 4294967295))) (wl P R)) : pm_C 59 (d + 7) false [.ref 1, .int x, .int y, .int z] (wl P R) k kx := by
  obtain ⟨i1, i2, i3, i4, i5, i6, i7, i8, i9⟩ := iv
  obtain ⟨a, b, s, r⟩ := P
  have hL' := hL
  obtain ⟨ha, hb, hs, hr⟩ := hL
  have hw := ha
  have hlen : qa.length ≤ 32 := by
    obtain ⟨O, w1, w2, w3, w4, w5, w6, w7, w8⟩ := hw
    omega
  have ec : (a.2.1 : Int32) = nI qa.length := by
    obtain ⟨O, w1, w2, w3, w4, w5, w6, w7, w8⟩ := hw
    exact w3
  refine pm_Ci rfl (pm_run 80 (And.intro ⟨by decide, by decide⟩ (c_wireOf (fun z => absurd z (by rw [hx]; decide)) (fun _ => And.intro ⟨Nat.zero_le _, Nat.zero_le _⟩ (c_within (fun g1 g2 => And.intro (fun _ => And.intro ⟨Nat.zero_le _, Nat.zero_le _⟩ (c_size_A (And.intro ⟨Nat.zero_le _, Nat.zero_le _⟩ ?_))) (fun h => absurd h (by decide))) (fun g => And.intro (fun h => absurd rfl h) (fun _ => And.intro ⟨Nat.le_trans (by decide) (Nat.le_add_left _ _), by decide, by decide⟩ (hz g))))) (fun z => absurd (hx.symm.trans z) (by decide)))))
  have hz2 : ¬ (z < 0 ∨ 1 < z) := fun q => q.elim g1 g2
  refine c_within (fun g3 g4 => And.intro (fun _ => ?_) (fun h => absurd h (by decide))) (fun g => And.intro (fun h => absurd rfl h) (fun _ => And.intro ⟨Nat.le_trans (by decide) (Nat.le_add_left _ _), by decide, by decide⟩ (hy hz2 ?_)))
  · obtain ⟨i, hi, rfl⟩ := nI_of g3
    have g4 : ¬ a.2.1 - 1 < nI i := g4
    have hil : i < qa.length := by
      rw [ec] at g4
      rcases Nat.lt_or_ge i qa.length with q | q
      · exact q
      · exfalso
        apply g4
        rw [Int32.lt_iff_toInt_lt, show nI qa.length - 1 = nI qa.length - nI 1 from rfl, pk_sub_toInt (by omega) (by omega), nI_toInt hi]
        omega
    obtain ⟨f, hf⟩ : ∃ f, qa[i]? = some f := ⟨_, List.getElem?_eq_getElem hil⟩
    obtain ⟨r1, r2⟩ := rW_at hw hf
    refine And.intro (fun g5 => And.intro ⟨Nat.zero_le _, Nat.zero_le _⟩ (c_checkSumAt_A ?_)) (fun g5 => And.intro ⟨Nat.zero_le _, Nat.zero_le _⟩ (c_bytesAt_A ?_))
    · have hz1 : z = 1 := by
        obtain ⟨j, hj, rfl⟩ := nI_of2 (n := 1) (M := 1) (by decide) g1 (Int32.not_lt.mp g2)
        rcases Nat.lt_or_ge j 1 with h | h
        · have : j = 0 := by omega
          subst this
          exact absurd rfl g5
        · have : j = 1 := by omega
          subst this
          rfl
      rw [r2]
      exact hk1 hz1 i f rfl hf
    · rw [r1]
      exact hk0 g5 i f rfl hf
  · rcases g with g | g
    · exact Or.inl g
    · refine Or.inr ?_
      have g : a.2.1 - 1 < y := g
      rw [ec, Int32.lt_iff_toInt_lt, show nI qa.length - 1 = nI qa.length - nI 1 from rfl, pk_sub_toInt (by omega) (by omega)] at g
      rw [Int32.le_iff_toInt_le, nI_toInt (by omega)]
      omega
theorem c_loseB {x : Int32} (hx : x = 1) (hL : rLk Wn Rm T qa qb B h A tk ag F V D LG P) (hk : ∀ P', rLk Wn Rm T qa (lsQ qb).2 B h A tk ag F V D LG P' → k (some (.int (lsQ qb).1)) (wl P' R)) : pm_C 53 (d + 7) false [.ref 1, .int x] (wl P R) k kx := by
  obtain ⟨a, b, s, r⟩ := P
  have hL' := hL
  obtain ⟨ha, hb, hs, hr⟩ := hL
  have hw := hb
  cases qb with
  | nil => exact pm_Ci rfl (pm_run 80 (And.intro ⟨by decide, by decide⟩ (c_wireOf (fun z => absurd z (by rw [hx]; decide)) (fun z => absurd (hx.symm.trans z) (by decide)) (fun _ => And.intro ⟨Nat.zero_le _, Nat.zero_le _⟩ (c_isEmpty_B (fun g => absurd ((rW_emp hw).mpr rfl) g) (fun g => And.intro (fun h => absurd h (by decide)) (fun _ => And.intro rfl (hk _ hL'))))))))
  | cons f q => exact pm_Ci rfl (pm_run 80 (And.intro ⟨by decide, by decide⟩ (c_wireOf (fun z => absurd z (by rw [hx]; decide)) (fun z => absurd (hx.symm.trans z) (by decide)) (fun _ => And.intro ⟨Nat.zero_le _, Nat.zero_le _⟩ (c_isEmpty_B (fun g => And.intro (fun _ => And.intro ⟨Nat.zero_le _, Nat.zero_le _⟩ (c_takeOldest_B (rW_in hw) (And.intro rfl (hk (a, (pTake b), s, r) ⟨ha, qW_take hw, hs, hr⟩)))) (fun h => absurd rfl h)) (fun g => absurd ((rW_emp hw).mp g) (by simp)))))))
theorem c_twiceB {x : Int32} (hx : x = 1) (hL : rLk Wn Rm T qa qb B h A tk ag F V D LG P) (hk : ∀ P', rLk Wn Rm T qa (twQ Rm qb).2 B h A tk ag F V D LG P' → k (some (.int (twQ Rm qb).1)) (wl P' R)) : pm_C 55 (d + 7) false [.ref 1, .int x] (wl P R) k kx := by
  obtain ⟨a, b, s, r⟩ := P
  have hL' := hL
  obtain ⟨ha, hb, hs, hr⟩ := hL
  have hw := hb
  cases qb with
  | nil => exact pm_Ci rfl (pm_run 80 (And.intro ⟨by decide, by decide⟩ (c_wireOf (fun z => absurd z (by rw [hx]; decide)) (fun z => absurd (hx.symm.trans z) (by decide)) (fun _ => And.intro ⟨Nat.zero_le _, Nat.zero_le _⟩ (c_isEmpty_B (fun g => absurd ((rW_emp hw).mpr rfl) g) (fun g => And.intro (fun _ => And.intro rfl (hk _ hL')) (fun h => absurd h (by decide))))))))
  | cons f q =>
    obtain ⟨j, hj⟩ : ∃ j : Int32, (b.1 + -1) &&& 31 = j := ⟨_, rfl⟩
    refine pm_Ci rfl (pm_run 80 (And.intro ⟨by decide, by decide⟩ (c_wireOf (fun z => absurd z (by rw [hx]; decide)) (fun z => absurd (hx.symm.trans z) (by decide)) (fun _ => And.intro ⟨Nat.zero_le _, Nat.zero_le _⟩ (c_isEmpty_B (fun g => And.intro (fun h => absurd rfl h) (fun _ => And.intro ⟨Nat.zero_le _, Nat.zero_le _⟩ (c_hasRoom_B (fun g2 => And.intro (fun h => absurd rfl h) (fun _ => And.intro rfl ?_)) (fun g2 => And.intro (fun _ => And.intro ⟨Nat.zero_le _, Nat.zero_le _⟩ (c_dbl_B hj (rW_in hw) (And.intro rfl ?_))) (fun h => absurd h (by decide)))))) (fun g => absurd ((rW_emp hw).mp g) (by simp)))))))
    · have e : twQ Rm (f :: q) = (0, f :: q) := if_neg (by have := (rW_room hw).mp g2; simp only [List.length_cons] at this; omega)
      rw [e] at hk
      exact hk _ hL'
    · have hq : q.length + 1 < Rm := Nat.lt_of_not_le (fun z => g2 ((rW_room hw).mpr (by simpa using z)))
      have e : twQ Rm (f :: q) = (1, f :: f :: q) := if_pos hq
      rw [e] at hk
      exact hk (a, (pDbl b j), s, r) ⟨ha, qW_dbl hj hw hq, hs, hr⟩
theorem c_delayB {x : Int32} (iv : IV Wn Rm B h F V) (hx : x = 1) (hL : rLk Wn Rm T qa qb B h A tk ag F V D LG P) (hk : ∀ P', rLk Wn Rm T qa (dyQ qb).2 B h A tk ag F V D LG P' → k (some (.int (dyQ qb).1)) (wl P' R)) : pm_C 56 (d + 7) false [.ref 1, .int x] (wl P R) k kx := by
  obtain ⟨a, b, s, r⟩ := P
  have hL' := hL
  obtain ⟨ha, hb, hs, hr⟩ := hL
  have hw := hb
  obtain ⟨O, w1, w2, w3, w4, w5, w6, w7, w8⟩ := hw
  have ec : (b.2.1 : Int32) = nI qb.length := w3
  refine pm_Ci rfl (pm_run 80 (And.intro ⟨by decide, by decide⟩ (c_wireOf (fun z => absurd z (by rw [hx]; decide)) (fun z => absurd (hx.symm.trans z) (by decide)) (fun _ => And.intro ⟨Nat.zero_le _, Nat.zero_le _⟩ (c_size_B (And.intro (fun g => And.intro ⟨Nat.zero_le _, Nat.zero_le _⟩ (c_moveOldestBack_B (rW_in hb) (And.intro rfl ?_))) (fun g => And.intro rfl ?_)))))))
  · have g : nI 2 ≤ b.2.1 := g
    rw [ec, nI_leI (by omega) (by omega)] at g
    match qb, g, hk, hb with
    | f :: g2 :: q, _, hk, hw => exact hk (a, (pMov b), s, r) ⟨ha, qW_mov hw, hs, hr⟩
  · have g : ¬ nI 2 ≤ b.2.1 := g
    rw [ec, nI_leI (by omega) (by omega)] at g
    have e : dyQ qb = (0, qb) := by
      match qb, g with
      | [], _ => rfl
      | [f], _ => rfl
      | f :: g2 :: q, g => exact absurd (by simp) g
    rw [e] at hk
    exact hk _ hL'
theorem c_changeB {x y : Int32} (hx : x = 1) (hy : y < 0 ∨ 95 < y → kx pm_IA (wl P R)) (hL : rLk Wn Rm T qa qb B h A tk ag F V D LG P) (hk : ¬ y < 0 → ¬ 95 < y → ∀ P', rLk Wn Rm T qa (chQ y qb).2 B h A tk ag F V D LG P' → k (some (.int (chQ y qb).1)) (wl P' R)) : pm_C 54 (d + 7) false [.ref 1, .int x, .int y] (wl P R) k kx := by
  obtain ⟨a, b, s, r⟩ := P
  have hL' := hL
  obtain ⟨ha, hb, hs, hr⟩ := hL
  have hw := hb
  refine pm_Ci rfl (pm_run 80 (And.intro ⟨by decide, by decide⟩ (c_wireOf (fun z => absurd z (by rw [hx]; decide)) (fun z => absurd (hx.symm.trans z) (by decide)) (fun _ => And.intro ⟨Nat.zero_le _, Nat.zero_le _⟩ (c_within (fun g1 g2 => And.intro (fun _ => And.intro ⟨Nat.zero_le _, Nat.zero_le _⟩ ?_) (fun h => absurd h (by decide))) (fun g => And.intro (fun h => absurd rfl h) (fun _ => And.intro ⟨Nat.le_trans (by decide) (Nat.le_add_left _ _), by decide, by decide⟩ (hy g))))))))
  cases qb with
  | nil => exact c_isEmpty_B (fun g => absurd ((rW_emp hw).mpr rfl) g) (fun g => And.intro (fun h => absurd h (by decide)) (fun _ => And.intro rfl (hk g1 g2 _ hL')))
  | cons f q =>
    refine c_isEmpty_B (fun g => And.intro (fun _ => And.intro ⟨Nat.zero_le _, Nat.zero_le _⟩ (c_turnBit_B (rW_in hw) (fun g3 => And.intro rfl ?_) (fun g3 => And.intro rfl ?_))) (fun h => absurd rfl h)) (fun g => absurd ((rW_emp hw).mp g) (by simp))
    · have e : chQ y (f :: q) = (1, (f.1, f.2 ^^^ ((1 : Int32) <<< (y &&& 31))) :: q) := by simp only [chQ, chF, if_neg g3]
      rw [e] at hk
      exact hk g1 g2 (a, (pTrS b ((1 : Int32) <<< (y &&& 31))), s, r) ⟨ha, qW_trS hw, hs, hr⟩
    · have e : chQ y (f :: q) = (1, (f.1 ^^^ ((1 : Int64) <<< ((y - 32).toInt64 &&& 63)), f.2) :: q) := by simp only [chQ, chF, if_pos g3]
      rw [e] at hk
      exact hk g1 g2 (a, (pTrB b ((1 : Int64) <<< ((y - 32).toInt64 &&& 63))), s, r) ⟨ha, qW_trB hw, hs, hr⟩
theorem c_frameB {x y z : Int32} (iv : IV Wn Rm B h F V) (hx : x = 1) (hz : z < 0 ∨ 1 < z → kx pm_IA (wl P R)) (hy : ¬ (z < 0 ∨ 1 < z) → (y < 0 ∨ nI qb.length ≤ y) → kx pm_IO (wl P R)) (hL : rLk Wn Rm T qa qb B h A tk ag F V D LG P) (hk0 : z = 0 → ∀ (i : Nat) (f : Int64 × Int32), y = nI i → qb[i]? = some f → k (some (.long f.1)) (wl P R)) (hk1 : z = 1 → ∀ (i : Nat) (f : Int64 × Int32), y = nI i → qb[i]? = some f → k (some (.long (f.2.toInt64 &&& 4294967295))) (wl P R)) : pm_C 59 (d + 7) false [.ref 1, .int x, .int y, .int z] (wl P R) k kx := by
  obtain ⟨i1, i2, i3, i4, i5, i6, i7, i8, i9⟩ := iv
  obtain ⟨a, b, s, r⟩ := P
  have hL' := hL
  obtain ⟨ha, hb, hs, hr⟩ := hL
  have hw := hb
  have hlen : qb.length ≤ 32 := by
    obtain ⟨O, w1, w2, w3, w4, w5, w6, w7, w8⟩ := hw
    omega
  have ec : (b.2.1 : Int32) = nI qb.length := by
    obtain ⟨O, w1, w2, w3, w4, w5, w6, w7, w8⟩ := hw
    exact w3
  refine pm_Ci rfl (pm_run 80 (And.intro ⟨by decide, by decide⟩ (c_wireOf (fun z => absurd z (by rw [hx]; decide)) (fun z => absurd (hx.symm.trans z) (by decide)) (fun _ => And.intro ⟨Nat.zero_le _, Nat.zero_le _⟩ (c_within (fun g1 g2 => And.intro (fun _ => And.intro ⟨Nat.zero_le _, Nat.zero_le _⟩ (c_size_B (And.intro ⟨Nat.zero_le _, Nat.zero_le _⟩ ?_))) (fun h => absurd h (by decide))) (fun g => And.intro (fun h => absurd rfl h) (fun _ => And.intro ⟨Nat.le_trans (by decide) (Nat.le_add_left _ _), by decide, by decide⟩ (hz g))))))))
  have hz2 : ¬ (z < 0 ∨ 1 < z) := fun q => q.elim g1 g2
  refine c_within (fun g3 g4 => And.intro (fun _ => ?_) (fun h => absurd h (by decide))) (fun g => And.intro (fun h => absurd rfl h) (fun _ => And.intro ⟨Nat.le_trans (by decide) (Nat.le_add_left _ _), by decide, by decide⟩ (hy hz2 ?_)))
  · obtain ⟨i, hi, rfl⟩ := nI_of g3
    have g4 : ¬ b.2.1 - 1 < nI i := g4
    have hil : i < qb.length := by
      rw [ec] at g4
      rcases Nat.lt_or_ge i qb.length with q | q
      · exact q
      · exfalso
        apply g4
        rw [Int32.lt_iff_toInt_lt, show nI qb.length - 1 = nI qb.length - nI 1 from rfl, pk_sub_toInt (by omega) (by omega), nI_toInt hi]
        omega
    obtain ⟨f, hf⟩ : ∃ f, qb[i]? = some f := ⟨_, List.getElem?_eq_getElem hil⟩
    obtain ⟨r1, r2⟩ := rW_at hw hf
    refine And.intro (fun g5 => And.intro ⟨Nat.zero_le _, Nat.zero_le _⟩ (c_checkSumAt_B ?_)) (fun g5 => And.intro ⟨Nat.zero_le _, Nat.zero_le _⟩ (c_bytesAt_B ?_))
    · have hz1 : z = 1 := by
        obtain ⟨j, hj, rfl⟩ := nI_of2 (n := 1) (M := 1) (by decide) g1 (Int32.not_lt.mp g2)
        rcases Nat.lt_or_ge j 1 with h | h
        · have : j = 0 := by omega
          subst this
          exact absurd rfl g5
        · have : j = 1 := by omega
          subst this
          rfl
      rw [r2]
      exact hk1 hz1 i f rfl hf
    · rw [r1]
      exact hk0 g5 i f rfl hf
  · rcases g with g | g
    · exact Or.inl g
    · refine Or.inr ?_
      have g : b.2.1 - 1 < y := g
      rw [ec, Int32.lt_iff_toInt_lt, show nI qb.length - 1 = nI qb.length - nI 1 from rfl, pk_sub_toInt (by omega) (by omega)] at g
      rw [Int32.le_iff_toInt_le, nI_toInt (by omega)]
      omega

theorem c_noWire {x : Int32} (hx : x < 0 ∨ 1 < x) (hk : kx pm_IA (wl P R)) : pm_C 53 (d + 7) false [.ref 1, .int x] (wl P R) k kx ∧ pm_C 55 (d + 7) false [.ref 1, .int x] (wl P R) k kx ∧ pm_C 56 (d + 7) false [.ref 1, .int x] (wl P R) k kx ∧ (∀ y, pm_C 54 (d + 7) false [.ref 1, .int x, .int y] (wl P R) k kx) ∧ ∀ y z, pm_C 59 (d + 7) false [.ref 1, .int x, .int y, .int z] (wl P R) k kx := by
  have n0 : ¬ x = 0 := fun z => absurd hx (by rw [z]; decide)
  have n1 : ¬ x = 1 := fun z => absurd hx (by rw [z]; decide)
  exact ⟨pm_Ci rfl (pm_run 80 (And.intro ⟨by decide, by decide⟩ (c_wireOf (fun _ => hk) (fun z => absurd z n0) (fun z => absurd z n1)))),
    pm_Ci rfl (pm_run 80 (And.intro ⟨by decide, by decide⟩ (c_wireOf (fun _ => hk) (fun z => absurd z n0) (fun z => absurd z n1)))),
    pm_Ci rfl (pm_run 80 (And.intro ⟨by decide, by decide⟩ (c_wireOf (fun _ => hk) (fun z => absurd z n0) (fun z => absurd z n1)))),
    fun y => pm_Ci rfl (pm_run 80 (And.intro ⟨by decide, by decide⟩ (c_wireOf (fun _ => hk) (fun z => absurd z n0) (fun z => absurd z n1)))),
    fun y z => pm_Ci rfl (pm_run 80 (And.intro ⟨by decide, by decide⟩ (c_wireOf (fun _ => hk) (fun z => absurd z n0) (fun z => absurd z n1))))⟩
end PL
