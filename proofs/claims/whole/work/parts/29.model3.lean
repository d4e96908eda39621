/-! THE REFERENCE: its other calls -/
section PM3
variable {d : Nat} {al : Bool} {k : pm_K} {kx : pm_X} {cb sb : Nat} {R : pm_D} {P : LkP} {t W T Rr Bi N Fi Di we ag tk : Int32} {wi ma wo he ae ca tr lo hd : Nat → Int32} {Wn Rm B h F D : Nat} {Q : Nat → Qu} {A : EF} {V : VF}
theorem c_mbeginX {x y z : Int32} (hx : x < 1 ∨ 16 < x ∨ y < 1 ∨ 50 < y ∨ z < 1 ∨ 32 < z) (hk : k none (wm P 1 W T Rr Bi N Fi Di we ag tk wi ma wo he ae ca tr lo hd R)) : pm_C 67 d al [.ref 16, .int x, .int y, .int z] (wm P t W T Rr Bi N Fi Di we ag tk wi ma wo he ae ca tr lo hd R) k kx :=
  have hb : ∀ {Y : Prop}, ((1 : Int32) ≤ 0 → Y) ∧ (¬ (1 : Int32) ≤ 0 → k none (wm P 1 W T Rr Bi N Fi Di we ag tk wi ma wo he ae ca tr lo hd R)) := fun {Y} => And.intro (fun h => absurd h (by decide)) (fun _ => hk)
  pm_Ci rfl (pm_run 60 (And.intro (fun _ => hb) (fun h1 => And.intro (fun _ => hb) (fun h2 => And.intro (fun _ => hb) (fun h3 => And.intro (fun _ => hb) (fun h4 => And.intro (fun _ => hb) (fun h5 => And.intro (fun h6 => absurd hx (fun z => z.elim h1 (fun z => z.elim h2 (fun z => z.elim h3 (fun z => z.elim h4 (fun z => z.elim h5 (fun z => absurd h6 (Int32.not_le.mpr z)))))))) (fun _ => hb))))))))
theorem l_mbegin : ∀ (r i : Nat) (he ae tr : Nat → Int32), i + r = 256 → (∀ j, j < i → tr j = 0) → (∀ he' ae' tr' : Nat → Int32, (∀ j, j < 256 → tr' j = 0) → k none (wm P t W T Rr Bi N Fi Di we ag tk wi ma wo he' ae' ca tr' lo hd R)) → pm_J 67 d al none k kx 117 [some (.ref 16), none, none, none, some (.int (nI i))] [] (wm P t W T Rr Bi N Fi Di we ag tk wi ma wo he ae ca tr lo hd R) cb sb := by
  intro r
  induction r with
  | zero =>
    intro i he ae tr hi h0 hk
    exact pm_run 40 (And.intro (fun _ => hk he ae tr (fun j hj => h0 j (by omega))) (fun h => absurd (nI_le (a := 256) (by omega) (by omega)) h))
  | succ r ih =>
    intro i he ae tr hi h0 hk
    refine pm_run 60 (And.intro (fun h => absurd h (nI_ge (b := 256) (by omega) (by omega))) (fun _ => And.intro (vin (by omega) (by omega)) (And.intro (vin (by omega) (by omega)) (And.intro (vin (by omega) (by omega)) ?_))))
    refine pm_J.locals (M := [some (.ref 16), none, none, none, some (.int (nI (i + 1)))]) (ih (i + 1) _ _ _ (by omega) (fun j hj => ?_) hk) ⟨rfl, congrArg (fun z => some (Value.int z)) (nI_succ i).symm, trivial⟩
    rw [nI_clamp (by omega)]
    by_cases e : j = i
    · subst e
      exact pk_us
    · rw [pk_un e]
      exact h0 j (by omega)
theorem c_mbegin {x y z : Int32} (hg : ¬ (x < 1 ∨ 16 < x ∨ y < 1 ∨ 50 < y ∨ z < 1 ∨ 32 < z)) (hk : ∀ he' ae' tr' : Nat → Int32, (∀ j, j < 256 → tr' j = 0) → k none (wm P 0 x y z 0 0 0 0 0 0 0 wi (upd (upd ma 0 0) 1 0) wo he' ae' ca tr' lo hd R)) : pm_C 67 d al [.ref 16, .int x, .int y, .int z] (wm P t W T Rr Bi N Fi Di we ag tk wi ma wo he ae ca tr lo hd R) k kx := by
  have hJ := l_mbegin (d := d) (al := al) (k := k) (kx := kx) (cb := 0) (sb := 0) (R := R) (P := P) (t := 0) (W := x) (T := y) (Rr := z) (Bi := 0) (N := 0) (Fi := 0) (Di := 0) (we := 0) (ag := 0) (tk := 0) (wi := wi) (ma := upd (upd ma 0 0) 1 0) (wo := wo) (ca := ca) (lo := lo) (hd := hd) 256 0 he ae tr (by omega) (fun j hj => absurd hj (by omega)) hk
  have e0 : (Int32.ofNat 0).toNatClampNeg = 0 := by decide
  have e1 : (Int32.ofNat 1).toNatClampNeg = 1 := by decide
  refine pm_Ci rfl (pm_run 43 (And.intro (fun h => absurd (Or.inl h) hg) (fun h1 => And.intro (fun h => absurd (Or.inr (Or.inl h)) hg) (fun h2 => And.intro (fun h => absurd (Or.inr (Or.inr (Or.inl h))) hg) (fun h3 => And.intro (fun h => absurd (Or.inr (Or.inr (Or.inr (Or.inl h)))) hg) (fun h4 => And.intro (fun h => absurd (Or.inr (Or.inr (Or.inr (Or.inr (Or.inl h))))) hg) (fun h5 => And.intro (fun h6 => And.intro (fun _ => And.intro (vin (n := 0) (by omega) (by omega)) (And.intro (vin (n := 1) (by omega) (by omega)) ?_)) (fun h => absurd (by decide) h)) (fun h => absurd (Or.inr (Or.inr (Or.inr (Or.inr (Or.inr (Int32.not_le.mp h)))))) hg))))))))
  refine pm_run 6 ?_
  refine pm_run 6 ?_
  refine pm_run 6 ?_
  refine pm_run 9 ?_
  refine pm_J.room (pm_J.locals (M := [some (.ref 16), none, none, none, some (.int (nI 0))]) ?_ ⟨rfl, rfl, trivial⟩) (Nat.zero_le _) (Nat.zero_le _)
  rw [e0, e1]
  exact hJ
theorem c_mdelivered (hk : k (some (.int Di)) (wm P 0 W T Rr Bi N Fi Di we ag tk wi ma wo he ae ca tr lo hd R)) : pm_C 86 d al [.ref 16] (wm P t W T Rr Bi N Fi Di we ag tk wi ma wo he ae ca tr lo hd R) k kx := pm_Ci rfl (pm_run 40 hk)
theorem c_mwordX {x : Int32} (hx : x < 0 ∨ Di ≤ x ∨ x < Di - 256) (hk : k (some (.int 0)) (wm P 1 W T Rr Bi N Fi Di we ag tk wi ma wo he ae ca tr lo hd R)) : pm_C 87 d al [.ref 16, .int x] (wm P t W T Rr Bi N Fi Di we ag tk wi ma wo he ae ca tr lo hd R) k kx :=
  have hb : ∀ {Y : Prop}, ((1 : Int32) ≤ 0 → Y) ∧ (¬ (1 : Int32) ≤ 0 → k (some (.int 0)) (wm P 1 W T Rr Bi N Fi Di we ag tk wi ma wo he ae ca tr lo hd R)) := fun {Y} => And.intro (fun h => absurd h (by decide)) (fun _ => hk)
  pm_Ci rfl (pm_run 60 (And.intro (fun _ => hb) (fun h1 => And.intro (fun _ => hb) (fun h2 => And.intro (fun h3 => absurd hx (fun z => z.elim h1 (fun z => z.elim h2 (fun z => absurd h3 (Int32.not_le.mpr z))))) (fun _ => hb)))))
theorem c_mword {i : Nat} (hi : i < 2 ^ 31) (hg : ¬ (nI i < 0 ∨ Di ≤ nI i ∨ nI i < Di - 256)) (hk : k (some (.int (lo (i % 256)))) (wm P 0 W T Rr Bi N Fi Di we ag tk wi ma wo he ae ca tr lo hd R)) : pm_C 87 d al [.ref 16, .int (nI i)] (wm P t W T Rr Bi N Fi Di we ag tk wi ma wo he ae ca tr lo hd R) k kx := by
  have e2 : nI i - nI i / Int32.ofNat 256 * Int32.ofNat 256 = nI (i % 256) := pk_rem (d := 256) (by omega) (by omega) (by omega)
  have hin : vp_in (nI i - nI i / Int32.ofNat 256 * Int32.ofNat 256) 256 := by rw [e2]; exact vin (by omega) (by omega)
  refine pm_Ci rfl (pm_run 60 (And.intro (fun h => absurd (Or.inl h) hg) (fun h1 => And.intro (fun h => absurd (Or.inr (Or.inl h)) hg) (fun h2 => And.intro (fun h3 => And.intro (fun _ => And.intro (by decide) (And.intro hin ?_)) (fun h => absurd (by decide) h)) (fun h => absurd (Or.inr (Or.inr (Int32.not_le.mp h))) hg)))))
  show k (some (.int (lo (nI i - nI i / Int32.ofNat 256 * Int32.ofNat 256).toNatClampNeg))) (wm P 0 W T Rr Bi N Fi Di we ag tk wi ma wo he ae ca tr lo hd R)
  rw [e2, nI_clamp (by omega)]
  exact hk
theorem c_msend {x : Int32} (hB : B < 256) (hh : h ≤ 16) (hW : Wn ≤ 16) (hR : Rm ≤ 32) (hQ : rQ Rm Q wi ma) (hE : rE 256 B h A wo ae he) (h0 : ¬ (h < Wn ∧ (Q 0).length < Rm) → k (some (.int 0)) (wm P 0 (nI Wn) T (nI Rm) (nI B) (nI ((B + h) % 256)) Fi Di we ag tk wi ma wo he ae ca tr lo hd R))
    (h1 : h < Wn → (Q 0).length < Rm → ∀ wi' ma' wo' he' ae' : Nat → Int32, rQ Rm (uQ Q 0 (Q 0 ++ [fr (f_of 0 (nI ((B + h) % 256)) x 0)])) wi' ma' → rE 256 B (h + 1) (uE A h (x, 0, false)) wo' ae' he' → k (some (.int 1)) (wm P 0 (nI Wn) T (nI Rm) (nI B) (nI ((B + (h + 1)) % 256)) Fi Di (we + 1) ag (tk + 1) wi' ma' wo' he' ae' ca tr lo hd R)) : pm_C 76 (d + 3) al [.ref 16, .int x] (wm P t (nI Wn) T (nI Rm) (nI B) (nI ((B + h) % 256)) Fi Di we ag tk wi ma wo he ae ca tr lo hd R) k kx := by
  obtain ⟨q1, q2, q3⟩ := hQ 0 (by omega)
  have eh : (nI ((B + h) % 256) - nI B) &&& 255 = nI h := held_eq hB hh
  have hin : vp_in (nI ((B + h) % 256)) 256 := vin (by omega) (by omega)
  have ec : (nI ((B + h) % 256)).toNatClampNeg = (B + h) % 256 := nI_clamp (by omega)
  refine pm_Ci rfl (pm_run 120 (And.intro ⟨Nat.zero_le _, Nat.zero_le _⟩ (c_far (u := []) (e0 := .inr (0, [])) (And.intro (fun g => And.intro rfl (h0 ?_)) (fun g => And.intro (vin (n := 0) (by omega) (by omega)) (And.intro (fun g2 => And.intro hin (And.intro hin (And.intro hin (And.intro ⟨Nat.zero_le _, Nat.zero_le _⟩ (c_mput (w := 0) (by omega) hR hQ (fun z => ?_) (fun hlt wi' ma' hQ' => And.intro rfl ?_)))))) (fun g2 => And.intro rfl (h0 ?_))))))))
  · rw [eh] at g
    have := (nI_leI (by omega) (by omega)).mp g
    omega
  · exfalso
    have g2 : ¬ ma 0 = nI Rm := g2
    rw [q2, nI_eq (by omega) (by omega)] at g2
    omega
  · rw [eh] at g
    have hlt2 : h < Wn := Nat.lt_of_not_le (fun z => g (nI_le z (by omega)))
    have en : (nI ((B + h) % 256) + Int32.ofNat 1) &&& Int32.ofNat 255 = nI ((B + (h + 1)) % 256) := by
      show (nI ((B + h) % 256) + 1) &&& 255 = _
      rw [nI_1, n255 (by omega)]
      refine congrArg nI ?_
      omega
    rw [en, ec]
    exact h1 hlt2 hlt wi' ma' _ _ _ hQ' (rE_snoc (Or.inr rfl) (by omega) hE x)
  · have g2 : ma 0 = nI Rm := g2
    rw [q2, nI_eq (by omega) (by omega)] at g2
    omega

theorem l_mtick (hB : B < 256) (hh : h ≤ 16) (hR : Rm ≤ 32) : ∀ (r i : Nat) (A : EF) (Q : Nat → Qu) (n : Nat) (wi ma ae : Nat → Int32), i + r = h → rQ Rm Q wi ma → rE 256 B h A wo ae he → (∀ (wi' ma' ae' : Nat → Int32), rQ Rm (uQ Q 0 (tkN T Rm B r i (A, Q 0, n)).2.1) wi' ma' → rE 256 B h (tkN T Rm B r i (A, Q 0, n)).1 wo ae' he → k (some (.int (nI (tkN T Rm B r i (A, Q 0, n)).2.2))) (wm P 0 W T (nI Rm) (nI B) N Fi Di (we + nI (tkN T Rm B r i (A, Q 0, n)).2.2) (ag + nI (tkN T Rm B r i (A, Q 0, n)).2.2) tk wi' ma' wo he ae' ca tr lo hd R)) →
    pm_J 77 (d + 3) al none k kx 22 [some (.ref 16), some (.int (nI n)), some (.int (nI h)), some (.int (nI i)), none] [] (wm P 0 W T (nI Rm) (nI B) N Fi Di we ag tk wi ma wo he ae ca tr lo hd R) cb sb := by
  intro r
  induction r with
  | zero =>
    intro i A Q n wi ma ae hi hQ hr hk
    have hk := hk wi ma ae (by rw [tkN, uQ_id rfl]; exact hQ) hr
    exact pm_run 60 (And.intro (fun _ => hk) (fun h => absurd (nI_le (by omega) (by omega)) h))
  | succ r ih =>
    intro i A Q n wi ma ae hi hQ hr hk
    obtain ⟨hv1, hv2, hv⟩ := hr i (by omega)
    have en : (nI B + nI i) &&& Int32.ofNat 255 = nI ((B + i) % 256) := plus256 (by omega) (by omega)
    have es : ((nI B + nI i) &&& Int32.ofNat 255).toNatClampNeg = (B + i) % 256 := by rw [en, nI_clamp (by omega)]
    have hin : vp_in ((nI B + nI i) &&& Int32.ofNat 255) 256 := by rw [en]; exact vin (by omega) (by omega)
    have ea : upd ae ((B + i) % 256) (ae ((B + i) % 256) + Int32.ofNat 1) ((B + i) % 256) = (A i).2.1 + 1 := by
      rw [pk_us, hv2]
      rfl
    refine pm_run 120 (And.intro (fun h => absurd h (nI_ge (by omega) (by omega))) (fun _ => And.intro hin (And.intro (fun h0 => ?_) (fun h0 => And.intro hin (And.intro hin (And.intro hin (And.intro (fun hT => ?_) (fun hT => And.intro hin (And.intro ⟨Nat.zero_le _, Nat.zero_le _⟩ (c_mput (w := 0) (by omega) hR hQ (fun hq => And.intro (fun _ => ?_) (fun h => absurd rfl h)) (fun hq wi' ma' hQ' => And.intro (fun h => absurd h (by decide)) (fun _ => And.intro hin ?_))))))))))))
    · rw [es, hv, bI1] at h0
      have e9 : tkN T Rm B (r + 1) i (A, Q 0, n) = tkN T Rm B r (i + 1) (A, Q 0, n) := by rw [tkN, tk1_t h0]
      rw [e9] at hk
      exact pm_J.locals (M := [some (.ref 16), some (.int (nI n)), some (.int (nI h)), some (.int (nI (i + 1))), none]) (ih (i + 1) A Q n wi ma ae (by omega) hQ hr hk) ⟨rfl, rfl, rfl, congrArg (fun z => some (Value.int z)) (nI_succ i).symm, trivial⟩
    · rw [es, hv, bI0] at h0
      rw [es] at hT
      have hT : ¬ T ≤ (A i).2.1 + 1 := by rw [← ea]; exact Int32.not_le.mpr hT
      refine pm_J.locals (M := [some (.ref 16), some (.int (nI n)), some (.int (nI h)), some (.int (nI (i + 1))), none]) (ih (i + 1) _ Q n wi ma _ (by omega) hQ (by rw [es]; exact rE_age (Or.inr rfl) hh hr (by omega) _) ?_) ⟨rfl, rfl, rfl, congrArg (fun z => some (Value.int z)) (nI_succ i).symm, trivial⟩
      have e9 : tkN T Rm B (r + 1) i (A, Q 0, n) = tkN T Rm B r (i + 1) (uE A i ((A i).1, ae ((B + i) % 256) + Int32.ofNat 1, (A i).2.2), Q 0, n) := by
        rw [tkN, tk1_n h0 (fun z => hT z.1), hv2, h0]
        rfl
      rw [e9] at hk
      exact hk
    · rw [es, hv, bI0] at h0
      refine pm_J.locals (M := [some (.ref 16), some (.int (nI n)), some (.int (nI h)), some (.int (nI (i + 1))), none]) (ih (i + 1) _ Q n wi ma _ (by omega) hQ (by rw [es]; exact rE_age (Or.inr rfl) hh hr (by omega) _) ?_) ⟨rfl, rfl, rfl, congrArg (fun z => some (Value.int z)) (nI_succ i).symm, trivial⟩
      have e9 : tkN T Rm B (r + 1) i (A, Q 0, n) = tkN T Rm B r (i + 1) (uE A i ((A i).1, ae ((B + i) % 256) + Int32.ofNat 1, (A i).2.2), Q 0, n) := by
        rw [tkN, tk1_n h0 (fun z => absurd z.2 (by omega)), hv2, h0]
        rfl
      rw [e9] at hk
      exact hk
    · rw [es, hv, bI0] at h0
      rw [es] at hT
      have hT : T ≤ (A i).2.1 + 1 := by rw [← ea]; exact Int32.not_lt.mp hT
      rw [es, hv1, en] at hQ'
      have hQ' : rQ Rm (uQ Q 0 (Q 0 ++ [fr (f_of 0 (nI ((B + i) % 256)) (A i).1 0)])) wi' ma' := hQ'
      refine pm_J.locals (M := [some (.ref 16), some (.int (nI (n + 1))), some (.int (nI h)), some (.int (nI (i + 1))), none]) (ih (i + 1) _ _ (n + 1) wi' ma' _ (by omega) hQ' (by rw [es]; exact rE_age (Or.inr rfl) hh (rE_age (Or.inr rfl) hh hr (by omega) _) (by omega) _) ?_) ⟨rfl, congrArg (fun z => some (Value.int z)) (nI_succ n).symm, rfl, congrArg (fun z => some (Value.int z)) (nI_succ i).symm, trivial⟩
      have e8 : uE (uE A i ((A i).1, ae ((B + i) % 256) + Int32.ofNat 1, (A i).2.2)) i ((uE A i ((A i).1, ae ((B + i) % 256) + Int32.ofNat 1, (A i).2.2) i).1, Int32.ofNat 0, (uE A i ((A i).1, ae ((B + i) % 256) + Int32.ofNat 1, (A i).2.2) i).2.2) = uE A i ((A i).1, 0, false) := by
        rw [uE_s, h0]
        funext j
        unfold uE
        by_cases e : j = i <;> simp [e]
      have e9 : tkN T Rm B (r + 1) i (A, Q 0, n) = tkN T Rm B r (i + 1) (uE A i ((A i).1, 0, false), Q 0 ++ [fr (f_of 0 (nI ((B + i) % 256)) (A i).1 0)], n + 1) := by rw [tkN, tk1_s h0 hT hq]
      rw [e9] at hk
      rw [e8]
      have eu : uQ Q 0 (Q 0 ++ [fr (f_of 0 (nI ((B + i) % 256)) (A i).1 0)]) 0 = Q 0 ++ [fr (f_of 0 (nI ((B + i) % 256)) (A i).1 0)] := if_pos rfl
      have eu2 : ∀ q : Qu, uQ (uQ Q 0 (Q 0 ++ [fr (f_of 0 (nI ((B + i) % 256)) (A i).1 0)])) 0 q = uQ Q 0 q := fun q => by
        funext v
        unfold uQ
        by_cases e : v = 0 <;> simp [e]
      rw [eu, eu2]
      exact hk
theorem c_mtick (hB : B < 256) (hh : h ≤ 16) (hR : Rm ≤ 32) (hQ : rQ Rm Q wi ma) (hE : rE 256 B h A wo ae he) (hk : ∀ (wi' ma' ae' : Nat → Int32), rQ Rm (uQ Q 0 (tkN T Rm B h 0 (A, Q 0, 0)).2.1) wi' ma' → rE 256 B h (tkN T Rm B h 0 (A, Q 0, 0)).1 wo ae' he → k (some (.int (nI (tkN T Rm B h 0 (A, Q 0, 0)).2.2))) (wm P 0 W T (nI Rm) (nI B) (nI ((B + h) % 256)) Fi Di (we + nI (tkN T Rm B h 0 (A, Q 0, 0)).2.2) (ag + nI (tkN T Rm B h 0 (A, Q 0, 0)).2.2) tk wi' ma' wo he ae' ca tr lo hd R)) : pm_C 77 (d + 3) al [.ref 16] (wm P t W T (nI Rm) (nI B) (nI ((B + h) % 256)) Fi Di we ag tk wi ma wo he ae ca tr lo hd R) k kx := by
  refine pm_Ci rfl (pm_run 60 (And.intro ⟨Nat.zero_le _, Nat.zero_le _⟩ (c_far (u := []) (e0 := .inr (0, [])) ?_)))
  rw [held_eq hB hh]
  exact pm_J.locals (l_mtick hB hh hR h 0 A Q 0 wi ma ae (by omega) hQ hE hk) ⟨rfl, rfl, rfl, rfl, trivial⟩
end PM3
