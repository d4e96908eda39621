/-! WHAT IS TOLD; the link's small calls; the constructors -/
def tdA (B h F : Nat) (A : EF) (V : VF) (qa qb : Qu) (tk ag : Int32) : Nat → Int32
  | 0 => nI B
  | 1 => nI ((B + h) % 256)
  | 2 => nI F
  | 3 => nI (unN A h 0 0)
  | 4 => nI (cV V 16)
  | 5 => nI qa.length
  | 6 => nI qb.length
  | 7 => tk + ag
  | 8 => ag
  | _ => tk
def tdG (w h : Nat) (A : EF) (tr : Nat → Int32) (k : Nat) : Nat := if w = 3 then (if k < h ∧ (A k).2.2 = false then 1 else 0) else if w = 4 then (if tr k = 0 then 0 else 1) else 0
theorem unN_sm (A : EF) : ∀ (r i : Nat), unN A r i (smN (fun k => if (A k).2.2 = false then 1 else 0) i) = smN (fun k => if (A k).2.2 = false then 1 else 0) (i + r)
  | 0, i => rfl
  | r + 1, i => by
    rw [unN, show i + (r + 1) = i + 1 + r by omega, ← unN_sm A r (i + 1), smN]
    cases (A i).2.2 <;> rfl
theorem tdG_3 (h : Nat) (A : EF) (tr : Nat → Int32) (hh : h ≤ 16) : smN (tdG 3 h A tr) 256 = unN A h 0 0 := by
  have e := unN_sm A h 0
  rw [Nat.zero_add] at e
  have e2 : smN (fun k => if (A k).2.2 = false then 1 else 0) 0 = 0 := rfl
  rw [e2] at e
  rw [e, show (256 : Nat) = h + (256 - h) by omega, smN_0 h (256 - h) (fun i hi => by
    show tdG 3 h A tr i = 0
    rw [tdG, if_pos rfl, if_neg (by omega)])]
  exact smN_ext h (fun i hi => by
    show tdG 3 h A tr i = _
    rw [tdG, if_pos rfl]
    simp [hi])
theorem tdG_4 {F h : Nat} {A : EF} {V : VF} {ca tr : Nat → Int32} (hr : rV 256 F V ca tr) (hV : ∀ j, 16 ≤ j → V j = none) : smN (tdG 4 h A tr) 256 = cV V 16 := by
  rw [← rV_cnt (Or.inr rfl) hr hV]
  exact smN_ext 256 (fun i _ => by
    show tdG 4 h A tr i = _
    rw [tdG, if_neg (by decide), if_pos rfl])
section PM5
variable {d : Nat} {al : Bool} {k : pm_K} {kx : pm_X} {cb sb : Nat} {R : pm_D} {P : LkP} {t W T Rr Bi N Fi Di we ag tk : Int32} {wi ma wo he ae ca tr lo hd : Nat → Int32} {Wn Rm B h F D : Nat} {Q : Nat → Qu} {A : EF} {V : VF}
theorem l_mtold {w : Nat} (hw : w ≤ 9) (hB : B < 256) (hh : h ≤ 16) (hE : rE 256 B h A wo ae he) : ∀ (r i : Nat), i + r = 256 → pm_J 89 d al none k kx 113 [some (.ref 16), some (.int (nI w)), some (.int (nI (smN (tdG w h A tr) 256))), none, none] [] (wm P t W T Rr (nI B) N Fi Di we ag tk wi ma wo he ae ca tr lo hd R) cb sb →
    pm_J 89 d al none k kx 46 [some (.ref 16), some (.int (nI w)), some (.int (nI (smN (tdG w h A tr) i))), some (.int (nI h)), some (.int (nI i))] [] (wm P t W T Rr (nI B) N Fi Di we ag tk wi ma wo he ae ca tr lo hd R) cb sb := by
  intro r
  induction r with
  | zero =>
    intro i hi hk
    have : i = 256 := by omega
    subst this
    exact pm_run 3 (And.intro (fun _ => pm_J.locals hk ⟨rfl, rfl, rfl, trivial⟩) (fun h => absurd (nI_le (a := 256) (by omega) (by omega)) h))
  | succ r ih =>
    intro i hi hk
    have J := ih (i + 1) (by omega) hk
    have hw3 : nI w = Int32.ofNat 3 ↔ w = 3 := nI_eq (b := 3) (by omega) (by omega)
    have hw4 : nI w = Int32.ofNat 4 ↔ w = 4 := nI_eq (b := 4) (by omega) (by omega)
    have en : (nI B + nI i) &&& Int32.ofNat 255 = nI ((B + i) % 256) := plus256 (by omega) (by omega)
    have hin : vp_in ((nI B + nI i) &&& Int32.ofNat 255) 256 := by rw [en]; exact vin (by omega) (by omega)
    have ec : ((nI B + nI i) &&& Int32.ofNat 255).toNatClampNeg = (B + i) % 256 := by rw [en, nI_clamp (by omega)]
    have J0 : tdG w h A tr i = 0 → pm_J 89 d al none k kx 46 [some (.ref 16), some (.int (nI w)), some (.int (nI (smN (tdG w h A tr) i))), some (.int (nI h)), some (.int (nI i + Int32.ofNat 1))] [] (wm P t W T Rr (nI B) N Fi Di we ag tk wi ma wo he ae ca tr lo hd R) cb sb := fun z => by
      rw [smN, z, Nat.add_zero, nI_succ i] at J
      exact J
    have J1 : tdG w h A tr i = 1 → pm_J 89 d al none k kx 46 [some (.ref 16), some (.int (nI w)), some (.int (nI (smN (tdG w h A tr) i) + Int32.ofNat 1)), some (.int (nI h)), some (.int (nI i + Int32.ofNat 1))] [] (wm P t W T Rr (nI B) N Fi Di we ag tk wi ma wo he ae ca tr lo hd R) cb sb := fun z => by
      rw [smN, z, nI_succ, nI_succ i] at J
      exact J
    refine pm_run 60 (And.intro (fun h => absurd h (nI_ge (b := 256) (by omega) (by omega))) (fun _ => And.intro (fun g => ?_) (fun g => And.intro (fun g2 => ?_) (fun g2 => And.intro hin (And.intro (fun g3 => J1 ?_) (fun g3 => ?_))))))
    · have g : ¬ w = 3 := fun z => g (hw3.mpr z)
      refine And.intro (fun g4 => J0 ?_) (fun g4 => And.intro (vin (by omega) (by omega)) (And.intro (fun g5 => J0 ?_) (fun g5 => J1 ?_)))
      · rw [tdG, if_neg g, if_neg (fun z => g4 (hw4.mpr z))]
      · rw [nI_clamp (by omega)] at g5
        rw [tdG, if_neg g, if_pos (hw4.mp g4), if_pos g5]
      · rw [nI_clamp (by omega)] at g5
        rw [tdG, if_neg g, if_pos (hw4.mp g4), if_neg g5]
    · have g : w = 3 := hw3.mp g
      refine And.intro (fun g4 => J0 ?_) (fun g4 => absurd (hw4.mp g4) (by omega))
      rw [tdG, if_pos g, if_neg (fun z => absurd (nI_ge z.1 (by omega)) (fun q => q g2))]
    · have g : w = 3 := hw3.mp g
      have hl : i < h := Nat.lt_of_not_le (fun z => g2 (nI_le z (by omega)))
      rw [ec, (hE i hl).2.2, bI0] at g3
      rw [tdG, if_pos g, if_pos ⟨hl, g3⟩]
    · have g : w = 3 := hw3.mp g
      have hl : i < h := Nat.lt_of_not_le (fun z => g2 (nI_le z (by omega)))
      rw [ec, (hE i hl).2.2, bI1] at g3
      refine And.intro (fun g4 => J0 ?_) (fun g4 => absurd (hw4.mp g4) (by omega))
      rw [tdG, if_pos g, if_neg (fun z => absurd (g3.symm.trans z.2) (by decide))]
theorem e_mtold0 {n : Int32} (hk : k (some (.int Bi)) (wm P t W T Rr Bi N Fi Di we ag tk wi ma wo he ae ca tr lo hd R)) : pm_J 89 d al none k kx 113 [some (.ref 16), some (.int (nI 0)), some (.int n), none, none] [] (wm P t W T Rr Bi N Fi Di we ag tk wi ma wo he ae ca tr lo hd R) cb sb := pm_run 40 (And.intro (fun h => absurd rfl h) (fun _ => hk))
theorem e_mtold1 {n : Int32} (hk : k (some (.int N)) (wm P t W T Rr Bi N Fi Di we ag tk wi ma wo he ae ca tr lo hd R)) : pm_J 89 d al none k kx 113 [some (.ref 16), some (.int (nI 1)), some (.int n), none, none] [] (wm P t W T Rr Bi N Fi Di we ag tk wi ma wo he ae ca tr lo hd R) cb sb := pm_run 40 (And.intro (fun _ => (And.intro (fun h => absurd rfl h) (fun _ => hk))) (fun h => absurd h (by decide)))
theorem e_mtold2 {n : Int32} (hk : k (some (.int Fi)) (wm P t W T Rr Bi N Fi Di we ag tk wi ma wo he ae ca tr lo hd R)) : pm_J 89 d al none k kx 113 [some (.ref 16), some (.int (nI 2)), some (.int n), none, none] [] (wm P t W T Rr Bi N Fi Di we ag tk wi ma wo he ae ca tr lo hd R) cb sb := pm_run 40 (And.intro (fun _ => (And.intro (fun _ => (And.intro (fun h => absurd rfl h) (fun _ => hk))) (fun h => absurd h (by decide)))) (fun h => absurd h (by decide)))
theorem e_mtold3 {n : Int32} (hk : k (some (.int n)) (wm P t W T Rr Bi N Fi Di we ag tk wi ma wo he ae ca tr lo hd R)) : pm_J 89 d al none k kx 113 [some (.ref 16), some (.int (nI 3)), some (.int n), none, none] [] (wm P t W T Rr Bi N Fi Di we ag tk wi ma wo he ae ca tr lo hd R) cb sb := pm_run 40 (And.intro (fun _ => (And.intro (fun _ => (And.intro (fun _ => (And.intro (fun h => absurd h (by decide)) (fun _ => hk))) (fun h => absurd h (by decide)))) (fun h => absurd h (by decide)))) (fun h => absurd h (by decide)))
theorem e_mtold4 {n : Int32} (hk : k (some (.int n)) (wm P t W T Rr Bi N Fi Di we ag tk wi ma wo he ae ca tr lo hd R)) : pm_J 89 d al none k kx 113 [some (.ref 16), some (.int (nI 4)), some (.int n), none, none] [] (wm P t W T Rr Bi N Fi Di we ag tk wi ma wo he ae ca tr lo hd R) cb sb := pm_run 40 (And.intro (fun _ => (And.intro (fun _ => (And.intro (fun _ => (And.intro (fun h => absurd h (by decide)) (fun _ => hk))) (fun h => absurd h (by decide)))) (fun h => absurd h (by decide)))) (fun h => absurd h (by decide)))
theorem e_mtold5 {n : Int32} (hk : k (some (.int (ma 0))) (wm P t W T Rr Bi N Fi Di we ag tk wi ma wo he ae ca tr lo hd R)) : pm_J 89 d al none k kx 113 [some (.ref 16), some (.int (nI 5)), some (.int n), none, none] [] (wm P t W T Rr Bi N Fi Di we ag tk wi ma wo he ae ca tr lo hd R) cb sb := pm_run 40 (And.intro (fun _ => (And.intro (fun _ => (And.intro (fun _ => (And.intro (fun _ => (And.intro (fun h => absurd h (by decide)) (fun _ => (And.intro (vin (n := 0) (by omega) (by omega)) hk)))) (fun h => absurd (by decide) h))) (fun h => absurd h (by decide)))) (fun h => absurd h (by decide)))) (fun h => absurd h (by decide)))
theorem e_mtold6 {n : Int32} (hk : k (some (.int (ma 1))) (wm P t W T Rr Bi N Fi Di we ag tk wi ma wo he ae ca tr lo hd R)) : pm_J 89 d al none k kx 113 [some (.ref 16), some (.int (nI 6)), some (.int n), none, none] [] (wm P t W T Rr Bi N Fi Di we ag tk wi ma wo he ae ca tr lo hd R) cb sb := pm_run 40 (And.intro (fun _ => (And.intro (fun _ => (And.intro (fun _ => (And.intro (fun _ => (And.intro (fun h => absurd h (by decide)) (fun _ => (And.intro (vin (n := 1) (by omega) (by omega)) hk)))) (fun h => absurd (by decide) h))) (fun h => absurd h (by decide)))) (fun h => absurd h (by decide)))) (fun h => absurd h (by decide)))
theorem e_mtold7 {n : Int32} (hk : k (some (.int we)) (wm P t W T Rr Bi N Fi Di we ag tk wi ma wo he ae ca tr lo hd R)) : pm_J 89 d al none k kx 113 [some (.ref 16), some (.int (nI 7)), some (.int n), none, none] [] (wm P t W T Rr Bi N Fi Di we ag tk wi ma wo he ae ca tr lo hd R) cb sb := pm_run 40 (And.intro (fun _ => (And.intro (fun _ => (And.intro (fun _ => (And.intro (fun _ => (And.intro (fun _ => (And.intro (fun h => absurd rfl h) (fun _ => hk))) (fun h => absurd (by decide) h))) (fun h => absurd (by decide) h))) (fun h => absurd h (by decide)))) (fun h => absurd h (by decide)))) (fun h => absurd h (by decide)))
theorem e_mtold8 {n : Int32} (hk : k (some (.int ag)) (wm P t W T Rr Bi N Fi Di we ag tk wi ma wo he ae ca tr lo hd R)) : pm_J 89 d al none k kx 113 [some (.ref 16), some (.int (nI 8)), some (.int n), none, none] [] (wm P t W T Rr Bi N Fi Di we ag tk wi ma wo he ae ca tr lo hd R) cb sb := pm_run 40 (And.intro (fun _ => (And.intro (fun _ => (And.intro (fun _ => (And.intro (fun _ => (And.intro (fun _ => (And.intro (fun _ => (And.intro (fun h => absurd rfl h) (fun _ => hk))) (fun h => absurd h (by decide)))) (fun h => absurd (by decide) h))) (fun h => absurd (by decide) h))) (fun h => absurd h (by decide)))) (fun h => absurd h (by decide)))) (fun h => absurd h (by decide)))
theorem e_mtold9 {n : Int32} (hk : k (some (.int tk)) (wm P t W T Rr Bi N Fi Di we ag tk wi ma wo he ae ca tr lo hd R)) : pm_J 89 d al none k kx 113 [some (.ref 16), some (.int (nI 9)), some (.int n), none, none] [] (wm P t W T Rr Bi N Fi Di we ag tk wi ma wo he ae ca tr lo hd R) cb sb := pm_run 40 (And.intro (fun _ => (And.intro (fun _ => (And.intro (fun _ => (And.intro (fun _ => (And.intro (fun _ => (And.intro (fun _ => (And.intro (fun _ => hk) (fun h => absurd h (by decide)))) (fun h => absurd h (by decide)))) (fun h => absurd (by decide) h))) (fun h => absurd (by decide) h))) (fun h => absurd h (by decide)))) (fun h => absurd h (by decide)))) (fun h => absurd h (by decide)))
theorem c_mtoldX {x : Int32} (hx : x < 0 ∨ 9 < x) (hk : k (some (.int 0)) (wm P 1 W T Rr Bi N Fi Di we ag tk wi ma wo he ae ca tr lo hd R)) : pm_C 89 d al [.ref 16, .int x] (wm P t W T Rr Bi N Fi Di we ag tk wi ma wo he ae ca tr lo hd R) k kx :=
  have hb : ∀ {Y : Prop}, ((1 : Int32) ≤ 0 → Y) ∧ (¬ (1 : Int32) ≤ 0 → k (some (.int 0)) (wm P 1 W T Rr Bi N Fi Di we ag tk wi ma wo he ae ca tr lo hd R)) := fun {Y} => And.intro (fun h => absurd h (by decide)) (fun _ => hk)
  pm_Ci rfl (pm_run 60 (And.intro (fun _ => hb) (fun h1 => And.intro (fun h2 => absurd hx (fun z => z.elim h1 (fun z => absurd h2 (Int32.not_le.mpr z)))) (fun _ => hb))))
theorem c_mtold {w : Nat} (hw : w ≤ 9) (hB : B < 256) (hh : h ≤ 16) (hE : rE 256 B h A wo ae he) (hV : rV 256 F V ca tr) (hV16 : ∀ j, 16 ≤ j → V j = none) (hQ : rQ Rm Q wi ma) (hk : k (some (.int (tdA B h F A V (Q 0) (Q 1) tk ag w))) (wm P 0 W T Rr (nI B) (nI ((B + h) % 256)) (nI F) Di (tk + ag) ag tk wi ma wo he ae ca tr lo hd R)) : pm_C 89 (d + 1) al [.ref 16, .int (nI w)] (wm P t W T Rr (nI B) (nI ((B + h) % 256)) (nI F) Di (tk + ag) ag tk wi ma wo he ae ca tr lo hd R) k kx := by
  refine pm_Ci rfl (pm_run 60 (And.intro (fun h => absurd h (nI_pos (by omega))) (fun _ => And.intro (fun _ => And.intro (fun _ => And.intro ⟨Nat.zero_le _, Nat.zero_le _⟩ (c_far (u := []) (e0 := .inr (0, [])) ?_)) (fun h => absurd (by decide) h)) (fun h => absurd (nI_le (b := 9) (by omega) (by omega)) h))))
  rw [held_eq hB hh]
  refine pm_J.room (cb := 0) (sb := 0) (l_mtold (A := A) hw hB hh hE 256 0 (by omega) ?_) (Nat.zero_le _) (Nat.zero_le _)
  match w, hw, hk with
  | 0, _, hk => exact e_mtold0 hk
  | 1, _, hk => exact e_mtold1 hk
  | 2, _, hk => exact e_mtold2 hk
  | 3, _, hk => exact e_mtold3 (by rw [tdG_3 h A tr hh]; exact hk)
  | 4, _, hk => exact e_mtold4 (by rw [tdG_4 hV hV16]; exact hk)
  | 5, _, hk => exact e_mtold5 (by rw [(hQ 0 (by omega)).2.1]; exact hk)
  | 6, _, hk => exact e_mtold6 (by rw [(hQ 1 (by omega)).2.1]; exact hk)
  | 7, _, hk => exact e_mtold7 hk
  | 8, _, hk => exact e_mtold8 hk
  | 9, _, hk => exact e_mtold9 hk
end PM5
section PL2
variable {d : Nat} {al : Bool} {k : pm_K} {kx : pm_X} {cb sb : Nat} {R : pm_D} {Wn Rm B h F D : Nat} {T tk ag : Int32} {qa qb : Qu} {A : EF} {V : VF} {LG : Nat → Int32} {P : LkP}
theorem td_out {x : Int32} (h : ∀ i, i ≤ 9 → ¬ x = nI i) : x < 0 ∨ 9 < x := by
  by_cases h0 : x < 0
  · exact Or.inl h0
  · refine Or.inr (Int32.not_le.mp (fun h9 => ?_))
    obtain ⟨j, hj, e⟩ := nI_of2 (n := 9) (M := 9) (by decide) h0 h9
    exact h j hj e
theorem c_told {x : Int32} (iv : IV Wn Rm B h F V) (hL : rLk Wn Rm T qa qb B h A tk ag F V D LG P) (hx : (x < 0 ∨ 9 < x) → kx pm_IA (wl P R)) (hk : ∀ w, w ≤ 9 → x = nI w → k (some (.int (tdA B h F A V qa qb tk ag w))) (wl P R)) : pm_C 60 (d + 6) false [.ref 1, .int x] (wl P R) k kx := by
  obtain ⟨i1, i2, i3, i4, i5, i6, i7, i8, i9⟩ := iv
  obtain ⟨pa, pb, s, r⟩ := P
  obtain ⟨ha, hb, ⟨ws, ags, ack, rfl, hE⟩, ⟨rw, th, rfl, hV⟩⟩ := hL
  have hk5 := hk 5 (by omega)
  have hk6 := hk 6 (by omega)
  have ea : pa.2.1 = nI qa.length := by
    obtain ⟨O, w1, w2, w3, w4, w5, w6, w7, w8⟩ := ha
    exact w3
  have eb : pb.2.1 = nI qb.length := by
    obtain ⟨O, w1, w2, w3, w4, w5, w6, w7, w8⟩ := hb
    exact w3
  have e4 : smN (fun j => if th j = 0 then 0 else 1) 16 = cV V 16 := rV_cnt (Or.inl rfl) hV (fun j hj => i8 j (by omega))
  refine pm_Ci rfl (pm_run 60 (And.intro (fun g => hk 0 (by omega) g) (fun g0 => And.intro (fun g => hk 1 (by omega) g) (fun g1 => And.intro (fun g => hk 2 (by omega) g) (fun g2 => And.intro (fun g => And.intro ⟨Nat.zero_le _, Nat.zero_le _⟩ (c_unack i5 (by omega) rfl hE (hk 3 (by omega) g))) (fun g3 => And.intro (fun g => And.intro ⟨Nat.zero_le _, Nat.zero_le _⟩ (c_gap (by rw [e4]; exact hk 4 (by omega) g))) (fun g4 => And.intro (fun g => And.intro ⟨Nat.zero_le _, Nat.zero_le _⟩ (c_size_A ((fun z hz => by rw [hz]; exact hk5 g : ∀ z, z = nI qa.length → k (some (.int z)) (wl (pa, pb, (nI Wn, T, nI B, nI ((B + h) % 256), tk, ag, ws, ags, ack), (rw, th, LG, nI Wn, nI F, nI D)) R)) _ ea))) (fun g5 => And.intro (fun g => And.intro ⟨Nat.zero_le _, Nat.zero_le _⟩ (c_size_B ((fun z hz => by rw [hz]; exact hk6 g : ∀ z, z = nI qb.length → k (some (.int z)) (wl (pa, pb, (nI Wn, T, nI B, nI ((B + h) % 256), tk, ag, ws, ags, ack), (rw, th, LG, nI Wn, nI F, nI D)) R)) _ eb))) (fun g6 => And.intro (fun g => hk 7 (by omega) g) (fun g7 => And.intro (fun g => hk 8 (by omega) g) (fun g8 => And.intro (fun g => hk 9 (by omega) g) (fun g9 => And.intro ⟨Nat.le_add_left _ _, by decide, by decide⟩ (hx (td_out (fun i hi => ?_)))))))))))))))
  match i, hi with
  | 0, _ => exact g0
  | 1, _ => exact g1
  | 2, _ => exact g2
  | 3, _ => exact g3
  | 4, _ => exact g4
  | 5, _ => exact g5
  | 6, _ => exact g6
  | 7, _ => exact g7
  | 8, _ => exact g8
  | 9, _ => exact g9
theorem c_delivered (hL : rLk Wn Rm T qa qb B h A tk ag F V D LG P) (hk : k (some (.int (nI D))) (wl P R)) : pm_C 57 (d + 1) al [.ref 1] (wl P R) k kx := by
  obtain ⟨pa, pb, s, r⟩ := P
  obtain ⟨ha, hb, hs, ⟨rw, th, rfl, hV⟩⟩ := hL
  exact pm_Ci rfl (pm_run 40 (And.intro ⟨Nat.zero_le _, Nat.zero_le _⟩ (c_dCount hk)))
theorem c_word {x : Int32} (hL : rLk Wn Rm T qa qb B h A tk ag F V D LG P) (hx : (x < 0 ∨ nI D ≤ x ∨ x < nI D - 256) → kx pm_IO (wl P R)) (hk : ∀ i : Nat, i < 2 ^ 31 → x = nI i → ¬ (x < 0 ∨ nI D ≤ x ∨ x < nI D - 256) → k (some (.int (LG (i % 256)))) (wl P R)) : pm_C 58 (d + 6) false [.ref 1, .int x] (wl P R) k kx := by
  obtain ⟨pa, pb, s, r⟩ := P
  obtain ⟨ha, hb, hs, ⟨rw, th, rfl, hV⟩⟩ := hL
  refine pm_Ci rfl (pm_run 40 (And.intro ⟨Nat.zero_le _, Nat.zero_le _⟩ (c_keeps (fun g1 g2 g3 => And.intro (fun _ => And.intro ⟨Nat.zero_le _, Nat.zero_le _⟩ (c_kept ?_)) (fun h => absurd h (by decide))) (fun g => And.intro (fun h => absurd rfl h) (fun _ => And.intro ⟨Nat.le_add_left _ _, by decide, by decide⟩ (hx g))))))
  obtain ⟨i, hi, rfl⟩ := nI_of g1
  have e : (nI i &&& 255).toNatClampNeg = i % 256 := by rw [n255 (by omega), nI_clamp (by omega)]
  rw [e]
  exact hk i hi rfl (fun z => z.elim g1 (fun z => z.elim g2 g3))
theorem c_sum {x : Int64} {w : pm_D} {e0 : va_E} (hk : k (some (.int (f_sum x))) (wl P R)) : pm_C 61 (d + 2) al [.ref 1, .long x] (wl P R) k kx := pm_Ci rfl (pm_run 40 (And.intro ⟨Nat.zero_le _, Nat.zero_le _⟩ (c_checkSum hk)))
end PL2
