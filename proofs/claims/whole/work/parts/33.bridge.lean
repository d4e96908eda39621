/-! THE REFERENCE OVER THE ABSTRACT STATE -/
abbrev MP : Type := Int32 × Int32 × Int32 × Int32 × Int32 × Int32 × Int32 × Int32 × Int32 × Int32 × Int32 × (Nat → Int32) × (Nat → Int32) × (Nat → Int32) × (Nat → Int32) × (Nat → Int32) × (Nat → Int32) × (Nat → Int32) × (Nat → Int32) × (Nat → Int32)
abbrev wmd (P : LkP) (M : MP) (R : pm_D) : pm_D := wm P (M.1) (M.2.1) (M.2.2.1) (M.2.2.2.1) (M.2.2.2.2.1) (M.2.2.2.2.2.1) (M.2.2.2.2.2.2.1) (M.2.2.2.2.2.2.2.1) (M.2.2.2.2.2.2.2.2.1) (M.2.2.2.2.2.2.2.2.2.1) (M.2.2.2.2.2.2.2.2.2.2.1) (M.2.2.2.2.2.2.2.2.2.2.2.1) (M.2.2.2.2.2.2.2.2.2.2.2.2.1) (M.2.2.2.2.2.2.2.2.2.2.2.2.2.1) (M.2.2.2.2.2.2.2.2.2.2.2.2.2.2.1) (M.2.2.2.2.2.2.2.2.2.2.2.2.2.2.2.1) (M.2.2.2.2.2.2.2.2.2.2.2.2.2.2.2.2.1) (M.2.2.2.2.2.2.2.2.2.2.2.2.2.2.2.2.2.1) (M.2.2.2.2.2.2.2.2.2.2.2.2.2.2.2.2.2.2.1) (M.2.2.2.2.2.2.2.2.2.2.2.2.2.2.2.2.2.2.2) R
abbrev ww (P : LkP) (M : MP) (o : Nat → Int64) : pm_D := wmd P M [.inl (1, 1, .inr (.inl o))]
def qq (a b : Qu) : Nat → Qu := fun w => if w = 0 then a else b
def rMd (t : Int32) (Wn Rm : Nat) (T : Int32) (qa qb : Qu) (B h : Nat) (A : EF) (tk ag : Int32) (F : Nat) (V : VF) (D : Nat) (LG : Nat → Int32) (M : MP) : Prop := ∃ wi ma wo he ae ca tr hd : Nat → Int32, M = (t, nI Wn, T, nI Rm, nI B, nI ((B + h) % 256), nI F, nI D, tk + ag, ag, tk, wi, ma, wo, he, ae, ca, tr, LG, hd) ∧ rQ Rm (qq qa qb) wi ma ∧ rE 256 B h A wo ae he ∧ rV 256 F V ca tr
theorem rQ_ext {Rm : Nat} {Q Q2 : Nat → Qu} {wi ma : Nat → Int32} (h : rQ Rm Q wi ma) (h0 : Q 0 = Q2 0) (h1 : Q 1 = Q2 1) : rQ Rm Q2 wi ma := by
  intro w hw
  have := h w hw
  rcases Nat.lt_or_ge w 1 with c | c
  · have e : w = 0 := by omega
    subst e
    rw [h0] at this
    exact this
  · have e : w = 1 := by omega
    subst e
    rw [h1] at this
    exact this
theorem u0 {Rm : Nat} {a b q : Qu} {wi ma : Nat → Int32} (h : rQ Rm (uQ (qq a b) 0 q) wi ma) : rQ Rm (qq q b) wi ma := rQ_ext h rfl rfl
theorem u1 {Rm : Nat} {a b q : Qu} {wi ma : Nat → Int32} (h : rQ Rm (uQ (qq a b) 1 q) wi ma) : rQ Rm (qq a q) wi ma := rQ_ext h rfl rfl
theorem u01 {Rm : Nat} {a b q q2 : Qu} {wi ma : Nat → Int32} (h : rQ Rm (uQ (uQ (qq a b) 0 q) 1 q2) wi ma) : rQ Rm (qq q q2) wi ma := rQ_ext h rfl rfl
section PB
variable {d : Nat} {al : Bool} {k : pm_K} {kx : pm_X} {cb sb : Nat} {R : pm_D} {P : LkP} {M : MP} {t : Int32} {Wn Rm B h F D : Nat} {T tk ag : Int32} {qa qb : Qu} {A : EF} {V : VF} {LG : Nat → Int32}
theorem q_thrown (hM : rMd t Wn Rm T qa qb B h A tk ag F V D LG M) (hk : k (some (.int t)) (wmd P M R)) : pm_C 66 d al [.ref 16] (wmd P M R) k kx := by
  obtain ⟨wi, ma, wo, he, ae, ca, tr, hd, rfl, hQ, hE, hV⟩ := hM
  exact c_thrown hk
theorem q_beginX {x y z : Int32} (hx : x < 1 ∨ 16 < x ∨ y < 1 ∨ 50 < y ∨ z < 1 ∨ 32 < z) (hM : rMd t Wn Rm T qa qb B h A tk ag F V D LG M) (hk : ∀ M', rMd 1 Wn Rm T qa qb B h A tk ag F V D LG M' → k none (wmd P M' R)) : pm_C 67 d al [.ref 16, .int x, .int y, .int z] (wmd P M R) k kx := by
  obtain ⟨wi, ma, wo, he, ae, ca, tr, hd, rfl, hQ, hE, hV⟩ := hM
  exact c_mbeginX hx (hk (1, nI Wn, T, nI Rm, nI B, nI ((B + h) % 256), nI F, nI D, tk + ag, ag, tk, wi, ma, wo, he, ae, ca, tr, LG, hd) ⟨_, _, _, _, _, _, _, _, rfl, hQ, hE, hV⟩)
theorem q_begin {W2 R2 : Nat} {y : Int32} {A2 : EF} (h1 : 1 ≤ W2) (h2 : W2 ≤ 16) (h3 : 1 ≤ R2) (h4 : R2 ≤ 32) (h5 : ¬ y < 1) (h6 : ¬ 50 < y) (hM : rMd t Wn Rm T qa qb B h A tk ag F V D LG M) (hk : ∀ M', rMd 0 W2 R2 y [] [] 0 0 A2 0 0 0 (fun _ => none) 0 LG M' → k none (wmd P M' R)) : pm_C 67 d al [.ref 16, .int (nI W2), .int y, .int (nI R2)] (wmd P M R) k kx := by
  obtain ⟨wi, ma, wo, he, ae, ca, tr, hd, rfl, hQ, hE, hV⟩ := hM
  refine c_mbegin (fun z => ?_) (fun he' ae' tr' ht => hk (0, nI W2, y, nI R2, 0, 0, 0, 0, 0, 0, 0, wi, upd (upd ma 0 0) 1 0, wo, he', ae', ca, tr', LG, hd) ⟨_, _, _, _, _, _, _, _, rfl, ?_, fun i hi => absurd hi (by omega), fun i hi => ⟨?_, fun x hx => by cases hx⟩⟩)
  · rcases z with z | z | z | z | z | z
    · exact nI_nlt (b := 1) h1 (by omega) z
    · exact nI_nlt (a := 16) h2 (by omega) z
    · exact h5 z
    · exact h6 z
    · exact nI_nlt (b := 1) h3 (by omega) z
    · exact nI_nlt (a := 32) h4 (by omega) z
  · intro w hw
    rcases Nat.lt_or_ge w 1 with c | c
    · have e : w = 0 := by omega
      subst e
      exact ⟨fun i f hi => by simp [qq] at hi, rfl, Nat.zero_le _⟩
    · have e : w = 1 := by omega
      subst e
      exact ⟨fun i f hi => by simp [qq] at hi, rfl, Nat.zero_le _⟩
  · rw [ht _ (Nat.mod_lt _ (by omega))]
    rfl
theorem q_send {x : Int32} (iv : IV Wn Rm B h F V) (hM : rMd t Wn Rm T qa qb B h A tk ag F V D LG M) (hk : ∀ M', rMd 0 Wn Rm T (snd Wn Rm x qa B h A).2.1 qb B (snd Wn Rm x qa B h A).2.2.1 (snd Wn Rm x qa B h A).2.2.2.1 (tk + (snd Wn Rm x qa B h A).2.2.2.2) ag F V D LG M' → k (some (.int (snd Wn Rm x qa B h A).1)) (wmd P M' R)) : pm_C 76 (d + 3) al [.ref 16, .int x] (wmd P M R) k kx := by
  obtain ⟨i1, i2, i3, i4, i5, i6, i7, i8, i9⟩ := iv
  obtain ⟨wi, ma, wo, he, ae, ca, tr, hd, rfl, hQ, hE, hV⟩ := hM
  refine c_msend (Q := qq qa qb) (A := A) i5 (by omega) i2 i4 hQ hE (fun z => ?_) (fun z1 z2 wi' ma' wo' he' ae' hQ' hE' => ?_)
  · have e : snd Wn Rm x qa B h A = (0, qa, h, A, 0) := if_neg z
    rw [e] at hk
    exact hk (0, nI Wn, T, nI Rm, nI B, nI ((B + h) % 256), nI F, nI D, tk + ag, ag, tk, wi, ma, wo, he, ae, ca, tr, LG, hd) (by simp only [Int32.add_zero]; exact ⟨_, _, _, _, _, _, _, _, rfl, hQ, hE, hV⟩)
  · have e : snd Wn Rm x qa B h A = (1, qa ++ [fr (f_of 0 (nI ((B + h) % 256)) x 0)], h + 1, uE A h (x, 0, false), 1) := if_pos ⟨z1, z2⟩
    rw [e] at hk
    refine hk (0, nI Wn, T, nI Rm, nI B, nI ((B + (h + 1)) % 256), nI F, nI D, tk + ag + 1, ag, tk + 1, wi', ma', wo', he', ae', ca, tr, LG, hd) ⟨wi', ma', wo', he', ae', ca, tr, hd, ?_, u0 hQ', hE', hV⟩
    rw [show tk + 1 + ag = tk + ag + 1 by rw [Int32.add_assoc, Int32.add_comm 1 ag, ← Int32.add_assoc]]
theorem q_tick (iv : IV Wn Rm B h F V) (hM : rMd t Wn Rm T qa qb B h A tk ag F V D LG M) (hk : ∀ M', rMd 0 Wn Rm T (tkN T Rm B h 0 (A, qa, 0)).2.1 qb B h (tkN T Rm B h 0 (A, qa, 0)).1 tk (ag + nI (tkN T Rm B h 0 (A, qa, 0)).2.2) F V D LG M' → k (some (.int (nI (tkN T Rm B h 0 (A, qa, 0)).2.2))) (wmd P M' R)) : pm_C 77 (d + 3) al [.ref 16] (wmd P M R) k kx := by
  obtain ⟨i1, i2, i3, i4, i5, i6, i7, i8, i9⟩ := iv
  obtain ⟨wi, ma, wo, he, ae, ca, tr, hd, rfl, hQ, hE, hV⟩ := hM
  refine c_mtick (Q := qq qa qb) (A := A) i5 (by omega) i4 hQ hE (fun wi' ma' ae' hQ' hE' => ?_)
  refine hk (0, nI Wn, T, nI Rm, nI B, nI ((B + h) % 256), nI F, nI D, tk + ag + nI (tkN T Rm B h 0 (A, qa, 0)).2.2, ag + nI (tkN T Rm B h 0 (A, qa, 0)).2.2, tk, wi', ma', wo, he, ae', ca, tr, LG, hd) ⟨wi', ma', wo, he, ae', ca, tr, hd, ?_, u0 hQ', hE', hV⟩
  rw [Int32.add_assoc]
theorem q_comeA (iv : IV Wn Rm B h F V) (hM : rMd t Wn Rm T qa qb B h A tk ag F V D LG M) (hk : ∀ M', rMd 0 Wn Rm T qa (cA qb h B A).2.1 (cA qb h B A).2.2.2.1 (cA qb h B A).2.2.1 (cA qb h B A).2.2.2.2 tk ag F V D LG M' → k (some (.int (cA qb h B A).1)) (wmd P M' R)) : pm_C 79 (d + 3) al [.ref 16] (wmd P M R) k kx := by
  obtain ⟨i1, i2, i3, i4, i5, i6, i7, i8, i9⟩ := iv
  obtain ⟨wi, ma, wo, he, ae, ca, tr, hd, rfl, hQ, hE, hV⟩ := hM
  refine c_mcomeA (Q := qq qa qb) (A := A) i5 (by omega) i4 hQ hE (fun wi' ma' he' hQ' hE' hN' => ?_)
  refine hk (0, nI Wn, T, nI Rm, nI (cA qb h B A).2.2.2.1, nI ((B + h) % 256), nI F, nI D, tk + ag, ag, tk, wi', ma', wo, he', ae, ca, tr, LG, hd) ⟨wi', ma', wo, he', ae, ca, tr, hd, ?_, u1 hQ', hE', hV⟩
  rw [show ((cA qb h B A).2.2.2.1 + (cA qb h B A).2.2.1) % 256 = (B + h) % 256 from hN']
theorem q_comeB (iv : IV Wn Rm B h F V) (hD : D + 16 < 2 ^ 31) (hM : rMd t Wn Rm T qa qb B h A tk ag F V D LG M) (hk : ∀ M', rMd 0 Wn Rm T (cB Wn Rm qa qb (V, F, D, LG)).2.1 (cB Wn Rm qa qb (V, F, D, LG)).2.2.1 B h A tk ag (cB Wn Rm qa qb (V, F, D, LG)).2.2.2.2.1 (cB Wn Rm qa qb (V, F, D, LG)).2.2.2.1 (cB Wn Rm qa qb (V, F, D, LG)).2.2.2.2.2.1 (cB Wn Rm qa qb (V, F, D, LG)).2.2.2.2.2.2 M' → k (some (.int (cB Wn Rm qa qb (V, F, D, LG)).1)) (wmd P M' R)) : pm_C 80 (d + 3) al [.ref 16] (wmd P M R) k kx := by
  obtain ⟨i1, i2, i3, i4, i5, i6, i7, i8, i9⟩ := iv
  obtain ⟨wi, ma, wo, he, ae, ca, tr, hd, rfl, hQ, hE, hV⟩ := hM
  refine c_mcomeB (Q := qq qa qb) i7 i2 i4 hD hQ hV i8 i9 (fun wi' ma' ca' tr' hQ' hV' => ?_)
  exact hk (0, nI Wn, T, nI Rm, nI B, nI ((B + h) % 256), nI (cB Wn Rm qa qb (V, F, D, LG)).2.2.2.2.1, nI (cB Wn Rm qa qb (V, F, D, LG)).2.2.2.2.2.1, tk + ag, ag, tk, wi', ma', wo, he, ae, ca', tr', (cB Wn Rm qa qb (V, F, D, LG)).2.2.2.2.2.2, hd) ⟨_, _, _, _, _, _, _, _, rfl, u01 hQ', hE, hV'⟩
theorem q_delivered (hM : rMd t Wn Rm T qa qb B h A tk ag F V D LG M) (hk : ∀ M', rMd 0 Wn Rm T qa qb B h A tk ag F V D LG M' → k (some (.int (nI D))) (wmd P M' R)) : pm_C 86 d al [.ref 16] (wmd P M R) k kx := by
  obtain ⟨wi, ma, wo, he, ae, ca, tr, hd, rfl, hQ, hE, hV⟩ := hM
  exact c_mdelivered (hk (0, nI Wn, T, nI Rm, nI B, nI ((B + h) % 256), nI F, nI D, tk + ag, ag, tk, wi, ma, wo, he, ae, ca, tr, LG, hd) ⟨_, _, _, _, _, _, _, _, rfl, hQ, hE, hV⟩)
theorem q_wordX {x : Int32} (hx : x < 0 ∨ nI D ≤ x ∨ x < nI D - 256) (hM : rMd t Wn Rm T qa qb B h A tk ag F V D LG M) (hk : ∀ M', rMd 1 Wn Rm T qa qb B h A tk ag F V D LG M' → k (some (.int 0)) (wmd P M' R)) : pm_C 87 d al [.ref 16, .int x] (wmd P M R) k kx := by
  obtain ⟨wi, ma, wo, he, ae, ca, tr, hd, rfl, hQ, hE, hV⟩ := hM
  exact c_mwordX hx (hk (1, nI Wn, T, nI Rm, nI B, nI ((B + h) % 256), nI F, nI D, tk + ag, ag, tk, wi, ma, wo, he, ae, ca, tr, LG, hd) ⟨_, _, _, _, _, _, _, _, rfl, hQ, hE, hV⟩)
theorem q_word {i : Nat} (hi : i < 2 ^ 31) (hx : ¬ (nI i < 0 ∨ nI D ≤ nI i ∨ nI i < nI D - 256)) (hM : rMd t Wn Rm T qa qb B h A tk ag F V D LG M) (hk : ∀ M', rMd 0 Wn Rm T qa qb B h A tk ag F V D LG M' → k (some (.int (LG (i % 256)))) (wmd P M' R)) : pm_C 87 d al [.ref 16, .int (nI i)] (wmd P M R) k kx := by
  obtain ⟨wi, ma, wo, he, ae, ca, tr, hd, rfl, hQ, hE, hV⟩ := hM
  exact c_mword hi hx (hk (0, nI Wn, T, nI Rm, nI B, nI ((B + h) % 256), nI F, nI D, tk + ag, ag, tk, wi, ma, wo, he, ae, ca, tr, LG, hd) ⟨_, _, _, _, _, _, _, _, rfl, hQ, hE, hV⟩)
theorem q_toldX {x : Int32} (hx : x < 0 ∨ 9 < x) (hM : rMd t Wn Rm T qa qb B h A tk ag F V D LG M) (hk : ∀ M', rMd 1 Wn Rm T qa qb B h A tk ag F V D LG M' → k (some (.int 0)) (wmd P M' R)) : pm_C 89 d al [.ref 16, .int x] (wmd P M R) k kx := by
  obtain ⟨wi, ma, wo, he, ae, ca, tr, hd, rfl, hQ, hE, hV⟩ := hM
  exact c_mtoldX hx (hk (1, nI Wn, T, nI Rm, nI B, nI ((B + h) % 256), nI F, nI D, tk + ag, ag, tk, wi, ma, wo, he, ae, ca, tr, LG, hd) ⟨_, _, _, _, _, _, _, _, rfl, hQ, hE, hV⟩)
theorem q_told {w : Nat} (hw : w ≤ 9) (iv : IV Wn Rm B h F V) (hM : rMd t Wn Rm T qa qb B h A tk ag F V D LG M) (hk : ∀ M', rMd 0 Wn Rm T qa qb B h A tk ag F V D LG M' → k (some (.int (tdA B h F A V qa qb tk ag w))) (wmd P M' R)) : pm_C 89 (d + 1) al [.ref 16, .int (nI w)] (wmd P M R) k kx := by
  obtain ⟨i1, i2, i3, i4, i5, i6, i7, i8, i9⟩ := iv
  obtain ⟨wi, ma, wo, he, ae, ca, tr, hd, rfl, hQ, hE, hV⟩ := hM
  exact c_mtold (Q := qq qa qb) (A := A) hw i5 (by omega) hE hV (fun j hj => i8 j (by omega)) hQ (hk (0, nI Wn, T, nI Rm, nI B, nI ((B + h) % 256), nI F, nI D, tk + ag, ag, tk, wi, ma, wo, he, ae, ca, tr, LG, hd) ⟨_, _, _, _, _, _, _, _, rfl, hQ, hE, hV⟩)
theorem q_sum {x : Int64} (hM : rMd t Wn Rm T qa qb B h A tk ag F V D LG M) (hk : ∀ M', rMd 0 Wn Rm T qa qb B h A tk ag F V D LG M' → k (some (.int (f_sum x))) (wmd P M' R)) : pm_C 69 (d + 1) al [.ref 16, .long x] (wmd P M R) k kx := by
  obtain ⟨wi, ma, wo, he, ae, ca, tr, hd, rfl, hQ, hE, hV⟩ := hM
  exact c_msum (hk (0, nI Wn, T, nI Rm, nI B, nI ((B + h) % 256), nI F, nI D, tk + ag, ag, tk, wi, ma, wo, he, ae, ca, tr, LG, hd) ⟨_, _, _, _, _, _, _, _, rfl, hQ, hE, hV⟩)
theorem q_loseX {x : Int32} (hx : x < 0 ∨ 1 < x) (hM : rMd t Wn Rm T qa qb B h A tk ag F V D LG M) (hk : ∀ M', rMd 1 Wn Rm T qa qb B h A tk ag F V D LG M' → k (some (.int 0)) (wmd P M' R)) : pm_C 82 (d + 2) al [.ref 16, .int x] (wmd P M R) k kx := by
  obtain ⟨wi, ma, wo, he, ae, ca, tr, hd, rfl, hQ, hE, hV⟩ := hM
  exact c_mloseX hx (hk (1, nI Wn, T, nI Rm, nI B, nI ((B + h) % 256), nI F, nI D, tk + ag, ag, tk, wi, ma, wo, he, ae, ca, tr, LG, hd) ⟨_, _, _, _, _, _, _, _, rfl, hQ, hE, hV⟩)
theorem q_lose0 (iv : IV Wn Rm B h F V) (hM : rMd t Wn Rm T qa qb B h A tk ag F V D LG M) (hk : ∀ M', rMd 0 Wn Rm T (lsQ qa).2 qb B h A tk ag F V D LG M' → k (some (.int (lsQ qa).1)) (wmd P M' R)) : pm_C 82 (d + 2) al [.ref 16, .int (nI 0)] (wmd P M R) k kx := by
  obtain ⟨i1, i2, i3, i4, i5, i6, i7, i8, i9⟩ := iv
  obtain ⟨wi, ma, wo, he, ae, ca, tr, hd, rfl, hQ, hE, hV⟩ := hM
  exact c_mlose (Q := qq qa qb) (w := 0) (by omega) i4 hQ (fun wi' ma' hQ' => hk (0, nI Wn, T, nI Rm, nI B, nI ((B + h) % 256), nI F, nI D, tk + ag, ag, tk, wi', ma', wo, he, ae, ca, tr, LG, hd) ⟨_, _, _, _, _, _, _, _, rfl, u0 hQ', hE, hV⟩)
theorem q_lose1 (iv : IV Wn Rm B h F V) (hM : rMd t Wn Rm T qa qb B h A tk ag F V D LG M) (hk : ∀ M', rMd 0 Wn Rm T qa (lsQ qb).2 B h A tk ag F V D LG M' → k (some (.int (lsQ qb).1)) (wmd P M' R)) : pm_C 82 (d + 2) al [.ref 16, .int (nI 1)] (wmd P M R) k kx := by
  obtain ⟨i1, i2, i3, i4, i5, i6, i7, i8, i9⟩ := iv
  obtain ⟨wi, ma, wo, he, ae, ca, tr, hd, rfl, hQ, hE, hV⟩ := hM
  exact c_mlose (Q := qq qa qb) (w := 1) (by omega) i4 hQ (fun wi' ma' hQ' => hk (0, nI Wn, T, nI Rm, nI B, nI ((B + h) % 256), nI F, nI D, tk + ag, ag, tk, wi', ma', wo, he, ae, ca, tr, LG, hd) ⟨_, _, _, _, _, _, _, _, rfl, u1 hQ', hE, hV⟩)
theorem q_twiceX {x : Int32} (hx : x < 0 ∨ 1 < x) (hM : rMd t Wn Rm T qa qb B h A tk ag F V D LG M) (hk : ∀ M', rMd 1 Wn Rm T qa qb B h A tk ag F V D LG M' → k (some (.int 0)) (wmd P M' R)) : pm_C 84 (d + 2) al [.ref 16, .int x] (wmd P M R) k kx := by
  obtain ⟨wi, ma, wo, he, ae, ca, tr, hd, rfl, hQ, hE, hV⟩ := hM
  exact c_mtwiceX hx (hk (1, nI Wn, T, nI Rm, nI B, nI ((B + h) % 256), nI F, nI D, tk + ag, ag, tk, wi, ma, wo, he, ae, ca, tr, LG, hd) ⟨_, _, _, _, _, _, _, _, rfl, hQ, hE, hV⟩)
theorem q_twice0 (iv : IV Wn Rm B h F V) (hM : rMd t Wn Rm T qa qb B h A tk ag F V D LG M) (hk : ∀ M', rMd 0 Wn Rm T (twQ Rm qa).2 qb B h A tk ag F V D LG M' → k (some (.int (twQ Rm qa).1)) (wmd P M' R)) : pm_C 84 (d + 2) al [.ref 16, .int (nI 0)] (wmd P M R) k kx := by
  obtain ⟨i1, i2, i3, i4, i5, i6, i7, i8, i9⟩ := iv
  obtain ⟨wi, ma, wo, he, ae, ca, tr, hd, rfl, hQ, hE, hV⟩ := hM
  exact c_mtwice (Q := qq qa qb) (w := 0) (by omega) i4 hQ (fun wi' ma' hQ' => hk (0, nI Wn, T, nI Rm, nI B, nI ((B + h) % 256), nI F, nI D, tk + ag, ag, tk, wi', ma', wo, he, ae, ca, tr, LG, hd) ⟨_, _, _, _, _, _, _, _, rfl, u0 hQ', hE, hV⟩)
theorem q_twice1 (iv : IV Wn Rm B h F V) (hM : rMd t Wn Rm T qa qb B h A tk ag F V D LG M) (hk : ∀ M', rMd 0 Wn Rm T qa (twQ Rm qb).2 B h A tk ag F V D LG M' → k (some (.int (twQ Rm qb).1)) (wmd P M' R)) : pm_C 84 (d + 2) al [.ref 16, .int (nI 1)] (wmd P M R) k kx := by
  obtain ⟨i1, i2, i3, i4, i5, i6, i7, i8, i9⟩ := iv
  obtain ⟨wi, ma, wo, he, ae, ca, tr, hd, rfl, hQ, hE, hV⟩ := hM
  exact c_mtwice (Q := qq qa qb) (w := 1) (by omega) i4 hQ (fun wi' ma' hQ' => hk (0, nI Wn, T, nI Rm, nI B, nI ((B + h) % 256), nI F, nI D, tk + ag, ag, tk, wi', ma', wo, he, ae, ca, tr, LG, hd) ⟨_, _, _, _, _, _, _, _, rfl, u1 hQ', hE, hV⟩)
theorem q_delayX {x : Int32} (hx : x < 0 ∨ 1 < x) (hM : rMd t Wn Rm T qa qb B h A tk ag F V D LG M) (hk : ∀ M', rMd 1 Wn Rm T qa qb B h A tk ag F V D LG M' → k (some (.int 0)) (wmd P M' R)) : pm_C 85 (d + 2) al [.ref 16, .int x] (wmd P M R) k kx := by
  obtain ⟨wi, ma, wo, he, ae, ca, tr, hd, rfl, hQ, hE, hV⟩ := hM
  exact c_mdelayX hx (hk (1, nI Wn, T, nI Rm, nI B, nI ((B + h) % 256), nI F, nI D, tk + ag, ag, tk, wi, ma, wo, he, ae, ca, tr, LG, hd) ⟨_, _, _, _, _, _, _, _, rfl, hQ, hE, hV⟩)
theorem q_delay0 (iv : IV Wn Rm B h F V) (hM : rMd t Wn Rm T qa qb B h A tk ag F V D LG M) (hk : ∀ M', rMd 0 Wn Rm T (dyQ qa).2 qb B h A tk ag F V D LG M' → k (some (.int (dyQ qa).1)) (wmd P M' R)) : pm_C 85 (d + 2) al [.ref 16, .int (nI 0)] (wmd P M R) k kx := by
  obtain ⟨i1, i2, i3, i4, i5, i6, i7, i8, i9⟩ := iv
  obtain ⟨wi, ma, wo, he, ae, ca, tr, hd, rfl, hQ, hE, hV⟩ := hM
  exact c_mdelay (Q := qq qa qb) (w := 0) (by omega) i4 hQ (fun wi' ma' hd' hQ' => hk (0, nI Wn, T, nI Rm, nI B, nI ((B + h) % 256), nI F, nI D, tk + ag, ag, tk, wi', ma', wo, he, ae, ca, tr, LG, hd') ⟨_, _, _, _, _, _, _, _, rfl, u0 hQ', hE, hV⟩)
theorem q_delay1 (iv : IV Wn Rm B h F V) (hM : rMd t Wn Rm T qa qb B h A tk ag F V D LG M) (hk : ∀ M', rMd 0 Wn Rm T qa (dyQ qb).2 B h A tk ag F V D LG M' → k (some (.int (dyQ qb).1)) (wmd P M' R)) : pm_C 85 (d + 2) al [.ref 16, .int (nI 1)] (wmd P M R) k kx := by
  obtain ⟨i1, i2, i3, i4, i5, i6, i7, i8, i9⟩ := iv
  obtain ⟨wi, ma, wo, he, ae, ca, tr, hd, rfl, hQ, hE, hV⟩ := hM
  exact c_mdelay (Q := qq qa qb) (w := 1) (by omega) i4 hQ (fun wi' ma' hd' hQ' => hk (0, nI Wn, T, nI Rm, nI B, nI ((B + h) % 256), nI F, nI D, tk + ag, ag, tk, wi', ma', wo, he, ae, ca, tr, LG, hd') ⟨_, _, _, _, _, _, _, _, rfl, u1 hQ', hE, hV⟩)
theorem q_changeX {x y : Int32} (hx : (x < 0 ∨ 1 < x) ∨ y < 0 ∨ 95 < y) (hM : rMd t Wn Rm T qa qb B h A tk ag F V D LG M) (hk : ∀ M', rMd 1 Wn Rm T qa qb B h A tk ag F V D LG M' → k (some (.int 0)) (wmd P M' R)) : pm_C 83 (d + 2) al [.ref 16, .int x, .int y] (wmd P M R) k kx := by
  obtain ⟨wi, ma, wo, he, ae, ca, tr, hd, rfl, hQ, hE, hV⟩ := hM
  exact c_mchangeX hx (hk (1, nI Wn, T, nI Rm, nI B, nI ((B + h) % 256), nI F, nI D, tk + ag, ag, tk, wi, ma, wo, he, ae, ca, tr, LG, hd) ⟨_, _, _, _, _, _, _, _, rfl, hQ, hE, hV⟩)
theorem q_change0 {b : Nat} (hb : b < 96) (iv : IV Wn Rm B h F V) (hM : rMd t Wn Rm T qa qb B h A tk ag F V D LG M) (hk : ∀ M', rMd 0 Wn Rm T (chQ (nI b) qa).2 qb B h A tk ag F V D LG M' → k (some (.int (chQ (nI b) qa).1)) (wmd P M' R)) : pm_C 83 (d + 2) al [.ref 16, .int (nI 0), .int (nI b)] (wmd P M R) k kx := by
  obtain ⟨i1, i2, i3, i4, i5, i6, i7, i8, i9⟩ := iv
  obtain ⟨wi, ma, wo, he, ae, ca, tr, hd, rfl, hQ, hE, hV⟩ := hM
  exact c_mchange (Q := qq qa qb) (w := 0) (by omega) hb i4 hQ (fun wi' ma' hQ' => hk (0, nI Wn, T, nI Rm, nI B, nI ((B + h) % 256), nI F, nI D, tk + ag, ag, tk, wi', ma', wo, he, ae, ca, tr, LG, hd) ⟨_, _, _, _, _, _, _, _, rfl, u0 hQ', hE, hV⟩)
theorem q_frameY0 {y z : Int32} (iv : IV Wn Rm B h F V) (hz : ¬ (z < 0 ∨ 1 < z)) (hy : y < 0 ∨ nI qa.length ≤ y) (hM : rMd t Wn Rm T qa qb B h A tk ag F V D LG M) (hk : ∀ M', rMd 2 Wn Rm T qa qb B h A tk ag F V D LG M' → k (some (.long 0)) (wmd P M' R)) : pm_C 88 (d + 2) al [.ref 16, .int (nI 0), .int y, .int z] (wmd P M R) k kx := by
  obtain ⟨i1, i2, i3, i4, i5, i6, i7, i8, i9⟩ := iv
  obtain ⟨wi, ma, wo, he, ae, ca, tr, hd, rfl, hQ, hE, hV⟩ := hM
  exact c_mframeY (Q := qq qa qb) (w := 0) (by omega) i4 hQ hz hy (hk (2, nI Wn, T, nI Rm, nI B, nI ((B + h) % 256), nI F, nI D, tk + ag, ag, tk, wi, ma, wo, he, ae, ca, tr, LG, hd) ⟨_, _, _, _, _, _, _, _, rfl, hQ, hE, hV⟩)
theorem q_frame0 {i : Nat} {z : Int32} {f : Int64 × Int32} (iv : IV Wn Rm B h F V) (hf : qa[i]? = some f) (hz : z = 0 ∨ z = 1) (hM : rMd t Wn Rm T qa qb B h A tk ag F V D LG M) (h0 : z = 0 → ∀ M', rMd 0 Wn Rm T qa qb B h A tk ag F V D LG M' → k (some (.long f.1)) (wmd P M' R)) (h1 : z = 1 → ∀ M', rMd 0 Wn Rm T qa qb B h A tk ag F V D LG M' → k (some (.long (f.2.toInt64 &&& 4294967295))) (wmd P M' R)) : pm_C 88 (d + 2) al [.ref 16, .int (nI 0), .int (nI i), .int z] (wmd P M R) k kx := by
  obtain ⟨i1, i2, i3, i4, i5, i6, i7, i8, i9⟩ := iv
  obtain ⟨wi, ma, wo, he, ae, ca, tr, hd, rfl, hQ, hE, hV⟩ := hM
  exact c_mframe (Q := qq qa qb) (w := 0) (by omega) i4 hQ hf (fun q => h0 q (0, nI Wn, T, nI Rm, nI B, nI ((B + h) % 256), nI F, nI D, tk + ag, ag, tk, wi, ma, wo, he, ae, ca, tr, LG, hd) ⟨_, _, _, _, _, _, _, _, rfl, hQ, hE, hV⟩) (fun q => h1 q (0, nI Wn, T, nI Rm, nI B, nI ((B + h) % 256), nI F, nI D, tk + ag, ag, tk, wi, ma, wo, he, ae, ca, tr, LG, hd) ⟨_, _, _, _, _, _, _, _, rfl, hQ, hE, hV⟩) hz
theorem q_change1 {b : Nat} (hb : b < 96) (iv : IV Wn Rm B h F V) (hM : rMd t Wn Rm T qa qb B h A tk ag F V D LG M) (hk : ∀ M', rMd 0 Wn Rm T qa (chQ (nI b) qb).2 B h A tk ag F V D LG M' → k (some (.int (chQ (nI b) qb).1)) (wmd P M' R)) : pm_C 83 (d + 2) al [.ref 16, .int (nI 1), .int (nI b)] (wmd P M R) k kx := by
  obtain ⟨i1, i2, i3, i4, i5, i6, i7, i8, i9⟩ := iv
  obtain ⟨wi, ma, wo, he, ae, ca, tr, hd, rfl, hQ, hE, hV⟩ := hM
  exact c_mchange (Q := qq qa qb) (w := 1) (by omega) hb i4 hQ (fun wi' ma' hQ' => hk (0, nI Wn, T, nI Rm, nI B, nI ((B + h) % 256), nI F, nI D, tk + ag, ag, tk, wi', ma', wo, he, ae, ca, tr, LG, hd) ⟨_, _, _, _, _, _, _, _, rfl, u1 hQ', hE, hV⟩)
theorem q_frameY1 {y z : Int32} (iv : IV Wn Rm B h F V) (hz : ¬ (z < 0 ∨ 1 < z)) (hy : y < 0 ∨ nI qb.length ≤ y) (hM : rMd t Wn Rm T qa qb B h A tk ag F V D LG M) (hk : ∀ M', rMd 2 Wn Rm T qa qb B h A tk ag F V D LG M' → k (some (.long 0)) (wmd P M' R)) : pm_C 88 (d + 2) al [.ref 16, .int (nI 1), .int y, .int z] (wmd P M R) k kx := by
  obtain ⟨i1, i2, i3, i4, i5, i6, i7, i8, i9⟩ := iv
  obtain ⟨wi, ma, wo, he, ae, ca, tr, hd, rfl, hQ, hE, hV⟩ := hM
  exact c_mframeY (Q := qq qa qb) (w := 1) (by omega) i4 hQ hz hy (hk (2, nI Wn, T, nI Rm, nI B, nI ((B + h) % 256), nI F, nI D, tk + ag, ag, tk, wi, ma, wo, he, ae, ca, tr, LG, hd) ⟨_, _, _, _, _, _, _, _, rfl, hQ, hE, hV⟩)
theorem q_frame1 {i : Nat} {z : Int32} {f : Int64 × Int32} (iv : IV Wn Rm B h F V) (hf : qb[i]? = some f) (hz : z = 0 ∨ z = 1) (hM : rMd t Wn Rm T qa qb B h A tk ag F V D LG M) (h0 : z = 0 → ∀ M', rMd 0 Wn Rm T qa qb B h A tk ag F V D LG M' → k (some (.long f.1)) (wmd P M' R)) (h1 : z = 1 → ∀ M', rMd 0 Wn Rm T qa qb B h A tk ag F V D LG M' → k (some (.long (f.2.toInt64 &&& 4294967295))) (wmd P M' R)) : pm_C 88 (d + 2) al [.ref 16, .int (nI 1), .int (nI i), .int z] (wmd P M R) k kx := by
  obtain ⟨i1, i2, i3, i4, i5, i6, i7, i8, i9⟩ := iv
  obtain ⟨wi, ma, wo, he, ae, ca, tr, hd, rfl, hQ, hE, hV⟩ := hM
  exact c_mframe (Q := qq qa qb) (w := 1) (by omega) i4 hQ hf (fun q => h0 q (0, nI Wn, T, nI Rm, nI B, nI ((B + h) % 256), nI F, nI D, tk + ag, ag, tk, wi, ma, wo, he, ae, ca, tr, LG, hd) ⟨_, _, _, _, _, _, _, _, rfl, hQ, hE, hV⟩) (fun q => h1 q (0, nI Wn, T, nI Rm, nI B, nI ((B + h) % 256), nI F, nI D, tk + ag, ag, tk, wi, ma, wo, he, ae, ca, tr, LG, hd) ⟨_, _, _, _, _, _, _, _, rfl, hQ, hE, hV⟩) hz
theorem q_frameX {x y z : Int32} (hx : (x < 0 ∨ 1 < x) ∨ z < 0 ∨ 1 < z) (hM : rMd t Wn Rm T qa qb B h A tk ag F V D LG M) (hk : ∀ M', rMd 1 Wn Rm T qa qb B h A tk ag F V D LG M' → k (some (.long 0)) (wmd P M' R)) : pm_C 88 (d + 2) al [.ref 16, .int x, .int y, .int z] (wmd P M R) k kx := by
  obtain ⟨wi, ma, wo, he, ae, ca, tr, hd, rfl, hQ, hE, hV⟩ := hM
  exact c_mframeX hx (hk (1, nI Wn, T, nI Rm, nI B, nI ((B + h) % 256), nI F, nI D, tk + ag, ag, tk, wi, ma, wo, he, ae, ca, tr, LG, hd) ⟨_, _, _, _, _, _, _, _, rfl, hQ, hE, hV⟩)
end PB
