/-! THE LAW'S HELPERS -/
def b2l (v : Int32) : Int64 := if v = 0 then 0 else 1
theorem w3 (x : Int32) : (x < 0 ∨ 1 < x) ∨ x = 0 ∨ x = 1 := by
  by_cases h0 : x < 0
  · exact Or.inl (Or.inl h0)
  · by_cases h1 : 1 < x
    · exact Or.inl (Or.inr h1)
    · refine Or.inr ?_
      obtain ⟨j, hj, rfl⟩ := nI_of2 (n := 1) (M := 1) (by decide) h0 (Int32.not_lt.mp h1)
      rcases Nat.lt_or_ge j 1 with c | c
      · have : j = 0 := by omega
        subst this
        exact Or.inl rfl
      · have : j = 1 := by omega
        subst this
        exact Or.inr rfl
theorem rLk_LG {Wn Rm B h F D : Nat} {T tk ag : Int32} {qa qb : Qu} {A : EF} {V : VF} {LG : Nat → Int32} {P : LkP} (hL : rLk Wn Rm T qa qb B h A tk ag F V D LG P) : P.2.2.2.2.2.1 = LG := by
  obtain ⟨a, b, s, r⟩ := P
  obtain ⟨ha, hb, hs, ⟨rw, th, rfl, hV⟩⟩ := hL
  rfl
section PH
variable {d : Nat} {al : Bool} {k : pm_K} {kx : pm_X} {cb sb : Nat} {R : pm_D} {P : LkP} {M : MP} {o : Nat → Int64} {t : Int32} {Wn Rm B h F D : Nat} {T tk ag : Int32} {qa qb : Qu} {A : EF} {V : VF} {LG : Nat → Int32}
theorem h_begin {x y z : Int32} (hL : rLk Wn Rm T qa qb B h A tk ag F V D LG P) (hx : x < 1 ∨ 16 < x ∨ y < 1 ∨ 50 < y ∨ z < 1 ∨ 32 < z → k (some (.int 1)) (ww P M o)) (hk : ∀ W2 R2 : Nat, x = nI W2 → z = nI R2 → 1 ≤ W2 → W2 ≤ 16 → 1 ≤ R2 → R2 ≤ 32 → ¬ y < 1 → ¬ 50 < y → ∀ P', rLk W2 R2 y [] [] 0 0 A 0 0 0 (fun _ => none) 0 LG P' → k (some (.int 0)) (ww P' M o)) : pm_C 90 (d + 8) false [.ref 1, .int x, .int y, .int z] (ww P M o) k kx :=
  pm_Ci rfl (pm_run 40 (And.intro ⟨by decide, by decide⟩ (c_begin (A := A) (rLk_LG hL) (fun g => And.intro (fun _ => hx g) (fun h => absurd rfl h)) hk)))
theorem h_loseX {x : Int32} (hx : x < 0 ∨ 1 < x) (hk : k (some (.int 1)) (ww P M o)) : pm_C 91 (d + 8) false [.ref 1, .int x, .ref 26] (ww P M o) k kx :=
  pm_Ci rfl (pm_run 40 (And.intro ⟨by decide, by decide⟩ (c_noWire hx (And.intro (fun _ => hk) (fun h => absurd rfl h))).1))
theorem h_lose0 {x : Int32} (hx : x = 0) (iv : IV Wn Rm B h F V) (hL : rLk Wn Rm T qa qb B h A tk ag F V D LG P) (hk : ∀ P' o', rLk Wn Rm T (lsQ qa).2 qb B h A tk ag F V D LG P' → o' 0 = b2l (lsQ qa).1 → k (some (.int 0)) (ww P' M o')) : pm_C 91 (d + 8) false [.ref 1, .int x, .ref 26] (ww P M o) k kx :=
  pm_Ci rfl (pm_run 40 (And.intro ⟨by decide, by decide⟩ (c_loseA hx hL (fun P' hL' => And.intro (fun h => And.intro (vin (n := 0) (by omega) (by omega)) (hk P' _ hL' (pk_uLs.trans (if_pos h).symm))) (fun h => And.intro (vin (n := 0) (by omega) (by omega)) (hk P' _ hL' (pk_uLs.trans (if_neg h).symm)))))))
theorem h_lose1 {x : Int32} (hx : x = 1) (iv : IV Wn Rm B h F V) (hL : rLk Wn Rm T qa qb B h A tk ag F V D LG P) (hk : ∀ P' o', rLk Wn Rm T qa (lsQ qb).2 B h A tk ag F V D LG P' → o' 0 = b2l (lsQ qb).1 → k (some (.int 0)) (ww P' M o')) : pm_C 91 (d + 8) false [.ref 1, .int x, .ref 26] (ww P M o) k kx :=
  pm_Ci rfl (pm_run 40 (And.intro ⟨by decide, by decide⟩ (c_loseB hx hL (fun P' hL' => And.intro (fun h => And.intro (vin (n := 0) (by omega) (by omega)) (hk P' _ hL' (pk_uLs.trans (if_pos h).symm))) (fun h => And.intro (vin (n := 0) (by omega) (by omega)) (hk P' _ hL' (pk_uLs.trans (if_neg h).symm)))))))
theorem h_twiceX {x : Int32} (hx : x < 0 ∨ 1 < x) (hk : k (some (.int 1)) (ww P M o)) : pm_C 93 (d + 8) false [.ref 1, .int x, .ref 26] (ww P M o) k kx :=
  pm_Ci rfl (pm_run 40 (And.intro ⟨by decide, by decide⟩ (c_noWire hx (And.intro (fun _ => hk) (fun h => absurd rfl h))).2.1))
theorem h_twice0 {x : Int32} (hx : x = 0) (iv : IV Wn Rm B h F V) (hL : rLk Wn Rm T qa qb B h A tk ag F V D LG P) (hk : ∀ P' o', rLk Wn Rm T (twQ Rm qa).2 qb B h A tk ag F V D LG P' → o' 0 = b2l (twQ Rm qa).1 → k (some (.int 0)) (ww P' M o')) : pm_C 93 (d + 8) false [.ref 1, .int x, .ref 26] (ww P M o) k kx :=
  pm_Ci rfl (pm_run 40 (And.intro ⟨by decide, by decide⟩ (c_twiceA hx hL (fun P' hL' => And.intro (fun h => And.intro (vin (n := 0) (by omega) (by omega)) (hk P' _ hL' (pk_uLs.trans (if_pos h).symm))) (fun h => And.intro (vin (n := 0) (by omega) (by omega)) (hk P' _ hL' (pk_uLs.trans (if_neg h).symm)))))))
theorem h_twice1 {x : Int32} (hx : x = 1) (iv : IV Wn Rm B h F V) (hL : rLk Wn Rm T qa qb B h A tk ag F V D LG P) (hk : ∀ P' o', rLk Wn Rm T qa (twQ Rm qb).2 B h A tk ag F V D LG P' → o' 0 = b2l (twQ Rm qb).1 → k (some (.int 0)) (ww P' M o')) : pm_C 93 (d + 8) false [.ref 1, .int x, .ref 26] (ww P M o) k kx :=
  pm_Ci rfl (pm_run 40 (And.intro ⟨by decide, by decide⟩ (c_twiceB hx hL (fun P' hL' => And.intro (fun h => And.intro (vin (n := 0) (by omega) (by omega)) (hk P' _ hL' (pk_uLs.trans (if_pos h).symm))) (fun h => And.intro (vin (n := 0) (by omega) (by omega)) (hk P' _ hL' (pk_uLs.trans (if_neg h).symm)))))))
theorem h_delayX {x : Int32} (hx : x < 0 ∨ 1 < x) (hk : k (some (.int 1)) (ww P M o)) : pm_C 94 (d + 8) false [.ref 1, .int x, .ref 26] (ww P M o) k kx :=
  pm_Ci rfl (pm_run 40 (And.intro ⟨by decide, by decide⟩ (c_noWire hx (And.intro (fun _ => hk) (fun h => absurd rfl h))).2.2.1))
theorem h_delay0 {x : Int32} (hx : x = 0) (iv : IV Wn Rm B h F V) (hL : rLk Wn Rm T qa qb B h A tk ag F V D LG P) (hk : ∀ P' o', rLk Wn Rm T (dyQ qa).2 qb B h A tk ag F V D LG P' → o' 0 = b2l (dyQ qa).1 → k (some (.int 0)) (ww P' M o')) : pm_C 94 (d + 8) false [.ref 1, .int x, .ref 26] (ww P M o) k kx :=
  pm_Ci rfl (pm_run 40 (And.intro ⟨by decide, by decide⟩ (c_delayA iv hx hL (fun P' hL' => And.intro (fun h => And.intro (vin (n := 0) (by omega) (by omega)) (hk P' _ hL' (pk_uLs.trans (if_pos h).symm))) (fun h => And.intro (vin (n := 0) (by omega) (by omega)) (hk P' _ hL' (pk_uLs.trans (if_neg h).symm)))))))
theorem h_delay1 {x : Int32} (hx : x = 1) (iv : IV Wn Rm B h F V) (hL : rLk Wn Rm T qa qb B h A tk ag F V D LG P) (hk : ∀ P' o', rLk Wn Rm T qa (dyQ qb).2 B h A tk ag F V D LG P' → o' 0 = b2l (dyQ qb).1 → k (some (.int 0)) (ww P' M o')) : pm_C 94 (d + 8) false [.ref 1, .int x, .ref 26] (ww P M o) k kx :=
  pm_Ci rfl (pm_run 40 (And.intro ⟨by decide, by decide⟩ (c_delayB iv hx hL (fun P' hL' => And.intro (fun h => And.intro (vin (n := 0) (by omega) (by omega)) (hk P' _ hL' (pk_uLs.trans (if_pos h).symm))) (fun h => And.intro (vin (n := 0) (by omega) (by omega)) (hk P' _ hL' (pk_uLs.trans (if_neg h).symm)))))))
theorem h_changeX {x y : Int32} (hx : x < 0 ∨ 1 < x) (hk : k (some (.int 1)) (ww P M o)) : pm_C 92 (d + 8) false [.ref 1, .int x, .int y, .ref 26] (ww P M o) k kx :=
  pm_Ci rfl (pm_run 40 (And.intro ⟨by decide, by decide⟩ ((c_noWire hx (And.intro (fun _ => hk) (fun h => absurd rfl h))).2.2.2.1 y)))
theorem h_change0 {x y : Int32} (hx : x = 0) (hL : rLk Wn Rm T qa qb B h A tk ag F V D LG P) (hX : y < 0 ∨ 95 < y → k (some (.int 1)) (ww P M o)) (hk : ¬ y < 0 → ¬ 95 < y → ∀ P' o', rLk Wn Rm T (chQ y qa).2 qb B h A tk ag F V D LG P' → o' 0 = b2l (chQ y qa).1 → k (some (.int 0)) (ww P' M o')) : pm_C 92 (d + 8) false [.ref 1, .int x, .int y, .ref 26] (ww P M o) k kx :=
  pm_Ci rfl (pm_run 40 (And.intro ⟨by decide, by decide⟩ (c_changeA hx (fun g => And.intro (fun _ => hX g) (fun h => absurd rfl h)) hL (fun g1 g2 P' hL' => And.intro (fun h => And.intro (vin (n := 0) (by omega) (by omega)) (hk g1 g2 P' _ hL' (pk_uLs.trans (if_pos h).symm))) (fun h => And.intro (vin (n := 0) (by omega) (by omega)) (hk g1 g2 P' _ hL' (pk_uLs.trans (if_neg h).symm)))))))
theorem h_frame0 {x y z : Int32} (hx : x = 0) (iv : IV Wn Rm B h F V) (hL : rLk Wn Rm T qa qb B h A tk ag F V D LG P) (hX : z < 0 ∨ 1 < z → k (some (.int 1)) (ww P M o)) (hY : ¬ (z < 0 ∨ 1 < z) → (y < 0 ∨ nI qa.length ≤ y) → k (some (.int 2)) (ww P M o)) (hk0 : z = 0 → ∀ (i : Nat) (f : Int64 × Int32) (o' : Nat → Int64), y = nI i → qa[i]? = some f → o' 0 = f.1 → k (some (.int 0)) (ww P M o')) (hk1 : z = 1 → ∀ (i : Nat) (f : Int64 × Int32) (o' : Nat → Int64), y = nI i → qa[i]? = some f → o' 0 = f.2.toInt64 &&& 4294967295 → k (some (.int 0)) (ww P M o')) : pm_C 96 (d + 8) false [.ref 1, .int x, .int y, .int z, .ref 26] (ww P M o) k kx :=
  pm_Ci rfl (pm_run 40 (And.intro ⟨by decide, by decide⟩ (c_frameA iv hx (fun g => And.intro (fun _ => hX g) (fun h => absurd rfl h)) (fun g1 g2 => And.intro (fun h => absurd h (by decide)) (fun _ => And.intro ⟨rfl, rfl⟩ (And.intro (fun _ => hY g1 g2) (fun h => absurd rfl h)))) hL (fun e i f e2 e3 => And.intro (vin (n := 0) (by omega) (by omega)) (hk0 e i f _ e2 e3 pk_uLs)) (fun e i f e2 e3 => And.intro (vin (n := 0) (by omega) (by omega)) (hk1 e i f _ e2 e3 pk_uLs)))))
theorem h_change1 {x y : Int32} (hx : x = 1) (hL : rLk Wn Rm T qa qb B h A tk ag F V D LG P) (hX : y < 0 ∨ 95 < y → k (some (.int 1)) (ww P M o)) (hk : ¬ y < 0 → ¬ 95 < y → ∀ P' o', rLk Wn Rm T qa (chQ y qb).2 B h A tk ag F V D LG P' → o' 0 = b2l (chQ y qb).1 → k (some (.int 0)) (ww P' M o')) : pm_C 92 (d + 8) false [.ref 1, .int x, .int y, .ref 26] (ww P M o) k kx :=
  pm_Ci rfl (pm_run 40 (And.intro ⟨by decide, by decide⟩ (c_changeB hx (fun g => And.intro (fun _ => hX g) (fun h => absurd rfl h)) hL (fun g1 g2 P' hL' => And.intro (fun h => And.intro (vin (n := 0) (by omega) (by omega)) (hk g1 g2 P' _ hL' (pk_uLs.trans (if_pos h).symm))) (fun h => And.intro (vin (n := 0) (by omega) (by omega)) (hk g1 g2 P' _ hL' (pk_uLs.trans (if_neg h).symm)))))))
theorem h_frame1 {x y z : Int32} (hx : x = 1) (iv : IV Wn Rm B h F V) (hL : rLk Wn Rm T qa qb B h A tk ag F V D LG P) (hX : z < 0 ∨ 1 < z → k (some (.int 1)) (ww P M o)) (hY : ¬ (z < 0 ∨ 1 < z) → (y < 0 ∨ nI qb.length ≤ y) → k (some (.int 2)) (ww P M o)) (hk0 : z = 0 → ∀ (i : Nat) (f : Int64 × Int32) (o' : Nat → Int64), y = nI i → qb[i]? = some f → o' 0 = f.1 → k (some (.int 0)) (ww P M o')) (hk1 : z = 1 → ∀ (i : Nat) (f : Int64 × Int32) (o' : Nat → Int64), y = nI i → qb[i]? = some f → o' 0 = f.2.toInt64 &&& 4294967295 → k (some (.int 0)) (ww P M o')) : pm_C 96 (d + 8) false [.ref 1, .int x, .int y, .int z, .ref 26] (ww P M o) k kx :=
  pm_Ci rfl (pm_run 40 (And.intro ⟨by decide, by decide⟩ (c_frameB iv hx (fun g => And.intro (fun _ => hX g) (fun h => absurd rfl h)) (fun g1 g2 => And.intro (fun h => absurd h (by decide)) (fun _ => And.intro ⟨rfl, rfl⟩ (And.intro (fun _ => hY g1 g2) (fun h => absurd rfl h)))) hL (fun e i f e2 e3 => And.intro (vin (n := 0) (by omega) (by omega)) (hk0 e i f _ e2 e3 pk_uLs)) (fun e i f e2 e3 => And.intro (vin (n := 0) (by omega) (by omega)) (hk1 e i f _ e2 e3 pk_uLs)))))
theorem h_frameX {x y z : Int32} (hx : x < 0 ∨ 1 < x) (hk : k (some (.int 1)) (ww P M o)) : pm_C 96 (d + 8) false [.ref 1, .int x, .int y, .int z, .ref 26] (ww P M o) k kx :=
  pm_Ci rfl (pm_run 40 (And.intro ⟨by decide, by decide⟩ ((c_noWire hx (And.intro (fun _ => hk) (fun h => absurd rfl h))).2.2.2.2 y z)))
theorem h_word {x : Int32} (hL : rLk Wn Rm T qa qb B h A tk ag F V D LG P) (hX : (x < 0 ∨ nI D ≤ x ∨ x < nI D - 256) → k (some (.int 1)) (ww P M o)) (hk : ∀ i : Nat, i < 2 ^ 31 → x = nI i → ¬ (x < 0 ∨ nI D ≤ x ∨ x < nI D - 256) → ∀ o' : Nat → Int64, o' 0 = (LG (i % 256)).toInt64 → k (some (.int 0)) (ww P M o')) : pm_C 95 (d + 8) false [.ref 1, .int x, .ref 26] (ww P M o) k kx :=
  pm_Ci rfl (pm_run 40 (And.intro ⟨by decide, by decide⟩ (c_word hL (fun g => And.intro (fun _ => hX g) (fun h => absurd rfl h)) (fun i hi e g => And.intro (vin (n := 0) (by omega) (by omega)) (hk i hi e g _ pk_uLs)))))
theorem h_told {x : Int32} (iv : IV Wn Rm B h F V) (hL : rLk Wn Rm T qa qb B h A tk ag F V D LG P) (hX : x < 0 ∨ 9 < x → k (some (.int 1)) (ww P M o)) (hk : ∀ w : Nat, w ≤ 9 → x = nI w → ∀ o' : Nat → Int64, o' 0 = (tdA B h F A V qa qb tk ag w).toInt64 → k (some (.int 0)) (ww P M o')) : pm_C 97 (d + 8) false [.ref 1, .int x, .ref 26] (ww P M o) k kx :=
  pm_Ci rfl (pm_run 40 (And.intro ⟨by decide, by decide⟩ (c_told iv hL (fun g => And.intro (fun _ => hX g) (fun h => absurd rfl h)) (fun w hw e => And.intro (vin (n := 0) (by omega) (by omega)) (hk w hw e _ pk_uLs)))))
/-! the reference's calls with arguments that are known to be small -/
theorem q_beginE {x y z : Int32} {W2 R2 : Nat} {A2 : EF} (ex : x = nI W2) (ez : z = nI R2) (h1 : 1 ≤ W2) (h2 : W2 ≤ 16) (h3 : 1 ≤ R2) (h4 : R2 ≤ 32) (h5 : ¬ y < 1) (h6 : ¬ 50 < y) (hM : rMd t Wn Rm T qa qb B h A tk ag F V D LG M) (hk : ∀ M', rMd 0 W2 R2 y [] [] 0 0 A2 0 0 0 (fun _ => none) 0 LG M' → k none (wmd P M' R)) : pm_C 67 d al [.ref 16, .int x, .int y, .int z] (wmd P M R) k kx := by
  subst ex ez
  exact q_begin h1 h2 h3 h4 h5 h6 hM hk
theorem q_wordE {x : Int32} {i : Nat} (hi : i < 2 ^ 31) (ex : x = nI i) (hx : ¬ (x < 0 ∨ nI D ≤ x ∨ x < nI D - 256)) (hM : rMd t Wn Rm T qa qb B h A tk ag F V D LG M) (hk : ∀ M', rMd 0 Wn Rm T qa qb B h A tk ag F V D LG M' → k (some (.int (LG (i % 256)))) (wmd P M' R)) : pm_C 87 d al [.ref 16, .int x] (wmd P M R) k kx := by
  subst ex
  exact q_word hi hx hM hk
theorem q_toldE {x : Int32} {w : Nat} (ex : x = nI w) (hw : w ≤ 9) (iv : IV Wn Rm B h F V) (hM : rMd t Wn Rm T qa qb B h A tk ag F V D LG M) (hk : ∀ M', rMd 0 Wn Rm T qa qb B h A tk ag F V D LG M' → k (some (.int (tdA B h F A V qa qb tk ag w))) (wmd P M' R)) : pm_C 89 (d + 1) al [.ref 16, .int x] (wmd P M R) k kx := by
  subst ex
  exact q_told hw iv hM hk
theorem q_loseE0 {x : Int32} (ex : x = 0) (iv : IV Wn Rm B h F V) (hM : rMd t Wn Rm T qa qb B h A tk ag F V D LG M) (hk : ∀ M', rMd 0 Wn Rm T (lsQ qa).2 qb B h A tk ag F V D LG M' → k (some (.int (lsQ qa).1)) (wmd P M' R)) : pm_C 82 (d + 2) al [.ref 16, .int x] (wmd P M R) k kx := by
  subst ex
  exact q_lose0 iv hM hk
theorem q_loseE1 {x : Int32} (ex : x = 1) (iv : IV Wn Rm B h F V) (hM : rMd t Wn Rm T qa qb B h A tk ag F V D LG M) (hk : ∀ M', rMd 0 Wn Rm T qa (lsQ qb).2 B h A tk ag F V D LG M' → k (some (.int (lsQ qb).1)) (wmd P M' R)) : pm_C 82 (d + 2) al [.ref 16, .int x] (wmd P M R) k kx := by
  subst ex
  exact q_lose1 iv hM hk
theorem q_twiceE0 {x : Int32} (ex : x = 0) (iv : IV Wn Rm B h F V) (hM : rMd t Wn Rm T qa qb B h A tk ag F V D LG M) (hk : ∀ M', rMd 0 Wn Rm T (twQ Rm qa).2 qb B h A tk ag F V D LG M' → k (some (.int (twQ Rm qa).1)) (wmd P M' R)) : pm_C 84 (d + 2) al [.ref 16, .int x] (wmd P M R) k kx := by
  subst ex
  exact q_twice0 iv hM hk
theorem q_twiceE1 {x : Int32} (ex : x = 1) (iv : IV Wn Rm B h F V) (hM : rMd t Wn Rm T qa qb B h A tk ag F V D LG M) (hk : ∀ M', rMd 0 Wn Rm T qa (twQ Rm qb).2 B h A tk ag F V D LG M' → k (some (.int (twQ Rm qb).1)) (wmd P M' R)) : pm_C 84 (d + 2) al [.ref 16, .int x] (wmd P M R) k kx := by
  subst ex
  exact q_twice1 iv hM hk
theorem q_delayE0 {x : Int32} (ex : x = 0) (iv : IV Wn Rm B h F V) (hM : rMd t Wn Rm T qa qb B h A tk ag F V D LG M) (hk : ∀ M', rMd 0 Wn Rm T (dyQ qa).2 qb B h A tk ag F V D LG M' → k (some (.int (dyQ qa).1)) (wmd P M' R)) : pm_C 85 (d + 2) al [.ref 16, .int x] (wmd P M R) k kx := by
  subst ex
  exact q_delay0 iv hM hk
theorem q_delayE1 {x : Int32} (ex : x = 1) (iv : IV Wn Rm B h F V) (hM : rMd t Wn Rm T qa qb B h A tk ag F V D LG M) (hk : ∀ M', rMd 0 Wn Rm T qa (dyQ qb).2 B h A tk ag F V D LG M' → k (some (.int (dyQ qb).1)) (wmd P M' R)) : pm_C 85 (d + 2) al [.ref 16, .int x] (wmd P M R) k kx := by
  subst ex
  exact q_delay1 iv hM hk
theorem q_changeE0 {x y : Int32} (ex : x = 0) (h1 : ¬ y < 0) (h2 : ¬ 95 < y) (iv : IV Wn Rm B h F V) (hM : rMd t Wn Rm T qa qb B h A tk ag F V D LG M) (hk : ∀ M', rMd 0 Wn Rm T (chQ y qa).2 qb B h A tk ag F V D LG M' → k (some (.int (chQ y qa).1)) (wmd P M' R)) : pm_C 83 (d + 2) al [.ref 16, .int x, .int y] (wmd P M R) k kx := by
  subst ex
  obtain ⟨b, hb, rfl⟩ := nI_of2 (n := 95) (M := 95) (by decide) h1 (Int32.not_lt.mp h2)
  exact q_change0 (by omega) iv hM hk
theorem q_frameYE0 {x y z : Int32} (ex : x = 0) (iv : IV Wn Rm B h F V) (hz : ¬ (z < 0 ∨ 1 < z)) (hy : y < 0 ∨ nI qa.length ≤ y) (hM : rMd t Wn Rm T qa qb B h A tk ag F V D LG M) (hk : ∀ M', rMd 2 Wn Rm T qa qb B h A tk ag F V D LG M' → k (some (.long 0)) (wmd P M' R)) : pm_C 88 (d + 2) al [.ref 16, .int x, .int y, .int z] (wmd P M R) k kx := by
  subst ex
  exact q_frameY0 iv hz hy hM hk
theorem q_frame0E0 {x y z : Int32} {i : Nat} {f : Int64 × Int32} (ex : x = 0) (ey : y = nI i) (ez : z = 0) (iv : IV Wn Rm B h F V) (hf : qa[i]? = some f) (hM : rMd t Wn Rm T qa qb B h A tk ag F V D LG M) (hk : ∀ M', rMd 0 Wn Rm T qa qb B h A tk ag F V D LG M' → k (some (.long f.1)) (wmd P M' R)) : pm_C 88 (d + 2) al [.ref 16, .int x, .int y, .int z] (wmd P M R) k kx := by
  subst ex ey
  exact q_frame0 iv hf (Or.inl ez) hM (fun _ => hk) (fun q => absurd (ez.symm.trans q) (by decide))
theorem q_frame1E0 {x y z : Int32} {i : Nat} {f : Int64 × Int32} (ex : x = 0) (ey : y = nI i) (ez : z = 1) (iv : IV Wn Rm B h F V) (hf : qa[i]? = some f) (hM : rMd t Wn Rm T qa qb B h A tk ag F V D LG M) (hk : ∀ M', rMd 0 Wn Rm T qa qb B h A tk ag F V D LG M' → k (some (.long (f.2.toInt64 &&& 4294967295))) (wmd P M' R)) : pm_C 88 (d + 2) al [.ref 16, .int x, .int y, .int z] (wmd P M R) k kx := by
  subst ex ey
  exact q_frame0 iv hf (Or.inr ez) hM (fun q => absurd (ez.symm.trans q) (by decide)) (fun _ => hk)
theorem q_changeE1 {x y : Int32} (ex : x = 1) (h1 : ¬ y < 0) (h2 : ¬ 95 < y) (iv : IV Wn Rm B h F V) (hM : rMd t Wn Rm T qa qb B h A tk ag F V D LG M) (hk : ∀ M', rMd 0 Wn Rm T qa (chQ y qb).2 B h A tk ag F V D LG M' → k (some (.int (chQ y qb).1)) (wmd P M' R)) : pm_C 83 (d + 2) al [.ref 16, .int x, .int y] (wmd P M R) k kx := by
  subst ex
  obtain ⟨b, hb, rfl⟩ := nI_of2 (n := 95) (M := 95) (by decide) h1 (Int32.not_lt.mp h2)
  exact q_change1 (by omega) iv hM hk
theorem q_frameYE1 {x y z : Int32} (ex : x = 1) (iv : IV Wn Rm B h F V) (hz : ¬ (z < 0 ∨ 1 < z)) (hy : y < 0 ∨ nI qb.length ≤ y) (hM : rMd t Wn Rm T qa qb B h A tk ag F V D LG M) (hk : ∀ M', rMd 2 Wn Rm T qa qb B h A tk ag F V D LG M' → k (some (.long 0)) (wmd P M' R)) : pm_C 88 (d + 2) al [.ref 16, .int x, .int y, .int z] (wmd P M R) k kx := by
  subst ex
  exact q_frameY1 iv hz hy hM hk
theorem q_frame0E1 {x y z : Int32} {i : Nat} {f : Int64 × Int32} (ex : x = 1) (ey : y = nI i) (ez : z = 0) (iv : IV Wn Rm B h F V) (hf : qb[i]? = some f) (hM : rMd t Wn Rm T qa qb B h A tk ag F V D LG M) (hk : ∀ M', rMd 0 Wn Rm T qa qb B h A tk ag F V D LG M' → k (some (.long f.1)) (wmd P M' R)) : pm_C 88 (d + 2) al [.ref 16, .int x, .int y, .int z] (wmd P M R) k kx := by
  subst ex ey
  exact q_frame1 iv hf (Or.inl ez) hM (fun _ => hk) (fun q => absurd (ez.symm.trans q) (by decide))
theorem q_frame1E1 {x y z : Int32} {i : Nat} {f : Int64 × Int32} (ex : x = 1) (ey : y = nI i) (ez : z = 1) (iv : IV Wn Rm B h F V) (hf : qb[i]? = some f) (hM : rMd t Wn Rm T qa qb B h A tk ag F V D LG M) (hk : ∀ M', rMd 0 Wn Rm T qa qb B h A tk ag F V D LG M' → k (some (.long (f.2.toInt64 &&& 4294967295))) (wmd P M' R)) : pm_C 88 (d + 2) al [.ref 16, .int x, .int y, .int z] (wmd P M R) k kx := by
  subst ex ey
  exact q_frame1 iv hf (Or.inr ez) hM (fun q => absurd (ez.symm.trans q) (by decide)) (fun _ => hk)
end PH
