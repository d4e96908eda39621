/-! THE REFERENCE: what comes, what is told -/
theorem mkN_add {Pf : Nat → Bool} : ∀ (x r i : Nat) (s : EF × Nat), mkN Pf (x + r) i s = mkN Pf r (i + x) (mkN Pf x i s)
  | 0, r, i, s => by rw [Nat.zero_add]; rfl
  | x + 1, r, i, s => by
    rw [show x + 1 + r = (x + r) + 1 by omega, mkN, mkN, mkN_add x r (i + 1), show i + 1 + x = i + (x + 1) by omega]
theorem mkN_skip {mp : Int32} {b h : Nat} (hb : b ≤ h) (s : EF × Nat) : mkN (akP mp b) h 0 s = mkN (akP mp b) (h - (b + 1)) (b + 1) (mkN (akP mp b) b 0 s) := by
  rw [show h = b + (h - b) by omega, mkN_add, Nat.zero_add]
  rcases Nat.lt_or_ge b h with hl | hl
  · obtain ⟨c, hc⟩ : ∃ c, h - b = c + 1 := ⟨h - b - 1, by omega⟩
    rw [show b + (h - b) - (b + 1) = c by omega, hc, mkN]
    obtain ⟨A2, n2⟩ := mkN (akP mp b) b 0 s
    rw [mk1_n akP_eq]
  · rw [show h - b = 0 by omega, show b + 0 - (b + 1) = 0 by omega]
    rfl
section PM4
variable {d : Nat} {al : Bool} {k : pm_K} {kx : pm_X} {cb sb : Nat} {R : pm_D} {P : LkP} {t W T Rr Bi N Fi Di we ag tk : Int32} {wi ma wo he ae ca tr lo hd : Nat → Int32} {Wn Rm B h F D : Nat} {Q : Nat → Qu} {A : EF} {V : VF}
/-! comeToA -/
theorem l_base {fi : Int32} {c : Nat} : ∀ (h B : Nat) (A : EF), B < 256 → h ≤ 16 → rE 256 B h A wo ae he → k (some (.int (nI c))) (wm P t W T Rr (nI (mvB h B A).2.1) N Fi Di we ag tk wi ma wo he ae ca tr lo hd R) →
    pm_J 79 d al none k kx 209 [some (.ref 16), none, none, none, none, none, none, some (.int (nI c)), some (.int (nI h))] [] (wm P t W T Rr (nI B) N Fi Di we ag tk wi ma wo he ae ca tr lo hd R) cb sb := by
  intro h
  induction h with
  | zero =>
    intro B A hB _ hr hk
    exact pm_run 40 (And.intro (fun _ => hk) (fun h => absurd (by decide +kernel) h))
  | succ h ih =>
    intro B A hB h16 hr hk
    obtain ⟨-, -, hv⟩ := hr 0 (by omega)
    have ec : (nI B).toNatClampNeg = (B + 0) % 256 := by rw [nI_clamp (by omega)]; omega
    refine pm_run 60 (And.intro (fun h => absurd h (nI_nle (by omega) (by omega))) (fun _ => And.intro (vin (by omega) (by omega)) (And.intro (fun g => ?_) (fun g => ?_))))
    · rw [ec, hv, bI0] at g
      unfold mvB at hk
      rw [g] at hk
      exact hk
    · rw [ec, hv, bI1] at g
      unfold mvB at hk
      rw [g] at hk
      have e2 : (nI B + Int32.ofNat 1) &&& Int32.ofNat 255 = nI ((B + 1) % 256) := by
        show (nI B + 1) &&& 255 = _
        rw [nI_1, n255 (by omega)]
      refine pm_J.locals (M := [some (.ref 16), none, none, none, none, none, none, some (.int (nI c)), some (.int (nI h))]) ?_ ⟨rfl, rfl, congrArg (fun z => some (Value.int z)) (pk_m1 _), trivial⟩
      rw [e2]
      exact ih ((B + 1) % 256) (fun i => A (i + 1)) (Nat.mod_lt _ (by omega)) (by omega) (rE_shift (Or.inr rfl) hr) hk
theorem l_hear2 {mp : Int32} {Mp b nn : Nat} (hM : Mp < 65536) (hmp : mp = nI Mp) (hB : B < 256) (hh : h ≤ 16) (hb : b ≤ h) (hn : nn < 256) (hbn : b = (nn + 256 - B) % 256) : ∀ (r i : Nat) (A : EF) (c : Nat) (he : Nat → Int32), i + r = 16 → rE 256 B h A wo ae he → (∀ he' : Nat → Int32, rE 256 B h (mkN (akP mp b) (h - (b + 1 + i)) (b + 1 + i) (A, c)).1 wo ae he' → k (some (.int (nI (mkN (akP mp b) (h - (b + 1 + i)) (b + 1 + i) (A, c)).2))) (wm P t W T Rr (nI (mvB h B (mkN (akP mp b) (h - (b + 1 + i)) (b + 1 + i) (A, c)).1).2.1) N Fi Di we ag tk wi ma wo he' ae ca tr lo hd R)) →
    pm_J 79 (d + 1) al none k kx 150 [some (.ref 16), none, none, some (.int (nI nn)), some (.int mp), some (.int (nI h)), some (.int (nI b)), some (.int (nI c)), some (.int (nI i))] [] (wm P t W T Rr (nI B) N Fi Di we ag tk wi ma wo he ae ca tr lo hd R) cb sb := by
  intro r
  induction r with
  | zero =>
    intro i A c he hi hr hk
    have h0 : h - (b + 1 + i) = 0 := by omega
    rw [h0] at hk
    have hJ := l_base (d := d + 1) (al := al) (k := k) (kx := kx) (cb := cb) (sb := sb) (R := R) (P := P) (t := t) (W := W) (T := T) (Rr := Rr) (N := N) (Fi := Fi) (Di := Di) (we := we) (ag := ag) (tk := tk) (wi := wi) (ma := ma) (ca := ca) (tr := tr) (lo := lo) (hd := hd) (fi := 0) (c := c) h B A hB hh hr (hk he hr)
    exact pm_run 40 (And.intro (fun _ => pm_J.locals hJ ⟨rfl, rfl, rfl, trivial⟩) (fun h => absurd (nI_le (a := 16) (by omega) (by omega)) h))
  | succ r ih =>
    intro i A c he hi hr hk
    have ebit : (mp >>> (nI i &&& 31)) &&& Int32.ofNat 1 = nI (Mp / 2 ^ i % 2) := by rw [hmp]; exact m_bitN hM (by omega)
    have efb : f_bit mp (nI i) = nI (Mp / 2 ^ i % 2) := by rw [hmp]; exact f_bitN hM (by omega)
    have eb1 : nI b + Int32.ofNat 1 + nI i = nI (b + 1 + i) := by rw [show nI b + Int32.ofNat 1 = nI (b + 1) from nI_1 b, nI_add]
    have en : (nI nn + Int32.ofNat 1 + nI i) &&& Int32.ofNat 255 = nI ((B + (b + 1 + i)) % 256) := by
      rw [show nI nn + Int32.ofNat 1 = nI (nn + 1) from nI_1 nn, nI_add]
      refine (n255 (by omega)).trans (congrArg nI ?_)
      omega
    have skip : (∀ he' : Nat → Int32, rE 256 B h (mkN (akP mp b) (h - (b + 1 + (i + 1))) (b + 1 + (i + 1)) (A, c)).1 wo ae he' → k (some (.int (nI (mkN (akP mp b) (h - (b + 1 + (i + 1))) (b + 1 + (i + 1)) (A, c)).2))) (wm P t W T Rr (nI (mvB h B (mkN (akP mp b) (h - (b + 1 + (i + 1))) (b + 1 + (i + 1)) (A, c)).1).2.1) N Fi Di we ag tk wi ma wo he' ae ca tr lo hd R)) → pm_J 79 (d + 1) al none k kx 150 [some (.ref 16), none, none, some (.int (nI nn)), some (.int mp), some (.int (nI h)), some (.int (nI b)), some (.int (nI c)), some (.int (nI i + Int32.ofNat 1))] [] (wm P t W T Rr (nI B) N Fi Di we ag tk wi ma wo he ae ca tr lo hd R) cb sb := fun hk => by
      have := ih (i + 1) A c he (by omega) hr hk
      rw [nI_succ] at this
      exact this
    refine pm_run 80 (And.intro (fun h => absurd h (nI_ge (b := 16) (by omega) (by omega))) (fun _ => And.intro (fun g => ?_) (fun g => And.intro (fun g2 => ?_) (fun g2 => And.intro ⟨Nat.zero_le _, Nat.zero_le _⟩ ?_))))
    · -- the bit is 0
      rw [ebit] at g
      have hz : f_bit mp (nI i) = 0 := by
        rw [efb]
        have h3 : Mp / 2 ^ i % 2 < 2 := Nat.mod_lt _ (by decide)
        rcases Nat.lt_or_ge (Mp / 2 ^ i % 2) 1 with h4 | h4
        · rw [show Mp / 2 ^ i % 2 = 0 by omega]
          rfl
        · exact absurd (by rw [show Mp / 2 ^ i % 2 = 1 by omega]; rfl) g
      refine pm_J.locals (skip ?_) ⟨rfl, rfl, rfl, rfl, rfl, rfl, rfl, trivial⟩
      rcases Nat.lt_or_ge (b + 1 + i) h with hl | hl
      · obtain ⟨q, hq⟩ : ∃ q, h - (b + 1 + i) = q + 1 := ⟨h - (b + 1 + i) - 1, by omega⟩
        have e9 : mkN (akP mp b) (q + 1) (b + 1 + i) (A, c) = mkN (akP mp b) q (b + 1 + i + 1) (A, c) := by rw [mkN, mk1_n (akP_g0 (by omega) (by rw [show b + 1 + i - b - 1 = i by omega]; exact hz))]
        rw [hq, e9] at hk
        rw [show h - (b + 1 + (i + 1)) = q by omega]
        exact hk
      · rw [show h - (b + 1 + i) = 0 by omega] at hk
        rw [show h - (b + 1 + (i + 1)) = 0 by omega]
        exact hk
    · rw [eb1] at g2
      have hl : h ≤ b + 1 + i := (nI_leI (by omega) (by omega)).mp g2
      refine pm_J.locals (skip ?_) ⟨rfl, rfl, rfl, rfl, rfl, rfl, rfl, trivial⟩
      rw [show h - (b + 1 + i) = 0 by omega] at hk
      rw [show h - (b + 1 + (i + 1)) = 0 by omega]
      exact hk
    · rw [eb1] at g2
      have hl : b + 1 + i < h := Nat.lt_of_not_le (fun z => g2 (nI_le z (by omega)))
      obtain ⟨-, -, hv⟩ := hr (b + 1 + i) hl
      have hnz : ¬ f_bit mp (nI i) = 0 := by
        rw [efb]
        rw [ebit] at g
        rw [g]
        decide
      have hP : akP mp b (b + 1 + i) = true := akP_gt (by omega) (by rw [show b + 1 + i - b - 1 = i by omega]; exact hnz)
      obtain ⟨q, hq⟩ : ∃ q, h - (b + 1 + i) = q + 1 := ⟨h - (b + 1 + i) - 1, by omega⟩
      rw [en]
      refine c_hear (Nat.mod_lt _ (by omega)) (fun g3 => ?_) (fun g3 => ?_)
      · rw [hv, bI0] at g3
        have e9 : mkN (akP mp b) (q + 1) (b + 1 + i) (A, c) = mkN (akP mp b) q (b + 1 + i + 1) (uE A (b + 1 + i) ((A (b + 1 + i)).1, (A (b + 1 + i)).2.1, true), c + 1) := by rw [mkN, mk1_y hP g3]
        rw [hq, e9] at hk
        refine pm_J.locals (M := [some (.ref 16), none, none, some (.int (nI nn)), some (.int mp), some (.int (nI h)), some (.int (nI b)), some (.int (nI (c + 1))), some (.int (nI (i + 1)))]) (ih (i + 1) _ (c + 1) _ (by omega) (rE_ack (Or.inr rfl) hh hr hl) ?_) ⟨rfl, rfl, rfl, rfl, rfl, congrArg (fun z => some (Value.int z)) (nI_succ c).symm, congrArg (fun z => some (Value.int z)) (nI_succ i).symm, trivial⟩
        rw [show h - (b + 1 + (i + 1)) = q by omega]
        exact hk
      · rw [hv, bI1] at g3
        have e9 : mkN (akP mp b) (q + 1) (b + 1 + i) (A, c) = mkN (akP mp b) q (b + 1 + i + 1) (A, c) := by rw [mkN, mk1_a g3]
        rw [hq, e9] at hk
        refine pm_J.locals (skip ?_) ⟨rfl, rfl, rfl, rfl, rfl, congrArg (fun z => some (Value.int z)) (Int32.add_zero _), rfl, trivial⟩
        rw [show h - (b + 1 + (i + 1)) = q by omega]
        exact hk
theorem l_hear1 {mp : Int32} {Mp b nn : Nat} (hM : Mp < 65536) (hmp : mp = nI Mp) (hB : B < 256) (hh : h ≤ 16) (hb : b ≤ h) (hn : nn < 256) (hbn : b = (nn + 256 - B) % 256) : ∀ (r i : Nat) (A : EF) (c : Nat) (he : Nat → Int32), i + r = b → rE 256 B h A wo ae he → (∀ he' : Nat → Int32, rE 256 B h (mkN (akP mp b) (h - (b + 1)) (b + 1) (mkN (akP mp b) r i (A, c))).1 wo ae he' → k (some (.int (nI (mkN (akP mp b) (h - (b + 1)) (b + 1) (mkN (akP mp b) r i (A, c))).2))) (wm P t W T Rr (nI (mvB h B (mkN (akP mp b) (h - (b + 1)) (b + 1) (mkN (akP mp b) r i (A, c))).1).2.1) N Fi Di we ag tk wi ma wo he' ae ca tr lo hd R)) →
    pm_J 79 (d + 1) al none k kx 114 [some (.ref 16), none, none, some (.int (nI nn)), some (.int mp), some (.int (nI h)), some (.int (nI b)), some (.int (nI c)), some (.int (nI i))] [] (wm P t W T Rr (nI B) N Fi Di we ag tk wi ma wo he ae ca tr lo hd R) cb sb := by
  intro r
  induction r with
  | zero =>
    intro i A c he hi hr hk
    have hJ := l_hear2 (d := d) (al := al) (k := k) (kx := kx) (cb := cb) (sb := sb) (R := R) (P := P) (t := t) (W := W) (T := T) (Rr := Rr) (N := N) (Fi := Fi) (Di := Di) (we := we) (ag := ag) (tk := tk) (wi := wi) (ma := ma) (ca := ca) (tr := tr) (lo := lo) (hd := hd) (mp := mp) (Mp := Mp) (b := b) (nn := nn) hM hmp hB hh hb hn hbn 16 0 A c he rfl hr hk
    exact pm_run 40 (And.intro (fun _ => pm_J.locals hJ ⟨rfl, rfl, rfl, rfl, rfl, rfl, rfl, trivial⟩) (fun h => absurd (nI_le (by omega) (by omega)) h))
  | succ r ih =>
    intro i A c he hi hr hk
    have en : (nI B + nI i) &&& Int32.ofNat 255 = nI ((B + i) % 256) := plus256 (by omega) (by omega)
    obtain ⟨-, -, hv⟩ := hr i (by omega)
    have hP : akP mp b i = true := akP_lt (by omega)
    refine pm_run 80 (And.intro (fun h => absurd h (nI_ge (by omega) (by omega))) (fun _ => And.intro ⟨Nat.zero_le _, Nat.zero_le _⟩ ?_))
    rw [en]
    refine c_hear (Nat.mod_lt _ (by omega)) (fun g3 => ?_) (fun g3 => ?_)
    · rw [hv, bI0] at g3
      have e9 : mkN (akP mp b) (r + 1) i (A, c) = mkN (akP mp b) r (i + 1) (uE A i ((A i).1, (A i).2.1, true), c + 1) := by rw [mkN, mk1_y hP g3]
      rw [e9] at hk
      exact pm_J.locals (M := [some (.ref 16), none, none, some (.int (nI nn)), some (.int mp), some (.int (nI h)), some (.int (nI b)), some (.int (nI (c + 1))), some (.int (nI (i + 1)))]) (ih (i + 1) _ (c + 1) _ (by omega) (rE_ack (Or.inr rfl) hh hr (by omega)) hk) ⟨rfl, rfl, rfl, rfl, rfl, congrArg (fun z => some (Value.int z)) (nI_succ c).symm, congrArg (fun z => some (Value.int z)) (nI_succ i).symm, trivial⟩
    · rw [hv, bI1] at g3
      have e9 : mkN (akP mp b) (r + 1) i (A, c) = mkN (akP mp b) r (i + 1) (A, c) := by rw [mkN, mk1_a g3]
      rw [e9] at hk
      exact pm_J.locals (M := [some (.ref 16), none, none, some (.int (nI nn)), some (.int mp), some (.int (nI h)), some (.int (nI b)), some (.int (nI c)), some (.int (nI (i + 1)))]) (ih (i + 1) A c he (by omega) hr hk) ⟨rfl, rfl, rfl, rfl, rfl, congrArg (fun z => some (Value.int z)) (Int32.add_zero _), congrArg (fun z => some (Value.int z)) (nI_succ i).symm, trivial⟩
theorem c_mcomeA (hB : B < 256) (hh : h ≤ 16) (hR : Rm ≤ 32) (hQ : rQ Rm Q wi ma) (hE : rE 256 B h A wo ae he) (hk : ∀ (wi' ma' he' : Nat → Int32), rQ Rm (uQ Q 1 (cA (Q 1) h B A).2.1) wi' ma' → rE 256 (cA (Q 1) h B A).2.2.2.1 (cA (Q 1) h B A).2.2.1 (cA (Q 1) h B A).2.2.2.2 wo ae he' → (((cA (Q 1) h B A).2.2.2.1 + (cA (Q 1) h B A).2.2.1) % 256 = (B + h) % 256) → k (some (.int (cA (Q 1) h B A).1)) (wm P 0 W T Rr (nI (cA (Q 1) h B A).2.2.2.1) (nI ((B + h) % 256)) Fi Di we ag tk wi' ma' wo he' ae ca tr lo hd R)) : pm_C 79 (d + 3) al [.ref 16] (wm P t W T Rr (nI B) (nI ((B + h) % 256)) Fi Di we ag tk wi ma wo he ae ca tr lo hd R) k kx := by
  obtain ⟨q1, q2, q3⟩ := hQ 1 (by omega)
  match hq : Q 1 with
  | [] =>
    rw [hq] at hk q2
    have hk := hk wi ma he (by show rQ Rm (uQ Q 1 []) wi ma; rw [uQ_id hq.symm]; exact hQ) hE rfl
    refine pm_Ci rfl (pm_run 60 (And.intro (vin (n := 1) (by omega) (by omega)) (And.intro (fun h => absurd ?_ h) (fun _ => hk))))
    exact q2
  | f :: q =>
    rw [hq] at hk q1 q2 q3
    have hb : ∀ j, j < 12 → wi (384 + j) = nI (fB f j) := fun j hj => q1 0 f rfl j hj
    have hi1 : vp_in (nI (384 * 1 + 12 * 0) + Int32.ofNat 1) 768 := ix2 (b := 1) (by omega) (by omega)
    have hi6 : vp_in (nI (384 * 1 + 12 * 0) + Int32.ofNat 6) 768 := ix2 (b := 6) (by omega) (by omega)
    have hi7 : vp_in (nI (384 * 1 + 12 * 0) + Int32.ofNat 7) 768 := ix2 (b := 7) (by omega) (by omega)
    have e1 : wi (nI (384 * 1 + 12 * 0) + Int32.ofNat 1).toNatClampNeg = f_num f.1 := by
      rw [show (nI (384 * 1 + 12 * 0) + Int32.ofNat 1).toNatClampNeg = 384 + 1 from cl2 (b := 1) (by omega), hb 1 (by omega), fB_num]
    have e6 : wi (nI (384 * 1 + 12 * 0) + Int32.ofNat 6).toNatClampNeg = nI (fB f 6) := by
      rw [show (nI (384 * 1 + 12 * 0) + Int32.ofNat 6).toNatClampNeg = 384 + 6 from cl2 (b := 6) (by omega), hb 6 (by omega)]
    have e7 : wi (nI (384 * 1 + 12 * 0) + Int32.ofNat 7).toNatClampNeg = nI (fB f 7) := by
      rw [show (nI (384 * 1 + 12 * 0) + Int32.ofNat 7).toNatClampNeg = 384 + 7 from cl2 (b := 7) (by omega), hb 7 (by omega)]
    have em : (wi (nI (384 * 1 + 12 * 0) + Int32.ofNat 6).toNatClampNeg <<< (Int32.ofNat 8 &&& 31)) ||| wi (nI (384 * 1 + 12 * 0) + Int32.ofNat 7).toNatClampNeg = f_map f.1 := by
      rw [e6, e7]
      exact fB_map f
    obtain ⟨en, hn⟩ := fN_ok f.1
    obtain ⟨Mp, hM, hmp⟩ := f_mapN f.1
    have eh : (nI ((B + h) % 256) - nI B) &&& 255 = nI h := held_eq hB hh
    have ebb : (f_num f.1 - nI B) &&& 255 = nI ((fN f.1 + 256 - B) % 256) := by rw [en]; exact nsub (by omega) (by omega)
    have hne : ¬ ma 1 = 0 := by
      rw [q2]
      exact nI_ne0 (by simp) (by simp only [List.length_cons] at q3 ⊢; omega)
    refine pm_Ci rfl (pm_run 17 (And.intro (vin (n := 1) (by omega) (by omega)) (And.intro (fun _ => And.intro ⟨Nat.zero_le _, Nat.zero_le _⟩ (c_at (w := 1) (i := 0) (And.intro ⟨Nat.zero_le _, Nat.zero_le _⟩ (c_mgood (w := 1) (by omega) hR hQ hq (fun g1 g2 => ?_) (fun g => ?_))))) (fun h => absurd h hne))))
    · refine pm_run 40 (And.intro hi1 (And.intro hi6 (And.intro hi7 (And.intro ⟨Nat.zero_le _, Nat.zero_le _⟩ (c_drop (w := 1) (by omega) hR hQ hq (fun wi' ma' hQ' => And.intro (fun _ => And.intro ⟨Nat.zero_le _, Nat.zero_le _⟩ (c_far (u := []) (e0 := .inr (0, [])) ?_)) (fun h => absurd h (by decide))))))))
      rw [eh, e1]
      refine And.intro ⟨Nat.zero_le _, Nat.zero_le _⟩ (c_far (u := []) (e0 := .inr (0, [])) ?_)
      rw [ebb]
      refine pm_run 40 (And.intro (fun g3 => ?_) (fun g3 => ?_))
      · have g3 : (fN f.1 + 256 - B) % 256 ≤ h := (nI_leI (by omega) (by omega)).mp g3
        have e : cA (f :: q) h B A = (nI (mkN (akP (f_map f.1) ((fN f.1 + 256 - B) % 256)) h 0 (A, 0)).2, q, mvB h B (mkN (akP (f_map f.1) ((fN f.1 + 256 - B) % 256)) h 0 (A, 0)).1) := (if_pos ⟨g1, g2⟩).trans (if_neg (by omega))
        rw [e, mkN_skip g3] at hk
        have hJ := l_hear1 (d := d + 2) (al := al) (k := k) (kx := kx) (cb := 0) (sb := 0) (R := R) (P := P) (t := 0) (W := W) (T := T) (Rr := Rr) (N := nI ((B + h) % 256)) (Fi := Fi) (Di := Di) (we := we) (ag := ag) (tk := tk) (wi := wi') (ma := ma') (ca := ca) (tr := tr) (lo := lo) (hd := hd) (mp := f_map f.1) (Mp := Mp) (b := (fN f.1 + 256 - B) % 256) (nn := fN f.1) hM hmp hB hh g3 hn rfl _ 0 A 0 he (Nat.zero_add _) hE (fun he' hE' => by
          obtain ⟨k1, k2, k3, k4⟩ := mvB_ok (Or.inr rfl) h B _ hB hE'
          exact hk wi' ma' he' hQ' k1 k3)
        exact pm_J.room (pm_J.locals hJ ⟨rfl, congrArg (fun z => some (Value.int z)) en, congrArg (fun z => some (Value.int z)) em, rfl, rfl, rfl, rfl, trivial⟩) (Nat.zero_le _) (Nat.zero_le _)
      · have g3 : h < (fN f.1 + 256 - B) % 256 := Nat.lt_of_not_le (fun z => g3 (nI_le z (by omega)))
        have e : cA (f :: q) h B A = (-2, q, h, B, A) := (if_pos ⟨g1, g2⟩).trans (if_pos g3)
        rw [e] at hk
        exact hk wi' ma' he hQ' hE rfl
    · have e : cA (f :: q) h B A = (-3, q, h, B, A) := if_neg g
      rw [e] at hk
      exact pm_run 40 (And.intro hi1 (And.intro hi6 (And.intro hi7 (And.intro ⟨Nat.zero_le _, Nat.zero_le _⟩ (c_drop (w := 1) (by omega) hR hQ hq (fun wi' ma' hQ' => And.intro (fun h => absurd rfl h) (fun _ => hk wi' ma' he hQ' hE rfl)))))))
/-! comeToB -/
theorem l_mdlv {fs : Int32} : ∀ (r : Nat) (V : VF) (F D : Nat) (lo tr : Nat → Int32), r ≤ 16 → F < 256 → D + r < 2 ^ 31 → (∀ j, r ≤ j → V j = none) → rV 256 F V ca tr → (∀ tr' : Nat → Int32, rV 256 (dlv r (V, F, D, lo)).2.1 (dlv r (V, F, D, lo)).1 ca tr' → pm_J 80 d al none k kx 188 [some (.ref 16), none, none, none, none, some (.int fs), some (.int 0), some (.int 0)] [] (wm P t W T Rr Bi N (nI (dlv r (V, F, D, lo)).2.1) (nI (dlv r (V, F, D, lo)).2.2.1) we ag tk wi ma wo he ae ca tr' (dlv r (V, F, D, lo)).2.2.2 hd R) cb sb) →
    pm_J 80 d al none k kx 111 [some (.ref 16), none, none, none, none, some (.int fs), none, none] [] (wm P t W T Rr Bi N (nI F) (nI D) we ag tk wi ma wo he ae ca tr lo hd R) cb sb := by
  intro r
  induction r with
  | zero =>
    intro V F D lo tr hr16 hF hD hV hr hk
    obtain ⟨hv, hw⟩ := hr 0 (by omega)
    have ec : (nI F).toNatClampNeg = (F + 0) % 256 := by rw [nI_clamp (by omega)]; omega
    refine pm_run 60 (And.intro (vin hF (by omega)) (And.intro (fun _ => pm_J.locals (hk tr hr) ⟨rfl, rfl, rfl, rfl, trivial⟩) (fun g => absurd ?_ g)))
    rw [ec, hv, hV 0 (by omega)]
    rfl
  | succ r ih =>
    intro V F D lo tr hr16 hF hD hV hr hk
    obtain ⟨hv, hw⟩ := hr 0 (by omega)
    have ec : (nI F).toNatClampNeg = (F + 0) % 256 := by rw [nI_clamp (by omega)]; omega
    have er : nI D - nI D / Int32.ofNat 256 * Int32.ofNat 256 = nI (D % 256) := pk_rem (d := 256) (by omega) (by omega) (by omega)
    have hir : vp_in (nI D - nI D / Int32.ofNat 256 * Int32.ofNat 256) 256 := by rw [er]; exact vin (by omega) (by omega)
    have ed : (nI D - nI D / Int32.ofNat 256 * Int32.ofNat 256).toNatClampNeg = D % 256 := by rw [er, nI_clamp (by omega)]
    refine pm_run 60 (And.intro (vin hF (by omega)) (And.intro (fun g => ?_) (fun g => ?_)))
    · rw [ec, hv, bI0] at g
      have hn : V 0 = none := Option.isSome_eq_false_iff.mp g |> Option.isNone_iff_eq_none.mp
      unfold dlv at hk
      simp only [hn] at hk
      exact pm_J.locals (hk tr hr) ⟨rfl, rfl, rfl, rfl, trivial⟩
    · rw [ec, hv, bI1] at g
      obtain ⟨x, hx⟩ := Option.isSome_iff_exists.mp g
      unfold dlv at hk
      simp only [hx] at hk
      have hs := rV_shift (Or.inr rfl) hr (hV 256 (by omega))
      have e2 : (nI F + Int32.ofNat 1) &&& Int32.ofNat 255 = nI ((F + 1) % 256) := by
        show (nI F + 1) &&& 255 = _
        rw [nI_1, n255 (by omega)]
      have hJ := ih (fun i => V (i + 1)) ((F + 1) % 256) (D + 1) (upd lo (D % 256) x) (upd tr (F % 256) 0) (by omega) (Nat.mod_lt _ (by omega)) (by omega) (fun j hj => hV (j + 1) (by omega)) hs hk
      refine And.intro (by decide) (And.intro (vin hF (by omega)) (And.intro hir (And.intro (vin hF (by omega)) ?_)))
      refine pm_J.locals (M := [some (.ref 16), none, none, none, none, some (.int fs), none, none]) ?_ ⟨rfl, rfl, trivial⟩
      rw [ed, ec, hw x hx, e2]
      rw [nI_succ D] at hJ
      exact hJ
theorem l_mack {fs : Int32} (hF : F < 256) (hR : Rm ≤ 32) (hQ : rQ Rm Q wi ma) (hr : rV 256 F V ca tr) : ∀ (r i : Nat) (m : Int32), i + r = 16 → (∀ wi' ma' : Nat → Int32, rQ Rm (uQ Q 1 (if (Q 1).length < Rm then Q 1 ++ [fr (f_of 1 (nI F) 0 (akM V r i m))] else Q 1)) wi' ma' → ∀ v : Int32, (fs = 0 → v = 1) → (¬ fs = 0 → v = 0) → k (some (.int v)) (wm P 0 W T (nI Rm) Bi N (nI F) Di we ag tk wi' ma' wo he ae ca tr lo hd R)) →
    pm_J 80 (d + 3) al none k kx 188 [some (.ref 16), none, none, none, none, some (.int fs), some (.int m), some (.int (nI i))] [] (wm P 0 W T (nI Rm) Bi N (nI F) Di we ag tk wi ma wo he ae ca tr lo hd R) cb sb := by
  intro r
  induction r with
  | zero =>
    intro i m hi hk
    refine pm_run 60 (And.intro (fun _ => And.intro ⟨Nat.zero_le _, Nat.zero_le _⟩ (c_mput (w := 1) (by omega) hR hQ (fun g => ?_) (fun g wi' ma' hQ' => ?_))) (fun h => absurd (nI_le (a := 16) (by omega) (by omega)) h))
    · have hk := hk wi ma (by rw [if_neg (by omega), uQ_id rfl]; exact hQ)
      exact And.intro (fun z => hk 1 (fun _ => rfl) (fun q => absurd z q)) (fun z => hk 0 (fun q => absurd q z) (fun _ => rfl))
    · have hk := hk wi' ma' (by rw [if_pos g]; exact hQ')
      exact And.intro (fun z => hk 1 (fun _ => rfl) (fun q => absurd z q)) (fun z => hk 0 (fun q => absurd q z) (fun _ => rfl))
  | succ r ih =>
    intro i m hi hk
    obtain ⟨hv, -⟩ := hr (i + 1) (by omega)
    have en : (nI F + Int32.ofNat 1 + nI i) &&& Int32.ofNat 255 = nI ((F + (i + 1)) % 256) := by
      rw [show nI F + Int32.ofNat 1 = nI (F + 1) from nI_1 F, nI_add]
      refine (n255 (by omega)).trans (congrArg nI ?_)
      omega
    have ec : ((nI F + Int32.ofNat 1 + nI i) &&& Int32.ofNat 255).toNatClampNeg = (F + (i + 1)) % 256 := by rw [en, nI_clamp (by omega)]
    have hin : vp_in ((nI F + Int32.ofNat 1 + nI i) &&& Int32.ofNat 255) 256 := by rw [en]; exact vin (by omega) (by omega)
    refine pm_run 60 (And.intro (fun h => absurd h (nI_ge (b := 16) (by omega) (by omega))) (fun _ => And.intro hin (And.intro (fun g => ?_) (fun g => ?_))))
    · rw [ec, hv, bI0] at g
      refine pm_J.locals (M := [some (.ref 16), none, none, none, none, some (.int fs), some (.int m), some (.int (nI (i + 1)))]) (ih (i + 1) m (by omega) ?_) ⟨rfl, rfl, rfl, congrArg (fun z => some (Value.int z)) (nI_succ i).symm, trivial⟩
      unfold akM at hk
      rw [g] at hk
      exact hk
    · rw [ec, hv, bI1] at g
      refine pm_J.locals (M := [some (.ref 16), none, none, none, none, some (.int fs), some (.int (m ||| ((1 : Int32) <<< (nI i &&& 31)))), some (.int (nI (i + 1)))]) (ih (i + 1) _ (by omega) ?_) ⟨rfl, rfl, rfl, congrArg (fun z => some (Value.int z)) (nI_succ i).symm, trivial⟩
      unfold akM at hk
      rw [g] at hk
      exact hk
theorem c_mcomeB (hF : F < 256) (hW : Wn ≤ 16) (hR : Rm ≤ 32) (hD : D + 16 < 2 ^ 31) (hQ : rQ Rm Q wi ma) (hV : rV 256 F V ca tr) (hVW : ∀ j, Wn ≤ j → V j = none) (hV0 : V 0 = none) (hk : ∀ (wi' ma' ca' tr' : Nat → Int32), rQ Rm (uQ (uQ Q 0 (cB Wn Rm (Q 0) (Q 1) (V, F, D, lo)).2.1) 1 (cB Wn Rm (Q 0) (Q 1) (V, F, D, lo)).2.2.1) wi' ma' → rV 256 (cB Wn Rm (Q 0) (Q 1) (V, F, D, lo)).2.2.2.2.1 (cB Wn Rm (Q 0) (Q 1) (V, F, D, lo)).2.2.2.1 ca' tr' → k (some (.int (cB Wn Rm (Q 0) (Q 1) (V, F, D, lo)).1)) (wm P 0 (nI Wn) T (nI Rm) Bi N (nI (cB Wn Rm (Q 0) (Q 1) (V, F, D, lo)).2.2.2.2.1) (nI (cB Wn Rm (Q 0) (Q 1) (V, F, D, lo)).2.2.2.2.2.1) we ag tk wi' ma' wo he ae ca' tr' (cB Wn Rm (Q 0) (Q 1) (V, F, D, lo)).2.2.2.2.2.2 hd R)) : pm_C 80 (d + 3) al [.ref 16] (wm P t (nI Wn) T (nI Rm) Bi N (nI F) (nI D) we ag tk wi ma wo he ae ca tr lo hd R) k kx := by
  obtain ⟨q1, q2, q3⟩ := hQ 0 (by omega)
  match hq : Q 0 with
  | [] =>
    rw [hq] at hk q2
    have hk := hk wi ma ca tr (by show rQ Rm (uQ (uQ Q 0 []) 1 (Q 1)) wi ma; rw [uQ_id (Q := Q) (w := 0) hq.symm, uQ_id rfl]; exact hQ) hV
    refine pm_Ci rfl (pm_run 60 (And.intro (vin (n := 0) (by omega) (by omega)) (And.intro (fun h => absurd ?_ h) (fun _ => hk))))
    exact q2
  | f :: q =>
    rw [hq] at hk q1 q2 q3
    have hb : ∀ j, j < 12 → wi (0 + j) = nI (fB f j) := fun j hj => q1 0 f rfl j hj
    have hi1 : vp_in (nI (384 * 0 + 12 * 0) + Int32.ofNat 1) 768 := ix2 (b := 1) (by omega) (by omega)
    have e1 : wi (nI (384 * 0 + 12 * 0) + Int32.ofNat 1).toNatClampNeg = f_num f.1 := by
      rw [show (nI (384 * 0 + 12 * 0) + Int32.ofNat 1).toNatClampNeg = 0 + 1 from cl2 (b := 1) (by omega), hb 1 (by omega), fB_num]
    obtain ⟨en, hn⟩ := fN_ok f.1
    have ebb : (f_num f.1 - nI F) &&& 255 = nI ((fN f.1 + 256 - F) % 256) := by rw [en]; exact nsub (by omega) (by omega)
    have hne : ¬ ma 0 = 0 := by
      rw [q2]
      exact nI_ne0 (by simp) (by simp only [List.length_cons] at q3 ⊢; omega)
    have e2 : nI (384 * 0 + 12 * 0) + Int32.ofNat 2 = nI 2 := nI_add 0 2
    refine pm_Ci rfl (pm_run 17 (And.intro (vin (n := 0) (by omega) (by omega)) (And.intro (fun _ => And.intro ⟨Nat.zero_le _, Nat.zero_le _⟩ (c_at (w := 0) (i := 0) (And.intro ⟨Nat.zero_le _, Nat.zero_le _⟩ (c_mgood (w := 0) (by omega) hR hQ hq (fun g1 g2 => ?_) (fun g => ?_))))) (fun h => absurd h hne))))
    · refine pm_run 12 (And.intro hi1 (And.intro ⟨Nat.zero_le _, Nat.zero_le _⟩ ?_))
      rw [e2]
      refine c_bytes (fun i => fB f (2 + i)) (fun i => fB_lt f _) (n := 4) (by omega) (by omega) (fun i hi => ?_) ?_
      · have := hb (2 + i) (by omega)
        rw [Nat.zero_add] at this
        exact this
      refine pm_run 2 (pm_J.locals (M := [some (.ref 16), none, some (.int 1), some (.int (nI (fN f.1))), some (.int (f_word f.1)), none, none, none]) ?_ ⟨rfl, rfl, congrArg (fun z => some (Value.int z)) (e1.trans en), congrArg (fun z => some (Value.int z)) (acW f), trivial⟩)
      obtain ⟨bb, hbb⟩ : ∃ bb, bb = (fN f.1 + 256 - F) % 256 := ⟨_, rfl⟩
      have e0 : cB Wn Rm (f :: q) (Q 1) (V, F, D, lo) = if bb < Wn ∧ (V bb).isSome = false then
        (0, q, akQ Rm (Q 1) (dlv 16 (uV V bb (f_word f.1), F, D, lo)).2.1 (dlv 16 (uV V bb (f_word f.1), F, D, lo)).1, dlv 16 (uV V bb (f_word f.1), F, D, lo))
      else (1, q, akQ Rm (Q 1) F V, V, F, D, lo) := by
        rw [hbb]
        exact if_pos ⟨g1, g2⟩
      rw [en, ← hbb] at ebb
      have hnb : fN f.1 = (F + bb) % 256 := by omega
      have ecn : (nI (fN f.1)).toNatClampNeg = (F + bb) % 256 := by rw [nI_clamp (by omega)]; exact hnb
      have hinn : vp_in (nI (fN f.1)) 256 := vin hn (by omega)
      have h256 : bb < 256 := by omega
      refine pm_run 12 (And.intro ⟨Nat.zero_le _, Nat.zero_le _⟩ (c_drop (w := 0) (by omega) hR hQ hq (fun wi' ma' hQ' => And.intro (fun _ => And.intro ⟨Nat.zero_le _, Nat.zero_le _⟩ (c_far (u := []) (e0 := .inr (0, [])) ?_)) (fun h => absurd h (by decide)))))
      rw [ebb]
      have eu : uQ Q 0 q 1 = Q 1 := if_neg (by omega)
      have old : ¬ (bb < Wn ∧ (V bb).isSome = false) → pm_J 80 (d + 3) al none k kx 111 [some (.ref 16), none, none, none, none, some (.int 0), none, none] [] (wm P 0 (nI Wn) T (nI Rm) Bi N (nI F) (nI D) we ag tk wi' ma' wo he ae ca tr lo hd R) 0 0 := fun z => by
        rw [e0, if_neg z] at hk
        have ed : dlv 16 (V, F, D, lo) = (V, F, D, lo) := by unfold dlv; simp only [hV0]
        refine l_mdlv 16 V F D lo tr (by omega) hF (by omega) (fun j hj => hVW j (by omega)) hV (fun tr' hV' => ?_)
        rw [ed] at hV' ⊢
        exact l_mack (fs := 0) hF hR hQ' hV' 16 0 0 rfl (fun wi2 ma2 hQ2 v hv _ => by
          rw [hv rfl]
          rw [eu] at hQ2
          exact hk wi2 ma2 ca tr' hQ2 hV')
      refine pm_run 40 (And.intro (fun g3 => And.intro (fun _ => pm_J.room (pm_J.locals (old ?_) ⟨rfl, rfl, trivial⟩) (Nat.zero_le _) (Nat.zero_le _)) (fun h => absurd rfl h)) (fun g3 => And.intro hinn (And.intro (fun g4 => And.intro (fun _ => pm_J.room (pm_J.locals (old ?_) ⟨rfl, rfl, trivial⟩) (Nat.zero_le _) (Nat.zero_le _)) (fun h => absurd rfl h)) (fun g4 => And.intro (fun h => absurd h (by decide)) (fun _ => And.intro hinn (And.intro hinn ?_))))))
      · have := (nI_leI (by omega) (by omega)).mp g3
        omega
      · rw [ecn, (hV bb (by omega)).1, bI1] at g4
        rw [g4]
        exact fun z => absurd z.2 (by decide)
      · rw [ecn, (hV bb (by omega)).1, bI0] at g4
        have hlt : bb < Wn := Nat.lt_of_not_le (fun z => g3 (nI_le z (by omega)))
        rw [e0, if_pos ⟨hlt, g4⟩] at hk
        obtain ⟨k1, k2, k3⟩ := dlv_ok 16 (uV V bb (f_word f.1), F, D, lo) hF (fun j hj => (if_neg (by omega)).trans (hVW j (by omega)))
        refine pm_J.room (cb := 0) (sb := 0) (pm_J.locals (M := [some (.ref 16), none, none, none, none, some (.int 1), none, none]) ?_ ⟨rfl, rfl, trivial⟩) (Nat.zero_le _) (Nat.zero_le _)
        rw [ecn]
        refine l_mdlv 16 (uV V bb (f_word f.1)) F D lo _ (by omega) hF (by omega) (fun j hj => (if_neg (by omega)).trans (hVW j (by omega))) (rV_put (Or.inr rfl) hV h256) (fun tr' hV' => ?_)
        exact l_mack (fs := 1) k1 hR hQ' hV' 16 0 0 rfl (fun wi2 ma2 hQ2 v _ hv => by
          rw [hv (by decide)]
          rw [eu] at hQ2
          exact hk wi2 ma2 _ tr' hQ2 hV')
    · have e : cB Wn Rm (f :: q) (Q 1) (V, F, D, lo) = (2, q, Q 1, V, F, D, lo) := if_neg g
      rw [e] at hk
      refine pm_run 12 (And.intro hi1 (And.intro ⟨Nat.zero_le _, Nat.zero_le _⟩ ?_))
      rw [e2]
      refine c_bytes (fun i => fB f (2 + i)) (fun i => fB_lt f _) (n := 4) (by omega) (by omega) (fun i hi => ?_) ?_
      · have := hb (2 + i) (by omega)
        rw [Nat.zero_add] at this
        exact this
      refine pm_run 40 (And.intro ⟨Nat.zero_le _, Nat.zero_le _⟩ (c_drop (w := 0) (by omega) hR hQ hq (fun wi' ma' hQ' => And.intro (fun h => absurd rfl h) (fun _ => hk wi' ma' ca tr ?_ hV))))
      show rQ Rm (uQ (uQ Q 0 q) 1 (Q 1)) wi' ma'
      rw [uQ_id (Q := uQ Q 0 q) (w := 1) (if_neg (by omega)).symm]
      exact hQ'
end PM4
