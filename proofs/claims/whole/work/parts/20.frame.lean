/-! FRAMES: the check sum, how the first eight bytes lie in a long; numbers -/
def f_sh (m : Int32) : Int32 := (m.toUInt32 >>> ((1 : Int32).toUInt32 &&& Int32.toUInt32 31)).toInt32
def f_c1 (m : Int32) : Int32 := if m &&& 1 = 0 then f_sh m else f_sh m ^^^ (-306674912)
def f_cn : Nat → Int32 → Int32
  | 0, m => m
  | n + 1, m => f_cn n (f_c1 m)
def f_byte (x : Int64) (sh : Int32) : Int32 := (x.toUInt64 >>> (sh.toInt64.toUInt64 &&& Int64.toUInt64 63)).toInt64.toInt32 &&& 255
def f_cks (x : Int64) : Nat → Int32 → Int32
  | 0, r => r
  | n + 1, r => f_cks x n (f_cn 8 (r ^^^ f_byte x (nI (8 * n))))
/-- the check sum -/
def f_sum (x : Int64) : Int32 := f_cks x 8 (-1) ^^^ (-1)
def f_ushr (x : Int64) (n : Int32) : Int64 := (x.toUInt64 >>> (n.toInt64.toUInt64 &&& Int64.toUInt64 63)).toInt64
def f_shl (x : Int64) (n : Int32) : Int64 := x <<< (n.toInt64 &&& 63)
def f_of (kd n wd mp : Int32) : Int64 := f_shl kd.toInt64 56 ||| f_shl n.toInt64 48 ||| f_shl (wd.toInt64 &&& 4294967295) 16 ||| mp.toInt64
def f_kind (x : Int64) : Int32 := (f_ushr x 56).toInt32
def f_num (x : Int64) : Int32 := (f_ushr x 48).toInt32 &&& 255
def f_word (x : Int64) : Int32 := (f_ushr x 16).toInt32
def f_map (x : Int64) : Int32 := x.toInt32 &&& 65535
section PF
variable {d : Nat} {al : Bool} {k : pm_K} {kx : pm_X} {w : pm_D} {cb sb : Nat}
theorem l_withByte (r b : Int32) : ∀ (n t : Nat) (m : Int32), t + n = 8 → k (some (.int (f_cn n m))) w → pm_J 6 d al none k kx 6 [some (.int r), some (.int b), some (.int m), some (.int (nI t)), none] [] w cb sb := by
  intro n
  induction n with
  | zero =>
    intro t m ht hk
    have ht : t = 8 := by omega
    subst ht
    exact pm_run 20 (And.intro (fun _ => hk) (fun h => absurd (by decide +kernel) h))
  | succ n ih =>
    intro t m ht hk
    refine pm_run 60 (And.intro (fun h => absurd h (nI_ge (b := 8) (by omega) (by omega))) (fun _ => And.intro (fun (h0 : m &&& 1 = 0) => And.intro (fun _ => ?_) (fun h => absurd rfl h)) (fun (h0 : ¬ m &&& 1 = 0) => And.intro (fun h => absurd h (by decide)) (fun _ => ?_))))
    · refine pm_J.locals (M := [some (.int r), some (.int b), some (.int (f_sh m)), some (.int (nI (t + 1))), none]) (ih (t + 1) (f_sh m) (by omega) ?_) ⟨rfl, rfl, rfl, congrArg (fun z => some (Value.int z)) (nI_succ t).symm, trivial⟩
      have e : f_cn (n + 1) m = f_cn n (f_sh m) := by
        show f_cn n (f_c1 m) = _
        rw [f_c1, if_pos h0]
      rw [← e]
      exact hk
    · refine pm_J.locals (M := [some (.int r), some (.int b), some (.int (f_sh m ^^^ (-306674912))), some (.int (nI (t + 1))), none]) (ih (t + 1) _ (by omega) ?_) ⟨rfl, rfl, rfl, congrArg (fun z => some (Value.int z)) (nI_succ t).symm, trivial⟩
      have e : f_cn (n + 1) m = f_cn n (f_sh m ^^^ (-306674912)) := by
        show f_cn n (f_c1 m) = _
        rw [f_c1, if_neg h0]
      rw [← e]
      exact hk
theorem c_withByte {r b : Int32} (hk : k (some (.int (f_cn 8 (r ^^^ b)))) w) : pm_C 6 d al [.int r, .int b] w k kx :=
  pm_Ci rfl (pm_run 20 (l_withByte r b 8 0 (r ^^^ b) rfl hk))
def f_s : Nat → Int32
  | 0 => -8
  | n + 1 => nI (8 * n)
theorem f_s_step : ∀ n, n < 8 → f_s (n + 1) + (-8) = f_s n := by decide +kernel
theorem f_s_pos : ∀ n, n < 8 → ¬ f_s (n + 1) < 0 := by decide +kernel
theorem l_checkSum (x : Int64) : ∀ (n : Nat) (r : Int32), n ≤ 8 → k (some (.int (f_cks x n r ^^^ (-1)))) w → pm_J 5 (d + 1) al none k kx 5 [some (.long x), none, some (.int r), some (.int (f_s n))] [] w cb sb := by
  intro n
  induction n with
  | zero =>
    intro r _ hk
    exact pm_run 20 (And.intro (fun _ => hk) (fun h => absurd (by decide +kernel) h))
  | succ n ih =>
    intro r hn hk
    refine pm_run 60 (And.intro (fun h => absurd h (f_s_pos n (by omega))) (fun _ => And.intro ⟨Nat.zero_le _, Nat.zero_le _⟩ (c_withByte ?_)))
    refine pm_J.locals (M := [some (.long x), none, some (.int (f_cn 8 (r ^^^ f_byte x (nI (8 * n))))), some (.int (f_s n))]) (ih _ (by omega) hk) ⟨rfl, rfl, congrArg (fun z => some (Value.int z)) (f_s_step n (by omega)), trivial⟩
theorem c_checkSum {x : Int64} (hk : k (some (.int (f_sum x))) w) : pm_C 5 (d + 1) al [.long x] w k kx :=
  pm_Ci rfl (pm_run 20 (l_checkSum x 8 (-1) (Nat.le_refl 8) hk))
theorem c_of {kd n wd mp : Int32} (hk : k (some (.long (f_of kd n wd mp))) w) : pm_C 0 d al [.int kd, .int n, .int wd, .int mp] w k kx := pm_Ci rfl (pm_run 40 hk)
theorem c_kindOf {x : Int64} (hk : k (some (.int (f_kind x))) w) : pm_C 1 d al [.long x] w k kx := pm_Ci rfl (pm_run 20 hk)
theorem c_numberOf {x : Int64} (hk : k (some (.int (f_num x))) w) : pm_C 2 d al [.long x] w k kx := pm_Ci rfl (pm_run 20 hk)
theorem c_wordOf {x : Int64} (hk : k (some (.int (f_word x))) w) : pm_C 3 d al [.long x] w k kx := pm_Ci rfl (pm_run 20 hk)
theorem c_mapOf {x : Int64} (hk : k (some (.int (f_map x))) w) : pm_C 4 d al [.long x] w k kx := pm_Ci rfl (pm_run 20 hk)
theorem c_plus {x y : Int32} (hk : k (some (.int ((x + y) &&& 255))) w) : pm_C 7 d al [.int x, .int y] w k kx := pm_Ci rfl (pm_run 20 hk)
theorem c_distance {x y : Int32} (hk : k (some (.int ((y - x) &&& 255))) w) : pm_C 8 d al [.int x, .int y] w k kx := pm_Ci rfl (pm_run 20 hk)
theorem c_slotOf {x : Int32} (hk : k (some (.int (x &&& 15))) w) : pm_C 9 d al [.int x] w k kx := pm_Ci rfl (pm_run 20 hk)
end PF
