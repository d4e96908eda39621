/-! THE CONSTRUCTORS -/
section PI
variable {d : Nat} {k : pm_K} {kx : pm_X}
theorem c_initA {e1 : va_E} (hk : k none [e1, .inr (2, [.ref 3, .ref 4, .int 0, .int 0, .int 0]), .inl (1, 32, .inr (.inl fun _ => 0)), .inl (0, 32, .inl fun _ => 0)]) : pm_C 32 (d + 1) true [.ref 2] [e1, .inr (2, [.null, .null, .int 0, .int 0, .int 0])] k kx :=
  pm_Ci rfl (pm_run 40 (And.intro (Nat.le_add_left 1 d) (And.intro ⟨rfl, by decide, by decide⟩ (And.intro ⟨rfl, by decide, by decide⟩ hk))))
theorem c_initB {e1 e2 e3 e4 : va_E} (hk : k none [e1, e2, e3, e4, .inr (2, [.ref 6, .ref 7, .int 0, .int 0, .int 0]), .inl (1, 32, .inr (.inl fun _ => 0)), .inl (0, 32, .inl fun _ => 0)]) : pm_C 32 (d + 1) true [.ref 5] [e1, e2, e3, e4, .inr (2, [.null, .null, .int 0, .int 0, .int 0])] k kx :=
  pm_Ci rfl (pm_run 40 (And.intro (Nat.le_add_left 1 d) (And.intro ⟨rfl, by decide, by decide⟩ (And.intro ⟨rfl, by decide, by decide⟩ hk))))
theorem c_initS {e1 e2 e3 e4 e5 e6 e7 : va_E} (hk : k none [e1, e2, e3, e4, e5, e6, e7, .inr (1, [.ref 9, .ref 10, .ref 11, .int 0, .int 0, .int 0, .int 0, .int 0, .int 0]), .inl (0, 16, .inl fun _ => 0), .inl (0, 16, .inl fun _ => 0), .inl (2, 16, .inl fun _ => 0)]) : pm_C 19 (d + 1) true [.ref 8] [e1, e2, e3, e4, e5, e6, e7, .inr (1, [.null, .null, .null, .int 0, .int 0, .int 0, .int 0, .int 0, .int 0])] k kx :=
  pm_Ci rfl (pm_run 40 (And.intro (Nat.le_add_left 1 d) (And.intro ⟨rfl, by decide, by decide⟩ (And.intro ⟨rfl, by decide, by decide⟩ (And.intro ⟨rfl, by decide, by decide⟩ hk)))))
theorem c_initR {e1 e2 e3 e4 e5 e6 e7 e8 e9 e10 e11 : va_E} (hk : k none [e1, e2, e3, e4, e5, e6, e7, e8, e9, e10, e11, .inr (0, [.ref 13, .ref 14, .ref 15, .int 0, .int 0, .int 0]), .inl (0, 16, .inl fun _ => 0), .inl (2, 16, .inl fun _ => 0), .inl (0, 256, .inl fun _ => 0)]) : pm_C 10 (d + 1) true [.ref 12] [e1, e2, e3, e4, e5, e6, e7, e8, e9, e10, e11, .inr (0, [.null, .null, .null, .int 0, .int 0, .int 0])] k kx :=
  pm_Ci rfl (pm_run 40 (And.intro (Nat.le_add_left 1 d) (And.intro ⟨rfl, by decide, by decide⟩ (And.intro ⟨rfl, by decide, by decide⟩ (And.intro ⟨rfl, by decide, by decide⟩ hk)))))
theorem c_init {A : EF} (hk : ∀ P', rLk 4 8 3 [] [] 0 0 A 0 0 0 (fun _ => none) 0 (fun _ => 0) P' → k none (wl P' [])) : pm_C 47 (d + 3) true [.ref 1] [.inr (3, [.null, .null, .null, .null])] k kx := by
  refine pm_Ci rfl (pm_run 7 (And.intro (Nat.le_add_left 1 (d + 2)) (And.intro ⟨by decide, by decide⟩ (And.intro ⟨by decide, by decide⟩ (c_initA ?_)))))
  refine pm_run 5 (And.intro ⟨by decide, by decide⟩ (And.intro ⟨by decide, by decide⟩ (c_initB ?_)))
  refine pm_run 5 (And.intro ⟨by decide, by decide⟩ (And.intro ⟨by decide, by decide⟩ (c_initS ?_)))
  refine pm_run 5 (And.intro ⟨by decide, by decide⟩ (And.intro ⟨by decide, by decide⟩ (c_initR ?_)))
  exact pm_run 9 (And.intro ⟨by decide, by decide⟩ (c_restart (Wn := 4) (Rm := 8) (A := A) (P := ((0, 0, 0, fun _ => 0, fun _ => 0), (0, 0, 0, fun _ => 0, fun _ => 0), (0, 0, 0, 0, 0, 0, fun _ => 0, fun _ => 0, fun _ => 0), (fun _ => 0, fun _ => 0, fun _ => 0, 0, 0, 0))) (R := []) rfl (by omega) hk))
theorem c_minit {P : LkP} (hk : k none (wm P 0 4 3 8 0 0 0 0 0 0 0 (fun _ => 0) (fun _ => 0) (fun _ => 0) (fun _ => 0) (fun _ => 0) (fun _ => 0) (fun _ => 0) (fun _ => 0) (fun _ => 0) [])) : pm_C 65 (d + 1) true [.ref 16] (wl P [.inr (4, [.int 0, .int 0, .int 0, .int 0, .null, .null, .int 0, .int 0, .null, .null, .null, .int 0, .null, .null, .int 0, .null, .int 0, .int 0, .int 0, .null])]) k kx := by
  refine pm_Ci rfl (pm_run 5 (And.intro (Nat.le_add_left 1 d) ?_))
  refine pm_run 3 ?_
  refine pm_run 3 ?_
  refine pm_run 4 (And.intro ⟨rfl, by decide, by decide⟩ ?_)
  refine pm_run 4 (And.intro ⟨rfl, by decide, by decide⟩ ?_)
  refine pm_run 4 (And.intro ⟨rfl, by decide, by decide⟩ ?_)
  refine pm_run 4 (And.intro ⟨rfl, by decide, by decide⟩ ?_)
  refine pm_run 4 (And.intro ⟨rfl, by decide, by decide⟩ ?_)
  refine pm_run 4 (And.intro ⟨rfl, by decide, by decide⟩ ?_)
  refine pm_run 4 (And.intro ⟨rfl, by decide, by decide⟩ ?_)
  refine pm_run 4 (And.intro ⟨rfl, by decide, by decide⟩ ?_)
  refine pm_run 4 (And.intro ⟨rfl, by decide, by decide⟩ ?_)
  exact pm_run 4 hk
end PI
