/-! what a row of the tables must be, decided by program -/
def pm_len : Instr → Nat := fun i => match i with
  | .aload _ => 2
  | .iload _ => 2
  | .lload _ => 2
  | .astore _ => 2
  | .istore _ => 2
  | .lstore _ => 2
  | .iinc _ _ => 3
  | .bipush _ => 2
  | .sipush _ => 3
  | .ldc _ => 2
  | .ldc2_w _ => 3
  | .if_icmp _ _ => 3
  | .ifCond _ _ => 3
  | .goto _ => 3
  | .getfield _ => 3
  | .putfield _ => 3
  | .newarray _ => 2
  | .new _ => 3
  | .invokevirtual _ => 3
  | .invokestatic _ => 3
  | .invokespecial _ => 3
  | _ => 1
def pm_end : Instr → Bool := fun i => match i with
  | .goto _ => true
  | .tableswitch _ _ _ _ => true
  | .ireturn => true
  | .lreturn => true
  | .areturn => true
  | .return_ => true
  | .athrow => true
  | _ => false
def pm_c (a c : Nat) : Int32 := match c with
  | 0 => Int32.ofNat a
  | _ => -(Int32.ofNat a)
def pm_mh (y : MethodName) : Bool := decide (y.cls ≠ "java/lang/invoke/MethodHandle") && decide (y.cls ≠ "java/lang/invoke/VarHandle")
/-- what a call needs of its callee -/
def pm_cy (M : pm_M) (n : Nat) : Bool := decide (pm_cc M ∈ pm_tb) && decide (Cond.initialized M.1.cls ∈ pm_tb) && pm_mh M.1 && decide ((parseMethodDescriptor M.1.desc).map (fun d => d.parameters.length) = some n) && decide (M.2.2.1 ≤ 15)
def pm_nms : List String := ["java/lang/RuntimeException", "java/lang/Exception"]
def pm_dc {ε : Type} (x : Except ε (Instr × Nat)) (i : Instr) : Bool := match x with
  | .ok q => decide (q.1 = i)
  | .error _ => false
def pm_swk (pc : Nat) : Int → List Int → List (Int32 × Nat) → Bool
  | _, [], [] => true
  | lo, o :: os, (v, t) :: cs => decide (v.toInt = lo) && decide ((pc : Int) + o = (t : Int)) && pm_swk pc (lo + 1) os cs
  | _, _, _ => false
def pm_ck (M : pm_M) (r : pm_R) (nx : Nat) : Bool :=
  (match r.2.1 with
  | .tableswitch df lo hi offs => pm_dc (decode M.2.1 r.1) (.tableswitch df lo hi offs) && decide (hi + 1 = lo + (offs.size : Int)) && pm_swk r.1 lo offs.toList (pm_sw r.2.2.2.1).1 && decide ((r.1 : Int) + df = ((pm_sw r.2.2.2.1).2 : Int))
  | i => decide (decode M.2.1 r.1 = .ok (i, pm_len i))) && (pm_end r.2.1 || Nat.beq nx (r.1 + pm_len r.2.1)) &&
  (match r.2.1 with
  | .if_icmp _ o => decide ((r.1 : Int) + o = (r.2.2.2.1 : Int))
  | .ifCond _ o => decide ((r.1 : Int) + o = (r.2.2.2.1 : Int))
  | .goto o => decide ((r.1 : Int) + o = (r.2.2.2.1 : Int))
  | .iconst v => decide (Int32.ofInt v = pm_c r.2.2.2.1 r.2.2.2.2.2)
  | .bipush v => decide ((Int8.ofInt v).toInt32 = pm_c r.2.2.2.1 r.2.2.2.2.2)
  | .sipush v => decide ((Int16.ofInt v).toInt32 = pm_c r.2.2.2.1 r.2.2.2.2.2)
  | .iinc _ v => decide (Int32.ofInt v = pm_c r.2.2.2.1 r.2.2.2.2.2)
  | .ldc ix => Nat.beq r.2.2.2.2.2 9 || decide (Cond.constant M.1.cls ix (pm_c r.2.2.2.1 r.2.2.2.2.2) ∈ pm_tb)
  | .ldc2_w ix => decide (Cond.constantLong M.1.cls ix (Int64.ofNat r.2.2.2.1) ∈ pm_tb)
  | .getfield ix => (match vwCl[r.2.2.2.1]? with
    | some (C, T, N) => decide (r.2.2.2.2.1 < N) && decide ((T r.2.2.2.2.1).1 = C) && (match r.2.2.2.2.2 with
      | 0 => decide (Cond.fieldLink M.1.cls ix C (T r.2.2.2.2.1).2.1 (T r.2.2.2.2.1).2.2.1 ∈ pm_tb)
      | _ => decide (Cond.fieldLinkNest M.1.cls ix C (T r.2.2.2.2.1).2.1 (T r.2.2.2.2.1).2.2.1 "SelectiveLink" ∈ pm_nw))
    | none => false)
  | .putfield ix => (match vwCl[r.2.2.2.1]? with
    | some (C, T, N) => decide (r.2.2.2.2.1 < N) && decide ((T r.2.2.2.2.1).1 = C) && decide (Cond.fieldLink M.1.cls ix C (T r.2.2.2.2.1).2.1 (T r.2.2.2.2.1).2.2.1 ∈ pm_tb)
      && (!(T r.2.2.2.2.1).2.2.2 || (decide (M.1.name = "<init>") && decide (C = M.1.cls)))
      && (match r.2.2.2.2.2, parseFieldDescriptor (T r.2.2.2.2.1).2.2.1 with
        | 0, some .int => true
        | 1, some .long => true
        | 2, some (.object _) => true
        | 2, some (.array _) => true
        | _, _ => false)
    | none => false)
  | .newarray ty => decide (Cond.arrayClass (newarray.typeOf ty) ∈ pm_tb) && decide (r.2.2.2.1 ≤ 100000)
  | .new ix => (match r.2.2.2.2.2 with
    | 0 => (match vwCl[r.2.2.2.1]? with
      | some (C, T, N) => Nat.beq N r.2.2.2.2.1 && decide (Cond.classLink M.1.cls ix C ∈ pm_tb) && decide (Cond.instantiable C N ∈ pm_tb) && decide (Cond.initialized C ∈ pm_tb)
      | none => false)
    | ic => decide (decode M.2.1 (r.1 + 3) = .ok (.dup, 1)) && decide (decode M.2.1 (r.1 + 4) = .ok (.ldc r.2.2.2.2.1, 2)) && decide (decode M.2.1 (r.1 + 6) = .ok (.invokespecial ic, 3)) && decide (decode M.2.1 (r.1 + 9) = .ok (.athrow, 1))
      && decide (Cond.classLink M.1.cls ix (pm_en r.2.2.2.1) ∈ pm_tb) && decide (Cond.initialized (pm_en r.2.2.2.1) ∈ pm_tb) && (vx_atS M.1.cls ic (pm_en r.2.2.2.1) pm_nms).all (fun w => (decide (w ∈ pm_tb) || decide (w ∈ pm_nw)) && vx_ot w)
      && vx_ot (Cond.classLink M.1.cls ix (pm_en r.2.2.2.1)) && vx_ot (Cond.initialized (pm_en r.2.2.2.1))
      && (pm_ss.any (fun q => decide (q.1 = M.1.cls) && Nat.beq q.2.1 r.2.2.2.2.1)) && M.2.2.2.2.1.isEmpty)
  | .invokevirtual ix => (match r.2.2.2.2.1 with
    | 0 => false
    | n + 1 => pm_cy (pm_pr r.2.2.2.1) n && decide (Cond.methodLink M.1.cls ix (pm_pr r.2.2.2.1).1 ∈ pm_tb) && decide (Cond.instanceMethod (pm_pr r.2.2.2.1).1 ∈ pm_tb) && decide (Cond.selects (pm_pr r.2.2.2.1).1.cls (pm_pr r.2.2.2.1).1 (pm_pr r.2.2.2.1).1 ∈ pm_tb)
      && (pm_pr r.2.2.2.1).2.2.2.2.1.isEmpty && (match vwCl[r.2.2.2.2.2]? with
        | some (C, _, _) => decide (C = (pm_pr r.2.2.2.1).1.cls)
        | none => false))
  | .invokestatic ix => pm_cy (pm_pr r.2.2.2.1) r.2.2.2.2.1 && decide (Cond.methodLink M.1.cls ix (pm_pr r.2.2.2.1).1 ∈ pm_tb) && decide (Cond.static (pm_pr r.2.2.2.1).1 ∈ pm_tb)
  | .invokespecial ix => (match Nat.beq r.2.2.2.1 9999, Nat.beq r.2.2.2.1 9998 with
    | true, _ => decide (Cond.methodLink M.1.cls ix Lib.objectInit ∈ pm_tb) && decide (Cond.instanceMethod Lib.objectInit ∈ pm_tb) && decide (Cond.code Lib.objectInit ⟨#[0xb1]⟩ 1 none ∈ pm_tb)
    | false, true => true
    | false, false => (match r.2.2.2.2.1 with
      | 0 => false
      | n + 1 => pm_cy (pm_pr r.2.2.2.1) n && decide (Cond.instanceMethod (pm_pr r.2.2.2.1).1 ∈ pm_tb) && decide ((pm_pr r.2.2.2.1).1.name = "<init>") && (pm_pr r.2.2.2.1).2.2.2.2.1.isEmpty && decide ((pm_pr r.2.2.2.1).2.2.2.1 = none)
        && (match r.2.2.2.2.2 with
          | 0 => decide (Cond.methodLink M.1.cls ix (pm_pr r.2.2.2.1).1 ∈ pm_tb)
          | _ => decide (Cond.methodLinkNest M.1.cls ix (pm_pr r.2.2.2.1).1 "SelectiveLink" ∈ pm_nw))))
  | _ => true)
def pm_ckn (M : pm_M) (nx : Nat) : List pm_R → Bool
  | [] => true
  | [r] => pm_ck M r nx
  | r :: q :: t => pm_ck M r q.1 && pm_ckn M nx (q :: t)
def pm_cks (M : pm_M) (l : List pm_R) : Bool := pm_ckn M 0 l
theorem pm_ckn_app {M : pm_M} {nx : Nat} {b : pm_R} {v : List pm_R} (hb : pm_ckn M nx (b :: v) = true) : ∀ (u : List pm_R), pm_ckn M b.1 u = true → pm_ckn M nx (u ++ b :: v) = true
  | [], _ => hb
  | [r], h => by
    show (pm_ck M r b.1 && pm_ckn M nx (b :: v)) = true
    rw [Bool.and_eq_true]
    exact ⟨h, hb⟩
  | r :: q :: t, h => by
    have h2 : (pm_ck M r q.1 && pm_ckn M b.1 (q :: t)) = true := h
    rw [Bool.and_eq_true] at h2
    show (pm_ck M r q.1 && pm_ckn M nx (q :: (t ++ b :: v))) = true
    rw [Bool.and_eq_true]
    exact ⟨h2.1, pm_ckn_app hb (q :: t) h2.2⟩
theorem pm_cks_inv {M : pm_M} {n0 : Nat} : ∀ (pre : List pm_R) (r : pm_R) (t : List pm_R), pm_ckn M n0 (pre ++ r :: t) = true → ∃ nx, pm_ck M r nx = true ∧ ∀ q u, t = q :: u → q.1 = nx
  | [], r, [], h => ⟨n0, h, fun q u hq => by cases hq⟩
  | [], r, q :: u, h => by
    have h2 : (pm_ck M r q.1 && pm_ckn M n0 (q :: u)) = true := h
    rw [Bool.and_eq_true] at h2
    exact ⟨q.1, h2.1, fun q' u' hq => by cases hq; rfl⟩
  | [x], r, t, h => by
    have h2 : (pm_ck M x r.1 && pm_ckn M n0 (r :: t)) = true := h
    rw [Bool.and_eq_true] at h2
    exact pm_cks_inv [] r t h2.2
  | x :: y :: pre, r, t, h => by
    have h2 : (pm_ck M x y.1 && pm_ckn M n0 (y :: (pre ++ r :: t))) = true := h
    rw [Bool.and_eq_true] at h2
    exact pm_cks_inv (y :: pre) r t h2.2
