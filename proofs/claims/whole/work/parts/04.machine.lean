/-! THE PICTURE MACHINE. A method's bytecode is run on pictures: a reference is a place (0: the law's script; k + 1: the k-th cell of the picture w, which lies at the address ad (k + 1)). pm_w says what a run from here must show; it comes to pm_J, the judgement over the machine itself, after its fuel and where a loop comes back, and to pm_C, a callee's contract, at each call. Everything goes on by continuations, so that evaluation leaves plain lists behind. -/
abbrev pm_V : Type := List (Option Value)
abbrev pm_D : Type := List va_E
abbrev pm_K : Type := Option Value → pm_D → Prop
abbrev pm_X : Type := String → pm_D → Prop
def pm_set {α : Type} : List α → Nat → α → (List α → Prop) → Prop
  | [], _, _, _ => False
  | _ :: t, 0, x, k => k (x :: t)
  | a :: t, n + 1, x, k => pm_set t n x (fun u => k (a :: u))
def pm_get {α : Type} : List α → Nat → (α → Prop) → Prop
  | [], _, _ => False
  | a :: _, 0, k => k a
  | _ :: t, n + 1, k => pm_get t n k
def pm_cl : Nat → Option Value → (Option Value → Prop) → Prop
  | 0, some (.long _), k => k none
  | 0, some (.double _), k => k none
  | _, a, k => k a
def pm_st1 : pm_V → Nat → Option Value → (pm_V → Prop) → Prop
  | [], _, _, _ => False
  | _ :: t, 0, v, k => k (v :: t)
  | a :: t, n + 1, v, k => pm_st1 t n v (fun u => pm_cl n a (fun b => k (b :: u)))
def pm_st2 : pm_V → Nat → Value → (pm_V → Prop) → Prop
  | [], _, _, _ => False
  | [_], _, _, _ => False
  | _ :: _ :: t, 0, v, k => k (some v :: none :: t)
  | a :: b :: t, n + 1, v, k => pm_st2 (b :: t) n v (fun u => pm_cl n a (fun b => k (b :: u)))
def pm_i1 : List Value → (Int32 → List Value → Prop) → Prop
  | .int x :: t, k => k x t
  | _, _ => False
def pm_i2 : List Value → (Int32 → Int32 → List Value → Prop) → Prop
  | .int y :: .int x :: t, k => k x y t
  | _, _ => False
def pm_l1 : List Value → (Int64 → List Value → Prop) → Prop
  | .long x :: t, k => k x t
  | _, _ => False
def pm_l2 : List Value → (Int64 → Int64 → List Value → Prop) → Prop
  | .long y :: .long x :: t, k => k x y t
  | _, _ => False
def pm_li : List Value → (Int64 → Int32 → List Value → Prop) → Prop
  | .int y :: .long x :: t, k => k x y t
  | _, _ => False
def pm_r1 : List Value → (Nat → List Value → Prop) → Prop
  | .ref r :: t, k => k r t
  | _, _ => False
def pm_ldI (L : pm_V) (i : Nat) (k : Int32 → Prop) : Prop := pm_get L i (fun o => match o with | some (.int x) => k x | _ => False)
def pm_ldJ (L : pm_V) (i : Nat) (k : Int64 → Prop) : Prop := pm_get L i (fun o => match o with | some (.long x) => k x | _ => False)
def pm_ldR (L : pm_V) (i : Nat) (k : Nat → Prop) : Prop := pm_get L i (fun o => match o with | some (.ref x) => k x | _ => False)
def pm_pop : Nat → List Value → List Value → (List Value → List Value → Prop) → Prop
  | 0, st, vs, k => k vs st
  | n + 1, v :: st, vs, k => pm_pop n st (v :: vs) k
  | _ + 1, [], _, _ => False
def pm_snoc : Nat → pm_D → va_E → (Nat → pm_D → Prop) → Prop
  | n, [], e, k => k n [e]
  | n, x :: t, e, k => pm_snoc (n + 1) t e (fun r u => k r (x :: u))
def pm_from : List pm_R → Nat → List pm_R
  | [], _ => []
  | r :: t, pc => match Nat.beq r.1 pc with
    | true => r :: t
    | false => pm_from t pc
def pm_few : List Value → Nat → Bool
  | [], _ => true
  | .long _ :: t, n + 2 => pm_few t n
  | .double _ :: t, n + 2 => pm_few t n
  | .int _ :: t, n + 1 => pm_few t n
  | .ref _ :: t, n + 1 => pm_few t n
  | .null :: t, n + 1 => pm_few t n
  | _, _ => false
def pm_cd (c : ClassFile.Cond) (x y : Int32) : Prop := match c with
  | .eq => x = y
  | .ne => ¬ x = y
  | .lt => x < y
  | .ge => y ≤ x
  | .gt => y < x
  | .le => x ≤ y
def pm_cs (x : Int32) (df : Nat) (k : Nat → Prop) : List (Int32 × Nat) → Prop
  | [] => k df
  | (v, t) :: r => (x = v → k t) ∧ (¬ x = v → pm_cs x df k r)
def pm_v (ad : Nat → Nat) : Value → Value
  | .ref k => .ref (ad k)
  | v => v
def pm_e (dA : Nat → ClassId) (ad : Nat → Nat) : va_E → va_E
  | .inl (t, a) => .inl (dA t, a)
  | .inr (ci, fs) => .inr (ci, fs.map (pm_v ad))
def pm_pf (dA : Nat → ClassId) (ad : Nat → Nat) : Nat → pm_D → va_W
  | _, [] => []
  | i, e :: t => (ad i, pm_e dA ad e) :: pm_pf dA ad (i + 1) t
abbrev pm_pic (dA : Nat → ClassId) (ad : Nat → Nat) (w : pm_D) : va_W := pm_pf dA ad 1 w
abbrev pm_tys (dA : Nat → ClassId) : List (ClassId × FieldType) := [(dA 0, .int), (dA 1, .long), (dA 2, .boolean)]
def pm_as (ad : Nat → Nat) : Nat → pm_V → List (Nat × Value)
  | _, [] => []
  | i, none :: t => pm_as ad (i + 1) t
  | i, some v :: t => (i, pm_v ad v) :: pm_as ad (i + 1) t
def pm_tb : List Cond := lw_tbl.filter goodWord
def pm_isN (w : Cond) : Bool := match w with
  | .fieldLinkNest .. => true
  | .methodLinkNest .. => true
  | .castable .. => true
  | .declares .. => true
  | _ => false
def pm_nw : List Cond := lw_tbl.filter pm_isN
def pm_IA : String := "java/lang/IllegalArgumentException"
def pm_IO : String := "java/lang/IndexOutOfBoundsException"
def pm_G (sa : Nat → Nat) (A : Nat → Prop) (U : State) (H : Heap) : Prop := (∀ w ∈ pm_nw, va_Nw w U) ∧ (∀ q ∈ pm_ss, vk_R q.1 q.2.1 q.2.2 (sa q.2.1) U) ∧ va_Nc pm_IO pm_IA U ∧ vx_Zq Bundle.tN "UNASSIGNED_STACK" Bundle.steD A U H ∧ vx_Zq Bundle.tN "SUPPRESSED_SENTINEL" Bundle.listD A U H
def pm_cc (M : pm_M) : Cond := match M.2.2.2.2.1 with
  | [] => .code M.1 M.2.1 M.2.2.1 M.2.2.2.1
  | hh => .codeWith M.1 M.2.1 M.2.2.1 M.2.2.2.1 hh
def pm_ws (me : Nat) : List Cond := pm_cc (pm_pr me) :: pm_tb
def pm_rm (d mc ms : Nat) : Room := { frames := d, cells := mc, slots := ms, locals := 34 * d }
/-- while cells are made: the next one comes at the next place -/
def pm_Al (al : Bool) (ad : Nat → Nat) (w : pm_D) (sz : Nat) : Prop := al = true → sz = ad (w.length + 1) ∧ ∀ n, ad (n + 2) = ad (n + 1) + 1
/-- the world behind a method -/
def pm_Bd (dA : Nat → ClassId) (D : va_G) (ad : Nat → Nat) (A : Nat → Prop) (al : Bool) (w : pm_D) (t : State) : Prop := va_P D vwCl (pm_pic dA ad w) t.heap ∧ va_D A (pm_pic dA ad w) ∧ pm_Al al ad w t.heap.size
def pm_Qc (dA : Nat → ClassId) (D : va_G) (ad : Nat → Nat) (A : Nat → Prop) (al : Bool) (k : pm_K) : Array Value → State → Outcome → State → Prop := fun _ st o t => (∃ (v : Option Value) (w : pm_D), o = .returned (v.map (pm_v ad)) ∧ k v w ∧ pm_Bd dA D ad A al w t) ∧ va_F A st t
def pm_XC (dA : Nat → ClassId) (D : va_G) (ad : Nat → Nat) (A : Nat → Prop) (al : Bool) (kx : pm_X) : String → State → State → Prop := fun E st t => (∃ w : pm_D, kx E w ∧ pm_Bd dA D ad A al w t) ∧ va_F A st t
def pm_Pc (dA : Nat → ClassId) (D : va_G) (ad sa : Nat → Nat) (al : Bool) (vs : List Value) (w : pm_D) (sz : Nat) : Array Value → State → Prop := va_Pc (vs.map (pm_v ad)) (fun U => U.heap.size = sz ∧ va_P D vwCl (pm_pic dA ad w) U.heap ∧ va_K D vwCl (pm_tys dA) U ∧ va_D (fun _ => True) (pm_pic dA ad w) ∧ pm_Al al ad w sz ∧ pm_G sa (va_A (pm_pic dA ad w) sz) U U.heap)
/-- THE CONTRACT of method me: from the picture w, with the arguments vs, it returns v and leaves w2 with k v w2, or it throws E and leaves w2 with kx E w2 -/
def pm_C (me d : Nat) (al : Bool) (vs : List Value) (w : pm_D) (k : pm_K) (kx : pm_X) : Prop :=
  ∀ (l : Launch) (dA : Nat → ClassId) (D : va_G) (ad sa : Nat → Nat) (sz : Nat), l.stackTraces = false →
    vx_Met l (pm_pr me).1 (pm_ws me) (pm_rm d (pm_mc me).1 (pm_mc me).2) (pm_Pc dA D ad sa al vs w sz) (pm_Qc dA D ad (va_A (pm_pic dA ad w) sz) al k) (pm_XC dA D ad (va_A (pm_pic dA ad w) sz) al kx) (pm_mc me).1 (pm_mc me).2 (va_A (pm_pic dA ad w) sz)
/-- what stays while a method runs -/
def pm_Fr (me d : Nat) (X : Option (Nat × (Nat → Int32))) (p : Program) (l : Launch) (R : Room) (s : State) (m : MethodId) (args : Array Value) (meth : Method) (c : Code) (dA : Nat → ClassId) (D : va_G) (ad sa : Nat → Nat) (A : Nat → Prop) : Prop :=
  p.tables.exec = Jvm.exec ∧ l.stackTraces = false ∧ c.code = (pm_pr me).2.1 ∧ c.maxLocals = (pm_pr me).2.2.1 ∧ meth.sig.returnType = (pm_pr me).2.2.2.1 ∧ meth.locks = false ∧ s.vm.findClass (pm_pr me).1.cls = some m.cls ∧ meth.name = (pm_pr me).1.name ∧ (∀ w ∈ pm_tb, w.before args s = true) ∧ c.exceptionTable.toList = tableOf (pm_pr me).2.2.2.2.1 ∧ va_K D vwCl (pm_tys dA) s ∧ (∀ q, s.heap.size ≤ q → A q) ∧ pm_G sa A s s.heap ∧ d ≤ R.frames ∧ 34 * d ≤ R.locals ∧ (∀ (N : Nat) (xs : Nat → Int32), X = some (N, xs) → va_X (ad 0) N xs s s.heap ∧ ad 0 < s.heap.size ∧ ¬ A (ad 0))
/-- in the law, cells are made at first and not later: its end asks nothing of them -/
def pm_qa (al : Bool) (X : Option (Nat × (Nat → Int32))) : Bool := match X with
  | none => al
  | some _ => false
theorem pm_Al.q {al : Bool} {X : Option (Nat × (Nat → Int32))} {ad : Nat → Nat} {w : pm_D} {sz : Nat} (h : pm_Al al ad w sz) : pm_Al (pm_qa al X) ad w sz := by
  cases X with
  | none => exact h
  | some _ => exact fun z => by cases z
/-- THE JUDGEMENT: the machine, in method me at pc with the locals L, the stack st, the picture w, comes to an end as k or kx say -/
def pm_J (me d : Nat) (al : Bool) (X : Option (Nat × (Nat → Int32))) (k : pm_K) (kx : pm_X) (pc : Nat) (L : pm_V) (st : List Value) (w : pm_D) (cb sb : Nat) : Prop :=
  ∀ (p : Program) (l : Launch) (e : Env) (R : Room) (s : State) (m : MethodId) (args : Array Value) (below : List Frame) (meth : Method) (c : Code) (H : Heap) (locs : List Loc) (cells slots : Nat) (dA : Nat → ClassId) (D : va_G) (ad sa : Nat → Nat) (A : Nat → Prop) (ls : Array Slot),
    pm_Fr me d X p l R s m args meth c dA D ad sa A → va_P D vwCl (pm_pic dA ad w) H → va_D A (pm_pic dA ad w) → va_S A s.heap H locs → pm_Al al ad w H.size → lv_has ls L.length (pm_as ad 0 L) → L.length = (pm_pr me).2.2.1 → cells + cb ≤ R.cells → slots + sb ≤ R.slots →
    W p l e R s m args below meth c H locs cells slots (vx_MQ below (pm_Qc dA D ad A (pm_qa al X) k) (pm_XC dA D ad A (pm_qa al X) kx) args s R.cells R.slots A) (F0 m pc ls (st.map (pm_v ad)))
/-- a field's value of the kind that the hint names -/
def pm_fv : Nat → Value → Prop → Prop
  | 0, .int _, k => k
  | 1, .long _, k => k
  | 2, .ref _, k => k
  | 2, .null, k => k
  | _, _, _ => False
def pm_en : Nat → String
  | 1 => pm_IA
  | _ => pm_IO
/-- the class that an entry of the law's pool names, of those that its tables catch -/
def pm_ct : Nat → String
  | 13 => pm_IA
  | _ => pm_IO
/-- E thrown at pc over the table: the row that takes it, or it goes on to the caller -/
def pm_ch (E : String) (pc : Nat) (go : Nat → Prop) : List (Nat × Nat × Nat × Nat) → Prop
  | [] => False
  | (a, b, h, t) :: r => match Nat.ble a pc && Nat.blt pc b with
    | false => pm_ch E pc go r
    | true => (E = pm_ct t → go h) ∧ (¬ E = pm_ct t → (E = pm_IO ∧ pm_ct t = pm_IA) ∧ pm_ch E pc go r)
def pm_br (c : ClassFile.Cond) (x y : Int32) (A B : Prop) : Prop := match c with
  | .eq => (x = y → A) ∧ (¬ x = y → B)
  | .ne => (¬ x = y → A) ∧ (x = y → B)
  | .lt => (x < y → A) ∧ (¬ x < y → B)
  | .ge => (y ≤ x → A) ∧ (¬ y ≤ x → B)
  | .gt => (y < x → A) ∧ (¬ y < x → B)
  | .le => (x ≤ y → A) ∧ (¬ x ≤ y → B)
/-- a constant, by its size and its sign -/
def pm_cn (a : Nat) : Nat → (Int32 → Prop) → Prop
  | 0, k => k (Int32.ofNat a)
  | _, k => k (-(Int32.ofNat a))
def pm_ps (v : Option Value) (t : List Value) (k : List Value → Prop) : Prop := match v with
  | none => k t
  | some u => k (u :: t)
/-- a handler: it puts the exception away -/
def pm_hn (rs : List pm_R) (L : pm_V) (k : List pm_R → pm_V → Prop) : Prop := match rs with
  | (_, .astore_n j, _, _, _, _) :: rs => pm_st1 L j.val none (fun u => k rs u)
  | (_, .astore j, _, _, _, _) :: rs => pm_st1 L j none (fun u => k rs u)
  | _ => False
section
variable (me d : Nat) (al : Bool) (X : Option (Nat × (Nat → Int32))) (k : pm_K) (kx : pm_X) (go : List pm_R → pm_V → List Value → pm_D → Nat → Nat → Prop)
/-- a call: the arguments off the stack, room, the callee's contract; behind it the rest, or a handler, or the caller's -/
def pm_cal (pc : Nat) (a b : Nat) (vt : Bool) (c : Nat) (rs : List pm_R) (L : pm_V) (st : List Value) (w : pm_D) (cb sb : Nat) : Prop := match d with
  | 0 => False
  | d + 1 => pm_pop b st [] (fun vs t => match pm_few t 8 with
    | false => False
    | true =>
      let go1 : Prop := ((pm_mc a).1 ≤ cb ∧ (pm_mc a).2 ≤ sb) ∧ pm_C a d al vs w (fun v w => pm_ps v t (fun t => go rs L t w (cb - (pm_mc a).1) (sb - (pm_mc a).2)))
        (fun E w => match (pm_pr me).2.2.2.2.1 with
          | [] => kx E w
          | hh => pm_ch E pc (fun h => pm_hn (pm_from (pm_pr me).2.2.2.2.2 h) L (fun rs L => go rs L [] w (cb - (pm_mc a).1) (sb - (pm_mc a).2))) hh)
      match vt with
      | false => go1
      | true => match vs with
        | .ref (q + 1) :: _ => pm_get w q (fun e => match e with
          | .inr (ci, _) => (match Nat.beq ci c with
            | true => go1
            | false => False)
          | .inl _ => False)
        | _ => False)
/-- ONE INSTRUCTION -/
def pm_x (pc : Nat) (i : Instr) (a b c : Nat) (rs : List pm_R) (L : pm_V) (st : List Value) (w : pm_D) (cb sb : Nat) : Prop := match i with
  | .aload_n j => pm_ldR L j.val (fun r => go rs L (.ref r :: st) w cb sb)
  | .aload j => pm_ldR L j (fun r => go rs L (.ref r :: st) w cb sb)
  | .iload_n j => pm_ldI L j.val (fun x => go rs L (.int x :: st) w cb sb)
  | .iload j => pm_ldI L j (fun x => go rs L (.int x :: st) w cb sb)
  | .lload_n j => pm_ldJ L j.val (fun x => go rs L (.long x :: st) w cb sb)
  | .lload j => pm_ldJ L j (fun x => go rs L (.long x :: st) w cb sb)
  | .astore_n j => pm_r1 st (fun r t => pm_st1 L j.val (some (.ref r)) (fun L => go rs L t w cb sb))
  | .astore j => pm_r1 st (fun r t => pm_st1 L j (some (.ref r)) (fun L => go rs L t w cb sb))
  | .istore_n j => pm_i1 st (fun x t => pm_st1 L j.val (some (.int x)) (fun L => go rs L t w cb sb))
  | .istore j => pm_i1 st (fun x t => pm_st1 L j (some (.int x)) (fun L => go rs L t w cb sb))
  | .lstore_n j => pm_l1 st (fun x t => pm_st2 L j.val (.long x) (fun L => go rs L t w cb sb))
  | .lstore j => pm_l1 st (fun x t => pm_st2 L j (.long x) (fun L => go rs L t w cb sb))
  | .iinc j _ => pm_ldI L j (fun x => pm_cn a c (fun y => pm_st1 L j (some (.int (x + y))) (fun L => go rs L st w cb sb)))
  | .iconst _ => pm_cn a c (fun y => go rs L (.int y :: st) w cb sb)
  | .bipush _ => pm_cn a c (fun y => go rs L (.int y :: st) w cb sb)
  | .sipush _ => pm_cn a c (fun y => go rs L (.int y :: st) w cb sb)
  | .ldc _ => match Nat.beq c 9 with
    | true => False
    | false => pm_cn a c (fun y => go rs L (.int y :: st) w cb sb)
  | .ldc2_w _ => go rs L (.long (Int64.ofNat a) :: st) w cb sb
  | .lconst j => go rs L (.long (Int64.ofNat j.val) :: st) w cb sb
  | .iadd => pm_i2 st (fun x y t => go rs L (.int (x + y) :: t) w cb sb)
  | .isub => pm_i2 st (fun x y t => go rs L (.int (x - y) :: t) w cb sb)
  | .imul => pm_i2 st (fun x y t => go rs L (.int (x * y) :: t) w cb sb)
  | .iand => pm_i2 st (fun x y t => go rs L (.int (x &&& y) :: t) w cb sb)
  | .ior => pm_i2 st (fun x y t => go rs L (.int (x ||| y) :: t) w cb sb)
  | .ixor => pm_i2 st (fun x y t => go rs L (.int (x ^^^ y) :: t) w cb sb)
  | .ishl => pm_i2 st (fun x y t => go rs L (.int (x <<< (y &&& 31)) :: t) w cb sb)
  | .ishr => pm_i2 st (fun x y t => go rs L (.int (x >>> (y &&& 31)) :: t) w cb sb)
  | .iushr => pm_i2 st (fun x y t => go rs L (.int (x.toUInt32 >>> (y.toUInt32 &&& Int32.toUInt32 31)).toInt32 :: t) w cb sb)
  | .idiv => pm_i2 st (fun x y t => (¬ y = 0) ∧ go rs L (.int (x / y) :: t) w cb sb)
  | .irem => pm_i2 st (fun x y t => (¬ y = 0) ∧ go rs L (.int (x - x / y * y) :: t) w cb sb)
  | .land => pm_l2 st (fun x y t => go rs L (.long (x &&& y) :: t) w cb sb)
  | .lor => pm_l2 st (fun x y t => go rs L (.long (x ||| y) :: t) w cb sb)
  | .lxor => pm_l2 st (fun x y t => go rs L (.long (x ^^^ y) :: t) w cb sb)
  | .lshl => pm_li st (fun x y t => go rs L (.long (x <<< (y.toInt64 &&& 63)) :: t) w cb sb)
  | .lshr => pm_li st (fun x y t => go rs L (.long (x >>> (y.toInt64 &&& 63)) :: t) w cb sb)
  | .lushr => pm_li st (fun x y t => go rs L (.long (x.toUInt64 >>> (y.toInt64.toUInt64 &&& Int64.toUInt64 63)).toInt64 :: t) w cb sb)
  | .i2l => pm_i1 st (fun x t => go rs L (.long x.toInt64 :: t) w cb sb)
  | .l2i => pm_l1 st (fun x t => go rs L (.int x.toInt32 :: t) w cb sb)
  | .lcmp => pm_l2 st (fun x y t => go rs L (.int (lg_cmp x y) :: t) w cb sb)
  | .dup => match st with
    | .int x :: t => go rs L (.int x :: .int x :: t) w cb sb
    | .ref r :: t => go rs L (.ref r :: .ref r :: t) w cb sb
    | _ => False
  | .dup2 => match st with
    | .int x :: .ref r :: t => go rs L (.int x :: .ref r :: .int x :: .ref r :: t) w cb sb
    | _ => False
  | .pop2 => pm_l1 st (fun _ t => go rs L t w cb sb)
  | .if_icmp c0 _ => pm_i2 st (fun x y t => pm_br c0 x y (go (pm_from (pm_pr me).2.2.2.2.2 a) L t w cb sb) (go rs L t w cb sb))
  | .ifCond c0 _ => pm_i1 st (fun x t => pm_br c0 x 0 (go (pm_from (pm_pr me).2.2.2.2.2 a) L t w cb sb) (go rs L t w cb sb))
  | .goto _ => go (pm_from (pm_pr me).2.2.2.2.2 a) L st w cb sb
  | .tableswitch _ _ _ _ => pm_i1 st (fun x t => pm_cs x (pm_sw a).2 (fun tg => go (pm_from (pm_pr me).2.2.2.2.2 tg) L t w cb sb) (pm_sw a).1)
  | .getfield _ => pm_r1 st (fun r t => match r with
    | 0 => False
    | q + 1 => pm_get w q (fun e => match e with
      | .inr (ci, fs) => (match Nat.beq ci a with
        | true => pm_get fs b (fun v => go rs L (v :: t) w cb sb)
        | false => False)
      | .inl _ => False))
  | .putfield _ => match st with
    | v :: .ref (q + 1) :: t => pm_get w q (fun e => match e with
      | .inr (ci, fs) => (match Nat.beq ci a with
        | true => pm_fv c v (pm_set fs b v (fun fs => pm_set w q (.inr (ci, fs)) (fun w => go rs L t w cb sb)))
        | false => False)
      | .inl _ => False)
    | _ => False
  | .iaload => pm_i1 st (fun j t => pm_r1 t (fun r t => match r with
    | 0 => (match X with
      | some (N, xs) => vp_in j N ∧ go rs L (.int (xs j.toNatClampNeg) :: t) w cb sb
      | none => False)
    | q + 1 => pm_get w q (fun e => match e with
      | .inl (0, N, .inl f) => vp_in j N ∧ go rs L (.int (f j.toNatClampNeg) :: t) w cb sb
      | _ => False)))
  | .baload => pm_i1 st (fun j t => pm_r1 t (fun r t => match r with
    | 0 => False
    | q + 1 => pm_get w q (fun e => match e with
      | .inl (2, N, .inl f) => vp_in j N ∧ go rs L (.int (f j.toNatClampNeg) :: t) w cb sb
      | _ => False)))
  | .laload => pm_i1 st (fun j t => pm_r1 t (fun r t => match r with
    | 0 => False
    | q + 1 => pm_get w q (fun e => match e with
      | .inl (1, N, .inr (.inl f)) => vp_in j N ∧ go rs L (.long (f j.toNatClampNeg) :: t) w cb sb
      | _ => False)))
  | .iastore => pm_i2 st (fun j x t => pm_r1 t (fun r t => match r with
    | 0 => False
    | q + 1 => pm_get w q (fun e => match e with
      | .inl (0, N, .inl f) => vp_in j N ∧ pm_set w q (.inl (0, N, .inl (upd f j.toNatClampNeg x))) (fun w => go rs L t w cb sb)
      | _ => False)))
  | .bastore => pm_i2 st (fun j x t => pm_r1 t (fun r t => match r with
    | 0 => False
    | q + 1 => pm_get w q (fun e => match e with
      | .inl (2, N, .inl f) => vp_in j N ∧ pm_set w q (.inl (2, N, .inl (upd f j.toNatClampNeg (x &&& 1)))) (fun w => go rs L t w cb sb)
      | _ => False)))
  | .lastore => pm_l1 st (fun x t => pm_i1 t (fun j t => pm_r1 t (fun r t => match r with
    | 0 => False
    | q + 1 => pm_get w q (fun e => match e with
      | .inl (1, N, .inr (.inl f)) => vp_in j N ∧ pm_set w q (.inl (1, N, .inr (.inl (vp_updL f j.toNatClampNeg x)))) (fun w => go rs L t w cb sb)
      | _ => False))))
  | .arraylength => pm_r1 st (fun r t => match r with
    | 0 => (match X with
      | some (N, _) => go rs L (.int (Int32.ofNat N) :: t) w cb sb
      | none => False)
    | _ + 1 => False)
  | .newarray ty => match al with
    | false => False
    | true => pm_i1 st (fun n t => (n = Int32.ofNat a ∧ 1 ≤ cb ∧ a ≤ sb) ∧ (match ty with
      | .int => pm_snoc 1 w (.inl (0, a, .inl (fun _ => 0))) (fun r w => go rs L (.ref r :: t) w (cb - 1) (sb - a))
      | .long => pm_snoc 1 w (.inl (1, a, .inr (.inl (fun _ => 0)))) (fun r w => go rs L (.ref r :: t) w (cb - 1) (sb - a))
      | .boolean => pm_snoc 1 w (.inl (2, a, .inl (fun _ => 0))) (fun r w => go rs L (.ref r :: t) w (cb - 1) (sb - a))
      | _ => False))
  | .new _ => match c with
    | 0 => (match al with
      | false => False
      | true => (1 ≤ cb ∧ b ≤ sb) ∧ pm_snoc 1 w (.inr (a, pm_df a)) (fun r w => go rs L (.ref r :: st) w (cb - 1) (sb - b)))
    | _ => (match al, pm_few st 8 with
      | false, true => (6 ≤ d ∧ 1 ≤ cb ∧ 6 ≤ sb) ∧ kx (pm_en a) w
      | _, _ => False)
  | .invokevirtual _ => pm_cal me d al kx go pc a b true c rs L st w cb sb
  | .invokestatic _ => pm_cal me d al kx go pc a b false c rs L st w cb sb
  | .invokespecial _ => match Nat.beq a 9999 with
    | true => pm_r1 st (fun _ t => match pm_few t 8 with
      | true => 1 ≤ d ∧ go rs L t w cb sb
      | false => False)
    | false => match Nat.beq a 9998 with
      | true => False
      | false => pm_pop b st [] (fun vs _ => match vs with
        | .ref _ :: _ => pm_cal me d al kx go pc a b false c rs L st w cb sb
        | _ => False)
  | .ireturn => match st with
    | [.int x] => (match (pm_pr me).2.2.2.1 with
      | some .int => k (some (.int x)) w
      | some .boolean => x &&& 1 = x ∧ k (some (.int x)) w
      | _ => False)
    | _ => False
  | .lreturn => match st with
    | [.long x] => (match (pm_pr me).2.2.2.1 with
      | some .long => k (some (.long x)) w
      | _ => False)
    | _ => False
  | .areturn => match st with
    | [.ref r] => (match (pm_pr me).2.2.2.1 with
      | some (.object _) => k (some (.ref r)) w
      | _ => False)
    | _ => False
  | .return_ => match st with
    | [] => (match (pm_pr me).2.2.2.1 with
      | none => k none w
      | _ => False)
    | _ => False
  | _ => False
/-- A RUN: n instructions at most, and to the next loop -/
def pm_w : Bool → Nat → List pm_R → pm_V → List Value → pm_D → Nat → Nat → Prop
  | _, 0, [], _, _, _, _, _ => False
  | _, 0, r :: _, L, st, w, cb, sb => pm_J me d al X k kx r.1 L st w cb sb
  | _, _ + 1, [], _, _, _, _, _ => False
  | f, n + 1, (pc, i, h, a, b, c) :: rs, L, st, w, cb, sb => match f, h with
    | false, true => pm_J me d al X k kx pc L st w cb sb
    | _, _ => pm_x me d al X k kx (pm_w false n) pc i a b c rs L st w cb sb
end
