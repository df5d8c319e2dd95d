/-! ===== what an instruction asks and does ===== -/
def gI (L : List Value) (i : Nat) (k : Int32 → Prop) : Prop := match mget L i with
  | .int x => k x
  | _ => False
def gJ (L : List Value) (i : Nat) (k : Int64 → Prop) : Prop := match mget L i with
  | .long x => k x
  | _ => False
def gF (L : List Value) (i : Nat) (k : UInt32 → Prop) : Prop := match mget L i with
  | .float x => k x
  | _ => False
def gD (L : List Value) (i : Nat) (k : UInt64 → Prop) : Prop := match mget L i with
  | .double x => k x
  | _ => False
def gA (L : List Value) (i : Nat) (k : Nat → Prop) : Prop := match mget L i with
  | .ref x => k x
  | _ => False
theorem gI_ok {L : List Value} {i : Nat} {k : Int32 → Prop} (h : gI L i k) : ∃ x, mget L i = .int x ∧ k x := by
  unfold gI at h
  split at h
  · exact ⟨_, by assumption, h⟩
  · exact h.elim
theorem gJ_ok {L : List Value} {i : Nat} {k : Int64 → Prop} (h : gJ L i k) : ∃ x, mget L i = .long x ∧ k x := by
  unfold gJ at h
  split at h
  · exact ⟨_, by assumption, h⟩
  · exact h.elim
theorem gF_ok {L : List Value} {i : Nat} {k : UInt32 → Prop} (h : gF L i k) : ∃ x, mget L i = .float x ∧ k x := by
  unfold gF at h
  split at h
  · exact ⟨_, by assumption, h⟩
  · exact h.elim
theorem gD_ok {L : List Value} {i : Nat} {k : UInt64 → Prop} (h : gD L i k) : ∃ x, mget L i = .double x ∧ k x := by
  unfold gD at h
  split at h
  · exact ⟨_, by assumption, h⟩
  · exact h.elim
theorem gA_ok {L : List Value} {i : Nat} {k : Nat → Prop} (h : gA L i k) : ∃ x, mget L i = .ref x ∧ k x := by
  unfold gA at h
  split at h
  · exact ⟨_, by assumption, h⟩
  · exact h.elim
/-- goes on where the flag stands -/
def mif (b : Bool) (k : Prop) : Prop := match b with
  | true => k
  | false => False
theorem mif_ok {b : Bool} {k : Prop} (h : mif b k) : b = true ∧ k := by
  cases b
  · exact h.elim
  · exact ⟨rfl, h⟩
def mk1 (f : Nat) (L : List Value) (i : Nat) : Bool := match f with
  | 0 => match i with
    | 0 => true
    | j + 1 => Nat.beq (mget L j).category 1
  | _ + 1 => true
theorem mk1_ok {f i : Nat} {L : List Value} (h : mk1 f L i = true) : mok1 f L i := by
  cases f with
  | succ f => exact trivial
  | zero =>
    cases i with
    | zero => exact trivial
    | succ j => exact Nat.eq_of_beq_eq_true h
def mmCt (c : ClassFile.Cond) (x y : Int32) : Prop := match c with
  | .eq => x = y
  | .ne => ¬ x = y
  | .lt => x < y
  | .ge => y ≤ x
  | .gt => y < x
  | .le => x ≤ y
def mmCf (c : ClassFile.Cond) (x y : Int32) : Prop := match c with
  | .eq => ¬ x = y
  | .ne => x = y
  | .lt => ¬ x < y
  | .ge => ¬ y ≤ x
  | .gt => ¬ y < x
  | .le => ¬ x ≤ y
def mmGf (μ : mmMem) (ci a k : Nat) : Value := match mmFT ci k with
  | 0 => .int (μ.1 a k)
  | 1 => .long (μ.2.1 a k)
  | 2 => .double (μ.2.2 a k)
  | _ => .ref (mmRF ci a k)
def mmBool (ci k : Nat) : Bool := match ci, k with
  | 1, 1 => true
  | 7, 2 => true
  | _, _ => false
/-- the goals of a tableswitch, from the number lo on -/
def mmTs (pc : Nat) (x : Int32) (E : Nat → Prop) : Int → List Int → Prop
  | _, [] => True
  | lo, off :: t => (x.toInt = lo → E ((pc : Int) + off).toNat) ∧ mmTs pc x E (lo + 1) t
def mmLk (pc : Nat) (x : Int32) (E : Nat → Prop) (d : Int) : List (Int × Int) → Prop
  | [] => E ((pc : Int) + d).toNat
  | q :: t => (x.toInt = q.1 → E ((pc : Int) + q.2).toNat) ∧ (¬ x.toInt = q.1 → mmLk pc x E d t)
def mbl (x : Int32) (k : Prop) : Prop := match (x == 0 || x == 1) with
  | true => k
  | false => (x = 0 ∨ x = 1) ∧ k
theorem mbl_ok {x : Int32} {k : Prop} (h : mbl x k) : (x = 0 ∨ x = 1) ∧ k := by
  unfold mbl at h
  split at h
  · rename_i hb
    exact ⟨by simpa using hb, h⟩
  · exact h
theorem mbl_i {x : Int32} {k : Prop} (h : x = 0 ∨ x = 1) (hk : k) : mbl x k := by
  unfold mbl
  split
  · exact hk
  · exact ⟨h, hk⟩
def mmRI (rt : Option FieldType) (x : Int32) (k : Prop) : Prop := match rt with
  | some .int => k
  | some .boolean => mbl x k
  | _ => False
def wpI (d : Nat) (M : mmMi) (P : Option Value → mmMem → Prop) (q : mmMI) (k : List Value → List Value → mmMem → Prop) (L st : List Value) (μ : mmMem) : Prop :=
  match q with
  | (pc, i, _, _, a, b, v, Mc) => match i with
    | .iconst _ => k L (v :: st) μ
    | .bipush _ => k L (v :: st) μ
    | .sipush _ => k L (v :: st) μ
    | .lconst _ => k L (v :: st) μ
    | .dconst _ => k L (v :: st) μ
    | .ldc _ => k L (v :: st) μ
    | .ldc_w _ => k L (v :: st) μ
    | .ldc2_w _ => k L (v :: st) μ
    | .aload i => gA L i fun x => k L (.ref x :: st) μ
    | .aload_n i => gA L i fun x => k L (.ref x :: st) μ
    | .iload i => gI L i fun x => k L (.int x :: st) μ
    | .iload_n i => gI L i fun x => k L (.int x :: st) μ
    | .lload i => gJ L i fun x => k L (.long x :: st) μ
    | .lload_n i => gJ L i fun x => k L (.long x :: st) μ
    | .fload i => gF L i fun x => k L (.float x :: st) μ
    | .fload_n i => gF L i fun x => k L (.float x :: st) μ
    | .dload i => gD L i fun x => k L (.double x :: st) μ
    | .dload_n i => gD L i fun x => k L (.double x :: st) μ
    | .istore i => pI st fun x r => mif (mk1 a L i) (k (mst1 a L i (.int x)) r μ)
    | .istore_n i => pI st fun x r => mif (mk1 a L i) (k (mst1 a L i (.int x)) r μ)
    | .astore i => pA st fun x r => mif (mk1 a L i) (k (mst1 a L i (.ref x)) r μ)
    | .astore_n i => pA st fun x r => mif (mk1 a L i) (k (mst1 a L i (.ref x)) r μ)
    | .lstore i => pJ st fun x r => mif (mk1 a L i) (k (mst2 a L i (.long x)) r μ)
    | .lstore_n i => pJ st fun x r => mif (mk1 a L i) (k (mst2 a L i (.long x)) r μ)
    | .dstore i => pD st fun x r => mif (mk1 a L i) (k (mst2 a L i (.double x)) r μ)
    | .dstore_n i => pD st fun x r => mif (mk1 a L i) (k (mst2 a L i (.double x)) r μ)
    | .iinc i _ => gI L i fun x => mif (mk1 a L i) (pI [v] fun y _ => k (mst1 a L i (.int (x + y))) st μ)
    | .iadd => pI st fun y r => pI r fun x r => k L (.int (x + y) :: r) μ
    | .isub => pI st fun y r => pI r fun x r => k L (.int (x - y) :: r) μ
    | .imul => pI st fun y r => pI r fun x r => k L (.int (x * y) :: r) μ
    | .iand => pI st fun y r => pI r fun x r => k L (.int (x &&& y) :: r) μ
    | .ior => pI st fun y r => pI r fun x r => k L (.int (x ||| y) :: r) μ
    | .idiv => pI st fun y r => pI r fun x r => ¬ y = 0 ∧ k L (.int (x / y) :: r) μ
    | .irem => pI st fun y r => pI r fun x r => ¬ y = 0 ∧ k L (.int (x - x / y * y) :: r) μ
    | .ishl => pI st fun y r => pI r fun x r => k L (.int (x <<< (y &&& 31)) :: r) μ
    | .ishr => pI st fun y r => pI r fun x r => k L (.int (x >>> (y &&& 31)) :: r) μ
    | .ineg => pI st fun x r => k L (.int (-x) :: r) μ
    | .ladd => pJ st fun y r => pJ r fun x r => k L (.long (x + y) :: r) μ
    | .lsub => pJ st fun y r => pJ r fun x r => k L (.long (x - y) :: r) μ
    | .lmul => pJ st fun y r => pJ r fun x r => k L (.long (x * y) :: r) μ
    | .land => pJ st fun y r => pJ r fun x r => k L (.long (x &&& y) :: r) μ
    | .lor => pJ st fun y r => pJ r fun x r => k L (.long (x ||| y) :: r) μ
    | .lxor => pJ st fun y r => pJ r fun x r => k L (.long (x ^^^ y) :: r) μ
    | .ldiv => pJ st fun y r => pJ r fun x r => ¬ y = 0 ∧ k L (.long (x / y) :: r) μ
    | .lrem => pJ st fun y r => pJ r fun x r => ¬ y = 0 ∧ k L (.long (x - x / y * y) :: r) μ
    | .lneg => pJ st fun x r => k L (.long (-x) :: r) μ
    | .lshl => pI st fun y r => pJ r fun x r => k L (.long (x <<< (y.toInt64 &&& 63)) :: r) μ
    | .lcmp => pJ st fun y r => pJ r fun x r => k L (.int (lg_cmp x y) :: r) μ
    | .i2l => pI st fun x r => k L (.long x.toInt64 :: r) μ
    | .l2i => pJ st fun x r => k L (.int x.toInt32 :: r) μ
    | .i2b => pI st fun x r => k L (.int x.toInt8.toInt32 :: r) μ
    | .i2s => pI st fun x r => k L (.int x.toInt16.toInt32 :: r) μ
    | .i2c => pI st fun x r => k L (.int (x.toUInt32 % 65536).toInt32 :: r) μ
    | .l2d => pJ st fun x r => k L (.double (FP.l2d x) :: r) μ
    | .l2f => pJ st fun x r => k L (.float (FP.l2f x) :: r) μ
    | .f2d => pF st fun x r => vf_n64 (FP.f2d x) ∧ k L (.double (FP.f2d x) :: r) μ
    | .d2f => pD st fun x r => vf_n32 (FP.d2f x) ∧ k L (.float (FP.d2f x) :: r) μ
    | .d2l => pD st fun x r => k L (.long (FP.d2l x) :: r) μ
    | .d2i => pD st fun x r => k L (.int (FP.d2i x) :: r) μ
    | .f2l => pF st fun x r => k L (.long (FP.f2l x) :: r) μ
    | .dneg => pD st fun x r => k L (.double (FP.dneg x) :: r) μ
    | .dadd => pD st fun y r => pD r fun x r => vf_n64 (FP.dadd x y) ∧ k L (.double (FP.dadd x y) :: r) μ
    | .dsub => pD st fun y r => pD r fun x r => vf_n64 (FP.dsub x y) ∧ k L (.double (FP.dsub x y) :: r) μ
    | .dmul => pD st fun y r => pD r fun x r => vf_n64 (FP.dmul x y) ∧ k L (.double (FP.dmul x y) :: r) μ
    | .ddiv => pD st fun y r => pD r fun x r => vf_n64 (FP.ddiv x y) ∧ k L (.double (FP.ddiv x y) :: r) μ
    | .fmul => pF st fun y r => pF r fun x r => vf_n32 (FP.fmul x y) ∧ k L (.float (FP.fmul x y) :: r) μ
    | .fdiv => pF st fun y r => pF r fun x r => vf_n32 (FP.fdiv x y) ∧ k L (.float (FP.fdiv x y) :: r) μ
    | .dcmp op => pD st fun y r => pD r fun x r => k L (.int (Op.cmpValue (FP.dcmp x y) op) :: r) μ
    | .fcmp op => pF st fun y r => pF r fun x r => k L (.int (Op.cmpValue (FP.fcmp x y) op) :: r) μ
    | .dup => (match st with
      | v :: r => mif (Nat.beq v.category 1) (k L (v :: v :: r) μ)
      | _ => False)
    | .dup2 => (match st with
      | v :: r => (match v.category with
        | 2 => k L (v :: v :: r) μ
        | 1 => (match r with
          | w :: r => mif (Nat.beq w.category 1) (k L (v :: w :: v :: w :: r) μ)
          | _ => False)
        | _ => False)
      | _ => False)
    | .ifCond c _ => pI st fun x r => (mmCt c x 0 → mmEnds d M a L r μ P) ∧ (mmCf c x 0 → k L r μ)
    | .if_icmp c _ => pI st fun y r => pI r fun x r => (mmCt c x y → mmEnds d M a L r μ P) ∧ (mmCf c x y → k L r μ)
    | .goto _ => mmEnds d M a L st μ P
    | .tableswitch dflt lo hi offs => pI st fun x r => (x.toInt < lo ∨ hi < x.toInt → mmEnds d M ((pc : Int) + dflt).toNat L r μ P) ∧ mmTs pc x (fun t => mmEnds d M t L r μ P) lo offs.toList
    | .lookupswitch dflt ps => pI st fun x r => mmLk pc x (fun t => mmEnds d M t L r μ P) dflt ps.toList
    | .getfield _ => pA st fun o r => mmKD o = a ∧ k L (mmGf μ a o b :: r) μ
    | .putfield _ => (match mmFT a b with
      | 0 => pI st fun x r => pA r fun o r => mmKD o = a ∧ (match mmBool a b with
        | true => mbl x (k L r (sI μ o b x))
        | false => k L r (sI μ o b x))
      | 1 => pJ st fun x r => pA r fun o r => mmKD o = a ∧ k L r (sJ μ o b x)
      | 2 => pD st fun x r => pA r fun o r => mmKD o = a ∧ k L r (sD μ o b x)
      | _ => False)
    | .iaload => pI st fun j r => pA r fun o r => mmKD o = 10 ∧ vp_in j (mmLEN o) ∧ k L (.int (μ.1 o j.toNatClampNeg) :: r) μ
    | .laload => pI st fun j r => pA r fun o r => mmKD o = 11 ∧ vp_in j (mmLEN o) ∧ k L (.long (μ.2.1 o j.toNatClampNeg) :: r) μ
    | .daload => pI st fun j r => pA r fun o r => mmKD o = 12 ∧ vp_in j (mmLEN o) ∧ k L (.double (μ.2.2 o j.toNatClampNeg) :: r) μ
    | .baload => pI st fun j r => pA r fun o r => mmKD o = 13 ∧ vp_in j (mmLEN o) ∧ k L (.int (μ.1 o j.toNatClampNeg) :: r) μ
    | .aaload => pI st fun j r => pA r fun o r => mmKD o = a ∧ vp_in j (mmLEN o) ∧ k L (.ref (mmRF a o j.toNatClampNeg) :: r) μ
    | .iastore => pI st fun x r => pI r fun j r => pA r fun o r => mmKD o = 10 ∧ vp_in j (mmLEN o) ∧ k L r (sI μ o j.toNatClampNeg x)
    | .lastore => pJ st fun x r => pI r fun j r => pA r fun o r => mmKD o = 11 ∧ vp_in j (mmLEN o) ∧ k L r (sJ μ o j.toNatClampNeg x)
    | .dastore => pD st fun x r => pI r fun j r => pA r fun o r => mmKD o = 12 ∧ vp_in j (mmLEN o) ∧ k L r (sD μ o j.toNatClampNeg x)
    | .bastore => pI st fun x r => pI r fun j r => pA r fun o r => mmKD o = 13 ∧ vp_in j (mmLEN o) ∧ k L r (sI μ o j.toNatClampNeg (vp_nar .boolean x))
    | .arraylength => pA st fun o r => mmKD o = a ∧ k L (.int (Int32.ofNat (mmLEN o)) :: r) μ
    | .invokevirtual _ => (match mpop a [] st with
      | (as, .ref o :: r) => mmKD o = b ∧ mif (Nat.ble (mcat r) 8) (mmCl d Mc false a (.ref o :: as) μ r fun st ν => k L st ν)
      | (as, .retAddr x :: r) => mif (Nat.beq b 98) (mif (Nat.ble (mcat r) 8) (mmCl d Mc false a (.retAddr x :: as) μ r fun st ν => k L st ν))
      | _ => False)
    | .invokestatic _ => (match b with
      | 0 => (match mpop a [] st with
        | (as, r) => mif (Nat.ble (mcat r) 8) (mmCl d Mc true a as μ r fun st ν => k L st ν))
      | 1 => (match mpop a [] st with
        | (as, r) => mif (Nat.ble (mcat r) 8) (mmCl d Mc true a as μ r fun st ν => k L st ν))
      | _ => pI st fun n r => pI r fun dp r => pA r fun y r => pI r fun sp r => pA r fun x r => 1 ≤ d ∧ mmKD x = b ∧ mmKD y = b ∧ ¬ sp < 0 ∧ ¬ dp < 0 ∧ ¬ n < 0 ∧ sp.toNatClampNeg + n.toNatClampNeg ≤ mmLEN x ∧ dp.toNatClampNeg + n.toNatClampNeg ≤ mmLEN y ∧ mif (Nat.ble (mcat r) 8) (match b with
        | 10 => k L r (cI μ x y sp.toNatClampNeg dp.toNatClampNeg n.toNatClampNeg)
        | 11 => k L r (cJ μ x y sp.toNatClampNeg dp.toNatClampNeg n.toNatClampNeg)
        | 12 => k L r (cD μ x y sp.toNatClampNeg dp.toNatClampNeg n.toNatClampNeg)
        | _ => False))
    | .ireturn => (match st with
      | [.int x] => mmRI M.2.2.2 x (P (some (.int x)) μ)
      | _ => False)
    | .lreturn => (match st with
      | [.long x] => P (some (.long x)) μ
      | _ => False)
    | .dreturn => (match st with
      | [.double x] => P (some (.double x)) μ
      | _ => False)
    | .freturn => (match st with
      | [.float x] => P (some (.float x)) μ
      | _ => False)
    | .areturn => (match st with
      | [.ref x] => P (some (.ref x)) μ
      | _ => False)
    | .return_ => (match st with
      | [] => P none μ
      | _ => False)
    | _ => False
/-- a stretch of rows, from its first on; e: where it goes on behind its last -/
def wpS (d : Nat) (M : mmMi) (P : Option Value → mmMem → Prop) (e : Nat) : List mmMI → List Value → List Value → mmMem → Prop
  | [], L, st, μ => mmEnds d M e L st μ P
  | q :: t, L, st, μ => wpI d M P q (fun L st μ => wpS d M P e t L st μ) L st μ
/-! ===== that the rows are the class's own ===== -/
def mmOkX (M : mmMi) (q : mmMI) : Bool := match q with
  | (pc, i, len, w, a, b, v, Mc) => match i with
    | .iconst n => len == 1 && decide (v = .int (Int32.ofInt n))
    | .bipush n => len == 2 && decide (v = .int (Int8.ofInt n).toInt32)
    | .sipush n => len == 3 && decide (v = .int (Int16.ofInt n).toInt32)
    | .lconst n => len == 1 && decide (v = .long (Int64.ofNat (n : Nat)))
    | .dconst n => len == 1 && (match n with
      | 0 => decide (v = .double FP.dconst0)
      | 1 => decide (v = .double FP.dconst1))
    | .ldc idx => len == 2 && (match v with
      | .int x => decide (lw_tbl[w]? = some (.constant M.1.cls idx x))
      | .float x => decide (lw_tbl[w]? = some (.constantFloat M.1.cls idx x))
      | .retAddr 0 => decide (M.1.cls = RX5 ∧ idx = 51)
      | _ => false)
    | .ldc_w idx => len == 3 && (match v with
      | .int x => decide (lw_tbl[w]? = some (.constant M.1.cls idx x))
      | _ => false)
    | .ldc2_w idx => len == 3 && (match v with
      | .long x => decide (lw_tbl[w]? = some (.constantLong M.1.cls idx x))
      | .double x => decide (lw_tbl[w]? = some (.constantDouble M.1.cls idx x))
      | _ => false)
    | .aload _ | .iload _ | .lload _ | .fload _ | .dload _ => len == 2
    | .aload_n _ | .iload_n _ | .lload_n _ | .fload_n _ | .dload_n _ => len == 1
    | .istore i | .astore i => len == 2 && decide (i < M.2.2.1)
    | .istore_n i | .astore_n i => len == 1 && decide ((i : Nat) < M.2.2.1)
    | .lstore i | .dstore i => len == 2 && decide (i + 1 < M.2.2.1)
    | .lstore_n i | .dstore_n i => len == 1 && decide ((i : Nat) + 1 < M.2.2.1)
    | .iinc i n => len == 3 && decide (i < M.2.2.1) && decide (v = .int (Int32.ofInt n))
    | .ifCond _ off | .if_icmp _ off | .goto off => len == 3 && decide ((pc : Int) + off = (a : Int))
    | .tableswitch dflt lo hi offs => decide (0 ≤ (pc : Int) + dflt) && offs.toList.all (fun f => decide (0 ≤ (pc : Int) + f)) && decide (hi - lo + 1 = (offs.toList.length : Int))
    | .lookupswitch dflt ps => decide (0 ≤ (pc : Int) + dflt) && ps.toList.all (fun f => decide (0 ≤ (pc : Int) + f.2)) && (ps.toList.zip (ps.toList.drop 1)).all (fun (a, next) => a.1 < next.1)
    | .getfield idx => len == 3 && (match vwCl[a]? with
      | some (_, T, N) => decide (b < N) && decide (lw_tbl[w]? = some (.fieldLink M.1.cls idx (T b).1 (T b).2.1 (T b).2.2.1))
      | none => false)
    | .putfield idx => len == 3 && (match vwCl[a]? with
      | some (_, T, N) => decide (b < N) && decide (lw_tbl[w]? = some (.fieldLink M.1.cls idx (T b).1 (T b).2.1 (T b).2.2.1)) && decide ((T b).2.2.2 = false)
      | none => false)
    | .aaload => len == 1 && decide (a = 14 ∨ a = 15 ∨ a = 16)
    | .arraylength => len == 1 && decide (a = 10 ∨ a = 11 ∨ a = 12 ∨ a = 13)
    | .invokevirtual idx => len == 3 && decide (lw_tbl[w]? = some (.methodLink M.1.cls idx Mc.1)) && (match b with
      | 98 => decide (Mc.1.cls = "java/lang/String")
      | _ => decide ((vwCl[b]?).map (fun q => q.1) = some Mc.1.cls))
    | .invokestatic idx => len == 3 && (match b with
      | 0 => decide (lw_tbl[w]? = some (.methodLink M.1.cls idx Mc.1))
      | 1 => decide ((M.1.cls, idx, Mc.1) ∈ mmNest)
      | _ => decide (lw_tbl[w]? = some (.methodLink M.1.cls idx arraycopyName)))
    | .lreturn => len == 1 && decide (M.2.2.2 = some .long)
    | .freturn => len == 1 && decide (M.2.2.2 = some .float)
    | .dreturn => len == 1 && decide (M.2.2.2 = some .double)
    | .areturn => len == 1 && (match M.2.2.2 with
      | some (.object _) => true
      | _ => false)
    | .return_ => len == 1 && decide (M.2.2.2 = none)
    | _ => len == 1
def mmOkI (M : mmMi) (q : mmMI) : Bool := decide (decode M.2.1 q.1 = .ok (q.2.1, q.2.2.1)) && mmOkX M q
def mmHead : List mmMI → Nat → Nat
  | [], e => e
  | q :: _, _ => q.1
def mmOk (M : mmMi) (e : Nat) : List mmMI → Bool
  | [] => true
  | q :: t => mmOkI M q && (q.1 + q.2.2.1 == mmHead t e) && mmOk M e t

