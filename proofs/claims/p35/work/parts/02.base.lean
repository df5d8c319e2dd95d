/-! ===== THE MINI MACHINE: memory, world, what a run from a point comes to ===== -/
abbrev mmMem : Type := (Nat → Nat → Int32) × (Nat → Nat → Int64) × (Nat → Nat → UInt64)
abbrev mmMi : Type := MethodName × ByteArray × Nat × Option FieldType
abbrev mmMI : Type := Nat × Instr × Nat × Nat × Nat × Nat × Value × mmMi
def mmTab : List Nat := [4, 14, 15, 10, 13, 16] ++ (List.replicate 12 [1, 10, 11, 12]).flatten ++ (List.replicate 2 [6, 10]).flatten ++ (List.replicate 6 [2, 0]).flatten
def mmKDl : List Nat := [7] ++ mmTab ++ mmTab ++ [5, 10, 0, 3, 10, 1, 10, 11, 12, 2, 0, 0, 0, 0, 10, 13, 10, 10, 10]
def mmTabL : List Nat := [0, 12, 2, 4, 4, 6] ++ (List.replicate 12 [0, 40, 40, 40]).flatten ++ (List.replicate 2 [0, 40]).flatten ++ (List.replicate 6 [0, 0]).flatten
def mmLENl : List Nat := [0] ++ mmTabL ++ mmTabL ++ [0, 100, 0, 0, 1000, 0, 40, 40, 40, 0, 0, 0, 0, 0, 40, 40, 40, 64, 64]
/-- the kind of the cell at a place: 0 .. 8 an object of that class, 10 .. 13 a row of ints, longs, doubles, booleans, 14 .. 16 of columns, views, filters -/
def mmKD (a : Nat) : Nat := mmKDl.getD a 99
def mmLEN (a : Nat) : Nat := mmLENl.getD a 0
def mmNF (ci : Nat) : Nat := [3, 5, 3, 2, 9, 4, 2, 19, 4, 4].getD ci 0
/-- the sort of a field: 0 int, 1 long, 2 double, 3 a reference -/
def mmFT (ci k : Nat) : Nat := ([[0, 1, 2], [0, 0, 3, 3, 3], [0, 0, 3], [0, 3], [0, 0, 0, 0, 3, 3, 3, 3, 3], [0, 0, 3, 3], [0, 3], [3, 3, 0, 3, 3, 3, 3, 3, 3, 3, 3, 3, 3, 3, 3, 1, 0, 0, 0]].getD ci []).getD k 9
/-- where a reference leads: they never move -/
def mmRF (kd a i : Nat) : Nat := match kd with
  | 1 => a + (i - 1)
  | 2 => a + 1
  | 3 => a + 1
  | 4 => a + (i - 3)
  | 5 => a + (i - 1)
  | 6 => a + 1
  | 7 => [1, 71, 0, 141, 144, 146, 150, 152, 153, 154, 155, 156, 157, 158, 159].getD i 0
  | 14 => a + 5 + 4 * i
  | 15 => a + 52 + 2 * i
  | _ => a + 53 + 2 * i
def mmFV (B : Nat) (μ : mmMem) (a ci k : Nat) : Value := match mmFT ci k with
  | 0 => .int (μ.1 a k)
  | 1 => .long (μ.2.1 a k)
  | 2 => .double (μ.2.2 a k)
  | _ => .ref (B + mmRF ci a k)
def mmE (B : Nat) (cA : Nat → ClassId) (μ : mmMem) (a : Nat) : va_E := match mmKD a with
  | 10 => .inl (cA 0, mmLEN a, .inl (μ.1 a))
  | 11 => .inl (cA 1, mmLEN a, .inr (.inl (μ.2.1 a)))
  | 12 => .inl (cA 2, mmLEN a, .inr (.inr (.inr (.inl (μ.2.2 a)))))
  | 13 => .inl (cA 3, mmLEN a, .inl (μ.1 a))
  | 14 => .inl (cA 4, mmLEN a, .inr (.inr (.inr (.inr fun i => some (B + mmRF 14 a i)))))
  | 15 => .inl (cA 5, mmLEN a, .inr (.inr (.inr (.inr fun i => some (B + mmRF 15 a i)))))
  | 16 => .inl (cA 6, mmLEN a, .inr (.inr (.inr (.inr fun i => some (B + mmRF 16 a i)))))
  | ci => .inr (ci, (List.range (mmNF ci)).map (mmFV B μ a ci))
def mmW (B : Nat) (cA : Nat → ClassId) (μ : mmMem) : va_W := (List.range 160).map fun a => (B + a, mmE B cA μ a)
def mmTys (cA : Nat → ClassId) : List (ClassId × FieldType) := [(cA 0, .int), (cA 1, .long), (cA 2, .double), (cA 3, .boolean), (cA 4, .object RX1), (cA 5, .object RX6), (cA 6, .object RX2), (cA 7, .byte)]
def sI (μ : mmMem) (a i : Nat) (x : Int32) : mmMem := (fun b => if b = a then upd (μ.1 a) i x else μ.1 b, μ.2)
def sJ (μ : mmMem) (a i : Nat) (x : Int64) : mmMem := (μ.1, fun b => if b = a then vp_updL (μ.2.1 a) i x else μ.2.1 b, μ.2.2)
def sD (μ : mmMem) (a i : Nat) (x : UInt64) : mmMem := (μ.1, μ.2.1, fun b => if b = a then vf_upd (μ.2.2 a) i x else μ.2.2 b)
def cI (μ : mmMem) (a b sp dp n : Nat) : mmMem := (fun q => if q = b then va_cpy (μ.1 a) (μ.1 b) sp dp n else μ.1 q, μ.2)
def cJ (μ : mmMem) (a b sp dp n : Nat) : mmMem := (μ.1, fun q => if q = b then va_cpy (μ.2.1 a) (μ.2.1 b) sp dp n else μ.2.1 q, μ.2.2)
def cD (μ : mmMem) (a b sp dp n : Nat) : mmMem := (μ.1, μ.2.1, fun q => if q = b then va_cpy (μ.2.2 a) (μ.2.2 b) sp dp n else μ.2.2 q)
theorem mmKD_lt {a : Nat} (h : mmKD a < 99) : a < 160 := by
  rcases Nat.lt_or_ge a 160 with q | q
  · exact q
  · exfalso
    have hl : mmKDl.length = 160 := by decide +kernel
    have : mmKD a = 99 := by
      unfold mmKD
      rw [List.getD_eq_getElem?_getD, List.getElem?_eq_none (by rw [hl]; exact q)]
      rfl
    omega
theorem mmW_get {B : Nat} {cA : Nat → ClassId} {μ : mmMem} {a : Nat} (h : a < 160) : (mmW B cA μ)[a]? = some (B + a, mmE B cA μ a) := by
  simp [mmW, h]
theorem mmW_inv {B : Nat} {cA : Nat → ClassId} {μ : mmMem} {k : Nat} {q : Nat × va_E} (h : (mmW B cA μ)[k]? = some q) : k < 160 ∧ q.1 = B + k := by
  have hk : k < 160 := by
    have h1 := (List.getElem?_eq_some_iff.mp h).1
    simpa [mmW] using h1
  rw [mmW_get hk] at h
  cases h
  exact ⟨hk, rfl⟩
/-- the class's own places -/
def mmA (B : Nat) : Nat → Prop := fun q => B ≤ q ∧ q < B + 160
theorem mmW_D {B : Nat} {cA : Nat → ClassId} {μ : mmMem} : va_D (mmA B) (mmW B cA μ) := by
  refine ⟨fun i j p q hi hj h => ?_, fun k q hk => ?_⟩
  · have h1 := (mmW_inv hi).2
    have h2 := (mmW_inv hj).2
    omega
  · obtain ⟨h0, h1⟩ := mmW_inv hk
    show B ≤ q.1 ∧ q.1 < B + 160
    omega
theorem mm_mapset {α : Type} {n a : Nat} {f g : Nat → α} {y : α} (ha : a < n) (h : ∀ b, b ≠ a → f b = g b) (hy : y = g a) : ((List.range n).map f).set a y = (List.range n).map g := by
  refine List.ext_getElem (by simp) (fun i h1 h2 => ?_)
  simp only [List.getElem_set, List.getElem_map, List.getElem_range]
  by_cases hi : a = i
  · subst hi
    simp [hy]
  · rw [if_neg hi]
    exact h i (fun q => hi q.symm)
theorem mmE_of {B : Nat} {cA : Nat → ClassId} {μ ν : mmMem} {b : Nat} (h1 : μ.1 b = ν.1 b) (h2 : μ.2.1 b = ν.2.1 b) (h3 : μ.2.2 b = ν.2.2 b) : mmE B cA μ b = mmE B cA ν b := by
  unfold mmE
  have hf : ∀ ci, mmFV B μ b ci = mmFV B ν b ci := fun ci => by
    funext k
    simp only [mmFV, h1, h2, h3]
  split <;> simp only [h1, h2, h3, hf]
theorem mmW_set {B : Nat} {cA : Nat → ClassId} {μ ν : mmMem} {a : Nat} {e : va_E} (ha : a < 160) (h1 : ∀ b, b ≠ a → μ.1 b = ν.1 b) (h2 : ∀ b, b ≠ a → μ.2.1 b = ν.2.1 b) (h3 : ∀ b, b ≠ a → μ.2.2 b = ν.2.2 b) (he : e = mmE B cA ν a) : (mmW B cA μ).set a (B + a, e) = mmW B cA ν := by
  refine mm_mapset ha (fun b hb => ?_) (by rw [he])
  rw [mmE_of (h1 b hb) (h2 b hb) (h3 b hb)]
theorem mmE_obj {B : Nat} {cA : Nat → ClassId} {μ : mmMem} {a ci : Nat} (h : mmKD a = ci) (hc : ci < 10) : mmE B cA μ a = .inr (ci, (List.range (mmNF ci)).map (mmFV B μ a ci)) := by
  unfold mmE
  rw [h]
  split <;> first | (exfalso; omega) | rfl
/-- values: references are told from the base on; the String constant is .retAddr -/
def mmV (B : Nat) (sk : Nat → Nat) : Value → Value
  | .ref k => .ref (B + k)
  | .retAddr _ => .ref (sk 0)
  | v => v
theorem mmV_cat (B : Nat) (sk : Nat → Nat) (v : Value) (h : v.category = 1) : (mmV B sk v).category = 1 := by
  cases v <;> first | rfl | exact h
def mmT : List Cond := lw_tbl.filter goodWord
theorem mm_in (i : Nat) {w : Cond} (h : lw_tbl[i]? = some w) (hg : goodWord w = true) : w ∈ mmT := List.mem_filter.mpr ⟨List.mem_of_getElem? h, hg⟩
theorem mm_good : GoodIn lw_tbl mmT := fun w hw => ⟨(List.mem_filter.mp hw).1, good_of_word (List.mem_filter.mp hw).2⟩
theorem mm_goodT : GoodIn mmT mmT := fun w hw => ⟨hw, good_of_word (List.mem_filter.mp hw).2⟩
def mmWs (M : mmMi) : List Cond := .code M.1 M.2.1 M.2.2.1 M.2.2.2 :: mmT
def mmRm (d : Nat) : Room := { frames := d, cells := 0, slots := 0, locals := 40 * d }
def mmNest : List (String × Nat × MethodName) := [(RX4, 37, yX1_init), (RX4, 38, yX6_init), (RX4, 39, yX2_init), (RX2, 11, yX0_init), (RX7, 21, yX5_init), (RX5, 17, yX0_init), (RX7, 28, yX3_init), (RX7, 35, yX1_init), (RX7, 42, yX2_init), (RX7, 49, yX0_init), (RX5, 76, yX7_boxKindIn)]
/-- what stands of a state, whatever the memory -/
def mmS (B : Nat) (H0 : Heap) (sk sv : Nat → Nat) (D : va_G) (cA : Nat → ClassId) (U : State) : Prop :=
  B + 160 ≤ H0.size ∧ va_K D vwCl (mmTys cA) U ∧ vk_R RX5 51 "zbcsilfdwon" (sk 0) U ∧
  vk_S 1 [11] [[122, 98, 99, 115, 105, 108, 102, 100, 119, 111, 110]] sk sv (mmA B) U H0 ∧ va_Z "java/lang/String" "COMPACT_STRINGS" "Z" (.int 1) (mmA B) U H0 ∧
  (∃ v, (v = .null ∨ ∃ t, v = .ref t) ∧ va_Z "jdk/internal/util/Preconditions" "SIOOBE_FORMATTER" "Ljava/util/function/BiFunction;" v (mmA B) U H0) ∧
  ∀ q ∈ mmNest, va_Nw (.methodLinkNest q.1 q.2.1 q.2.2 "ColumnCasts") U
theorem mmS.warm {B : Nat} {H0 : Heap} {sk sv : Nat → Nat} {D : va_G} {cA : Nat → ClassId} {s U : State} (hW : s.WarmedH U.vm) (h : mmS B H0 sk sv D cA s) : mmS B H0 sk sv D cA U := by
  obtain ⟨h0, h1, h2, h5, h6, ⟨v, hv, h7⟩, h8⟩ := h
  exact ⟨h0, va_K.moved hW.alike h1, vk_R.warm hW h2, vk_S.moved hW.alike h5, va_Z.moved hW.alike h6, ⟨v, hv, va_Z.moved hW.alike h7⟩, fun q hq => va_Nw.warmM hW (h8 q hq)⟩
theorem mmS.same {B : Nat} {H0 : Heap} {sk sv : Nat → Nat} {D : va_G} {cA : Nat → ClassId} {s U : State} (hv : U.vm = s.vm) (h : mmS B H0 sk sv D cA s) : mmS B H0 sk sv D cA U := by
  obtain ⟨h0, h1, h2, h5, h6, ⟨v, hvv, h7⟩, h8⟩ := h
  have hA : s.vm.Alike U.vm := by rw [hv]; exact Vm.Alike.refl s.vm
  exact ⟨h0, va_K.moved hA h1, vk_R.same hv h2, vk_S.moved hA h5, va_Z.moved hA h6, ⟨v, hvv, va_Z.moved hA h7⟩, fun q hq => va_Nw.same rfl hv.symm (h8 q hq)⟩
/-- the heap holds the memory, and below the base it is as it was -/
def mmH (B : Nat) (H0 : Heap) (D : va_G) (cA : Nat → ClassId) (μ : mmMem) (H : Heap) : Prop := H.size = H0.size ∧ (∀ q : Nat, q < H0.size → ¬ mmA B q → H[q]? = H0[q]?) ∧ va_P D vwCl (mmW B cA μ) H
def mmPc (B : Nat) (H0 : Heap) (sk sv : Nat → Nat) (D : va_G) (cA : Nat → ClassId) (as : List Value) (μ : mmMem) : Array Value → State → Prop := fun a U => a = (as.map (mmV B sk)).toArray ∧ mmH B H0 D cA μ U.heap ∧ mmS B H0 sk sv D cA U
def mmQc (B : Nat) (H0 : Heap) (sk : Nat → Nat) (D : va_G) (cA : Nat → ClassId) (P : Option Value → mmMem → Prop) : Array Value → State → Outcome → State → Prop := fun _ _ oc t => ∃ (v : Option Value) (ν : mmMem), oc = .returned (v.map (mmV B sk)) ∧ P v ν ∧ mmH B H0 D cA ν t.heap
/-- a call of M, at depth d: comes back, and what it answers and leaves is as P says -/
def mmCall (d : Nat) (M : mmMi) (as : List Value) (μ : mmMem) (P : Option Value → mmMem → Prop) : Prop :=
  ∀ (l : Launch) (B : Nat) (H0 : Heap) (sk sv : Nat → Nat) (D : va_G) (cA : Nat → ClassId), Met l M.1 (mmWs M) (mmRm d) (mmPc B H0 sk sv D cA as μ) (mmQc B H0 sk D cA P) 0 0 (mmA B)
/-- what a callee's words say, virtual (st = false) or static, n parameters -/
def mmGd (M : mmMi) (st : Bool) (n : Nat) : Prop := Cond.code M.1 M.2.1 M.2.2.1 M.2.2.2 ∈ mmT ∧ Cond.initialized M.1.cls ∈ mmT ∧ (M.1.cls ≠ "java/lang/invoke/MethodHandle" ∧ M.1.cls ≠ "java/lang/invoke/VarHandle" ∧ (parseMethodDescriptor M.1.desc).map (fun d => d.parameters.length) = some n) ∧ M.2.2.1 ≤ 20 ∧
  (if st = true then Cond.static M.1 ∈ mmT else (Cond.instanceMethod M.1 ∈ mmT ∧ Cond.selects M.1.cls M.1 M.1 ∈ mmT))
def mmCU (d : Nat) (M : mmMi) (st : Bool) (n : Nat) (as : List Value) (μ : mmMem) (P : Option Value → mmMem → Prop) : Prop := mmGd M st n ∧ as.length = (match st with | true => n | false => n + 1) ∧ ∃ d', d' < d ∧ ∃ P' : Option Value → mmMem → Prop, (∀ v ν, P' v ν → P v ν) ∧ mmCall d' M as μ P'
/-! the same by what comes back -/
def mmP0 (K : mmMem → Prop) : Option Value → mmMem → Prop := fun v ν => match v with
  | none => K ν
  | _ => False
def mmPI (K : Int32 → mmMem → Prop) : Option Value → mmMem → Prop := fun v ν => match v with
  | some (.int x) => K x ν
  | _ => False
theorem mmPI_ok {K : Int32 → mmMem → Prop} {v : Option Value} {ν : mmMem} (h : mmPI K v ν) : ∃ x, v = some (.int x) ∧ K x ν := by
  unfold mmPI at h
  split at h
  · exact ⟨_, rfl, h⟩
  · exact h.elim
def mmPJ (K : Int64 → mmMem → Prop) : Option Value → mmMem → Prop := fun v ν => match v with
  | some (.long x) => K x ν
  | _ => False
theorem mmPJ_ok {K : Int64 → mmMem → Prop} {v : Option Value} {ν : mmMem} (h : mmPJ K v ν) : ∃ x, v = some (.long x) ∧ K x ν := by
  unfold mmPJ at h
  split at h
  · exact ⟨_, rfl, h⟩
  · exact h.elim
def mmPF (K : UInt32 → mmMem → Prop) : Option Value → mmMem → Prop := fun v ν => match v with
  | some (.float x) => K x ν
  | _ => False
theorem mmPF_ok {K : UInt32 → mmMem → Prop} {v : Option Value} {ν : mmMem} (h : mmPF K v ν) : ∃ x, v = some (.float x) ∧ K x ν := by
  unfold mmPF at h
  split at h
  · exact ⟨_, rfl, h⟩
  · exact h.elim
def mmPD (K : UInt64 → mmMem → Prop) : Option Value → mmMem → Prop := fun v ν => match v with
  | some (.double x) => K x ν
  | _ => False
theorem mmPD_ok {K : UInt64 → mmMem → Prop} {v : Option Value} {ν : mmMem} (h : mmPD K v ν) : ∃ x, v = some (.double x) ∧ K x ν := by
  unfold mmPD at h
  split at h
  · exact ⟨_, rfl, h⟩
  · exact h.elim
def mmPA (K : Nat → mmMem → Prop) : Option Value → mmMem → Prop := fun v ν => match v with
  | some (.ref x) => K x ν
  | _ => False
theorem mmPA_ok {K : Nat → mmMem → Prop} {v : Option Value} {ν : mmMem} (h : mmPA K v ν) : ∃ x, v = some (.ref x) ∧ K x ν := by
  unfold mmPA at h
  split at h
  · exact ⟨_, rfl, h⟩
  · exact h.elim
theorem mmP0_ok {K : mmMem → Prop} {v : Option Value} {ν : mmMem} (h : mmP0 K v ν) : v = none ∧ K ν := by
  unfold mmP0 at h
  split at h
  · exact ⟨rfl, h⟩
  · exact h.elim
def mmC0 (d : Nat) (M : mmMi) (st : Bool) (n : Nat) (as : List Value) (μ : mmMem) (K : mmMem → Prop) : Prop := mmCU d M st n as μ (mmP0 K)
def mmCI (d : Nat) (M : mmMi) (st : Bool) (n : Nat) (as : List Value) (μ : mmMem) (K : Int32 → mmMem → Prop) : Prop := mmCU d M st n as μ (mmPI K)
def mmCJ (d : Nat) (M : mmMi) (st : Bool) (n : Nat) (as : List Value) (μ : mmMem) (K : Int64 → mmMem → Prop) : Prop := mmCU d M st n as μ (mmPJ K)
def mmCF (d : Nat) (M : mmMi) (st : Bool) (n : Nat) (as : List Value) (μ : mmMem) (K : UInt32 → mmMem → Prop) : Prop := mmCU d M st n as μ (mmPF K)
def mmCD (d : Nat) (M : mmMi) (st : Bool) (n : Nat) (as : List Value) (μ : mmMem) (K : UInt64 → mmMem → Prop) : Prop := mmCU d M st n as μ (mmPD K)
def mmCA (d : Nat) (M : mmMi) (st : Bool) (n : Nat) (as : List Value) (μ : mmMem) (K : Nat → mmMem → Prop) : Prop := mmCU d M st n as μ (mmPA K)
def mmCl (d : Nat) (M : mmMi) (st : Bool) (n : Nat) (as : List Value) (μ : mmMem) (r : List Value) (K : List Value → mmMem → Prop) : Prop := match M.2.2.2 with
  | none => mmC0 d M st n as μ fun ν => K r ν
  | some .long => mmCJ d M st n as μ fun x ν => K (.long x :: r) ν
  | some .float => mmCF d M st n as μ fun x ν => K (.float x :: r) ν
  | some .double => mmCD d M st n as μ fun x ν => K (.double x :: r) ν
  | some (.object _) => mmCA d M st n as μ fun x ν => K (.ref x :: r) ν
  | some _ => mmCI d M st n as μ fun x ν => K (.int x :: r) ν
theorem mmCU.mono {d : Nat} {M : mmMi} {st : Bool} {n : Nat} {as : List Value} {μ : mmMem} {P Q : Option Value → mmMem → Prop} (h : mmCU d M st n as μ P) (hq : ∀ v ν, P v ν → Q v ν) : mmCU d M st n as μ Q := by
  obtain ⟨h1, h2, d', h3, P', h4, h5⟩ := h
  exact ⟨h1, h2, d', h3, P', fun v ν h => hq v ν (h4 v ν h), h5⟩
theorem mmCl_ok {d : Nat} {M : mmMi} {st : Bool} {n : Nat} {as : List Value} {μ : mmMem} {r : List Value} {K : List Value → mmMem → Prop} (h : mmCl d M st n as μ r K) : mmCU d M st n as μ fun v ν => K (v.toList ++ r) ν := by
  unfold mmCl at h
  split at h
  · exact h.mono (fun v ν h => by obtain ⟨rfl, h⟩ := mmP0_ok h; exact h)
  · exact h.mono (fun v ν h => by obtain ⟨x, rfl, h⟩ := mmPJ_ok h; exact h)
  · exact h.mono (fun v ν h => by obtain ⟨x, rfl, h⟩ := mmPF_ok h; exact h)
  · exact h.mono (fun v ν h => by obtain ⟨x, rfl, h⟩ := mmPD_ok h; exact h)
  · exact h.mono (fun v ν h => by obtain ⟨x, rfl, h⟩ := mmPA_ok h; exact h)
  · exact h.mono (fun v ν h => by obtain ⟨x, rfl, h⟩ := mmPI_ok h; exact h)
/-- locals, by their places; .retAddr 7 stands for 'not known' -/
def mmLs (B : Nat) (sk : Nat → Nat) (ls : Array Slot) (n : Nat) (L : List Value) : Prop := ∃ lv, lv_has ls n lv ∧ ∀ (i : Nat) (v : Value), L[i]? = some v → v ≠ .retAddr 7 → (i, mmV B sk v) ∈ lv
def mmEnds (d : Nat) (M : mmMi) (pc : Nat) (L st : List Value) (μ : mmMem) (P : Option Value → mmMem → Prop) : Prop :=
  ∀ (p : Program) (l : Launch) (e : Env) (s : State) (m : MethodId) (args : Array Value) (below : List Frame) (meth : Method) (c : Code) (H : Heap) (locs : List Loc) (B : Nat) (H0 : Heap) (sk sv : Nat → Nat) (D : va_G) (cA : Nat → ClassId) (ls : Array Slot),
    p.tables.exec = Jvm.exec → c.code = M.2.1 → meth.sig.returnType = M.2.2.2 → c.maxLocals = M.2.2.1 → s.vm.findClass M.1.cls = some m.cls → (∀ w ∈ mmT, w.before args s = true) → meth.locks = false →
    mmS B H0 sk sv D cA s → mmLs B sk ls M.2.2.1 L → mmH B H0 D cA μ H → va_S (mmA B) s.heap H locs → s.heap.size = H0.size →
    W p l e (mmRm d) s m args below meth c H locs 0 0 (MQ below (mmQc B H0 sk D cA P) args s 0 0 (mmA B)) (F0 m pc ls (st.map (mmV B sk)))
def mget : List Value → Nat → Value
  | [], _ => .retAddr 7
  | a :: _, 0 => a
  | _ :: l, n + 1 => mget l n
def mset : List Value → Nat → Value → List Value
  | [], _, _ => []
  | _ :: l, 0, v => v :: l
  | a :: l, n + 1, v => a :: mset l n v
/-- a store: f = 1: the local ahead is not known from then on (it may be cut in two) -/
def mst1 (f : Nat) (L : List Value) (i : Nat) (v : Value) : List Value := match f with
  | 0 => mset L i v
  | _ + 1 => match i with
    | 0 => mset L 0 v
    | j + 1 => mset (mset L j (.retAddr 7)) (j + 1) v
def mst2 (f : Nat) (L : List Value) (i : Nat) (v : Value) : List Value := mset (mst1 f L i v) (i + 1) (.retAddr 7)
/-- what the local ahead must be for a store with f = 0 -/
def mok1 (f : Nat) (L : List Value) (i : Nat) : Prop := match f with
  | 0 => match i with
    | 0 => True
    | j + 1 => (mget L j).category = 1
  | _ + 1 => True
theorem mget_some {L : List Value} {i : Nat} {v : Value} (h : mget L i = v) (hv : v ≠ .retAddr 7) : L[i]? = some v := by
  induction L generalizing i with
  | nil => exact absurd h.symm hv
  | cons a l ih =>
    cases i with
    | zero => simpa [mget] using h
    | succ j => simpa using ih h
theorem mget_eq {L : List Value} {i : Nat} {v : Value} (h : L[i]? = some v) : mget L i = v := by
  induction L generalizing i with
  | nil => simp at h
  | cons a l ih =>
    cases i with
    | zero => simpa [mget] using h
    | succ j => exact ih (by simpa using h)
theorem mset_get {L : List Value} {i j : Nat} {v w : Value} (h : (mset L i v)[j]? = some w) : (j = i ∧ w = v) ∨ (j ≠ i ∧ L[j]? = some w) := by
  induction L generalizing i j with
  | nil => simp [mset] at h
  | cons a l ih =>
    cases i with
    | zero =>
      cases j with
      | zero => left; exact ⟨rfl, by simpa [mset] using h.symm⟩
      | succ j => right; exact ⟨by omega, by simpa [mset] using h⟩
    | succ i =>
      cases j with
      | zero => right; exact ⟨by omega, by simpa [mset] using h⟩
      | succ j =>
        rcases ih (i := i) (j := j) (by simpa [mset] using h) with ⟨h1, h2⟩ | ⟨h1, h2⟩
        · left; exact ⟨by omega, h2⟩
        · right; exact ⟨by omega, by simpa using h2⟩
theorem mmLs.at {B : Nat} {sk : Nat → Nat} {ls : Array Slot} {n : Nat} {L : List Value} (h : mmLs B sk ls n L) {i : Nat} {v : Value} (hg : mget L i = v) (hv : v ≠ .retAddr 7) : ls[i]? = some (.val (mmV B sk v)) := by
  obtain ⟨lv, h1, h2⟩ := h
  exact h1.2.2 _ (h2 i v (mget_some hg hv) hv)
theorem mst1_get {f i j : Nat} {L : List Value} {v w : Value} (hok : mok1 f L i) (hj : (mst1 f L i v)[j]? = some w) (hw : w ≠ .retAddr 7) : (j = i ∧ w = v) ∨ (j ≠ i ∧ L[j]? = some w ∧ (j + 1 = i → w.category = 1)) := by
  have plain : (∀ k, i = k + 1 → (mget L k).category = 1) → (mset L i v)[j]? = some w → (j = i ∧ w = v) ∨ (j ≠ i ∧ L[j]? = some w ∧ (j + 1 = i → w.category = 1)) := by
    intro hc h
    rcases mset_get h with ⟨a, b⟩ | ⟨a, b⟩
    · exact Or.inl ⟨a, b⟩
    · exact Or.inr ⟨a, b, fun hji => by rw [← mget_eq b]; exact hc j hji.symm⟩
  cases f with
  | zero =>
    refine plain (fun k hk => ?_) hj
    subst hk
    exact hok
  | succ f =>
    cases i with
    | zero => exact plain (fun k hk => by omega) hj
    | succ i =>
      rcases mset_get (show (mset (mset L i (.retAddr 7)) (i + 1) v)[j]? = some w from hj) with ⟨a, b⟩ | ⟨a, b⟩
      · exact Or.inl ⟨a, b⟩
      · rcases mset_get b with ⟨a2, b2⟩ | ⟨a2, b2⟩
        · exact absurd b2 hw
        · exact Or.inr ⟨a, b2, fun q => by omega⟩
theorem mmLs.st1 {B : Nat} {sk : Nat → Nat} {ls' : Array Slot} {n : Nat} {L : List Value} {lv : List (Nat × Value)} (f i : Nat) (v : Value) (h2 : ∀ (i : Nat) (v : Value), L[i]? = some v → v ≠ .retAddr 7 → (i, mmV B sk v) ∈ lv) (hok : mok1 f L i) {x : Value} (hx : x = mmV B sk v)
    (h' : lv_has ls' n ((i, x) :: lv.filter (fun q => !(q.1 == i) && !(q.1 + 1 == i && q.2.category == 2)))) : mmLs B sk ls' n (mst1 f L i v) := by
  subst hx
  refine ⟨_, h', fun j w hj hw => ?_⟩
  rcases mst1_get hok hj hw with ⟨rfl, rfl⟩ | ⟨a, b, c⟩
  · exact List.mem_cons_self
  · refine List.mem_cons_of_mem _ (List.mem_filter.mpr ⟨h2 j w b hw, ?_⟩)
    by_cases hji : j + 1 = i
    · have h3 := mmV_cat B sk w (c hji)
      simp [a, h3]
    · simp [a, hji]
theorem mmLs.st2 {B : Nat} {sk : Nat → Nat} {ls' : Array Slot} {n : Nat} {L : List Value} {lv : List (Nat × Value)} (f i : Nat) (v : Value) (h2 : ∀ (i : Nat) (v : Value), L[i]? = some v → v ≠ .retAddr 7 → (i, mmV B sk v) ∈ lv) (hok : mok1 f L i) {x : Value} (hx : x = mmV B sk v)
    (h' : lv_has ls' n ((i, x) :: lv.filter (fun q => !(q.1 == i) && (!(q.1 == i + 1) && !(q.1 + 1 == i && q.2.category == 2))))) : mmLs B sk ls' n (mst2 f L i v) := by
  subst hx
  refine ⟨_, h', fun j w hj hw => ?_⟩
  rcases mset_get hj with ⟨-, h⟩ | ⟨hne, hj⟩
  · exact absurd h hw
  rcases mst1_get hok hj hw with ⟨rfl, rfl⟩ | ⟨a, b, c⟩
  · exact List.mem_cons_self
  · refine List.mem_cons_of_mem _ (List.mem_filter.mpr ⟨h2 j w b hw, ?_⟩)
    by_cases hji : j + 1 = i
    · have h3 := mmV_cat B sk w (c hji)
      simp [a, hne, h3]
    · simp [a, hne, hji]
/-! what stands on the stack -/
def pI (st : List Value) (k : Int32 → List Value → Prop) : Prop := match st with
  | .int x :: r => k x r
  | _ => False
def pJ (st : List Value) (k : Int64 → List Value → Prop) : Prop := match st with
  | .long x :: r => k x r
  | _ => False
def pF (st : List Value) (k : UInt32 → List Value → Prop) : Prop := match st with
  | .float x :: r => k x r
  | _ => False
def pD (st : List Value) (k : UInt64 → List Value → Prop) : Prop := match st with
  | .double x :: r => k x r
  | _ => False
def pA (st : List Value) (k : Nat → List Value → Prop) : Prop := match st with
  | .ref x :: r => k x r
  | _ => False
theorem pI_ok {st : List Value} {k : Int32 → List Value → Prop} (h : pI st k) : ∃ x r, st = .int x :: r ∧ k x r := by
  unfold pI at h
  split at h
  · exact ⟨_, _, rfl, h⟩
  · exact h.elim
theorem pJ_ok {st : List Value} {k : Int64 → List Value → Prop} (h : pJ st k) : ∃ x r, st = .long x :: r ∧ k x r := by
  unfold pJ at h
  split at h
  · exact ⟨_, _, rfl, h⟩
  · exact h.elim
theorem pF_ok {st : List Value} {k : UInt32 → List Value → Prop} (h : pF st k) : ∃ x r, st = .float x :: r ∧ k x r := by
  unfold pF at h
  split at h
  · exact ⟨_, _, rfl, h⟩
  · exact h.elim
theorem pD_ok {st : List Value} {k : UInt64 → List Value → Prop} (h : pD st k) : ∃ x r, st = .double x :: r ∧ k x r := by
  unfold pD at h
  split at h
  · exact ⟨_, _, rfl, h⟩
  · exact h.elim
theorem pA_ok {st : List Value} {k : Nat → List Value → Prop} (h : pA st k) : ∃ x r, st = .ref x :: r ∧ k x r := by
  unfold pA at h
  split at h
  · exact ⟨_, _, rfl, h⟩
  · exact h.elim
/-- n of the stack, the deepest first, and what lies below -/
def mpop : Nat → List Value → List Value → List Value × List Value
  | 0, acc, st => (acc, st)
  | _ + 1, acc, [] => (acc, [])
  | n + 1, acc, v :: st => mpop n (v :: acc) st
theorem mpop_ok (n : Nat) : ∀ (acc st as r : List Value), mpop n acc st = (as, r) → ∃ bs, as = bs.reverse ++ acc ∧ st = bs ++ r ∧ bs.length ≤ n := by
  induction n with
  | zero =>
    intro acc st as r h
    simp only [mpop, Prod.mk.injEq] at h
    exact ⟨[], by simp [h.1], by simp [h.2], Nat.le_refl 0⟩
  | succ n ih =>
    intro acc st as r h
    cases st with
    | nil =>
      simp only [mpop, Prod.mk.injEq] at h
      exact ⟨[], by simp [h.1], by simp [← h.2], Nat.zero_le _⟩
    | cons v st =>
      obtain ⟨bs, h1, h2, h3⟩ := ih (v :: acc) st as r h
      exact ⟨v :: bs, by simp [h1], by simp [h2], by simp; omega⟩
def mcat : List Value → Nat
  | [] => 0
  | v :: l => v.category + mcat l
theorem mcat_ok (B : Nat) (sk : Nat → Nat) (l : List Value) : ((l.map (mmV B sk)).map fun v => v.category).sum = mcat l := by
  induction l with
  | nil => rfl
  | cons v l ih =>
    simp only [List.map_cons, List.sum_cons, mcat, ih]
    congr 1
    cases v <;> rfl

