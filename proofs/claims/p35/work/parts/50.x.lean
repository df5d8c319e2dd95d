/-! ===== the growing world ===== -/
def scLs (ls : Array Slot) (n : Nat) (L : List Value) : Prop := ∃ lv, lv_has ls n lv ∧ ∀ (i : Nat) (v : Value), L[i]? = some v → v ≠ .retAddr 7 → (i, v) ∈ lv
theorem scLs.at {ls : Array Slot} {n : Nat} {L : List Value} (h : scLs ls n L) {i : Nat} {v : Value} (hg : L[i]? = some v) (hv : v ≠ .retAddr 7) : ls[i]? = some (.val v) := by
  obtain ⟨lv, h1, h2⟩ := h
  exact h1.2.2 _ (h2 i v hg hv)
theorem scLs.st {ls' : Array Slot} {n i : Nat} {L : List Value} {lv : List (Nat × Value)} {v : Value} (h2 : ∀ (i : Nat) (v : Value), L[i]? = some v → v ≠ .retAddr 7 → (i, v) ∈ lv) (h' : lv_has ls' n ((i, v) :: lv.filter (fun q => !(q.1 == i) && !(q.1 + 1 == i && q.2.category == 2)))) (h1 : ∀ w ∈ L, w.category = 1) : scLs ls' n (L.set i v) := by
  refine ⟨_, h', fun j w hj hw => ?_⟩
  rw [List.getElem?_set] at hj
  split at hj
  · rename_i hij
    subst hij
    split at hj
    · cases hj
      exact List.mem_cons_self
    · cases hj
  · rename_i hij
    refine List.mem_cons_of_mem _ (List.mem_filter.mpr ⟨h2 j w hj hw, ?_⟩)
    have h3 := h1 w (List.mem_of_getElem? hj)
    have h4 : j ≠ i := fun q => hij q.symm
    simp [h3, h4]
theorem scLo_mem : ∀ (as : List Value) (off : Nat), (∀ v ∈ as, v.category = 1) → ∀ (n i : Nat) (v : Value), (as ++ List.replicate n (Value.retAddr 7))[i]? = some v → v ≠ .retAddr 7 → (off + i, v) ∈ lv_args off as := by
  intro as
  induction as with
  | nil =>
    intro off _ n i v h hv
    simp only [List.nil_append, List.getElem?_replicate] at h
    split at h
    · cases h
      exact absurd rfl hv
    · cases h
  | cons a l ih =>
    intro off hc n i v h hv
    have h1 : a.category = 1 := hc a List.mem_cons_self
    have h2 : ¬ (a.category = 2) := by rw [h1]; decide
    cases i with
    | zero =>
      cases h
      simp [lv_args]
    | succ i =>
      have := ih (off + 1) (fun v q => hc v (List.mem_cons_of_mem _ q)) n i v (by simpa using h) hv
      simp only [lv_args, h2, if_false, List.mem_cons]
      right
      have e1 : off + 1 + i = off + (i + 1) := by omega
      rwa [e1] at this
theorem sc_sl : ∀ as : List Value, (∀ v ∈ as, v.category = 1) → (lg_sl as).length = as.length := by
  intro as
  induction as with
  | nil => intro _; rfl
  | cons a l ih =>
    intro hc
    have h1 : a.category = 1 := hc a List.mem_cons_self
    have e : lg_sl (a :: l) = (if a.category = 2 then [Slot.val a, .second] else [.val a]) ++ lg_sl l := by simp [lg_sl]
    rw [e, List.length_append, ih (fun v q => hc v (List.mem_cons_of_mem _ q)), h1]
    simp
    omega

/-- base, heap at the law's entry, the texts' places and their arrays', classes, array classes, the script's place, length, contents -/
abbrev xG : Type := Nat × Heap × (Nat → Nat) × (Nat → Nat) × va_G × (Nat → ClassId) × Nat × Nat × (Nat → Int32)
def xG.B (G : xG) : Nat := G.1
def xG.H0 (G : xG) : Heap := G.2.1
def xG.sk (G : xG) : Nat → Nat := G.2.2.1
def xG.sv (G : xG) : Nat → Nat := G.2.2.2.1
def xG.D (G : xG) : va_G := G.2.2.2.2.1
def xG.cA (G : xG) : Nat → ClassId := G.2.2.2.2.2.1
def xG.b (G : xG) : Nat := G.2.2.2.2.2.2.1
def xG.L (G : xG) : Nat := G.2.2.2.2.2.2.2.1
def xG.xs (G : xG) : Nat → Int32 := G.2.2.2.2.2.2.2.2
def ctU (es : Nat → va_E) (a : Nat) (e : va_E) : Nat → va_E := fun b => if b = a then e else es b
theorem ctU_at (es : Nat → va_E) (a : Nat) (e : va_E) : ctU es a e a = e := if_pos rfl
theorem ctU_ne {es : Nat → va_E} {a b : Nat} {e : va_E} (h : b ≠ a) : ctU es a e b = es b := if_neg h
def ctWd (B n : Nat) (es : Nat → va_E) : va_W := (List.range n).map fun a => (B + a, es a)
def ctH (B : Nat) (H0 : Heap) (D : va_G) (n : Nat) (es : Nat → va_E) (H : Heap) : Prop := H.size = B + n ∧ (∀ q : Nat, q < B → H[q]? = H0[q]?) ∧ va_P D vwCl (ctWd B n es) H
def ctMu : mmMem := (fun a k => if mmKD a = 0 then (if k = 0 then -1 else 0) else 0, fun _ _ => 0, fun _ _ => 0)
def ctFn (B : Nat) (cA : Nat → ClassId) (r : Nat) (es : Nat → va_E) : Nat → va_E := fun b => if b < r then es b else mmE B cA ctMu b
def ctR (d mc ms : Nat) : Room := { frames := d, cells := mc, slots := ms, locals := 40 * d }
theorem ctWd_get {B n : Nat} {es : Nat → va_E} {a : Nat} (h : a < n) : (ctWd B n es)[a]? = some (B + a, es a) := by simp [ctWd, h]
theorem ctWd_inv {B n : Nat} {es : Nat → va_E} {k : Nat} {q : Nat × va_E} (h : (ctWd B n es)[k]? = some q) : k < n ∧ q = (B + k, es k) := by
  have hk : k < n := by
    have h1 := (List.getElem?_eq_some_iff.mp h).1
    simpa [ctWd] using h1
  rw [ctWd_get hk] at h
  cases h
  exact ⟨hk, rfl⟩
theorem ctWd_D {B n : Nat} {es : Nat → va_E} : va_D (fun q => B ≤ q) (ctWd B n es) := by
  refine ⟨fun i j p q hi hj h => ?_, fun k q hk => ?_⟩
  · obtain ⟨-, rfl⟩ := ctWd_inv hi
    obtain ⟨-, rfl⟩ := ctWd_inv hj
    simpa using h
  · obtain ⟨-, rfl⟩ := ctWd_inv hk
    show B ≤ B + k
    omega
theorem ctWd_set {B n a : Nat} {es : Nat → va_E} {e : va_E} (ha : a < n) : (ctWd B n es).set a (B + a, e) = ctWd B n (ctU es a e) := mm_mapset ha (fun b hb => by simp [ctU, hb]) (by simp [ctU])
theorem ctWd_congr {B n : Nat} {es es' : Nat → va_E} (h : ∀ a, a < n → es a = es' a) : ctWd B n es = ctWd B n es' := by
  unfold ctWd
  refine List.map_congr_left (fun a ha => ?_)
  rw [h a (List.mem_range.mp ha)]
theorem ctH.congr {B : Nat} {H0 H : Heap} {D : va_G} {n : Nat} {es es' : Nat → va_E} (h : ∀ a, a < n → es a = es' a) (hH : ctH B H0 D n es H) : ctH B H0 D n es' H := ⟨hH.1, hH.2.1, by rw [← ctWd_congr h]; exact hH.2.2⟩
theorem ctH.push {B : Nat} {H0 H H1 : Heap} {D : va_G} {n : Nat} {es : Nat → va_E} {e : va_E} (h : ctH B H0 D n es H) (hs : H1.size = B + n + 1) (ho : ∀ q, q < B + n → H1[q]? = H[q]?) (hc : va_at D vwCl (B + n, e) H1) : ctH B H0 D (n + 1) (ctU es n e) H1 := by
  refine ⟨by omega, fun q hq => (ho q (by omega)).trans (h.2.1 q hq), fun k q hk => ?_⟩
  obtain ⟨hkn, rfl⟩ := ctWd_inv hk
  by_cases hkk : k = n
  · subst hkk
    simpa [ctU] using hc
  · have h1 := h.2.2 k (B + k, es k) (ctWd_get (by omega))
    have h2 : ctU es n e k = es k := by simp [ctU, hkk]
    rw [h2]
    exact h1.kept (ho _ (by show B + k < B + n; omega))
theorem ctFn_ctU {B : Nat} {cA : Nat → ClassId} {r : Nat} {es : Nat → va_E} {e : va_E} : ctFn B cA r (ctU es r e) = ctFn B cA r es := by
  funext b
  unfold ctFn ctU
  split
  · rename_i h
    rw [if_neg (by omega)]
  · rfl
theorem ctH.F {B : Nat} {H0 H H1 Hs : Heap} {D : va_G} {n n1 : Nat} {es es1 : Nat → va_E} {locs locs1 : List Loc} (hH : ctH B H0 D n es H) (hH1 : ctH B H0 D n1 es1 H1) (hF : va_S (fun q => B ≤ q) Hs H locs) (hn : n ≤ n1) (hl : ∀ q ∈ locs1, B ≤ q.base) : va_S (fun q => B ≤ q) Hs H1 locs1 := by
  refine ⟨by have := hF.1; have := hH.1; have := hH1.1; omega, fun q h1 h2 => ?_, hl⟩
  have hq : q < B := Nat.not_le.mp h2
  rw [hH1.2.1 q hq, ← hH.2.1 q hq]
  exact hF.2.1 q h1 h2
/-- behind a write: no cell more -/
theorem ctH.put {B : Nat} {H0 H H1 Hs : Heap} {D : va_G} {n : Nat} {es es1 : Nat → va_E} {locs locs1 : List Loc} (hH : ctH B H0 D n es H) (hF : va_S (fun q => B ≤ q) Hs H locs) (hB : B ≤ Hs.size) (hP : va_P D vwCl (ctWd B n es1) H1) (hS1 : va_S (fun q => B ≤ q) Hs H1 locs1) (hz : H1.size = B + n) : ctH B H0 D n es1 H1 := by
  refine ⟨hz, fun q hq => ?_, hP⟩
  have h1 := hS1.2.1 q (by omega) (by simpa using hq)
  have h2 := hF.2.1 q (by omega) (by simpa using hq)
  rw [h1, ← h2]
  exact hH.2.1 q hq
theorem ct_bytes {N : Nat} (h : N ≤ 5000) (ty : FieldType) : N * componentBytes ty ≤ 536870912 := by
  have h1 : componentBytes ty ≤ 8 := by cases ty <;> exact Nat.le_of_ble_eq_true rfl
  have h2 := Nat.mul_le_mul_left N h1
  omega
theorem ct_in {x : Int32} {N : Nat} (h : ¬ x < 0) (h1 : x.toNatClampNeg < N) : vp_in x N := by
  intro w
  rcases w with w | w
  · exact h w
  · omega
def xRef : List (Nat × String × Nat) := [(60, "zbcsilfdwon", 0), (18, "", 1), (35, "-", 2), (41, "_", 3), (47, "'", 4), (49, "zbcsilfd", 5), (62, "(", 6), (64, ",", 7), (70, ")", 8)]
def xLen : List Nat := [11, 0, 1, 1, 1, 8, 1, 1, 1]
def xByt : List (List Int32) := [[122, 98, 99, 115, 105, 108, 102, 100, 119, 111, 110], [], [45], [95], [39], [122, 98, 99, 115, 105, 108, 102, 100], [40], [44], [41]]
/-- private methods of AbstractStringBuilder that are called on builders -/
def xPriv : List MethodName := [yJ5_ensureCapacityInternal_d00df, yJ5_newCapacity_0f7a4, yJ5_putStringAt_47b60, yJ5_inflateIfNeededFor_a7421]
/-- one of Integer's two tables -/
def xDg (nm : String) (f : Nat → Nat) (A : Nat → Prop) (U : State) (H : Heap) : Prop := ∃ t : Nat, va_Z "java/lang/Integer" nm "[B" (.ref t) A U H ∧ va_T .byte t 100 (fun j => .int (nI (48 + f j))) A U H
/-- what stands of a state all along -/
def xS (G : xG) (U : State) : Prop :=
  G.H0.size = G.B ∧ va_K G.D vwCl (mmTys G.cA) U ∧ vk_R RX5 51 "zbcsilfdwon" (G.sk 0) U ∧ (∀ q ∈ xRef, vk_R RL q.1 q.2.1 (G.sk q.2.2) U) ∧
  vk_S 9 xLen xByt G.sk G.sv (fun q => G.B ≤ q) U G.H0 ∧ va_Z "java/lang/String" "COMPACT_STRINGS" "Z" (.int 1) (fun q => G.B ≤ q) U G.H0 ∧
  (∃ v, (v = .null ∨ ∃ t, v = .ref t) ∧ va_Z "jdk/internal/util/Preconditions" "SIOOBE_FORMATTER" "Ljava/util/function/BiFunction;" v (fun q => G.B ≤ q) U G.H0) ∧
  (∀ q ∈ mmNest, va_Nw (.methodLinkNest q.1 q.2.1 q.2.2 "ColumnCasts") U) ∧ (va_AO RX1 U ∧ va_AO RX6 U ∧ va_AO RX2 U) ∧
  (xDg "DigitOnes" (fun j => j % 10) (fun q => G.B ≤ q) U G.H0 ∧ xDg "DigitTens" (fun j => j / 10) (fun q => G.B ≤ q) U G.H0) ∧
  (va_Nw (.castable "[B" "java/lang/Cloneable") U ∧ ∀ y ∈ xPriv, va_Nw (.selects RJ4 y y) U) ∧ va_X G.b G.L G.xs U G.H0
theorem xDg.moved {nm : String} {f : Nat → Nat} {A : Nat → Prop} {u U : State} {H : Heap} (hvm : u.vm.Alike U.vm) (h : xDg nm f A u H) : xDg nm f A U H := by
  obtain ⟨t, h1, h2⟩ := h
  exact ⟨t, va_Z.moved hvm h1, va_T.moved hvm h2⟩
theorem xS.warm {G : xG} {s U : State} (hW : s.WarmedH U.vm) (h : xS G s) : xS G U := by
  obtain ⟨h0, h1, h2, h3, h4, h5, ⟨v, hv, h6⟩, h7, ⟨h8, h9, h10⟩, ⟨h11, h12⟩, ⟨h13, h15⟩, h14⟩ := h
  exact ⟨h0, va_K.moved hW.alike h1, vk_R.warm hW h2, fun q hq => vk_R.warm hW (h3 q hq), vk_S.moved hW.alike h4, va_Z.moved hW.alike h5, ⟨v, hv, va_Z.moved hW.alike h6⟩, fun q hq => va_Nw.warmM hW (h7 q hq), ⟨va_AO.moved hW.alike h8, va_AO.moved hW.alike h9, va_AO.moved hW.alike h10⟩, ⟨h11.moved hW.alike, h12.moved hW.alike⟩, ⟨va_Nw.warmC hW h13, fun y hy => word_at hW (Or.inl rfl) (h15 y hy)⟩, va_X.moved hW.alike h14⟩
theorem xS.same {G : xG} {s U : State} (hv : U.vm = s.vm) (h : xS G s) : xS G U := by
  obtain ⟨h0, h1, h2, h3, h4, h5, ⟨v, hvv, h6⟩, h7, ⟨h8, h9, h10⟩, ⟨h11, h12⟩, ⟨h13, h15⟩, h14⟩ := h
  have hA : s.vm.Alike U.vm := by rw [hv]; exact Vm.Alike.refl s.vm
  exact ⟨h0, va_K.moved hA h1, vk_R.same hv h2, fun q hq => vk_R.same hv (h3 q hq), vk_S.moved hA h4, va_Z.moved hA h5, ⟨v, hvv, va_Z.moved hA h6⟩, fun q hq => va_Nw.same rfl hv.symm (h7 q hq), ⟨va_AO.moved hA h8, va_AO.moved hA h9, va_AO.moved hA h10⟩, ⟨h11.moved hA, h12.moved hA⟩, ⟨va_Nw.same rfl hv.symm h13, fun y hy => va_Nw.same rfl hv.symm (h15 y hy)⟩, va_X.moved hA h14⟩
/-- what lay there at the law's entry lies there still -/
theorem x_kept {B n : Nat} {H0 H Hs : Heap} {D : va_G} {es : Nat → va_E} {locs : List Loc} (hsz : H0.size = B) (hH : ctH B H0 D n es H) (hF : va_S (fun q => B ≤ q) Hs H locs) (hB : B ≤ Hs.size) : ∀ a : Nat, a < H0.size → ¬ (B ≤ a) → Hs[a]? = H0[a]? := by
  intro a h1 h2
  rw [← hF.2.1 a (by omega) h2]
  exact hH.2.1 a (by omega)
def xE (ex : Bool) (d : Nat) (M : mmMi) (l : Launch) (G : xG) (mc ms n : Nat) (es : Nat → va_E) (k z pc : Nat) (L st : List Value) (Qc : Array Value → State → Outcome → State → Prop) : Prop :=
  ∀ (p : Program) (e : Env) (s : State) (m : MethodId) (args : Array Value) (below : List Frame) (meth : Method) (c : Code) (H : Heap) (locs : List Loc) (ls : Array Slot),
    p.tables.exec = Jvm.exec → c.code = M.2.1 → meth.sig.returnType = M.2.2.2 → c.maxLocals = M.2.2.1 → s.vm.findClass M.1.cls = some m.cls → (∀ w ∈ mmT, w.before args s = true) → meth.locks = false → (M.1.name = "<init>" → meth.name = "<init>") →
    xS G s → scLs ls M.2.2.1 L → ctH G.B G.H0 G.D n es H → va_S (fun q => G.B ≤ q) s.heap H locs → (G.B ≤ s.heap.size ∧ (ex = true → s.heap.size + k ≤ G.B + n)) →
    W p l e (ctR d mc ms) s m args below meth c H locs k z (MQ below Qc args s mc ms (fun q => G.B ≤ q)) (F0 m pc ls st)
def xPc (G : xG) (n : Nat) (es : Nat → va_E) (as : List Value) : Array Value → State → Prop := fun a U => a = as.toArray ∧ ctH G.B G.H0 G.D n es U.heap ∧ xS G U
def xQc (G : xG) (n : Nat) (P : Option Value → Nat → (Nat → va_E) → Prop) : Array Value → State → Outcome → State → Prop := fun _ _ oc t => ∃ v n1 es1, oc = .returned v ∧ P v n1 es1 ∧ n ≤ n1 ∧ ctH G.B G.H0 G.D n1 es1 t.heap
/-- a method's contract in the growing world: from n places with es in them -/
def xMet (d mc ms : Nat) (M : mmMi) (l : Launch) (G : xG) (n : Nat) (es : Nat → va_E) (as : List Value) (P : Option Value → Nat → (Nat → va_E) → Prop) : Prop := Met l M.1 (mmWs M) (ctR d mc ms) (xPc G n es as) (xQc G n P) mc ms (fun q => G.B ≤ q)
theorem xMet.of (ex : Bool) {d mc ms j : Nat} {M : mmMi} {l : Launch} {G : xG} {n : Nat} {es : Nat → va_E} {as : List Value} {P : Option Value → Nat → (Nat → va_E) → Prop} (hy : plainFor M.1 = true) (hc : ∀ v ∈ as, v.category = 1) (hj : as.length + j = M.2.2.1) (h : xE ex d M l G mc ms n es 0 0 0 (as ++ List.replicate j (.retAddr 7)) [] (xQc G n P)) : xMet d mc ms M l G n es as P := by
  unfold xMet
  refine Jvm.Free.MetFree.of_bodySF (code := M.2.1) (maxLocals := M.2.2.1) (ret := M.2.2.2) hy (fun args s m hb hn => by
    obtain ⟨meth, c, h1, h2, h3, h4, h5, h6, -, -⟩ := Cond.code_spec hn (atoms_spec (ws := mmWs M) hb _ List.mem_cons_self)
    exact ⟨meth, c, h1, h2, h3, h4, h5, h6⟩) ?_
  intro p e s m args below meth c s₁ Bd hml hP _
  obtain ⟨rfl, hH, hS⟩ := hP
  have hh0 : s₁.heap = s.heap := by rw [Bd.state]; rfl
  have hts := atoms_spec (ws := mmWs M) Bd.pre
  have hinit : M.1.name = "<init>" → meth.name = "<init>" := fun q => (name_of_methodNamed Bd.named Bd.method).1.trans q
  rw [lg_entry_eq]
  have hen := lv_entry as (n := M.2.2.1) (by rw [sc_sl as hc]; omega)
  obtain ⟨t, a1, o, b1, b2, b3⟩ := h p e s m _ below meth c s.heap [] _ Bd.exec Bd.bytes Bd.returns hml (findClass_of_methodNamed Bd.named) (fun w hw => hts w (List.mem_cons_of_mem _ hw)) Bd.notSynchronized hinit hS ⟨lv_args 0 _, hen, fun i v h1 h2 => by simpa using scLo_mem as 0 hc j i v h1 h2⟩ hH ⟨Nat.le_refl _, fun q _ _ => rfl, fun q hq => by cases hq⟩ ⟨by rw [hH.1]; omega, fun _ => by rw [hH.1]; omega⟩ s₁ hh0 (Stand.of_body Bd)
  exact ⟨t, o, a1, b1, b2, ⟨b3.1, b3.2⟩⟩
theorem xE.congr {ex : Bool} {d : Nat} {M : mmMi} {l : Launch} {G : xG} {mc ms n : Nat} {es : Nat → va_E} {k z : Nat} {L st : List Value} {pc : Nat} {Qc : Array Value → State → Outcome → State → Prop} (es' : Nat → va_E) (he : ∀ a, a < n → es a = es' a) (h : xE ex d M l G mc ms n es' k z pc L st Qc) : xE ex d M l G mc ms n es k z pc L st Qc :=
  fun p e s m args below meth c H locs ls hx hb hr hml hown hts hlk hin hS hls hH hF hB => h p e s m args below meth c H locs ls hx hb hr hml hown hts hlk hin hS hls (hH.congr he) hF hB
theorem xE.flag {ex : Bool} {d : Nat} {M : mmMi} {l : Launch} {G : xG} {mc ms n : Nat} {es : Nat → va_E} {k z : Nat} {L st : List Value} {pc : Nat} {Qc : Array Value → State → Outcome → State → Prop} (h : xE false d M l G mc ms n es k z pc L st Qc) : xE ex d M l G mc ms n es k z pc L st Qc :=
  fun p e s m args below meth c H locs ls hx hb hr hml hown hts hlk hin hS hls hH hF hB => h p e s m args below meth c H locs ls hx hb hr hml hown hts hlk hin hS hls hH hF ⟨hB.1, fun q => by cases q⟩
theorem x_widen {d : Nat} {M : mmMi} {l : Launch} {G : xG} {mc ms n : Nat} {es : Nat → va_E} {k z : Nat} (k' z' : Nat) {L st : List Value} {pc : Nat} {Qc : Array Value → State → Outcome → State → Prop} (hk : k ≤ k') (hz : z ≤ z') (h : xE false d M l G mc ms n es k' z' pc L st Qc) : xE false d M l G mc ms n es k z pc L st Qc :=
  fun p e s m args below meth c H locs ls hx hb hr hml hown hts hlk hin hS hls hH hF hB => W.widen hk hz (h p e s m args below meth c H locs ls hx hb hr hml hown hts hlk hin hS hls hH hF ⟨hB.1, fun q => by cases q⟩)
/-- behind a write the heap is as large as it was -/
theorem x_wz {B n k z0 : Nat} {D : va_G} {es : Nat → va_E} {H1 : Heap} (hn : 0 < n) (hP : va_P D vwCl (ctWd B n es) H1) (hz : H1.size ≤ z0 + k) (hk : z0 + k ≤ B + n) : H1.size = B + n := by
  have hl := (hP (n - 1) _ (ctWd_get (by omega))).lt
  dsimp only at hl
  omega
theorem x_aload_n {ex : Bool} {d : Nat} {M : mmMi} {l : Launch} {G : xG} {mc ms n : Nat} {es : Nat → va_E} {k z : Nat} {L st : List Value} {pc : Nat} {Qc : Array Value → State → Outcome → State → Prop} {i : Fin 4} {x : Nat} (hd : decode M.2.1 pc = .ok (.aload_n i, 1)) (hg : L[i.val]? = some (.ref x)) (kk : xE ex d M l G mc ms n es k z (pc + 1) L (.ref x :: st) Qc) : xE ex d M l G mc ms n es k z pc L st Qc := by
  intro p e s m args below meth c H locs ls hx hb hr hml hown hts hlk hin hS hls hH hF hB
  exact lv_aload_n hx hb hd rfl (hls.at hg (fun hq => by cases hq)) (kk p e s m args below meth c H locs ls hx hb hr hml hown hts hlk hin hS hls hH hF hB)
theorem x_aload {ex : Bool} {d : Nat} {M : mmMi} {l : Launch} {G : xG} {mc ms n : Nat} {es : Nat → va_E} {k z : Nat} {L st : List Value} {pc : Nat} {Qc : Array Value → State → Outcome → State → Prop} {i : Nat} {x : Nat} (hd : decode M.2.1 pc = .ok (.aload i, 2)) (hg : L[i]? = some (.ref x)) (kk : xE ex d M l G mc ms n es k z (pc + 2) L (.ref x :: st) Qc) : xE ex d M l G mc ms n es k z pc L st Qc := by
  intro p e s m args below meth c H locs ls hx hb hr hml hown hts hlk hin hS hls hH hF hB
  exact lv_aload hx hb hd (hls.at hg (fun hq => by cases hq)) (kk p e s m args below meth c H locs ls hx hb hr hml hown hts hlk hin hS hls hH hF hB)
theorem x_astore_n {ex : Bool} {d : Nat} {M : mmMi} {l : Launch} {G : xG} {mc ms n : Nat} {es : Nat → va_E} {k z : Nat} {L st : List Value} {pc : Nat} {Qc : Array Value → State → Outcome → State → Prop} {i : Fin 4} {x : Nat} (hd : decode M.2.1 pc = .ok (.astore_n i, 1)) (hi : i.val < M.2.2.1) (hc : ∀ w ∈ L, w.category = 1) (kk : xE ex d M l G mc ms n es k z (pc + 1) (L.set i.val (.ref x)) st Qc) : xE ex d M l G mc ms n es k z pc L (.ref x :: st) Qc := by
  intro p e s m args below meth c H locs ls hx hb hr hml hown hts hlk hin hS hls hH hF hB
  obtain ⟨lv, hlv, hmem⟩ := hls
  exact lv_astore_n hx hb hd rfl hlv hi rfl (fun ls2 hls2 => kk p e s m args below meth c H locs _ hx hb hr hml hown hts hlk hin hS (scLs.st hmem hls2 hc) hH hF hB)
theorem x_astore {ex : Bool} {d : Nat} {M : mmMi} {l : Launch} {G : xG} {mc ms n : Nat} {es : Nat → va_E} {k z : Nat} {L st : List Value} {pc : Nat} {Qc : Array Value → State → Outcome → State → Prop} {i : Nat} {x : Nat} (hd : decode M.2.1 pc = .ok (.astore i, 2)) (hi : i < M.2.2.1) (hc : ∀ w ∈ L, w.category = 1) (kk : xE ex d M l G mc ms n es k z (pc + 2) (L.set i (.ref x)) st Qc) : xE ex d M l G mc ms n es k z pc L (.ref x :: st) Qc := by
  intro p e s m args below meth c H locs ls hx hb hr hml hown hts hlk hin hS hls hH hF hB
  obtain ⟨lv, hlv, hmem⟩ := hls
  exact lv_astore hx hb hd hlv hi rfl (fun ls2 hls2 => kk p e s m args below meth c H locs _ hx hb hr hml hown hts hlk hin hS (scLs.st hmem hls2 hc) hH hF hB)
theorem x_iload_n {ex : Bool} {d : Nat} {M : mmMi} {l : Launch} {G : xG} {mc ms n : Nat} {es : Nat → va_E} {k z : Nat} {L st : List Value} {pc : Nat} {Qc : Array Value → State → Outcome → State → Prop} {i : Fin 4} {x : Int32} (hd : decode M.2.1 pc = .ok (.iload_n i, 1)) (hg : L[i.val]? = some (.int x)) (kk : xE ex d M l G mc ms n es k z (pc + 1) L (.int x :: st) Qc) : xE ex d M l G mc ms n es k z pc L st Qc := by
  intro p e s m args below meth c H locs ls hx hb hr hml hown hts hlk hin hS hls hH hF hB
  exact lv_iload_n hx hb hd rfl (hls.at hg (fun hq => by cases hq)) (kk p e s m args below meth c H locs ls hx hb hr hml hown hts hlk hin hS hls hH hF hB)
theorem x_iload {ex : Bool} {d : Nat} {M : mmMi} {l : Launch} {G : xG} {mc ms n : Nat} {es : Nat → va_E} {k z : Nat} {L st : List Value} {pc : Nat} {Qc : Array Value → State → Outcome → State → Prop} {i : Nat} {x : Int32} (hd : decode M.2.1 pc = .ok (.iload i, 2)) (hg : L[i]? = some (.int x)) (kk : xE ex d M l G mc ms n es k z (pc + 2) L (.int x :: st) Qc) : xE ex d M l G mc ms n es k z pc L st Qc := by
  intro p e s m args below meth c H locs ls hx hb hr hml hown hts hlk hin hS hls hH hF hB
  exact lv_iload hx hb hd (hls.at hg (fun hq => by cases hq)) (kk p e s m args below meth c H locs ls hx hb hr hml hown hts hlk hin hS hls hH hF hB)
theorem x_istore_n {ex : Bool} {d : Nat} {M : mmMi} {l : Launch} {G : xG} {mc ms n : Nat} {es : Nat → va_E} {k z : Nat} {L st : List Value} {pc : Nat} {Qc : Array Value → State → Outcome → State → Prop} {i : Fin 4} {x : Int32} (hd : decode M.2.1 pc = .ok (.istore_n i, 1)) (hi : i.val < M.2.2.1) (hc : ∀ w ∈ L, w.category = 1) (kk : xE ex d M l G mc ms n es k z (pc + 1) (L.set i.val (.int x)) st Qc) : xE ex d M l G mc ms n es k z pc L (.int x :: st) Qc := by
  intro p e s m args below meth c H locs ls hx hb hr hml hown hts hlk hin hS hls hH hF hB
  obtain ⟨lv, hlv, hmem⟩ := hls
  exact lv_istore_n hx hb hd rfl hlv hi rfl (fun ls2 hls2 => kk p e s m args below meth c H locs _ hx hb hr hml hown hts hlk hin hS (scLs.st hmem hls2 hc) hH hF hB)
theorem x_istore {ex : Bool} {d : Nat} {M : mmMi} {l : Launch} {G : xG} {mc ms n : Nat} {es : Nat → va_E} {k z : Nat} {L st : List Value} {pc : Nat} {Qc : Array Value → State → Outcome → State → Prop} {i : Nat} {x : Int32} (hd : decode M.2.1 pc = .ok (.istore i, 2)) (hi : i < M.2.2.1) (hc : ∀ w ∈ L, w.category = 1) (kk : xE ex d M l G mc ms n es k z (pc + 2) (L.set i (.int x)) st Qc) : xE ex d M l G mc ms n es k z pc L (.int x :: st) Qc := by
  intro p e s m args below meth c H locs ls hx hb hr hml hown hts hlk hin hS hls hH hF hB
  obtain ⟨lv, hlv, hmem⟩ := hls
  exact lv_istore hx hb hd hlv hi rfl (fun ls2 hls2 => kk p e s m args below meth c H locs _ hx hb hr hml hown hts hlk hin hS (scLs.st hmem hls2 hc) hH hF hB)
theorem x_iconst {ex : Bool} {d : Nat} {M : mmMi} {l : Launch} {G : xG} {mc ms n : Nat} {es : Nat → va_E} {k z : Nat} {L st : List Value} {pc : Nat} {Qc : Array Value → State → Outcome → State → Prop} {i : Int} (x : Int32) (hd : decode M.2.1 pc = .ok (.iconst i, 1)) (hv : Int32.ofInt i = x) (kk : xE ex d M l G mc ms n es k z (pc + 1) L (.int x :: st) Qc) : xE ex d M l G mc ms n es k z pc L st Qc := by
  intro p e s m args below meth c H locs ls hx hb hr hml hown hts hlk hin hS hls hH hF hB
  exact lv_iconst hx hb hd hv (kk p e s m args below meth c H locs ls hx hb hr hml hown hts hlk hin hS hls hH hF hB)
theorem x_bipush {ex : Bool} {d : Nat} {M : mmMi} {l : Launch} {G : xG} {mc ms n : Nat} {es : Nat → va_E} {k z : Nat} {L st : List Value} {pc : Nat} {Qc : Array Value → State → Outcome → State → Prop} {i : Int} (x : Int32) (hd : decode M.2.1 pc = .ok (.bipush i, 2)) (hv : (Int8.ofInt i).toInt32 = x) (kk : xE ex d M l G mc ms n es k z (pc + 2) L (.int x :: st) Qc) : xE ex d M l G mc ms n es k z pc L st Qc := by
  intro p e s m args below meth c H locs ls hx hb hr hml hown hts hlk hin hS hls hH hF hB
  exact lv_bipush hx hb hd hv (kk p e s m args below meth c H locs ls hx hb hr hml hown hts hlk hin hS hls hH hF hB)
theorem x_sipush {ex : Bool} {d : Nat} {M : mmMi} {l : Launch} {G : xG} {mc ms n : Nat} {es : Nat → va_E} {k z : Nat} {L st : List Value} {pc : Nat} {Qc : Array Value → State → Outcome → State → Prop} {i : Int} (x : Int32) (hd : decode M.2.1 pc = .ok (.sipush i, 3)) (hv : (Int16.ofInt i).toInt32 = x) (kk : xE ex d M l G mc ms n es k z (pc + 3) L (.int x :: st) Qc) : xE ex d M l G mc ms n es k z pc L st Qc := by
  intro p e s m args below meth c H locs ls hx hb hr hml hown hts hlk hin hS hls hH hF hB
  exact lv_sipush hx hb hd hv (kk p e s m args below meth c H locs ls hx hb hr hml hown hts hlk hin hS hls hH hF hB)
theorem x_ldc {ex : Bool} {d : Nat} {M : mmMi} {l : Launch} {G : xG} {mc ms n : Nat} {es : Nat → va_E} {k z : Nat} {L st : List Value} {pc : Nat} {Qc : Array Value → State → Outcome → State → Prop} {i w : Nat} (x : Int32) (hd : decode M.2.1 pc = .ok (.ldc i, 2)) (hw : lw_tbl[w]? = some (.constant M.1.cls i x)) (kk : xE ex d M l G mc ms n es k z (pc + 2) L (.int x :: st) Qc) : xE ex d M l G mc ms n es k z pc L st Qc := by
  intro p e s m args below meth c H locs ls hx hb hr hml hown hts hlk hin hS hls hH hF hB
  exact lv_ldc hx hb hown (mm_word (M := M) hts hw rfl) hd (kk p e s m args below meth c H locs ls hx hb hr hml hown hts hlk hin hS hls hH hF hB)
theorem x_ldcS {ex : Bool} {d : Nat} {M : mmMi} {l : Launch} {G : xG} {mc ms n : Nat} {es : Nat → va_E} {k z : Nat} {L st : List Value} {pc : Nat} {Qc : Array Value → State → Outcome → State → Prop} {i j : Nat} {tx : String} (hcl : M.1.cls = RL) (hd : decode M.2.1 pc = .ok (.ldc i, 2)) (hw : (i, tx, j) ∈ xRef) (kk : xE ex d M l G mc ms n es k z (pc + 2) L (.ref (G.sk j) :: st) Qc) : xE ex d M l G mc ms n es k z pc L st Qc := by
  intro p e s m args below meth c H locs ls hx hb hr hml hown hts hlk hin hS hls hH hF hB
  exact va_ldcS (own := M.1.cls) (tx := tx) (q := G.sk j) hx hb hown (by rw [hcl]; exact hS.2.2.2.1 _ hw) hd (kk p e s m args below meth c H locs ls hx hb hr hml hown hts hlk hin hS hls hH hF hB)
theorem x_null {ex : Bool} {d : Nat} {M : mmMi} {l : Launch} {G : xG} {mc ms n : Nat} {es : Nat → va_E} {k z : Nat} {L st : List Value} {pc : Nat} {Qc : Array Value → State → Outcome → State → Prop}  (hd : decode M.2.1 pc = .ok (.aconst_null, 1)) (kk : xE ex d M l G mc ms n es k z (pc + 1) L (.null :: st) Qc) : xE ex d M l G mc ms n es k z pc L st Qc := by
  intro p e s m args below meth c H locs ls hx hb hr hml hown hts hlk hin hS hls hH hF hB
  exact lv_null hx hb hd (kk p e s m args below meth c H locs ls hx hb hr hml hown hts hlk hin hS hls hH hF hB)
theorem x_iadd {ex : Bool} {d : Nat} {M : mmMi} {l : Launch} {G : xG} {mc ms n : Nat} {es : Nat → va_E} {k z : Nat} {L st : List Value} {pc : Nat} {Qc : Array Value → State → Outcome → State → Prop} {x y : Int32} (v : Int32) (hd : decode M.2.1 pc = .ok (.iadd, 1)) (hv : x + y = v) (kk : xE ex d M l G mc ms n es k z (pc + 1) L (.int v :: st) Qc) : xE ex d M l G mc ms n es k z pc L (.int y :: .int x :: st) Qc := by
  intro p e s m args below meth c H locs ls hx hb hr hml hown hts hlk hin hS hls hH hF hB
  subst hv
  exact lv_iadd hx hb hd (kk p e s m args below meth c H locs ls hx hb hr hml hown hts hlk hin hS hls hH hF hB)
theorem x_isub {ex : Bool} {d : Nat} {M : mmMi} {l : Launch} {G : xG} {mc ms n : Nat} {es : Nat → va_E} {k z : Nat} {L st : List Value} {pc : Nat} {Qc : Array Value → State → Outcome → State → Prop} {x y : Int32} (v : Int32) (hd : decode M.2.1 pc = .ok (.isub, 1)) (hv : x - y = v) (kk : xE ex d M l G mc ms n es k z (pc + 1) L (.int v :: st) Qc) : xE ex d M l G mc ms n es k z pc L (.int y :: .int x :: st) Qc := by
  intro p e s m args below meth c H locs ls hx hb hr hml hown hts hlk hin hS hls hH hF hB
  subst hv
  exact lv_isub hx hb hd (kk p e s m args below meth c H locs ls hx hb hr hml hown hts hlk hin hS hls hH hF hB)
theorem x_imul {ex : Bool} {d : Nat} {M : mmMi} {l : Launch} {G : xG} {mc ms n : Nat} {es : Nat → va_E} {k z : Nat} {L st : List Value} {pc : Nat} {Qc : Array Value → State → Outcome → State → Prop} {x y : Int32} (v : Int32) (hd : decode M.2.1 pc = .ok (.imul, 1)) (hv : x * y = v) (kk : xE ex d M l G mc ms n es k z (pc + 1) L (.int v :: st) Qc) : xE ex d M l G mc ms n es k z pc L (.int y :: .int x :: st) Qc := by
  intro p e s m args below meth c H locs ls hx hb hr hml hown hts hlk hin hS hls hH hF hB
  subst hv
  exact lv_imul hx hb hd (kk p e s m args below meth c H locs ls hx hb hr hml hown hts hlk hin hS hls hH hF hB)
theorem x_ixor {ex : Bool} {d : Nat} {M : mmMi} {l : Launch} {G : xG} {mc ms n : Nat} {es : Nat → va_E} {k z : Nat} {L st : List Value} {pc : Nat} {Qc : Array Value → State → Outcome → State → Prop} {x y : Int32} (v : Int32) (hd : decode M.2.1 pc = .ok (.ixor, 1)) (hv : x ^^^ y = v) (kk : xE ex d M l G mc ms n es k z (pc + 1) L (.int v :: st) Qc) : xE ex d M l G mc ms n es k z pc L (.int y :: .int x :: st) Qc := by
  intro p e s m args below meth c H locs ls hx hb hr hml hown hts hlk hin hS hls hH hF hB
  subst hv
  exact lv_ixor hx hb hd (kk p e s m args below meth c H locs ls hx hb hr hml hown hts hlk hin hS hls hH hF hB)
theorem x_iand {ex : Bool} {d : Nat} {M : mmMi} {l : Launch} {G : xG} {mc ms n : Nat} {es : Nat → va_E} {k z : Nat} {L st : List Value} {pc : Nat} {Qc : Array Value → State → Outcome → State → Prop} {x y : Int32} (v : Int32) (hd : decode M.2.1 pc = .ok (.iand, 1)) (hv : x &&& y = v) (kk : xE ex d M l G mc ms n es k z (pc + 1) L (.int v :: st) Qc) : xE ex d M l G mc ms n es k z pc L (.int y :: .int x :: st) Qc := by
  intro p e s m args below meth c H locs ls hx hb hr hml hown hts hlk hin hS hls hH hF hB
  subst hv
  exact lv_iand hx hb hd (kk p e s m args below meth c H locs ls hx hb hr hml hown hts hlk hin hS hls hH hF hB)
theorem x_ior {ex : Bool} {d : Nat} {M : mmMi} {l : Launch} {G : xG} {mc ms n : Nat} {es : Nat → va_E} {k z : Nat} {L st : List Value} {pc : Nat} {Qc : Array Value → State → Outcome → State → Prop} {x y : Int32} (v : Int32) (hd : decode M.2.1 pc = .ok (.ior, 1)) (hv : x ||| y = v) (kk : xE ex d M l G mc ms n es k z (pc + 1) L (.int v :: st) Qc) : xE ex d M l G mc ms n es k z pc L (.int y :: .int x :: st) Qc := by
  intro p e s m args below meth c H locs ls hx hb hr hml hown hts hlk hin hS hls hH hF hB
  subst hv
  exact lv_ior hx hb hd (kk p e s m args below meth c H locs ls hx hb hr hml hown hts hlk hin hS hls hH hF hB)
theorem x_ishl {ex : Bool} {d : Nat} {M : mmMi} {l : Launch} {G : xG} {mc ms n : Nat} {es : Nat → va_E} {k z : Nat} {L st : List Value} {pc : Nat} {Qc : Array Value → State → Outcome → State → Prop} {x y : Int32} (v : Int32) (hd : decode M.2.1 pc = .ok (.ishl, 1)) (hv : x <<< (y &&& 31) = v) (kk : xE ex d M l G mc ms n es k z (pc + 1) L (.int v :: st) Qc) : xE ex d M l G mc ms n es k z pc L (.int y :: .int x :: st) Qc := by
  intro p e s m args below meth c H locs ls hx hb hr hml hown hts hlk hin hS hls hH hF hB
  subst hv
  exact lv_ishl hx hb hd (kk p e s m args below meth c H locs ls hx hb hr hml hown hts hlk hin hS hls hH hF hB)
theorem x_ishr {ex : Bool} {d : Nat} {M : mmMi} {l : Launch} {G : xG} {mc ms n : Nat} {es : Nat → va_E} {k z : Nat} {L st : List Value} {pc : Nat} {Qc : Array Value → State → Outcome → State → Prop} {x y : Int32} (v : Int32) (hd : decode M.2.1 pc = .ok (.ishr, 1)) (hv : x >>> (y &&& 31) = v) (kk : xE ex d M l G mc ms n es k z (pc + 1) L (.int v :: st) Qc) : xE ex d M l G mc ms n es k z pc L (.int y :: .int x :: st) Qc := by
  intro p e s m args below meth c H locs ls hx hb hr hml hown hts hlk hin hS hls hH hF hB
  subst hv
  exact lv_ishr hx hb hd (kk p e s m args below meth c H locs ls hx hb hr hml hown hts hlk hin hS hls hH hF hB)
theorem x_iushr {ex : Bool} {d : Nat} {M : mmMi} {l : Launch} {G : xG} {mc ms n : Nat} {es : Nat → va_E} {k z : Nat} {L st : List Value} {pc : Nat} {Qc : Array Value → State → Outcome → State → Prop} {x y : Int32} (v : Int32) (hd : decode M.2.1 pc = .ok (.iushr, 1)) (hv : (x.toUInt32 >>> (y.toUInt32 &&& Int32.toUInt32 31)).toInt32 = v) (kk : xE ex d M l G mc ms n es k z (pc + 1) L (.int v :: st) Qc) : xE ex d M l G mc ms n es k z pc L (.int y :: .int x :: st) Qc := by
  intro p e s m args below meth c H locs ls hx hb hr hml hown hts hlk hin hS hls hH hF hB
  exact lv_iushr hx hb hd hv (kk p e s m args below meth c H locs ls hx hb hr hml hown hts hlk hin hS hls hH hF hB)
theorem x_idiv {ex : Bool} {d : Nat} {M : mmMi} {l : Launch} {G : xG} {mc ms n : Nat} {es : Nat → va_E} {k z : Nat} {L st : List Value} {pc : Nat} {Qc : Array Value → State → Outcome → State → Prop} {x y : Int32} (v : Int32) (hd : decode M.2.1 pc = .ok (.idiv, 1)) (h0 : ¬ y = 0) (hv : x / y = v) (kk : xE ex d M l G mc ms n es k z (pc + 1) L (.int v :: st) Qc) : xE ex d M l G mc ms n es k z pc L (.int y :: .int x :: st) Qc := by
  intro p e s m args below meth c H locs ls hx hb hr hml hown hts hlk hin hS hls hH hF hB
  subst hv
  exact lv_idiv hx hb hd h0 (kk p e s m args below meth c H locs ls hx hb hr hml hown hts hlk hin hS hls hH hF hB)
theorem x_irem {ex : Bool} {d : Nat} {M : mmMi} {l : Launch} {G : xG} {mc ms n : Nat} {es : Nat → va_E} {k z : Nat} {L st : List Value} {pc : Nat} {Qc : Array Value → State → Outcome → State → Prop} {x y : Int32} (v : Int32) (hd : decode M.2.1 pc = .ok (.irem, 1)) (h0 : ¬ y = 0) (hv : x - x / y * y = v) (kk : xE ex d M l G mc ms n es k z (pc + 1) L (.int v :: st) Qc) : xE ex d M l G mc ms n es k z pc L (.int y :: .int x :: st) Qc := by
  intro p e s m args below meth c H locs ls hx hb hr hml hown hts hlk hin hS hls hH hF hB
  subst hv
  exact lv_irem hx hb hd h0 (kk p e s m args below meth c H locs ls hx hb hr hml hown hts hlk hin hS hls hH hF hB)
theorem x_ineg {ex : Bool} {d : Nat} {M : mmMi} {l : Launch} {G : xG} {mc ms n : Nat} {es : Nat → va_E} {k z : Nat} {L st : List Value} {pc : Nat} {Qc : Array Value → State → Outcome → State → Prop} {x : Int32} (v : Int32) (hd : decode M.2.1 pc = .ok (.ineg, 1)) (hv : -x = v) (kk : xE ex d M l G mc ms n es k z (pc + 1) L (.int v :: st) Qc) : xE ex d M l G mc ms n es k z pc L (.int x :: st) Qc := by
  intro p e s m args below meth c H locs ls hx hb hr hml hown hts hlk hin hS hls hH hF hB
  subst hv
  exact lv_ineg hx hb hd (kk p e s m args below meth c H locs ls hx hb hr hml hown hts hlk hin hS hls hH hF hB)
theorem x_i2c {ex : Bool} {d : Nat} {M : mmMi} {l : Launch} {G : xG} {mc ms n : Nat} {es : Nat → va_E} {k z : Nat} {L st : List Value} {pc : Nat} {Qc : Array Value → State → Outcome → State → Prop} {x : Int32} (v : Int32) (hd : decode M.2.1 pc = .ok (.i2c, 1)) (hv : (x.toUInt32 % 65536).toInt32 = v) (kk : xE ex d M l G mc ms n es k z (pc + 1) L (.int v :: st) Qc) : xE ex d M l G mc ms n es k z pc L (.int x :: st) Qc := by
  intro p e s m args below meth c H locs ls hx hb hr hml hown hts hlk hin hS hls hH hF hB
  exact lv_i2c hx hb hd hv (kk p e s m args below meth c H locs ls hx hb hr hml hown hts hlk hin hS hls hH hF hB)
theorem x_i2b {ex : Bool} {d : Nat} {M : mmMi} {l : Launch} {G : xG} {mc ms n : Nat} {es : Nat → va_E} {k z : Nat} {L st : List Value} {pc : Nat} {Qc : Array Value → State → Outcome → State → Prop} {x : Int32} (v : Int32) (hd : decode M.2.1 pc = .ok (.i2b, 1)) (hv : x.toInt8.toInt32 = v) (kk : xE ex d M l G mc ms n es k z (pc + 1) L (.int v :: st) Qc) : xE ex d M l G mc ms n es k z pc L (.int x :: st) Qc := by
  intro p e s m args below meth c H locs ls hx hb hr hml hown hts hlk hin hS hls hH hF hB
  exact lv_i2b hx hb hd hv (kk p e s m args below meth c H locs ls hx hb hr hml hown hts hlk hin hS hls hH hF hB)
theorem x_i2l {ex : Bool} {d : Nat} {M : mmMi} {l : Launch} {G : xG} {mc ms n : Nat} {es : Nat → va_E} {k z : Nat} {L st : List Value} {pc : Nat} {Qc : Array Value → State → Outcome → State → Prop} {x : Int32} (v : Int64) (hd : decode M.2.1 pc = .ok (.i2l, 1)) (hv : x.toInt64 = v) (kk : xE ex d M l G mc ms n es k z (pc + 1) L (.long v :: st) Qc) : xE ex d M l G mc ms n es k z pc L (.int x :: st) Qc := by
  intro p e s m args below meth c H locs ls hx hb hr hml hown hts hlk hin hS hls hH hF hB
  exact lv_i2l hx hb hd hv (kk p e s m args below meth c H locs ls hx hb hr hml hown hts hlk hin hS hls hH hF hB)
theorem x_lcmp {ex : Bool} {d : Nat} {M : mmMi} {l : Launch} {G : xG} {mc ms n : Nat} {es : Nat → va_E} {k z : Nat} {L st : List Value} {pc : Nat} {Qc : Array Value → State → Outcome → State → Prop} {x y : Int64} (hd : decode M.2.1 pc = .ok (.lcmp, 1)) (kk : xE ex d M l G mc ms n es k z (pc + 1) L (.int (lg_cmp x y) :: st) Qc) : xE ex d M l G mc ms n es k z pc L (.long y :: .long x :: st) Qc := by
  intro p e s m args below meth c H locs ls hx hb hr hml hown hts hlk hin hS hls hH hF hB
  exact W.lcmp hx hb hd (kk p e s m args below meth c H locs ls hx hb hr hml hown hts hlk hin hS hls hH hF hB)
theorem x_dup {ex : Bool} {d : Nat} {M : mmMi} {l : Launch} {G : xG} {mc ms n : Nat} {es : Nat → va_E} {k z : Nat} {L st : List Value} {pc : Nat} {Qc : Array Value → State → Outcome → State → Prop} {v : Value} (hd : decode M.2.1 pc = .ok (.dup, 1)) (hv : v.category = 1) (kk : xE ex d M l G mc ms n es k z (pc + 1) L (v :: v :: st) Qc) : xE ex d M l G mc ms n es k z pc L (v :: st) Qc := by
  intro p e s m args below meth c H locs ls hx hb hr hml hown hts hlk hin hS hls hH hF hB
  exact lv_dup hx hb hd hv (kk p e s m args below meth c H locs ls hx hb hr hml hown hts hlk hin hS hls hH hF hB)
theorem x_dup_x1 {ex : Bool} {d : Nat} {M : mmMi} {l : Launch} {G : xG} {mc ms n : Nat} {es : Nat → va_E} {k z : Nat} {L st : List Value} {pc : Nat} {Qc : Array Value → State → Outcome → State → Prop} {v w : Value} (hd : decode M.2.1 pc = .ok (.dup_x1, 1)) (hv : v.category = 1) (hw : w.category = 1) (kk : xE ex d M l G mc ms n es k z (pc + 1) L (v :: w :: v :: st) Qc) : xE ex d M l G mc ms n es k z pc L (v :: w :: st) Qc := by
  intro p e s m args below meth c H locs ls hx hb hr hml hown hts hlk hin hS hls hH hF hB
  exact lv_dup_x1 hx hb hd hv hw (kk p e s m args below meth c H locs ls hx hb hr hml hown hts hlk hin hS hls hH hF hB)
theorem x_pop {ex : Bool} {d : Nat} {M : mmMi} {l : Launch} {G : xG} {mc ms n : Nat} {es : Nat → va_E} {k z : Nat} {L st : List Value} {pc : Nat} {Qc : Array Value → State → Outcome → State → Prop} {v : Value} (hd : decode M.2.1 pc = .ok (.pop, 1)) (hv : v.category = 1) (kk : xE ex d M l G mc ms n es k z (pc + 1) L st Qc) : xE ex d M l G mc ms n es k z pc L (v :: st) Qc := by
  intro p e s m args below meth c H locs ls hx hb hr hml hown hts hlk hin hS hls hH hF hB
  exact lv_pop hx hb hd hv (kk p e s m args below meth c H locs ls hx hb hr hml hown hts hlk hin hS hls hH hF hB)
theorem x_goto {ex : Bool} {d : Nat} {M : mmMi} {l : Launch} {G : xG} {mc ms n : Nat} {es : Nat → va_E} {k z : Nat} {L st : List Value} {pc : Nat} {Qc : Array Value → State → Outcome → State → Prop} {off : Int} (t : Nat) (hd : decode M.2.1 pc = .ok (.goto off, 3)) (ht : (pc : Int) + off = (t : Int)) (kk : xE ex d M l G mc ms n es k z t L st Qc) : xE ex d M l G mc ms n es k z pc L st Qc := by
  intro p e s m args below meth c H locs ls hx hb hr hml hown hts hlk hin hS hls hH hF hB
  exact lv_goto hx hb hd ht (kk p e s m args below meth c H locs ls hx hb hr hml hown hts hlk hin hS hls hH hF hB)
theorem x_if {ex : Bool} {d : Nat} {M : mmMi} {l : Launch} {G : xG} {mc ms n : Nat} {es : Nat → va_E} {k z : Nat} {L st : List Value} {pc : Nat} {Qc : Array Value → State → Outcome → State → Prop} {cc : ClassFile.Cond} {off : Int} {x : Int32} (t : Nat) (hd : decode M.2.1 pc = .ok (.ifCond cc off, 3)) (ht : (pc : Int) + off = (t : Int)) (h1 : mmCt cc x 0 → xE ex d M l G mc ms n es k z t L st Qc) (h2 : mmCf cc x 0 → xE ex d M l G mc ms n es k z (pc + 3) L st Qc) : xE ex d M l G mc ms n es k z pc L (.int x :: st) Qc := by
  intro p e s m args below meth c H locs ls hx hb hr hml hown hts hlk hin hS hls hH hF hB
  cases cc with
  | eq => exact lv_if_eq hx hb hd ht (fun q => h1 q p e s m args below meth c H locs ls hx hb hr hml hown hts hlk hin hS hls hH hF hB) (fun q => h2 q p e s m args below meth c H locs ls hx hb hr hml hown hts hlk hin hS hls hH hF hB)
  | ne => exact lv_if_ne hx hb hd ht (fun q => h1 q p e s m args below meth c H locs ls hx hb hr hml hown hts hlk hin hS hls hH hF hB) (fun q => h2 q p e s m args below meth c H locs ls hx hb hr hml hown hts hlk hin hS hls hH hF hB)
  | lt => exact lv_if_lt hx hb hd ht (fun q => h1 q p e s m args below meth c H locs ls hx hb hr hml hown hts hlk hin hS hls hH hF hB) (fun q => h2 q p e s m args below meth c H locs ls hx hb hr hml hown hts hlk hin hS hls hH hF hB)
  | ge => exact lv_if_ge hx hb hd ht (fun q => h1 q p e s m args below meth c H locs ls hx hb hr hml hown hts hlk hin hS hls hH hF hB) (fun q => h2 q p e s m args below meth c H locs ls hx hb hr hml hown hts hlk hin hS hls hH hF hB)
  | gt => exact lv_if_gt hx hb hd ht (fun q => h1 q p e s m args below meth c H locs ls hx hb hr hml hown hts hlk hin hS hls hH hF hB) (fun q => h2 q p e s m args below meth c H locs ls hx hb hr hml hown hts hlk hin hS hls hH hF hB)
  | le => exact lv_if_le hx hb hd ht (fun q => h1 q p e s m args below meth c H locs ls hx hb hr hml hown hts hlk hin hS hls hH hF hB) (fun q => h2 q p e s m args below meth c H locs ls hx hb hr hml hown hts hlk hin hS hls hH hF hB)
theorem x_icmp {ex : Bool} {d : Nat} {M : mmMi} {l : Launch} {G : xG} {mc ms n : Nat} {es : Nat → va_E} {k z : Nat} {L st : List Value} {pc : Nat} {Qc : Array Value → State → Outcome → State → Prop} {cc : ClassFile.Cond} {off : Int} {x y : Int32} (t : Nat) (hd : decode M.2.1 pc = .ok (.if_icmp cc off, 3)) (ht : (pc : Int) + off = (t : Int)) (h1 : mmCt cc x y → xE ex d M l G mc ms n es k z t L st Qc) (h2 : mmCf cc x y → xE ex d M l G mc ms n es k z (pc + 3) L st Qc) : xE ex d M l G mc ms n es k z pc L (.int y :: .int x :: st) Qc := by
  intro p e s m args below meth c H locs ls hx hb hr hml hown hts hlk hin hS hls hH hF hB
  cases cc with
  | eq => exact lv_icmp_eq hx hb hd ht (fun q => h1 q p e s m args below meth c H locs ls hx hb hr hml hown hts hlk hin hS hls hH hF hB) (fun q => h2 q p e s m args below meth c H locs ls hx hb hr hml hown hts hlk hin hS hls hH hF hB)
  | ne => exact lv_icmp_ne hx hb hd ht (fun q => h1 q p e s m args below meth c H locs ls hx hb hr hml hown hts hlk hin hS hls hH hF hB) (fun q => h2 q p e s m args below meth c H locs ls hx hb hr hml hown hts hlk hin hS hls hH hF hB)
  | lt => exact lv_icmp_lt hx hb hd ht (fun q => h1 q p e s m args below meth c H locs ls hx hb hr hml hown hts hlk hin hS hls hH hF hB) (fun q => h2 q p e s m args below meth c H locs ls hx hb hr hml hown hts hlk hin hS hls hH hF hB)
  | ge => exact lv_icmp_ge hx hb hd ht (fun q => h1 q p e s m args below meth c H locs ls hx hb hr hml hown hts hlk hin hS hls hH hF hB) (fun q => h2 q p e s m args below meth c H locs ls hx hb hr hml hown hts hlk hin hS hls hH hF hB)
  | gt => exact lv_icmp_gt hx hb hd ht (fun q => h1 q p e s m args below meth c H locs ls hx hb hr hml hown hts hlk hin hS hls hH hF hB) (fun q => h2 q p e s m args below meth c H locs ls hx hb hr hml hown hts hlk hin hS hls hH hF hB)
  | le => exact lv_icmp_le hx hb hd ht (fun q => h1 q p e s m args below meth c H locs ls hx hb hr hml hown hts hlk hin hS hls hH hF hB) (fun q => h2 q p e s m args below meth c H locs ls hx hb hr hml hown hts hlk hin hS hls hH hF hB)
theorem x_ifnonnull {ex : Bool} {d : Nat} {M : mmMi} {l : Launch} {G : xG} {mc ms n : Nat} {es : Nat → va_E} {k z : Nat} {L st : List Value} {pc : Nat} {Qc : Array Value → State → Outcome → State → Prop} {x : Nat} {off : Int} (t : Nat) (hd : decode M.2.1 pc = .ok (.ifnonnull off, 3)) (ht : (pc : Int) + off = (t : Int)) (kk : xE ex d M l G mc ms n es k z t L st Qc) : xE ex d M l G mc ms n es k z pc L (.ref x :: st) Qc := by
  intro p e s m args below meth c H locs ls hx hb hr hml hown hts hlk hin hS hls hH hF hB
  exact lv_ifnonnull hx hb hd ht (kk p e s m args below meth c H locs ls hx hb hr hml hown hts hlk hin hS hls hH hF hB)
theorem x_iinc {ex : Bool} {d : Nat} {M : mmMi} {l : Launch} {G : xG} {mc ms n : Nat} {es : Nat → va_E} {k z : Nat} {L st : List Value} {pc : Nat} {Qc : Array Value → State → Outcome → State → Prop} {i : Nat} {j : Int} {x : Int32} (v : Int32) (hd : decode M.2.1 pc = .ok (.iinc i j, 3)) (hi : i < M.2.2.1) (hg : L[i]? = some (.int x)) (hv : x + Int32.ofInt j = v) (hc : ∀ w ∈ L, w.category = 1) (kk : xE ex d M l G mc ms n es k z (pc + 3) (L.set i (.int v)) st Qc) : xE ex d M l G mc ms n es k z pc L st Qc := by
  intro p e s m args below meth c H locs ls hx hb hr hml hown hts hlk hin hS hls hH hF hB
  obtain ⟨lv, hlv, hmem⟩ := hls
  obtain ⟨q, hq⟩ := List.getElem?_of_mem (hmem i (.int x) hg (fun hq => by cases hq))
  exact lv_iinc hx hb hd hlv hq hv hi rfl (fun ls2 hls2 => kk p e s m args below meth c H locs _ hx hb hr hml hown hts hlk hin hS (scLs.st hmem hls2 hc) hH hF hB)
theorem x_slen {ex : Bool} {d : Nat} {M : mmMi} {l : Launch} {G : xG} {mc ms n : Nat} {es : Nat → va_E} {k z : Nat} {L st : List Value} {pc : Nat} {Qc : Array Value → State → Outcome → State → Prop}  (hd : decode M.2.1 pc = .ok (.arraylength, 1)) (kk : xE ex d M l G mc ms n es k z (pc + 1) L (.int (Int32.ofNat G.L) :: st) Qc) : xE ex d M l G mc ms n es k z pc L (.ref G.b :: st) Qc := by
  intro p e s m args below meth c H locs ls hx hb hr hml hown hts hlk hin hS hls hH hF hB
  have hX := hS.2.2.2.2.2.2.2.2.2.2.2
  have hl : G.b < G.H0.size := (Array.getElem?_eq_some_iff.mp hX.choose_spec.1).1
  have h0 := hS.1
  have hXs : va_X G.b G.L G.xs s s.heap := hX.kept (x_kept hS.1 hH hF hB.1 _ hl (by omega))
  have hB1 := hB.1
  exact va_slen hx hb hXs (by omega) (by show ¬ G.B ≤ G.b; omega) hF hd (kk p e s m args below meth c H locs ls hx hb hr hml hown hts hlk hin hS hls hH hF hB)
theorem x_sld {ex : Bool} {d : Nat} {M : mmMi} {l : Launch} {G : xG} {mc ms n : Nat} {es : Nat → va_E} {k z : Nat} {L st : List Value} {pc : Nat} {Qc : Array Value → State → Outcome → State → Prop} {x : Int32} (hd : decode M.2.1 pc = .ok (.iaload, 1)) (hi : vp_in x G.L) (kk : xE ex d M l G mc ms n es k z (pc + 1) L (.int (G.xs x.toNatClampNeg) :: st) Qc) : xE ex d M l G mc ms n es k z pc L (.int x :: .ref G.b :: st) Qc := by
  intro p e s m args below meth c H locs ls hx hb hr hml hown hts hlk hin hS hls hH hF hB
  have hX := hS.2.2.2.2.2.2.2.2.2.2.2
  have hl : G.b < G.H0.size := (Array.getElem?_eq_some_iff.mp hX.choose_spec.1).1
  have h0 := hS.1
  have hXs : va_X G.b G.L G.xs s s.heap := hX.kept (x_kept hS.1 hH hF hB.1 _ hl (by omega))
  have hB1 := hB.1
  exact va_sld hx hb hXs (by omega) (by show ¬ G.B ≤ G.b; omega) hF hi hd (kk p e s m args below meth c H locs ls hx hb hr hml hown hts hlk hin hS hls hH hF hB)
theorem x_objInit {ex : Bool} {d : Nat} {M : mmMi} {l : Launch} {G : xG} {mc ms n : Nat} {es : Nat → va_E} {k z : Nat} {L st : List Value} {pc : Nat} {Qc : Array Value → State → Outcome → State → Prop} {i w : Nat} {x : Nat} (hd : decode M.2.1 pc = .ok (.invokespecial i, 3)) (hw : lw_tbl[w]? = some (.methodLink M.1.cls i Lib.objectInit)) (h1d : 1 ≤ d) (hst : st = []) (kk : xE ex d M l G mc ms n es k z (pc + 3) L st Qc) : xE ex d M l G mc ms n es k z pc L (.ref x :: st) Qc := by
  intro p e s m args below meth c H locs ls hx hb hr hml hown hts hlk hin hS hls hH hF hB
  subst hst
  have hls1 : ls.size = M.2.2.1 := hls.choose_spec.1.1
  exact W.objInit hx hb hown (mm_word (M := M) hts hw rfl) (hts _ (mm_in 36 (by decide +kernel) rfl)) (hts _ (mm_in 37 (by decide +kernel) rfl)) rfl (by rw [hml]; exact hls1) rfl hd (by show 1 ≤ d; exact h1d) (by show 2 * 0 + 0 + 12 ≤ 40 * d; omega) (kk p e s m args below meth c H locs ls hx hb hr hml hown hts hlk hin hS hls hH hF hB)
theorem x_newI {ex : Bool} {d : Nat} {M : mmMi} {l : Launch} {G : xG} {mc ms n : Nat} {es : Nat → va_E} {k z : Nat} {L st : List Value} {pc : Nat} {Qc : Array Value → State → Outcome → State → Prop} {x : Int32} (N : Nat) (hd : decode M.2.1 pc = .ok (.newarray .int, 2)) (hx0 : ¬ x < 0) (hN : x.toNatClampNeg = N) (hN9 : N ≤ 5000) (hk : k + 1 ≤ mc) (hz : z + N ≤ ms) (kk : xE ex d M l G mc ms (n + 1) (ctU es n (.inl (G.cA 0, N, .inl fun _ => 0))) (k + 1) (z + N) (pc + 2) L (.ref (G.B + n) :: st) Qc) : xE ex d M l G mc ms n es k z pc L (.int x :: st) Qc := by
  intro p e s m args below meth c H locs ls hx hb hr hml hown hts hlk hin hS hls hH hF hB
  refine va_newaK (N := N) (h := G.B + n) hx hb (atype := .int) (hts (.arrayClass .int) (mm_in 74 (by decide +kernel) rfl)) rfl hd rfl hx0 hN (ct_bytes hN9 .int) hk hz hH.1 (fun H1 cA1 e1 z1 o1 hAr hNm => ?_)
  have hc : cA1 = G.cA 0 := Option.some.inj ((show s.vm.findClass _ = some cA1 from hNm).symm.trans (hS.2.1.2 0 _ rfl).2)
  subst hc
  have hH1 := hH.push (H1 := H1) (e := .inl (G.cA 0, N, .inl fun _ => 0)) z1 o1 e1
  exact kk p e s m args below meth c H1 locs ls hx hb hr hml hown hts hlk hin hS hls hH1 (hH.F hH1 hF (by omega) hF.2.2) ⟨hB.1, fun q => by have := hB.2 q; omega⟩
theorem x_newJ {ex : Bool} {d : Nat} {M : mmMi} {l : Launch} {G : xG} {mc ms n : Nat} {es : Nat → va_E} {k z : Nat} {L st : List Value} {pc : Nat} {Qc : Array Value → State → Outcome → State → Prop} {x : Int32} (N : Nat) (hd : decode M.2.1 pc = .ok (.newarray .long, 2)) (hx0 : ¬ x < 0) (hN : x.toNatClampNeg = N) (hN9 : N ≤ 5000) (hk : k + 1 ≤ mc) (hz : z + N ≤ ms) (kk : xE ex d M l G mc ms (n + 1) (ctU es n (.inl (G.cA 1, N, .inr (.inl fun _ => 0)))) (k + 1) (z + N) (pc + 2) L (.ref (G.B + n) :: st) Qc) : xE ex d M l G mc ms n es k z pc L (.int x :: st) Qc := by
  intro p e s m args below meth c H locs ls hx hb hr hml hown hts hlk hin hS hls hH hF hB
  refine va_newaK (N := N) (h := G.B + n) hx hb (atype := .long) (hts (.arrayClass .long) (mm_in 76 (by decide +kernel) rfl)) rfl hd rfl hx0 hN (ct_bytes hN9 .long) hk hz hH.1 (fun H1 cA1 e1 z1 o1 hAr hNm => ?_)
  have hc : cA1 = G.cA 1 := Option.some.inj ((show s.vm.findClass _ = some cA1 from hNm).symm.trans (hS.2.1.2 1 _ rfl).2)
  subst hc
  have hH1 := hH.push (H1 := H1) (e := .inl (G.cA 1, N, .inr (.inl fun _ => 0))) z1 o1 e1
  exact kk p e s m args below meth c H1 locs ls hx hb hr hml hown hts hlk hin hS hls hH1 (hH.F hH1 hF (by omega) hF.2.2) ⟨hB.1, fun q => by have := hB.2 q; omega⟩
theorem x_newD {ex : Bool} {d : Nat} {M : mmMi} {l : Launch} {G : xG} {mc ms n : Nat} {es : Nat → va_E} {k z : Nat} {L st : List Value} {pc : Nat} {Qc : Array Value → State → Outcome → State → Prop} {x : Int32} (N : Nat) (hd : decode M.2.1 pc = .ok (.newarray .double, 2)) (hx0 : ¬ x < 0) (hN : x.toNatClampNeg = N) (hN9 : N ≤ 5000) (hk : k + 1 ≤ mc) (hz : z + N ≤ ms) (kk : xE ex d M l G mc ms (n + 1) (ctU es n (.inl (G.cA 2, N, .inr (.inr (.inr (.inl fun _ => 0)))))) (k + 1) (z + N) (pc + 2) L (.ref (G.B + n) :: st) Qc) : xE ex d M l G mc ms n es k z pc L (.int x :: st) Qc := by
  intro p e s m args below meth c H locs ls hx hb hr hml hown hts hlk hin hS hls hH hF hB
  refine va_newaK (N := N) (h := G.B + n) hx hb (atype := .double) (hts (.arrayClass .double) (mm_in 77 (by decide +kernel) rfl)) rfl hd rfl hx0 hN (ct_bytes hN9 .double) hk hz hH.1 (fun H1 cA1 e1 z1 o1 hAr hNm => ?_)
  have hc : cA1 = G.cA 2 := Option.some.inj ((show s.vm.findClass _ = some cA1 from hNm).symm.trans (hS.2.1.2 2 _ rfl).2)
  subst hc
  have hH1 := hH.push (H1 := H1) (e := .inl (G.cA 2, N, .inr (.inr (.inr (.inl fun _ => 0))))) z1 o1 e1
  exact kk p e s m args below meth c H1 locs ls hx hb hr hml hown hts hlk hin hS hls hH1 (hH.F hH1 hF (by omega) hF.2.2) ⟨hB.1, fun q => by have := hB.2 q; omega⟩
theorem x_newZ {ex : Bool} {d : Nat} {M : mmMi} {l : Launch} {G : xG} {mc ms n : Nat} {es : Nat → va_E} {k z : Nat} {L st : List Value} {pc : Nat} {Qc : Array Value → State → Outcome → State → Prop} {x : Int32} (N : Nat) (hd : decode M.2.1 pc = .ok (.newarray .boolean, 2)) (hx0 : ¬ x < 0) (hN : x.toNatClampNeg = N) (hN9 : N ≤ 5000) (hk : k + 1 ≤ mc) (hz : z + N ≤ ms) (kk : xE ex d M l G mc ms (n + 1) (ctU es n (.inl (G.cA 3, N, .inl fun _ => 0))) (k + 1) (z + N) (pc + 2) L (.ref (G.B + n) :: st) Qc) : xE ex d M l G mc ms n es k z pc L (.int x :: st) Qc := by
  intro p e s m args below meth c H locs ls hx hb hr hml hown hts hlk hin hS hls hH hF hB
  refine va_newaK (N := N) (h := G.B + n) hx hb (atype := .boolean) (hts (.arrayClass .boolean) (mm_in 75 (by decide +kernel) rfl)) rfl hd rfl hx0 hN (ct_bytes hN9 .boolean) hk hz hH.1 (fun H1 cA1 e1 z1 o1 hAr hNm => ?_)
  have hc : cA1 = G.cA 3 := Option.some.inj ((show s.vm.findClass _ = some cA1 from hNm).symm.trans (hS.2.1.2 3 _ rfl).2)
  subst hc
  have hH1 := hH.push (H1 := H1) (e := .inl (G.cA 3, N, .inl fun _ => 0)) z1 o1 e1
  exact kk p e s m args below meth c H1 locs ls hx hb hr hml hown hts hlk hin hS hls hH1 (hH.F hH1 hF (by omega) hF.2.2) ⟨hB.1, fun q => by have := hB.2 q; omega⟩
theorem x_newB {ex : Bool} {d : Nat} {M : mmMi} {l : Launch} {G : xG} {mc ms n : Nat} {es : Nat → va_E} {k z : Nat} {L st : List Value} {pc : Nat} {Qc : Array Value → State → Outcome → State → Prop} {x : Int32} (N : Nat) (hd : decode M.2.1 pc = .ok (.newarray .byte, 2)) (hx0 : ¬ x < 0) (hN : x.toNatClampNeg = N) (hN9 : N ≤ 5000) (hk : k + 1 ≤ mc) (hz : z + N ≤ ms) (kk : xE ex d M l G mc ms (n + 1) (ctU es n (.inl (G.cA 7, N, .inl fun _ => 0))) (k + 1) (z + N) (pc + 2) L (.ref (G.B + n) :: st) Qc) : xE ex d M l G mc ms n es k z pc L (.int x :: st) Qc := by
  intro p e s m args below meth c H locs ls hx hb hr hml hown hts hlk hin hS hls hH hF hB
  refine va_newaK (N := N) (h := G.B + n) hx hb (atype := .byte) (hts (.arrayClass .byte) (mm_in 535 (by decide +kernel) rfl)) rfl hd rfl hx0 hN (ct_bytes hN9 .byte) hk hz hH.1 (fun H1 cA1 e1 z1 o1 hAr hNm => ?_)
  have hc : cA1 = G.cA 7 := Option.some.inj ((show s.vm.findClass _ = some cA1 from hNm).symm.trans (hS.2.1.2 7 _ rfl).2)
  subst hc
  have hH1 := hH.push (H1 := H1) (e := .inl (G.cA 7, N, .inl fun _ => 0)) z1 o1 e1
  exact kk p e s m args below meth c H1 locs ls hx hb hr hml hown hts hlk hin hS hls hH1 (hH.F hH1 hF (by omega) hF.2.2) ⟨hB.1, fun q => by have := hB.2 q; omega⟩
theorem x_anewC {ex : Bool} {d : Nat} {M : mmMi} {l : Launch} {G : xG} {mc ms n : Nat} {es : Nat → va_E} {k z : Nat} {L st : List Value} {pc : Nat} {Qc : Array Value → State → Outcome → State → Prop} {x : Int32} {i w : Nat} (N : Nat) (hd : decode M.2.1 pc = .ok (.anewarray i, 3)) (hw : lw_tbl[w]? = some (.classLink M.1.cls i RX1)) (hx0 : ¬ x < 0) (hN : x.toNatClampNeg = N) (hN9 : N ≤ 2000) (hk : k + 1 ≤ mc) (hz : z + N ≤ ms) (kk : xE ex d M l G mc ms (n + 1) (ctU es n (.inl (G.cA 4, N, .inr (.inr (.inr (.inr fun _ => none)))))) (k + 1) (z + N) (pc + 3) L (.ref (G.B + n) :: st) Qc) : xE ex d M l G mc ms n es k z pc L (.int x :: st) Qc := by
  intro p e s m args below meth c H locs ls hx hb hr hml hown hts hlk hin hS hls hH hF hB
  subst hN
  refine W.anew (C := RX1) hx hb hown (mm_word (M := M) hts hw rfl) (va_AO.use hS.2.2.2.2.2.2.2.2.1.1) rfl hd rfl hx0 (by omega) hk hz (fun cA1 kA comp f1 f2 f3 f4 => ?_)
  have hc : cA1 = G.cA 4 := by
    obtain ⟨kA2, comp2, -, -, -, g4⟩ := (hS.2.1.2 4 _ rfl).2
    exact Option.some.inj (f1.symm.trans g4)
  subst hc
  generalize hH1e : H.push ({ cls := G.cA 4, slots := Array.replicate x.toNatClampNeg .null, vm := .none } : Cell) = H1
  have z1 : H1.size = G.B + n + 1 := by rw [← hH1e, Array.size_push, hH.1]
  have e1 : H1[G.B + n]? = some (arrV (G.cA 4) x.toNatClampNeg (fun _ => .null)) := by rw [← hH1e, ← hH.1, Array.getElem?_push_size, ← arrV_new]
  have o1 : ∀ q : Nat, q < G.B + n → H1[q]? = H[q]? := fun q hq => by rw [← hH1e, Array.getElem?_push, if_neg (by rw [hH.1]; omega)]
  have hH1 := hH.push (H1 := H1) (e := .inl (G.cA 4, x.toNatClampNeg, .inr (.inr (.inr (.inr fun _ => none))))) z1 o1 (by show H1[G.B + n]? = some (vp_cell _ _); rw [vp_cell_q]; exact e1)
  have h9 := kk p e s m args below meth c H1 locs ls hx hb hr hml hown hts hlk hin hS hls hH1 (hH.F hH1 hF (by omega) hF.2.2) ⟨hB.1, fun q => by have := hB.2 q; omega⟩
  rw [← hH.1] at h9
  exact h9
theorem x_anewV {ex : Bool} {d : Nat} {M : mmMi} {l : Launch} {G : xG} {mc ms n : Nat} {es : Nat → va_E} {k z : Nat} {L st : List Value} {pc : Nat} {Qc : Array Value → State → Outcome → State → Prop} {x : Int32} {i w : Nat} (N : Nat) (hd : decode M.2.1 pc = .ok (.anewarray i, 3)) (hw : lw_tbl[w]? = some (.classLink M.1.cls i RX6)) (hx0 : ¬ x < 0) (hN : x.toNatClampNeg = N) (hN9 : N ≤ 2000) (hk : k + 1 ≤ mc) (hz : z + N ≤ ms) (kk : xE ex d M l G mc ms (n + 1) (ctU es n (.inl (G.cA 5, N, .inr (.inr (.inr (.inr fun _ => none)))))) (k + 1) (z + N) (pc + 3) L (.ref (G.B + n) :: st) Qc) : xE ex d M l G mc ms n es k z pc L (.int x :: st) Qc := by
  intro p e s m args below meth c H locs ls hx hb hr hml hown hts hlk hin hS hls hH hF hB
  subst hN
  refine W.anew (C := RX6) hx hb hown (mm_word (M := M) hts hw rfl) (va_AO.use hS.2.2.2.2.2.2.2.2.1.2.1) rfl hd rfl hx0 (by omega) hk hz (fun cA1 kA comp f1 f2 f3 f4 => ?_)
  have hc : cA1 = G.cA 5 := by
    obtain ⟨kA2, comp2, -, -, -, g4⟩ := (hS.2.1.2 5 _ rfl).2
    exact Option.some.inj (f1.symm.trans g4)
  subst hc
  generalize hH1e : H.push ({ cls := G.cA 5, slots := Array.replicate x.toNatClampNeg .null, vm := .none } : Cell) = H1
  have z1 : H1.size = G.B + n + 1 := by rw [← hH1e, Array.size_push, hH.1]
  have e1 : H1[G.B + n]? = some (arrV (G.cA 5) x.toNatClampNeg (fun _ => .null)) := by rw [← hH1e, ← hH.1, Array.getElem?_push_size, ← arrV_new]
  have o1 : ∀ q : Nat, q < G.B + n → H1[q]? = H[q]? := fun q hq => by rw [← hH1e, Array.getElem?_push, if_neg (by rw [hH.1]; omega)]
  have hH1 := hH.push (H1 := H1) (e := .inl (G.cA 5, x.toNatClampNeg, .inr (.inr (.inr (.inr fun _ => none))))) z1 o1 (by show H1[G.B + n]? = some (vp_cell _ _); rw [vp_cell_q]; exact e1)
  have h9 := kk p e s m args below meth c H1 locs ls hx hb hr hml hown hts hlk hin hS hls hH1 (hH.F hH1 hF (by omega) hF.2.2) ⟨hB.1, fun q => by have := hB.2 q; omega⟩
  rw [← hH.1] at h9
  exact h9
theorem x_anewF {ex : Bool} {d : Nat} {M : mmMi} {l : Launch} {G : xG} {mc ms n : Nat} {es : Nat → va_E} {k z : Nat} {L st : List Value} {pc : Nat} {Qc : Array Value → State → Outcome → State → Prop} {x : Int32} {i w : Nat} (N : Nat) (hd : decode M.2.1 pc = .ok (.anewarray i, 3)) (hw : lw_tbl[w]? = some (.classLink M.1.cls i RX2)) (hx0 : ¬ x < 0) (hN : x.toNatClampNeg = N) (hN9 : N ≤ 2000) (hk : k + 1 ≤ mc) (hz : z + N ≤ ms) (kk : xE ex d M l G mc ms (n + 1) (ctU es n (.inl (G.cA 6, N, .inr (.inr (.inr (.inr fun _ => none)))))) (k + 1) (z + N) (pc + 3) L (.ref (G.B + n) :: st) Qc) : xE ex d M l G mc ms n es k z pc L (.int x :: st) Qc := by
  intro p e s m args below meth c H locs ls hx hb hr hml hown hts hlk hin hS hls hH hF hB
  subst hN
  refine W.anew (C := RX2) hx hb hown (mm_word (M := M) hts hw rfl) (va_AO.use hS.2.2.2.2.2.2.2.2.1.2.2) rfl hd rfl hx0 (by omega) hk hz (fun cA1 kA comp f1 f2 f3 f4 => ?_)
  have hc : cA1 = G.cA 6 := by
    obtain ⟨kA2, comp2, -, -, -, g4⟩ := (hS.2.1.2 6 _ rfl).2
    exact Option.some.inj (f1.symm.trans g4)
  subst hc
  generalize hH1e : H.push ({ cls := G.cA 6, slots := Array.replicate x.toNatClampNeg .null, vm := .none } : Cell) = H1
  have z1 : H1.size = G.B + n + 1 := by rw [← hH1e, Array.size_push, hH.1]
  have e1 : H1[G.B + n]? = some (arrV (G.cA 6) x.toNatClampNeg (fun _ => .null)) := by rw [← hH1e, ← hH.1, Array.getElem?_push_size, ← arrV_new]
  have o1 : ∀ q : Nat, q < G.B + n → H1[q]? = H[q]? := fun q hq => by rw [← hH1e, Array.getElem?_push, if_neg (by rw [hH.1]; omega)]
  have hH1 := hH.push (H1 := H1) (e := .inl (G.cA 6, x.toNatClampNeg, .inr (.inr (.inr (.inr fun _ => none))))) z1 o1 (by show H1[G.B + n]? = some (vp_cell _ _); rw [vp_cell_q]; exact e1)
  have h9 := kk p e s m args below meth c H1 locs ls hx hb hr hml hown hts hlk hin hS hls hH1 (hH.F hH1 hF (by omega) hF.2.2) ⟨hB.1, fun q => by have := hB.2 q; omega⟩
  rw [← hH.1] at h9
  exact h9
theorem x_use {p : Program} {l : Launch} {e : Env} {R : Room} {s : State} {m : MethodId} {args : Array Value} {below : List Frame} {meth : Method} {c : Code} {H : Heap} {locs : List Loc} {pc k z mc ms n : Nat} {ls : Array Slot} {st0 rest : List Value} {Q : State → Prop} {G : xG} {a : Array Value} {es : Nat → va_E} {P : Option Value → Nat → (Nat → va_E) → Prop}
    (hr : va_Run p l e R s m args below meth c H locs k z mc ms (F0 m pc ls st0) rest (xQc G n P a) (fun q => G.B ≤ q)) (hH : ctH G.B G.H0 G.D n es H) (hF : va_S (fun q => G.B ≤ q) s.heap H locs)
    (kk : ∀ (v : Option Value) (n1 : Nat) (es1 : Nat → va_E) (H1 : Heap) (locs1 : List Loc), P v n1 es1 → n ≤ n1 → ctH G.B G.H0 G.D n1 es1 H1 → va_S (fun q => G.B ≤ q) s.heap H1 locs1 → W p l e R s m args below meth c H1 locs1 (k + mc) (z + ms) Q (F0 m (pc + 3) ls (v.toList ++ rest))) :
    W p l e R s m args below meth c H locs k z Q (F0 m pc ls st0) := by
  intro T hT X
  obtain ⟨v, st₀, t, T', L, h0, X', hL, e1, e2, ⟨v', n1, es1, hv, hp, hn, hh⟩, st⟩ := hr T hT X
  cases hv
  have hh1 : ctH G.B G.H0 G.D n1 es1 T'.heap := by rw [e1]; exact hh
  have hv1 := hH.F (locs1 := locs ++ L) hh1 hF hn (fun q hq => by
    rcases List.mem_append.mp hq with h | h
    · exact hF.2.2 q h
    · exact hL q h)
  obtain ⟨t2, a1, b1⟩ := kk v n1 es1 T'.heap (locs ++ L) hp hn hh1 hv1 T' rfl X'
  exact ⟨t2, st t2 a1, b1⟩
theorem x_blind {G : xG} {n : Nat} {es : Nat → va_E} {as : List Value} : FrameBlind (xPc G n es as) := fun a U g mk h => ⟨h.1, h.2.1, xS.same rfl h.2.2⟩
theorem x_pre {G : xG} {n : Nat} {es : Nat → va_E} {as : List Value} {s U : State} {H : Heap} (hH : ctH G.B G.H0 G.D n es H) (hS : xS G s) (hU : U.heap = H) (hW : s.WarmedH U.vm) : xPc G n es as as.toArray U := ⟨rfl, by rw [hU]; exact hH, xS.warm hW hS⟩
/-- the object at an address is of the class C -/
def xRc (G : xG) (n : Nat) (es : Nat → va_E) (a : Nat) (C : String) : Prop := ∀ (s : State) (H : Heap), xS G s → ctH G.B G.H0 G.D n es H → ∃ cell : Cell, H[a]? = some cell ∧ cell.vm.isStatics = false ∧ s.vm.findClass C = some cell.cls
theorem xRc.own {G : xG} {n r ci : Nat} {es : Nat → va_E} {fs : List Value} {q : vw_C} (hr : r < n) (he : es r = .inr (ci, fs)) (hc : vwCl[ci]? = some q) : xRc G n es (G.B + r) q.1 := fun s H hS hH => va_recv hS.2.1 hH.2.2 hc (by rw [ctWd_get hr, he])
theorem xRc.str {G : xG} {n i : Nat} {es : Nat → va_E} (hi : i < 9) : xRc G n es (G.sk i) "java/lang/String" := fun s H hS hH => by
  obtain ⟨cell, g1, g2, g3, g4⟩ := (hS.2.2.2.2.1.1 i hi).1
  have h0 := hS.1
  have hl : G.sk i < G.H0.size := (Array.getElem?_eq_some_iff.mp g1).1
  exact ⟨cell, by rw [hH.2.1 _ (by omega)]; exact g1, g2, g3⟩
theorem xRc.md {G : xG} {n n1 : Nat} {es es1 : Nat → va_E} {a : Nat} {C : String} (h : ∀ (s : State) (H : Heap), xS G s → ctH G.B G.H0 G.D n1 es1 H → ∃ cell : Cell, H[a]? = some cell ∧ cell.vm.isStatics = false ∧ s.vm.findClass C = some cell.cls) : xRc G n1 es1 a C := h

theorem x_callS {ex : Bool} {d : Nat} {M : mmMi} {l : Launch} {G : xG} {mc ms n : Nat} {es : Nat → va_E} {k z : Nat} {L st : List Value} {pc : Nat} {Qc : Array Value → State → Outcome → State → Prop} {d' mc' ms' i w na : Nat} {Mc : mmMi} {P : Option Value → Nat → (Nat → va_E) → Prop}  {st0 : List Value} (as : List Value) (hst : st0 = as.reverse ++ st) (hd : decode M.2.1 pc = .ok (.invokestatic i, 3)) (hw : lw_tbl[w]? = some (.methodLink M.1.cls i Mc.1)) (hg : mmGd Mc true na) (hM : xMet d' mc' ms' Mc l G n es as P) (hd' : d' < d) (hk : k + mc' ≤ mc) (hz : z + ms' ≤ ms) (hl : as.length = na) (hex : ∀ v n1 es1, P v n1 es1 → ex = true → n + mc' ≤ n1) (hr8 : (st.map fun v => v.category).sum ≤ 8) (kk : ∀ (v : Option Value) (n1 : Nat) (es1 : Nat → va_E), P v n1 es1 → n ≤ n1 → xE ex d M l G mc ms n1 es1 (k + mc') (z + ms') (pc + 3) L (v.toList ++ st) Qc) : xE ex d M l G mc ms n es k z pc L st0 Qc := by
  intro p e s m args below meth c H locs ls hx hb hr hml hown hts hlk hin hS hls hH hF hB
  have hls1 : ls.size = M.2.2.1 := hls.choose_spec.1.1
  subst hst
  have hm20 := hg.2.2.2.1
  exact x_use (rest := st) (va_runS (As := as) (own := M.1.cls) ⟨hx, hb, hml, hown, hts⟩ hM ⟨callB_of na hts (mm_goodWs hg.1) rfl rfl rfl (hts _ hg.2.1) (mm_word (M := M) hts hw rfl) hg.2.2.1 ⟨hd', by have h20 : Mc.2.2.1 ≤ 20 := hm20; show 8 + (Mc.2.2.1 + 11) + 40 * d' ≤ 40 * d; omega⟩, hts _ (by simpa using hg.2.2.2.2)⟩ ⟨x_blind, fun U hU hW => x_pre hH hS hU hW⟩ rfl hl hls1 rfl (lv_room hr8) hd ⟨hk, hz⟩) hH hF (fun v n1 es1 H1 locs1 hP hn hH1 hS1 => kk v n1 es1 hP hn p e s m args below meth c H1 locs1 ls hx hb hr hml hown hts hlk hin hS hls hH1 hS1 ⟨hB.1, fun q => by have := hB.2 q; have := hex v n1 es1 hP q; omega⟩)
theorem x_callV {ex : Bool} {d : Nat} {M : mmMi} {l : Launch} {G : xG} {mc ms n : Nat} {es : Nat → va_E} {k z : Nat} {L st : List Value} {pc : Nat} {Qc : Array Value → State → Outcome → State → Prop} {d' mc' ms' i w na : Nat} {Mc : mmMi} {P : Option Value → Nat → (Nat → va_E) → Prop} {a : Nat} {st0 : List Value} (as : List Value) (hst : st0 = as.reverse ++ .ref a :: st) (hd : decode M.2.1 pc = .ok (.invokevirtual i, 3)) (hw : lw_tbl[w]? = some (.methodLink M.1.cls i Mc.1)) (hg : mmGd Mc false na) (hrc : xRc G n es a Mc.1.cls) (hM : xMet d' mc' ms' Mc l G n es (.ref a :: as) P) (hd' : d' < d) (hk : k + mc' ≤ mc) (hz : z + ms' ≤ ms) (hl : as.length = na) (hex : ∀ v n1 es1, P v n1 es1 → ex = true → n + mc' ≤ n1) (hr8 : (st.map fun v => v.category).sum ≤ 8) (kk : ∀ (v : Option Value) (n1 : Nat) (es1 : Nat → va_E), P v n1 es1 → n ≤ n1 → xE ex d M l G mc ms n1 es1 (k + mc') (z + ms') (pc + 3) L (v.toList ++ st) Qc) : xE ex d M l G mc ms n es k z pc L st0 Qc := by
  intro p e s m args below meth c H locs ls hx hb hr hml hown hts hlk hin hS hls hH hF hB
  have hls1 : ls.size = M.2.2.1 := hls.choose_spec.1.1
  subst hst
  have hm20 := hg.2.2.2.1
  have hgv : Cond.instanceMethod Mc.1 ∈ mmT ∧ Cond.selects Mc.1.cls Mc.1 Mc.1 ∈ mmT := by simpa using hg.2.2.2.2
  exact x_use (rest := st) (va_runV (As := as) (b := a) (C := Mc.1.cls) (own := M.1.cls) ⟨hx, hb, hml, hown, hts⟩ hM ⟨callB_of na hts (mm_goodWs hg.1) rfl rfl rfl (hts _ hg.2.1) (mm_word (M := M) hts hw rfl) hg.2.2.1 ⟨hd', by have h20 : Mc.2.2.1 ≤ 20 := hm20; show 8 + (Mc.2.2.1 + 11) + 40 * d' ≤ 40 * d; omega⟩, hts _ hgv.1, hts _ hgv.2⟩ ⟨x_blind, hrc s H hS hH, fun U hU hW => x_pre (as := .ref a :: as) hH hS hU hW⟩ rfl hl hls1 rfl (lv_room hr8) hd ⟨hk, hz⟩) hH hF (fun v n1 es1 H1 locs1 hP hn hH1 hS1 => kk v n1 es1 hP hn p e s m args below meth c H1 locs1 ls hx hb hr hml hown hts hlk hin hS hls hH1 hS1 ⟨hB.1, fun q => by have := hB.2 q; have := hex v n1 es1 hP q; omega⟩)
/-- what a callee's words say, apart from how it is chosen -/
def xGd (M : mmMi) (n : Nat) : Prop := Cond.code M.1 M.2.1 M.2.2.1 M.2.2.2 ∈ mmT ∧ Cond.initialized M.1.cls ∈ mmT ∧ (M.1.cls ≠ "java/lang/invoke/MethodHandle" ∧ M.1.cls ≠ "java/lang/invoke/VarHandle" ∧ (parseMethodDescriptor M.1.desc).map (fun d => d.parameters.length) = some n) ∧ M.2.2.1 ≤ 20 ∧ Cond.instanceMethod M.1 ∈ mmT
theorem x_selP {C : String} {y : MethodName} {s : State} {args : Array Value} {n : Nat} (hC : (Cond.instantiable C n).before args s = true) (hp : (Cond.privateMethod y).before args s = true) (hi : (Cond.instanceMethod y).before args s = true) (hs : (Cond.sameMethod y.cls y.cls y.name y.desc).before args s = true) : (Cond.selects C y y).before args s = true := by
  obtain ⟨c, k, hc, hk, -⟩ := Cond.instantiable_spec hC
  obtain ⟨cn, ck, r1, hcn, hck, hni, hf, hn1⟩ := Cond.sameMethod_found hs
  obtain ⟨mk, methM, hnamed, hmethM, -, -⟩ := Cond.instanceMethod_spec hi
  have e1 : r1 = mk := Option.some.inj (hn1.symm.trans hnamed)
  subst e1
  have hcls : r1.cls = cn := Option.some.inj ((findClass_of_methodNamed hnamed).symm.trans hcn)
  have hsel : selectMethod {} s.vm c r1 = .method r1 := selectMethod_private hmethM (Cond.privateMethod_at hp r1 methM hnamed hmethM)
  simp only [Cond.before, Cond.holds, Cond.value, hc, hf, hnamed, hsel, hcls, hck]
  simp
  exact hni
theorem x_callU {ex : Bool} {d : Nat} {M : mmMi} {l : Launch} {G : xG} {mc ms n : Nat} {es : Nat → va_E} {k z : Nat} {L st : List Value} {pc : Nat} {Qc : Array Value → State → Outcome → State → Prop} {d' mc' ms' i w na : Nat} {Mc : mmMi} {P : Option Value → Nat → (Nat → va_E) → Prop} {a : Nat} {x : MethodName} {C : String} {b0 : ByteArray} {m0 : Nat} {r0 : Option FieldType} {w2 : Nat} {st0 : List Value} (as : List Value) (hst : st0 = as.reverse ++ .ref a :: st) (hd : decode M.2.1 pc = .ok (.invokevirtual i, 3)) (hw : lw_tbl[w]? = some (.methodLink M.1.cls i x)) (hg : xGd Mc na) (hxd : x.cls ≠ "java/lang/invoke/MethodHandle" ∧ x.cls ≠ "java/lang/invoke/VarHandle" ∧ (parseMethodDescriptor x.desc).map (fun d => d.parameters.length) = some na) (hx0 : Cond.instanceMethod x ∈ mmT) (hx1 : Cond.code x b0 m0 r0 ∈ mmT) (hw2 : lw_tbl[w2]? = some (.sameMethod x.cls x.cls x.name x.desc)) (hsel : ∀ (args : Array Value) (s : State), (∀ w ∈ mmT, w.before args s = true) → xS G s → (Cond.selects C x Mc.1).before args s = true) (hrc : xRc G n es a C) (hM : xMet d' mc' ms' Mc l G n es (.ref a :: as) P) (hd' : d' < d) (hk : k + mc' ≤ mc) (hz : z + ms' ≤ ms) (hl : as.length = na) (hex : ∀ v n1 es1, P v n1 es1 → ex = true → n + mc' ≤ n1) (hr8 : (st.map fun v => v.category).sum ≤ 8) (kk : ∀ (v : Option Value) (n1 : Nat) (es1 : Nat → va_E), P v n1 es1 → n ≤ n1 → xE ex d M l G mc ms n1 es1 (k + mc') (z + ms') (pc + 3) L (v.toList ++ st) Qc) : xE ex d M l G mc ms n es k z pc L st0 Qc := by
  intro p e s m args below meth c H locs ls hx hb hr hml hown hts hlk hin hS hls hH hF hB
  have hls1 : ls.size = M.2.2.1 := hls.choose_spec.1.1
  subst hst
  have hm20 := hg.2.2.2.1
  have hdl : va_Decl s x := va_Decl.of (hts _ hx0) (hts _ hx1)
  have hcu : va_CU (ctR d mc ms) s args M.1.cls C x.cls i x Mc.1 Mc.2.1 Mc.2.2.1 Mc.2.2.2 (mmWs Mc) (ctR d' mc' ms') mc' ms' na := ⟨⟨rfl, rfl, hd', by show 8 + (Mc.2.2.1 + 11) + 40 * d' ≤ 40 * d; omega, pay_in hts (mm_goodWs hg.1), List.mem_cons_self⟩, hts _ hg.1, hts _ hg.2.1, ⟨hxd.1, hxd.2.1⟩, fun sig h => by
    have h2 := hxd.2.2
    rw [h] at h2
    exact (Option.some.inj h2).symm, mm_word (M := M) hts hw rfl, mm_word (M := M) hts hw2 rfl, hdl, hsel args s hts hS, hts _ hg.2.2.2.2⟩
  exact x_use (rest := st) (va_runU (As := as) (b := a) (C := C) (owner := x.cls) (own := M.1.cls) ⟨hx, hb, hml, hown, hts⟩ hM hcu ⟨x_blind, hrc s H hS hH, fun U hU hW => x_pre (as := .ref a :: as) hH hS hU hW⟩ rfl hl hls1 rfl (lv_room hr8) hd ⟨hk, hz⟩) hH hF (fun v n1 es1 H1 locs1 hP hn hH1 hS1 => kk v n1 es1 hP hn p e s m args below meth c H1 locs1 ls hx hb hr hml hown hts hlk hin hS hls hH1 hS1 ⟨hB.1, fun q => by have := hB.2 q; have := hex v n1 es1 hP q; omega⟩)
theorem x_callSU {ex : Bool} {d : Nat} {M : mmMi} {l : Launch} {G : xG} {mc ms n : Nat} {es : Nat → va_E} {k z : Nat} {L st : List Value} {pc : Nat} {Qc : Array Value → State → Outcome → State → Prop} {d' mc' ms' i w na : Nat} {Mc : mmMi} {P : Option Value → Nat → (Nat → va_E) → Prop} {a ci w2 w3 : Nat} {q : vw_C} {st0 : List Value} (as : List Value) (hst : st0 = as.reverse ++ .ref a :: st) (hd : decode M.2.1 pc = .ok (.invokespecial i, 3)) (hw : lw_tbl[w]? = some (.methodLink M.1.cls i Mc.1)) (hg : xGd Mc na) (hno : Mc.1.name ≠ "<init>") (hw2 : lw_tbl[w2]? = some (.sameMethod Mc.1.cls Mc.1.cls Mc.1.name Mc.1.desc)) (hw3 : lw_tbl[w3]? = some (.superclass M.1.cls Mc.1.cls)) (hci : vwCl[ci]? = some q) (hrc : xRc G n es a q.1) (hM : xMet d' mc' ms' Mc l G n es (.ref a :: as) P) (hd' : d' < d) (hk : k + mc' ≤ mc) (hz : z + ms' ≤ ms) (hl : as.length = na) (hex : ∀ v n1 es1, P v n1 es1 → ex = true → n + mc' ≤ n1) (hr8 : (st.map fun v => v.category).sum ≤ 8) (kk : ∀ (v : Option Value) (n1 : Nat) (es1 : Nat → va_E), P v n1 es1 → n ≤ n1 → xE ex d M l G mc ms n1 es1 (k + mc') (z + ms') (pc + 3) L (v.toList ++ st) Qc) : xE ex d M l G mc ms n es k z pc L st0 Qc := by
  intro p e s m args below meth c H locs ls hx hb hr hml hown hts hlk hin hS hls hH hF hB
  have hls1 : ls.size = M.2.2.1 := hls.choose_spec.1.1
  subst hst
  have hm20 := hg.2.2.2.1
  have hcs : va_CS (ctR d mc ms) s args M.1.cls i Mc.1 Mc.2.1 Mc.2.2.1 Mc.2.2.2 (mmWs Mc) (ctR d' mc' ms') mc' ms' na := ⟨⟨rfl, rfl, hd', by show 8 + (Mc.2.2.1 + 11) + 40 * d' ≤ 40 * d; omega, pay_in hts (mm_goodWs hg.1), List.mem_cons_self⟩, mm_word (M := M) hts hw rfl, mm_word (M := M) hts hw2 rfl, mm_word (M := M) hts hw3 rfl, hts _ hg.2.2.2.2, hts _ hg.2.1, hts _ hg.1, hno, fun sig h => by
    have h2 := hg.2.2.1.2.2
    rw [h] at h2
    exact (Option.some.inj h2).symm⟩
  exact x_use (rest := st) (va_runSU (As := as) (b := a) (C := q.1) (cC := G.D.1 ci) (hS.2.1.1 ci q hci).2 ⟨hx, hb, hml, hown, hts⟩ hM hcs ⟨x_blind, hrc s H hS hH, fun U hU hW => x_pre (as := .ref a :: as) hH hS hU hW⟩ rfl hl hls1 rfl (lv_room hr8) hd ⟨hk, hz⟩) hH hF (fun v n1 es1 H1 locs1 hP hn hH1 hS1 => kk v n1 es1 hP hn p e s m args below meth c H1 locs1 ls hx hb hr hml hown hts hlk hin hS hls hH1 hS1 ⟨hB.1, fun q => by have := hB.2 q; have := hex v n1 es1 hP q; omega⟩)
theorem x_callI {ex : Bool} {d : Nat} {M : mmMi} {l : Launch} {G : xG} {mc ms n : Nat} {es : Nat → va_E} {k z : Nat} {L st : List Value} {pc : Nat} {Qc : Array Value → State → Outcome → State → Prop} {d' mc' ms' i w na : Nat} {Mc : mmMi} {P : Option Value → Nat → (Nat → va_E) → Prop} {a : Nat} {st0 : List Value} (as : List Value) (hst : st0 = as.reverse ++ .ref a :: st) (hd : decode M.2.1 pc = .ok (.invokespecial i, 3)) (hw : lw_tbl[w]? = some (.methodLink M.1.cls i Mc.1)) (hg : xGd Mc na) (hno : Mc.1.name = "<init>") (hnr : Mc.2.2.2 = none) (hM : xMet d' mc' ms' Mc l G n es (.ref a :: as) P) (hd' : d' < d) (hk : k + mc' ≤ mc) (hz : z + ms' ≤ ms) (hl : as.length = na) (hex : ∀ v n1 es1, P v n1 es1 → ex = true → n + mc' ≤ n1) (hr8 : (st.map fun v => v.category).sum ≤ 8) (kk : ∀ (v : Option Value) (n1 : Nat) (es1 : Nat → va_E), P v n1 es1 → n ≤ n1 → xE ex d M l G mc ms n1 es1 (k + mc') (z + ms') (pc + 3) L (v.toList ++ st) Qc) : xE ex d M l G mc ms n es k z pc L st0 Qc := by
  intro p e s m args below meth c H locs ls hx hb hr hml hown hts hlk hin hS hls hH hF hB
  have hls1 : ls.size = M.2.2.1 := hls.choose_spec.1.1
  subst hst
  have hm20 := hg.2.2.2.1
  exact x_use (rest := st) (va_runI (As := as) (b := a) (own := M.1.cls) ⟨hx, hb, hml, hown, hts⟩ hM ⟨callB_of na hts (mm_goodWs hg.1) (by rw [← hnr]; rfl) rfl rfl (hts _ hg.2.1) (mm_word (M := M) hts hw rfl) hg.2.2.1 ⟨hd', by have h20 : Mc.2.2.1 ≤ 20 := hm20; show 8 + (Mc.2.2.1 + 11) + 40 * d' ≤ 40 * d; omega⟩, hno, hts _ hg.2.2.2.2⟩ ⟨x_blind, fun U hU hW => x_pre (as := .ref a :: as) hH hS hU hW⟩ rfl hl hls1 rfl (lv_room hr8) hd ⟨hk, hz⟩) hH hF (fun v n1 es1 H1 locs1 hP hn hH1 hS1 => kk v n1 es1 hP hn p e s m args below meth c H1 locs1 ls hx hb hr hml hown hts hlk hin hS hls hH1 hS1 ⟨hB.1, fun q => by have := hB.2 q; have := hex v n1 es1 hP q; omega⟩)
theorem x_callIN {ex : Bool} {d : Nat} {M : mmMi} {l : Launch} {G : xG} {mc ms n : Nat} {es : Nat → va_E} {k z : Nat} {L st : List Value} {pc : Nat} {Qc : Array Value → State → Outcome → State → Prop} {d' mc' ms' i na : Nat} {Mc : mmMi} {P : Option Value → Nat → (Nat → va_E) → Prop} {a : Nat} {st0 : List Value} (as : List Value) (hst : st0 = as.reverse ++ .ref a :: st) (hd : decode M.2.1 pc = .ok (.invokespecial i, 3)) (hw : (M.1.cls, i, Mc.1) ∈ mmNest) (hg : xGd Mc na) (hno : Mc.1.name = "<init>") (hnr : Mc.2.2.2 = none) (hM : xMet d' mc' ms' Mc l G n es (.ref a :: as) P) (hd' : d' < d) (hk : k + mc' ≤ mc) (hz : z + ms' ≤ ms) (hl : as.length = na) (hex : ∀ v n1 es1, P v n1 es1 → ex = true → n + mc' ≤ n1) (hr8 : (st.map fun v => v.category).sum ≤ 8) (kk : ∀ (v : Option Value) (n1 : Nat) (es1 : Nat → va_E), P v n1 es1 → n ≤ n1 → xE ex d M l G mc ms n1 es1 (k + mc') (z + ms') (pc + 3) L (v.toList ++ st) Qc) : xE ex d M l G mc ms n es k z pc L st0 Qc := by
  intro p e s m args below meth c H locs ls hx hb hr hml hown hts hlk hin hS hls hH hF hB
  have hls1 : ls.size = M.2.2.1 := hls.choose_spec.1.1
  subst hst
  have hm20 := hg.2.2.2.1
  exact x_use (rest := st) (va_runIN (As := as) (b := a) (own := M.1.cls) (host := "ColumnCasts") ⟨hx, hb, hml, hown, hts⟩ hM ⟨va_cnB na hts (mm_goodWs hg.1) (by rw [← hnr]; rfl) rfl rfl (hS.2.2.2.2.2.2.2.1 _ hw) (hts _ hg.2.1) hg.2.2.1 ⟨hd', by have h20 : Mc.2.2.1 ≤ 20 := hm20; show 8 + (Mc.2.2.1 + 11) + 40 * d' ≤ 40 * d; omega⟩, hno, hts _ hg.2.2.2.2⟩ ⟨x_blind, fun U hU hW => x_pre (as := .ref a :: as) hH hS hU hW⟩ rfl hl hls1 rfl (lv_room hr8) hd ⟨hk, hz⟩) hH hF (fun v n1 es1 H1 locs1 hP hn hH1 hS1 => kk v n1 es1 hP hn p e s m args below meth c H1 locs1 ls hx hb hr hml hown hts hlk hin hS hls hH1 hS1 ⟨hB.1, fun q => by have := hB.2 q; have := hex v n1 es1 hP q; omega⟩)
/-- the default of a class's fields -/
def ctDf (ci : Nat) : List Value := match ci with
  | 8 => [.null, .int 0, .int 0, .int 0]
  | 9 => [.null, .int 0, .int 0, .int 0]
  | ci => (List.range (mmNF ci)).map fun k => match mmFT ci k with
    | 0 => .int 0
    | 1 => .long 0
    | 2 => .double 0
    | _ => .null
theorem mm_dfX : ∀ ci, ci < 10 → ∀ (C : String) (T : u_T) (N : Nat), vwCl[ci]? = some (C, T, N) → ∃ ty : Nat → FieldType, (∀ k, k < N → parseFieldDescriptor (T k).2.2.1 = some (ty k)) ∧ ∀ j, j < N → defaultValue (ty j) = vp_V (ctDf ci) j := by
  intro ci hci C T N h
  match ci, h with
  | 0, h => cases h; exact ⟨tyX0, tyX0_ok, by decide +kernel⟩
  | 1, h => cases h; exact ⟨tyX1, tyX1_ok, by decide +kernel⟩
  | 2, h => cases h; exact ⟨tyX2, tyX2_ok, by decide +kernel⟩
  | 3, h => cases h; exact ⟨tyX3, tyX3_ok, by decide +kernel⟩
  | 4, h => cases h; exact ⟨tyX4, tyX4_ok, by decide +kernel⟩
  | 5, h => cases h; exact ⟨tyX5, tyX5_ok, by decide +kernel⟩
  | 6, h => cases h; exact ⟨tyX6, tyX6_ok, by decide +kernel⟩
  | 7, h => cases h; exact ⟨tyX7, tyX7_ok, by decide +kernel⟩
  | 8, h => cases h; exact ⟨tyJ0, tyJ0_ok, by decide +kernel⟩
  | 9, h => cases h; exact ⟨tyJ4, tyJ4_ok, by decide +kernel⟩
  | n + 10, h => simp [vwCl] at h
theorem x_new {ex : Bool} {d : Nat} {M : mmMi} {l : Launch} {G : xG} {mc ms n : Nat} {es : Nat → va_E} {k z : Nat} {L st : List Value} {pc : Nat} {Qc : Array Value → State → Outcome → State → Prop} {i w1 ci : Nat} {q : vw_C} (hd : decode M.2.1 pc = .ok (.new i, 3)) (hw1 : lw_tbl[w1]? = some (.classLink M.1.cls i q.1)) (hci : vwCl[ci]? = some q) (hin1 : Cond.instantiable q.1 (mmNF ci) ∈ mmT) (hin2 : Cond.initialized q.1 ∈ mmT) (hk : k + 1 ≤ mc) (hz : z + mmNF ci ≤ ms) (kk : xE ex d M l G mc ms (n + 1) (ctU es n (.inr (ci, ctDf ci))) (k + 1) (z + mmNF ci) (pc + 3) L (.ref (G.B + n) :: st) Qc) : xE ex d M l G mc ms n es k z pc L st Qc := by
  intro p e s m args below meth c H locs ls hx hb hr hml hown hts hlk hin hS hls hH hF hB
  obtain ⟨C, T, N⟩ := q
  obtain ⟨hci9, rfl, hinw, -, -⟩ := mm_cls hci
  obtain ⟨ty, hty, hdf⟩ := mm_dfX ci hci9 _ _ _ hci
  have hKn := hS.2.1.1 ci _ hci
  refine W.newcK hx hb hown (mm_word (M := M) hts hw1 rfl) (hts _ hin1) (hts _ hin2) rfl hd hk hz hKn.2.1 (h := G.B + n) hH.1 (fun H1 kC hkC e1 z1 o1 => ?_)
  have hH1 := hH.push (H1 := H1) (e := .inr (ci, ctDf ci)) z1 o1 ⟨_, hci, (u_born ty hts hinw hKn hkC e1 hty).to hdf⟩
  exact kk p e s m args below meth c H1 locs ls hx hb hr hml hown hts hlk hin hS hls hH1 (hH.F hH1 hF (by omega) hF.2.2) ⟨hB.1, fun q => by have := hB.2 q; omega⟩
theorem x_put {d : Nat} {M : mmMi} {l : Launch} {G : xG} {mc ms n : Nat} {es : Nat → va_E} {k z : Nat} {L st : List Value} {pc : Nat} {Qc : Array Value → State → Outcome → State → Prop} {r ci i w : Nat} {C : String} {T : u_T} {N : Nat} {fs : List Value} {v : Value} (j : Nat) (ty : FieldType) (hd : decode M.2.1 pc = .ok (.putfield i, 3)) (hcl : vwCl[ci]? = some (C, T, N)) (hj : j < N) (hw : lw_tbl[w]? = some (.fieldLink M.1.cls i (T j).1 (T j).2.1 (T j).2.2.1)) (hfin : (T j).2.2.2 = false) (hty : parseFieldDescriptor (T j).2.2.1 = some ty) (hn : narrow ty v = v) (hfit : fits ty v = true) (hr0 : r < n) (hes : es r = .inr (ci, fs)) (hjf : j < fs.length) (kk : xE true d M l G mc ms n (ctU es r (.inr (ci, fs.set j v))) k z (pc + 3) L st Qc) : xE true d M l G mc ms n es k z pc L (v :: .ref (G.B + r) :: st) Qc := by
  intro p e s m args below meth c H locs ls hx hb hr hml hown hts hlk hin hS hls hH hF hB
  obtain ⟨hci9, rfl, hinw, hnm, ty9, hty9, -⟩ := mm_cls hcl
  refine va_put (C := C) (T := T) (N := mmNF ci) (own := M.1.cls) (ref := (T j).1) hx hb hts hinw ty9 hty9 hnm hown hS.2.1 hH.2.2 ctWd_D hF r (by rw [ctWd_get hr0, hes]) hcl j hj (mm_word (M := M) hts hw rfl) (fun _ q => q) hfin hty hn hfit hjf hd (fun H1 locs1 hP1 hD1 hS1 => ?_)
  rw [ctWd_set hr0] at hP1
  refine mm_sz fun hsz => ?_
  exact kk p e s m args below meth c H1 locs1 ls hx hb hr hml hown hts hlk hin hS hls (hH.put hF hB.1 hP1 hS1 (x_wz (by omega) hP1 hsz (hB.2 rfl))) hS1 hB
theorem x_putF {d : Nat} {M : mmMi} {l : Launch} {G : xG} {mc ms n : Nat} {es : Nat → va_E} {k z : Nat} {L st : List Value} {pc : Nat} {Qc : Array Value → State → Outcome → State → Prop} {r ci i w : Nat} {C : String} {T : u_T} {N : Nat} {fs : List Value} {v : Value} (j : Nat) (ty : FieldType) (hd : decode M.2.1 pc = .ok (.putfield i, 3)) (hcl : vwCl[ci]? = some (C, T, N)) (hj : j < N) (hw : lw_tbl[w]? = some (.fieldLink M.1.cls i (T j).1 (T j).2.1 (T j).2.2.1)) (hfin : (T j).2.2.2 = true) (hini : M.1.name = "<init>") (hdecl : (T j).1 = M.1.cls) (hty : parseFieldDescriptor (T j).2.2.1 = some ty) (hn : narrow ty v = v) (hfit : fits ty v = true) (hr0 : r < n) (hes : es r = .inr (ci, fs)) (hjf : j < fs.length) (kk : xE true d M l G mc ms n (ctU es r (.inr (ci, fs.set j v))) k z (pc + 3) L st Qc) : xE true d M l G mc ms n es k z pc L (v :: .ref (G.B + r) :: st) Qc := by
  intro p e s m args below meth c H locs ls hx hb hr hml hown hts hlk hin hS hls hH hF hB
  obtain ⟨hci9, rfl, hinw, hnm, ty9, hty9, -⟩ := mm_cls hcl
  refine va_putF (C := C) (T := T) (N := mmNF ci) (own := M.1.cls) (ref := (T j).1) hx hb hts hinw ty9 hty9 hnm hown hS.2.1 hH.2.2 ctWd_D hF r (by rw [ctWd_get hr0, hes]) hcl j hj (mm_word (M := M) hts hw rfl) (fun _ q => q) hfin (hin hini) hdecl hty hn hfit hjf hd (fun H1 locs1 hP1 hD1 hS1 => ?_)
  rw [ctWd_set hr0] at hP1
  refine mm_sz fun hsz => ?_
  exact kk p e s m args below meth c H1 locs1 ls hx hb hr hml hown hts hlk hin hS hls (hH.put hF hB.1 hP1 hS1 (x_wz (by omega) hP1 hsz (hB.2 rfl))) hS1 hB
theorem x_astC {d : Nat} {M : mmMi} {l : Launch} {G : xG} {mc ms n : Nat} {es : Nat → va_E} {k z : Nat} {L st : List Value} {pc : Nat} {Qc : Array Value → State → Outcome → State → Prop} {r q N : Nat} {x : Int32} {f : Nat → Option Nat} {vs : List Value} (i : Nat) (hd : decode M.2.1 pc = .ok (.aastore, 1)) (hr0 : r < n) (hes : es r = .inl (G.cA 4, N, .inr (.inr (.inr (.inr f))))) (hq0 : q < n) (hqs : es q = .inr (1, vs)) (hx0 : ¬ x < 0) (hxi : x.toNatClampNeg = i) (hiN : i < N) (kk : xE true d M l G mc ms n (ctU es r (.inl (G.cA 4, N, .inr (.inr (.inr (.inr (va_up f i (some (G.B + q))))))))) k z (pc + 1) L st Qc) : xE true d M l G mc ms n es k z pc L (.ref (G.B + q) :: .int x :: .ref (G.B + r) :: st) Qc := by
  intro p e s m args below meth c H locs ls hx hb hr hml hown hts hlk hin hS hls hH hF hB
  subst hxi
  refine va_astq (t0 := 4) (ci := 1) (r := (RX1, TX1, mmNF 1)) hx hb hS.2.1 hH.2.2 ctWd_D hF r (qk := q) (vs := vs) (by rw [ctWd_get hr0, hes]) rfl (by rw [ctWd_get hq0, hqs]) rfl (ct_in hx0 hiN) hd (fun H1 locs1 hP1 hD1 hS1 => ?_)
  rw [ctWd_set hr0] at hP1
  refine mm_sz fun hsz => ?_
  exact kk p e s m args below meth c H1 locs1 ls hx hb hr hml hown hts hlk hin hS hls (hH.put hF hB.1 hP1 hS1 (x_wz (by omega) hP1 hsz (hB.2 rfl))) hS1 hB
theorem x_astV {d : Nat} {M : mmMi} {l : Launch} {G : xG} {mc ms n : Nat} {es : Nat → va_E} {k z : Nat} {L st : List Value} {pc : Nat} {Qc : Array Value → State → Outcome → State → Prop} {r q N : Nat} {x : Int32} {f : Nat → Option Nat} {vs : List Value} (i : Nat) (hd : decode M.2.1 pc = .ok (.aastore, 1)) (hr0 : r < n) (hes : es r = .inl (G.cA 5, N, .inr (.inr (.inr (.inr f))))) (hq0 : q < n) (hqs : es q = .inr (6, vs)) (hx0 : ¬ x < 0) (hxi : x.toNatClampNeg = i) (hiN : i < N) (kk : xE true d M l G mc ms n (ctU es r (.inl (G.cA 5, N, .inr (.inr (.inr (.inr (va_up f i (some (G.B + q))))))))) k z (pc + 1) L st Qc) : xE true d M l G mc ms n es k z pc L (.ref (G.B + q) :: .int x :: .ref (G.B + r) :: st) Qc := by
  intro p e s m args below meth c H locs ls hx hb hr hml hown hts hlk hin hS hls hH hF hB
  subst hxi
  refine va_astq (t0 := 5) (ci := 6) (r := (RX6, TX6, mmNF 6)) hx hb hS.2.1 hH.2.2 ctWd_D hF r (qk := q) (vs := vs) (by rw [ctWd_get hr0, hes]) rfl (by rw [ctWd_get hq0, hqs]) rfl (ct_in hx0 hiN) hd (fun H1 locs1 hP1 hD1 hS1 => ?_)
  rw [ctWd_set hr0] at hP1
  refine mm_sz fun hsz => ?_
  exact kk p e s m args below meth c H1 locs1 ls hx hb hr hml hown hts hlk hin hS hls (hH.put hF hB.1 hP1 hS1 (x_wz (by omega) hP1 hsz (hB.2 rfl))) hS1 hB
theorem x_astF {d : Nat} {M : mmMi} {l : Launch} {G : xG} {mc ms n : Nat} {es : Nat → va_E} {k z : Nat} {L st : List Value} {pc : Nat} {Qc : Array Value → State → Outcome → State → Prop} {r q N : Nat} {x : Int32} {f : Nat → Option Nat} {vs : List Value} (i : Nat) (hd : decode M.2.1 pc = .ok (.aastore, 1)) (hr0 : r < n) (hes : es r = .inl (G.cA 6, N, .inr (.inr (.inr (.inr f))))) (hq0 : q < n) (hqs : es q = .inr (2, vs)) (hx0 : ¬ x < 0) (hxi : x.toNatClampNeg = i) (hiN : i < N) (kk : xE true d M l G mc ms n (ctU es r (.inl (G.cA 6, N, .inr (.inr (.inr (.inr (va_up f i (some (G.B + q))))))))) k z (pc + 1) L st Qc) : xE true d M l G mc ms n es k z pc L (.ref (G.B + q) :: .int x :: .ref (G.B + r) :: st) Qc := by
  intro p e s m args below meth c H locs ls hx hb hr hml hown hts hlk hin hS hls hH hF hB
  subst hxi
  refine va_astq (t0 := 6) (ci := 2) (r := (RX2, TX2, mmNF 2)) hx hb hS.2.1 hH.2.2 ctWd_D hF r (qk := q) (vs := vs) (by rw [ctWd_get hr0, hes]) rfl (by rw [ctWd_get hq0, hqs]) rfl (ct_in hx0 hiN) hd (fun H1 locs1 hP1 hD1 hS1 => ?_)
  rw [ctWd_set hr0] at hP1
  refine mm_sz fun hsz => ?_
  exact kk p e s m args below meth c H1 locs1 ls hx hb hr hml hown hts hlk hin hS hls (hH.put hF hB.1 hP1 hS1 (x_wz (by omega) hP1 hsz (hB.2 rfl))) hS1 hB
theorem x_bast {d : Nat} {M : mmMi} {l : Launch} {G : xG} {mc ms n : Nat} {es : Nat → va_E} {k z : Nat} {L st : List Value} {pc : Nat} {Qc : Array Value → State → Outcome → State → Prop} {r N : Nat} {x y : Int32} {f : Nat → Int32} (i : Nat) (hd : decode M.2.1 pc = .ok (.bastore, 1)) (hr0 : r < n) (hes : es r = .inl (G.cA 7, N, .inl f)) (hx0 : ¬ y < 0) (hxi : y.toNatClampNeg = i) (hiN : i < N) (kk : xE true d M l G mc ms n (ctU es r (.inl (G.cA 7, N, .inl (upd f i (vp_nar .byte x))))) k z (pc + 1) L st Qc) : xE true d M l G mc ms n es k z pc L (.int x :: .int y :: .ref (G.B + r) :: st) Qc := by
  intro p e s m args below meth c H locs ls hx hb hr hml hown hts hlk hin hS hls hH hF hB
  subst hxi
  refine va_bast (t0 := 7) hx hb hS.2.1 hH.2.2 ctWd_D hF r (by rw [ctWd_get hr0, hes]) rfl (ct_in hx0 hiN) hd (fun H1 locs1 hP1 hD1 hS1 => ?_)
  rw [ctWd_set hr0] at hP1
  refine mm_sz fun hsz => ?_
  exact kk p e s m args below meth c H1 locs1 ls hx hb hr hml hown hts hlk hin hS hls (hH.put hF hB.1 hP1 hS1 (x_wz (by omega) hP1 hsz (hB.2 rfl))) hS1 hB
theorem x_last {d : Nat} {M : mmMi} {l : Launch} {G : xG} {mc ms n : Nat} {es : Nat → va_E} {k z : Nat} {L st : List Value} {pc : Nat} {Qc : Array Value → State → Outcome → State → Prop} {r N : Nat} {x : Int64} {y : Int32} {f : Nat → Int64} (i : Nat) (hd : decode M.2.1 pc = .ok (.lastore, 1)) (hr0 : r < n) (hes : es r = .inl (G.cA 1, N, .inr (.inl f))) (hx0 : ¬ y < 0) (hxi : y.toNatClampNeg = i) (hiN : i < N) (kk : xE true d M l G mc ms n (ctU es r (.inl (G.cA 1, N, .inr (.inl (vp_updL f i x))))) k z (pc + 1) L st Qc) : xE true d M l G mc ms n es k z pc L (.long x :: .int y :: .ref (G.B + r) :: st) Qc := by
  intro p e s m args below meth c H locs ls hx hb hr hml hown hts hlk hin hS hls hH hF hB
  subst hxi
  refine va_last (t0 := 1) hx hb hS.2.1 hH.2.2 ctWd_D hF r (by rw [ctWd_get hr0, hes]) rfl (ct_in hx0 hiN) hd (fun H1 locs1 hP1 hD1 hS1 => ?_)
  rw [ctWd_set hr0] at hP1
  refine mm_sz fun hsz => ?_
  exact kk p e s m args below meth c H1 locs1 ls hx hb hr hml hown hts hlk hin hS hls (hH.put hF hB.1 hP1 hS1 (x_wz (by omega) hP1 hsz (hB.2 rfl))) hS1 hB
theorem x_get {ex : Bool} {d : Nat} {M : mmMi} {l : Launch} {G : xG} {mc ms n : Nat} {es : Nat → va_E} {k z : Nat} {L st : List Value} {pc : Nat} {Qc : Array Value → State → Outcome → State → Prop} {r ci i w : Nat} {C : String} {T : u_T} {N : Nat} {fs : List Value} {v : Value} (j : Nat) (hd : decode M.2.1 pc = .ok (.getfield i, 3)) (hcl : vwCl[ci]? = some (C, T, N)) (hj : j < N) (hw : lw_tbl[w]? = some (.fieldLink M.1.cls i (T j).1 (T j).2.1 (T j).2.2.1)) (hr0 : r < n) (hes : es r = .inr (ci, fs)) (hv : fs[j]? = some v) (kk : xE ex d M l G mc ms n es k z (pc + 3) L (v :: st) Qc) : xE ex d M l G mc ms n es k z pc L (.ref (G.B + r) :: st) Qc := by
  intro p e s m args below meth c H locs ls hx hb hr hml hown hts hlk hin hS hls hH hF hB
  obtain ⟨hci9, rfl, hinw, hnm, ty9, hty9, -⟩ := mm_cls hcl
  exact va_get (C := C) (T := T) (N := mmNF ci) (own := M.1.cls) (ref := (T j).1) hx hb hts hinw hown hS.2.1 hH.2.2 r (by rw [ctWd_get hr0, hes]) hcl j hj (mm_word (M := M) hts hw rfl) (fun _ q => q) hv hd (kk p e s m args below meth c H locs ls hx hb hr hml hown hts hlk hin hS hls hH hF hB)
theorem x_laload {ex : Bool} {d : Nat} {M : mmMi} {l : Launch} {G : xG} {mc ms n : Nat} {es : Nat → va_E} {k z : Nat} {L st : List Value} {pc : Nat} {Qc : Array Value → State → Outcome → State → Prop} {r N : Nat} {y : Int32} {f : Nat → Int64} (i : Nat) (hd : decode M.2.1 pc = .ok (.laload, 1)) (hr0 : r < n) (hes : es r = .inl (G.cA 1, N, .inr (.inl f))) (hx0 : ¬ y < 0) (hxi : y.toNatClampNeg = i) (hiN : i < N) (kk : xE ex d M l G mc ms n es k z (pc + 1) L (.long (f i) :: st) Qc) : xE ex d M l G mc ms n es k z pc L (.int y :: .ref (G.B + r) :: st) Qc := by
  intro p e s m args below meth c H locs ls hx hb hr hml hown hts hlk hin hS hls hH hF hB
  subst hxi
  exact va_lald (t0 := 1) hx hb hS.2.1 hH.2.2 r (by rw [ctWd_get hr0, hes]) rfl (ct_in hx0 hiN) hd (kk p e s m args below meth c H locs ls hx hb hr hml hown hts hlk hin hS hls hH hF hB)
theorem x_compact {ex : Bool} {d : Nat} {M : mmMi} {l : Launch} {G : xG} {mc ms n : Nat} {es : Nat → va_E} {k z : Nat} {L st : List Value} {pc : Nat} {Qc : Array Value → State → Outcome → State → Prop} {i w : Nat} (hd : decode M.2.1 pc = .ok (.getstatic i, 3)) (hw : lw_tbl[w]? = some (.fieldLink M.1.cls i "java/lang/String" "COMPACT_STRINGS" "Z")) (kk : xE ex d M l G mc ms n es k z (pc + 3) L (.int 1 :: st) Qc) : xE ex d M l G mc ms n es k z pc L st Qc := by
  intro p e s m args below meth c H locs ls hx hb hr hml hown hts hlk hin hS hls hH hF hB
  exact va_gets (own := M.1.cls) (C := "java/lang/String") (n := "COMPACT_STRINGS") (d := "Z") (ref := "java/lang/String") hx hb (hS.2.2.2.2.2.1.kept (x_kept hS.1 hH hF hB.1)) hF hown (mm_word (M := M) hts hw rfl) (fun _ h => h) hd (kk p e s m args below meth c H locs ls hx hb hr hml hown hts hlk hin hS hls hH hF hB)
theorem x_form {ex : Bool} {d : Nat} {M : mmMi} {l : Launch} {G : xG} {mc ms n : Nat} {es : Nat → va_E} {k z : Nat} {L st : List Value} {pc : Nat} {Qc : Array Value → State → Outcome → State → Prop} {i w : Nat} (hd : decode M.2.1 pc = .ok (.getstatic i, 3)) (hw : lw_tbl[w]? = some (.fieldLink M.1.cls i "jdk/internal/util/Preconditions" "SIOOBE_FORMATTER" "Ljava/util/function/BiFunction;")) (kk : ∀ v : Value, v.category = 1 → xE ex d M l G mc ms n es k z (pc + 3) L (v :: st) Qc) : xE ex d M l G mc ms n es k z pc L st Qc := by
  intro p e s m args below meth c H locs ls hx hb hr hml hown hts hlk hin hS hls hH hF hB
  obtain ⟨v, hv, hz⟩ := hS.2.2.2.2.2.2.1
  exact va_gets (own := M.1.cls) (C := "jdk/internal/util/Preconditions") (n := "SIOOBE_FORMATTER") (d := "Ljava/util/function/BiFunction;") (ref := "jdk/internal/util/Preconditions") hx hb (hz.kept (x_kept hS.1 hH hF hB.1)) hF hown (mm_word (M := M) hts hw rfl) (fun _ h => h) hd (kk v (by rcases hv with rfl | ⟨t, rfl⟩ <;> rfl) p e s m args below meth c H locs ls hx hb hr hml hown hts hlk hin hS hls hH hF hB)
theorem x_ones {ex : Bool} {d : Nat} {M : mmMi} {l : Launch} {G : xG} {mc ms n : Nat} {es : Nat → va_E} {k z : Nat} {L st : List Value} {pc : Nat} {Qc : Array Value → State → Outcome → State → Prop} {i w k0 : Nat} {j : Nat} (hd1 : decode M.2.1 pc = .ok (.getstatic i, 3)) (hw : lw_tbl[w]? = some (.fieldLink M.1.cls i "java/lang/Integer" "DigitOnes" "[B")) (hd2 : decode M.2.1 (pc + 3) = .ok (.iload j, 2)) (hg : L[j]? = some (.int (nI k0))) (hd3 : decode M.2.1 (pc + 5) = .ok (.baload, 1)) (hk0 : k0 < 100) (kk : xE ex d M l G mc ms n es k z (pc + 6) L (.int (nI (48 + k0 % 10)) :: st) Qc) : xE ex d M l G mc ms n es k z pc L st Qc := by
  intro p e s m args below meth c H locs ls hx hb hr hml hown hts hlk hin hS hls hH hF hB
  obtain ⟨t, hz, ht⟩ := hS.2.2.2.2.2.2.2.2.2.1.1
  refine va_gets (own := M.1.cls) (C := "java/lang/Integer") (n := "DigitOnes") (d := "[B") (ref := "java/lang/Integer") hx hb (hz.kept (x_kept hS.1 hH hF hB.1)) hF hown (mm_word (M := M) hts hw rfl) (fun _ h => h) hd1 ?_
  refine lv_iload hx hb hd2 (hls.at hg (fun hq => by cases hq)) ?_
  exact va_tb (v := .int (nI (48 + k0 % 10))) hx hb (ht.kept (x_kept hS.1 hH hF hB.1)) hF (vp_in_nI hk0 (by decide)) (by rw [nI_clamp (by omega)]) hd3 (kk p e s m args below meth c H locs ls hx hb hr hml hown hts hlk hin hS hls hH hF hB)
theorem x_onesN {ex : Bool} {d : Nat} {M : mmMi} {l : Launch} {G : xG} {mc ms n : Nat} {es : Nat → va_E} {k z : Nat} {L st : List Value} {pc : Nat} {Qc : Array Value → State → Outcome → State → Prop} {i w k0 : Nat} {j : Fin 4} {x : Int32} (hd1 : decode M.2.1 pc = .ok (.getstatic i, 3)) (hw : lw_tbl[w]? = some (.fieldLink M.1.cls i "java/lang/Integer" "DigitOnes" "[B")) (hd2 : decode M.2.1 (pc + 3) = .ok (.iload_n j, 1)) (hg : L[j.val]? = some (.int x)) (hd3 : decode M.2.1 (pc + 4) = .ok (.ineg, 1)) (hx9 : -x = nI k0) (hd4 : decode M.2.1 (pc + 5) = .ok (.baload, 1)) (hk0 : k0 < 100) (kk : xE ex d M l G mc ms n es k z (pc + 6) L (.int (nI (48 + k0 % 10)) :: st) Qc) : xE ex d M l G mc ms n es k z pc L st Qc := by
  intro p e s m args below meth c H locs ls hx hb hr hml hown hts hlk hin hS hls hH hF hB
  obtain ⟨t, hz, ht⟩ := hS.2.2.2.2.2.2.2.2.2.1.1
  refine va_gets (own := M.1.cls) (C := "java/lang/Integer") (n := "DigitOnes") (d := "[B") (ref := "java/lang/Integer") hx hb (hz.kept (x_kept hS.1 hH hF hB.1)) hF hown (mm_word (M := M) hts hw rfl) (fun _ h => h) hd1 ?_
  refine lv_iload_n hx hb hd2 rfl (hls.at hg (fun hq => by cases hq)) ?_
  refine lv_ineg hx hb hd3 ?_
  rw [hx9]
  exact va_tb (v := .int (nI (48 + k0 % 10))) hx hb (ht.kept (x_kept hS.1 hH hF hB.1)) hF (vp_in_nI hk0 (by decide)) (by rw [nI_clamp (by omega)]) hd4 (kk p e s m args below meth c H locs ls hx hb hr hml hown hts hlk hin hS hls hH hF hB)
theorem x_tens {ex : Bool} {d : Nat} {M : mmMi} {l : Launch} {G : xG} {mc ms n : Nat} {es : Nat → va_E} {k z : Nat} {L st : List Value} {pc : Nat} {Qc : Array Value → State → Outcome → State → Prop} {i w k0 : Nat} {j : Nat} (hd1 : decode M.2.1 pc = .ok (.getstatic i, 3)) (hw : lw_tbl[w]? = some (.fieldLink M.1.cls i "java/lang/Integer" "DigitTens" "[B")) (hd2 : decode M.2.1 (pc + 3) = .ok (.iload j, 2)) (hg : L[j]? = some (.int (nI k0))) (hd3 : decode M.2.1 (pc + 5) = .ok (.baload, 1)) (hk0 : k0 < 100) (kk : xE ex d M l G mc ms n es k z (pc + 6) L (.int (nI (48 + k0 / 10)) :: st) Qc) : xE ex d M l G mc ms n es k z pc L st Qc := by
  intro p e s m args below meth c H locs ls hx hb hr hml hown hts hlk hin hS hls hH hF hB
  obtain ⟨t, hz, ht⟩ := hS.2.2.2.2.2.2.2.2.2.1.2
  refine va_gets (own := M.1.cls) (C := "java/lang/Integer") (n := "DigitTens") (d := "[B") (ref := "java/lang/Integer") hx hb (hz.kept (x_kept hS.1 hH hF hB.1)) hF hown (mm_word (M := M) hts hw rfl) (fun _ h => h) hd1 ?_
  refine lv_iload hx hb hd2 (hls.at hg (fun hq => by cases hq)) ?_
  exact va_tb (v := .int (nI (48 + k0 / 10))) hx hb (ht.kept (x_kept hS.1 hH hF hB.1)) hF (vp_in_nI hk0 (by decide)) (by rw [nI_clamp (by omega)]) hd3 (kk p e s m args below meth c H locs ls hx hb hr hml hown hts hlk hin hS hls hH hF hB)
theorem x_tensN {ex : Bool} {d : Nat} {M : mmMi} {l : Launch} {G : xG} {mc ms n : Nat} {es : Nat → va_E} {k z : Nat} {L st : List Value} {pc : Nat} {Qc : Array Value → State → Outcome → State → Prop} {i w k0 : Nat} {j : Fin 4} {x : Int32} (hd1 : decode M.2.1 pc = .ok (.getstatic i, 3)) (hw : lw_tbl[w]? = some (.fieldLink M.1.cls i "java/lang/Integer" "DigitTens" "[B")) (hd2 : decode M.2.1 (pc + 3) = .ok (.iload_n j, 1)) (hg : L[j.val]? = some (.int x)) (hd3 : decode M.2.1 (pc + 4) = .ok (.ineg, 1)) (hx9 : -x = nI k0) (hd4 : decode M.2.1 (pc + 5) = .ok (.baload, 1)) (hk0 : k0 < 100) (kk : xE ex d M l G mc ms n es k z (pc + 6) L (.int (nI (48 + k0 / 10)) :: st) Qc) : xE ex d M l G mc ms n es k z pc L st Qc := by
  intro p e s m args below meth c H locs ls hx hb hr hml hown hts hlk hin hS hls hH hF hB
  obtain ⟨t, hz, ht⟩ := hS.2.2.2.2.2.2.2.2.2.1.2
  refine va_gets (own := M.1.cls) (C := "java/lang/Integer") (n := "DigitTens") (d := "[B") (ref := "java/lang/Integer") hx hb (hz.kept (x_kept hS.1 hH hF hB.1)) hF hown (mm_word (M := M) hts hw rfl) (fun _ h => h) hd1 ?_
  refine lv_iload_n hx hb hd2 rfl (hls.at hg (fun hq => by cases hq)) ?_
  refine lv_ineg hx hb hd3 ?_
  rw [hx9]
  exact va_tb (v := .int (nI (48 + k0 / 10))) hx hb (ht.kept (x_kept hS.1 hH hF hB.1)) hF (vp_in_nI hk0 (by decide)) (by rw [nI_clamp (by omega)]) hd4 (kk p e s m args below meth c H locs ls hx hb hr hml hown hts hlk hin hS hls hH hF hB)
theorem x_ireturn {ex : Bool} {d : Nat} {M : mmMi} {l : Launch} {G : xG} {mc ms n : Nat} {es : Nat → va_E} {k z : Nat} {L : List Value} {pc : Nat} {Qc : Array Value → State → Outcome → State → Prop} {x : Int32} (ty : FieldType) (hd : decode M.2.1 pc = .ok (.ireturn, 1)) (hret : M.2.2.2 = some ty) (hn : narrow ty (.int x) = .int x) (hk : k ≤ mc) (hz : z ≤ ms) (kk : ∀ (a : Array Value) (s t : State), ctH G.B G.H0 G.D n es t.heap → Qc a s (.returned (some (.int x))) t) : xE ex d M l G mc ms n es k z pc L [.int x] Qc := by
  intro p e s m args below meth c H locs ls hx hb hr hml hown hts hlk hin hS hls hH hF hB
  refine W.widen hk hz ?_
  exact W.zret hx hb (hr.trans hret) (ty := ty) hn (fun t ht hW => kk _ _ t (ht ▸ hH)) hF.2.2 hd hlk
theorem x_areturn {ex : Bool} {d : Nat} {M : mmMi} {l : Launch} {G : xG} {mc ms n : Nat} {es : Nat → va_E} {k z : Nat} {L : List Value} {pc : Nat} {Qc : Array Value → State → Outcome → State → Prop} {x : Nat} (ty : FieldType) (hd : decode M.2.1 pc = .ok (.areturn, 1)) (hret : M.2.2.2 = some ty) (hty : (∃ n, ty = .object n) ∨ ∃ t, ty = .array t) (hk : k ≤ mc) (hz : z ≤ ms) (kk : ∀ (a : Array Value) (s t : State), ctH G.B G.H0 G.D n es t.heap → Qc a s (.returned (some (.ref x))) t) : xE ex d M l G mc ms n es k z pc L [.ref x] Qc := by
  intro p e s m args below meth c H locs ls hx hb hr hml hown hts hlk hin hS hls hH hF hB
  refine W.widen hk hz ?_
  exact W.aret hx hb (hr.trans hret) hty (Or.inr ⟨_, rfl⟩) (fun t ht hW => kk _ _ t (ht ▸ hH)) hF.2.2 hd hlk
theorem x_return {ex : Bool} {d : Nat} {M : mmMi} {l : Launch} {G : xG} {mc ms n : Nat} {es : Nat → va_E} {k z : Nat} {L : List Value} {pc : Nat} {Qc : Array Value → State → Outcome → State → Prop}  (hd : decode M.2.1 pc = .ok (.return_, 1)) (hret : M.2.2.2 = none) (hk : k ≤ mc) (hz : z ≤ ms) (kk : ∀ (a : Array Value) (s t : State), ctH G.B G.H0 G.D n es t.heap → Qc a s (.returned none) t) : xE ex d M l G mc ms n es k z pc L [] Qc := by
  intro p e s m args below meth c H locs ls hx hb hr hml hown hts hlk hin hS hls hH hF hB
  refine W.widen hk hz ?_
  exact W.vret hx hb (hr.trans hret) (fun t ht hW => kk _ _ t (ht ▸ hH)) hF.2.2 hd hlk
