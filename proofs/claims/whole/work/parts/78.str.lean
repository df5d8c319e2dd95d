/-! ===== the constant's text: String's own methods, walked at the level of the kit ===== -/
def scLs (ls : Array Slot) (n : Nat) (L : List Value) : Prop := ∃ lv, lv_has ls n lv ∧ ∀ (i : Nat) (v : Value), L[i]? = some v → v ≠ .retAddr 7 → (i, v) ∈ lv
def scPc (B : Nat) (H0 : Heap) (sk sv : Nat → Nat) (D : va_G) (cA : Nat → ClassId) (as : List Value) (μ : mmMem) : Array Value → State → Prop := fun a U => a = as.toArray ∧ mmH B H0 D cA μ U.heap ∧ mmS B H0 sk sv D cA U
def scQc (B : Nat) (H0 : Heap) (D : va_G) (cA : Nat → ClassId) (o : Option Value) (μ : mmMem) : Array Value → State → Outcome → State → Prop := fun _ _ oc t => oc = .returned o ∧ mmH B H0 D cA μ t.heap
def scE (d : Nat) (M : mmMi) (l : Launch) (B : Nat) (H0 : Heap) (sk sv : Nat → Nat) (D : va_G) (cA : Nat → ClassId) (μ : mmMem) (pc : Nat) (L st : List Value) (Qc : Array Value → State → Outcome → State → Prop) : Prop :=
  ∀ (p : Program) (e : Env) (s : State) (m : MethodId) (args : Array Value) (below : List Frame) (meth : Method) (c : Code) (H : Heap) (locs : List Loc) (ls : Array Slot),
    p.tables.exec = Jvm.exec → c.code = M.2.1 → meth.sig.returnType = M.2.2.2 → c.maxLocals = M.2.2.1 → s.vm.findClass M.1.cls = some m.cls → (∀ w ∈ mmT, w.before args s = true) → meth.locks = false →
    mmS B H0 sk sv D cA s → scLs ls M.2.2.1 L → mmH B H0 D cA μ H → va_S (fun q => B ≤ q) s.heap H locs → s.heap.size = B + 173 →
    W p l e (mmRm d) s m args below meth c H locs 0 0 (MQ below Qc args s 0 0 (fun q => B ≤ q)) (F0 m pc ls st)
def scMet (d : Nat) (M : mmMi) (l : Launch) (B : Nat) (H0 : Heap) (sk sv : Nat → Nat) (D : va_G) (cA : Nat → ClassId) (μ : mmMem) (as : List Value) (Qc : Array Value → State → Outcome → State → Prop) : Prop := Met l M.1 (mmWs M) (mmRm d) (scPc B H0 sk sv D cA as μ) Qc 0 0 (fun q => B ≤ q)
theorem scLs.at {ls : Array Slot} {n : Nat} {L : List Value} (h : scLs ls n L) {i : Nat} {v : Value} (hg : L[i]? = some v) (hv : v ≠ .retAddr 7) : ls[i]? = some (.val v) := by
  obtain ⟨lv, h1, h2⟩ := h
  exact h1.2.2 _ (h2 i v hg hv)
theorem scLs.st {ls' : Array Slot} {n i : Nat} {L : List Value} {lv : List (Nat × Value)} {v : Value} (h2 : ∀ (i : Nat) (v : Value), L[i]? = some v → v ≠ .retAddr 7 → (i, v) ∈ lv) (h' : lv_has ls' n ((i, v) :: lv.filter (fun q => !(q.1 == i) && !(q.1 + 1 == i && q.2.category == 2)))) (h1 : ∀ w ∈ L, w.category = 1) : scLs ls' n (L.set i v) := by
  refine ⟨_, h', fun j w hj hw => ?_⟩
  rw [List.getElem?_set] at hj
  split at hj
  · rename_i hij
    subst hij
    split at hj
    · cases hj
      exact List.mem_cons_self
    · cases hj
  · rename_i hij
    refine List.mem_cons_of_mem _ (List.mem_filter.mpr ⟨h2 j w hj hw, ?_⟩)
    have h3 := h1 w (List.mem_of_getElem? hj)
    have h4 : j ≠ i := fun q => hij q.symm
    simp [h3, h4]
theorem scLo_mem : ∀ (as : List Value) (off : Nat), (∀ v ∈ as, v.category = 1) → ∀ (n i : Nat) (v : Value), (as ++ List.replicate n (Value.retAddr 7))[i]? = some v → v ≠ .retAddr 7 → (off + i, v) ∈ lv_args off as := by
  intro as
  induction as with
  | nil =>
    intro off _ n i v h hv
    simp only [List.nil_append, List.getElem?_replicate] at h
    split at h
    · cases h
      exact absurd rfl hv
    · cases h
  | cons a l ih =>
    intro off hc n i v h hv
    have h1 : a.category = 1 := hc a List.mem_cons_self
    have h2 : ¬ (a.category = 2) := by rw [h1]; decide
    cases i with
    | zero =>
      cases h
      simp [lv_args]
    | succ i =>
      have := ih (off + 1) (fun v q => hc v (List.mem_cons_of_mem _ q)) n i v (by simpa using h) hv
      simp only [lv_args, h2, if_false, List.mem_cons]
      right
      have e1 : off + 1 + i = off + (i + 1) := by omega
      rwa [e1] at this
theorem sc_sl : ∀ as : List Value, (∀ v ∈ as, v.category = 1) → (lg_sl as).length = as.length := by
  intro as
  induction as with
  | nil => intro _; rfl
  | cons a l ih =>
    intro hc
    have h1 : a.category = 1 := hc a List.mem_cons_self
    have e : lg_sl (a :: l) = (if a.category = 2 then [Slot.val a, .second] else [.val a]) ++ lg_sl l := by simp [lg_sl]
    rw [e, List.length_append, ih (fun v q => hc v (List.mem_cons_of_mem _ q)), h1]
    simp
    omega

theorem scMet.of {d n : Nat} {M : mmMi} {l : Launch} {B : Nat} {H0 : Heap} {sk sv : Nat → Nat} {D : va_G} {cA : Nat → ClassId} {μ : mmMem} {as : List Value} {Qc : Array Value → State → Outcome → State → Prop} (hy : plainFor M.1 = true) (hc : ∀ v ∈ as, v.category = 1) (hn : as.length + n = M.2.2.1) (h : scE d M l B H0 sk sv D cA μ 0 (as ++ List.replicate n (.retAddr 7)) [] Qc) : scMet d M l B H0 sk sv D cA μ as Qc := by
  unfold scMet
  refine Jvm.Free.MetFree.of_bodySF (code := M.2.1) (maxLocals := M.2.2.1) (ret := M.2.2.2) hy (fun args s m hb hn => by
    obtain ⟨meth, c, h1, h2, h3, h4, h5, h6, -, -⟩ := Cond.code_spec hn (atoms_spec (ws := mmWs M) hb _ List.mem_cons_self)
    exact ⟨meth, c, h1, h2, h3, h4, h5, h6⟩) ?_
  intro p e s m args below meth c s₁ Bd hml hP _
  obtain ⟨rfl, hH, hS⟩ := hP
  have hh0 : s₁.heap = s.heap := by rw [Bd.state]; rfl
  have hts := atoms_spec (ws := mmWs M) Bd.pre
  rw [lg_entry_eq]
  have hen := lv_entry as (n := M.2.2.1) (by rw [sc_sl as hc]; omega)
  obtain ⟨t, a1, o, b1, b2, b3⟩ := h p e s m _ below meth c s.heap [] _ Bd.exec Bd.bytes Bd.returns hml (findClass_of_methodNamed Bd.named) (fun w hw => hts w (List.mem_cons_of_mem _ hw)) Bd.notSynchronized hS ⟨lv_args 0 _, hen, fun i v h1 h2 => by simpa using scLo_mem as 0 hc n i v h1 h2⟩ hH ⟨Nat.le_refl _, fun q _ _ => rfl, fun q hq => by cases hq⟩ hH.1 s₁ hh0 (Stand.of_body Bd)
  exact ⟨t, o, a1, b1, b2, ⟨b3.1, b3.2⟩⟩

theorem sc_aload_n {d : Nat} {M : mmMi} {l : Launch} {B : Nat} {H0 : Heap} {sk sv : Nat → Nat} {D : va_G} {cA : Nat → ClassId} {μ : mmMem} {L st : List Value} {pc : Nat} {Qc : Array Value → State → Outcome → State → Prop} {i : Fin 4} {x : Nat} (hd : decode M.2.1 pc = .ok (.aload_n i, 1)) (hg : L[i.val]? = some (.ref x)) (k : scE d M l B H0 sk sv D cA μ (pc + 1) L (.ref x :: st) Qc) : scE d M l B H0 sk sv D cA μ pc L st Qc := by
  intro p e s m args below meth c H locs ls hx hb hr hml hown hts hlk hS hls hH hF hB
  exact lv_aload_n hx hb hd rfl (hls.at hg (fun hq => by cases hq)) (k p e s m args below meth c H locs ls hx hb hr hml hown hts hlk hS hls hH hF hB)
theorem sc_iload_n {d : Nat} {M : mmMi} {l : Launch} {B : Nat} {H0 : Heap} {sk sv : Nat → Nat} {D : va_G} {cA : Nat → ClassId} {μ : mmMem} {L st : List Value} {pc : Nat} {Qc : Array Value → State → Outcome → State → Prop} {i : Fin 4} {x : Int32} (hd : decode M.2.1 pc = .ok (.iload_n i, 1)) (hg : L[i.val]? = some (.int x)) (k : scE d M l B H0 sk sv D cA μ (pc + 1) L (.int x :: st) Qc) : scE d M l B H0 sk sv D cA μ pc L st Qc := by
  intro p e s m args below meth c H locs ls hx hb hr hml hown hts hlk hS hls hH hF hB
  exact lv_iload_n hx hb hd rfl (hls.at hg (fun hq => by cases hq)) (k p e s m args below meth c H locs ls hx hb hr hml hown hts hlk hS hls hH hF hB)
theorem sc_iload {d : Nat} {M : mmMi} {l : Launch} {B : Nat} {H0 : Heap} {sk sv : Nat → Nat} {D : va_G} {cA : Nat → ClassId} {μ : mmMem} {L st : List Value} {pc : Nat} {Qc : Array Value → State → Outcome → State → Prop} {i : Nat} {x : Int32} (hd : decode M.2.1 pc = .ok (.iload i, 2)) (hg : L[i]? = some (.int x)) (k : scE d M l B H0 sk sv D cA μ (pc + 2) L (.int x :: st) Qc) : scE d M l B H0 sk sv D cA μ pc L st Qc := by
  intro p e s m args below meth c H locs ls hx hb hr hml hown hts hlk hS hls hH hF hB
  exact lv_iload hx hb hd (hls.at hg (fun hq => by cases hq)) (k p e s m args below meth c H locs ls hx hb hr hml hown hts hlk hS hls hH hF hB)
theorem sc_iconst {d : Nat} {M : mmMi} {l : Launch} {B : Nat} {H0 : Heap} {sk sv : Nat → Nat} {D : va_G} {cA : Nat → ClassId} {μ : mmMem} {L st : List Value} {pc : Nat} {Qc : Array Value → State → Outcome → State → Prop} {n : Int} (x : Int32) (hd : decode M.2.1 pc = .ok (.iconst n, 1)) (hv : Int32.ofInt n = x) (k : scE d M l B H0 sk sv D cA μ (pc + 1) L (.int x :: st) Qc) : scE d M l B H0 sk sv D cA μ pc L st Qc := by
  intro p e s m args below meth c H locs ls hx hb hr hml hown hts hlk hS hls hH hF hB
  exact lv_iconst hx hb hd hv (k p e s m args below meth c H locs ls hx hb hr hml hown hts hlk hS hls hH hF hB)
theorem sc_sipush {d : Nat} {M : mmMi} {l : Launch} {B : Nat} {H0 : Heap} {sk sv : Nat → Nat} {D : va_G} {cA : Nat → ClassId} {μ : mmMem} {L st : List Value} {pc : Nat} {Qc : Array Value → State → Outcome → State → Prop} {n : Int} (x : Int32) (hd : decode M.2.1 pc = .ok (.sipush n, 3)) (hv : (Int16.ofInt n).toInt32 = x) (k : scE d M l B H0 sk sv D cA μ (pc + 3) L (.int x :: st) Qc) : scE d M l B H0 sk sv D cA μ pc L st Qc := by
  intro p e s m args below meth c H locs ls hx hb hr hml hown hts hlk hS hls hH hF hB
  exact lv_sipush hx hb hd hv (k p e s m args below meth c H locs ls hx hb hr hml hown hts hlk hS hls hH hF hB)
theorem sc_iand {d : Nat} {M : mmMi} {l : Launch} {B : Nat} {H0 : Heap} {sk sv : Nat → Nat} {D : va_G} {cA : Nat → ClassId} {μ : mmMem} {L st : List Value} {pc : Nat} {Qc : Array Value → State → Outcome → State → Prop} {x y : Int32} (hd : decode M.2.1 pc = .ok (.iand, 1)) (k : scE d M l B H0 sk sv D cA μ (pc + 1) L (.int (x &&& y) :: st) Qc) : scE d M l B H0 sk sv D cA μ pc L (.int y :: .int x :: st) Qc := by
  intro p e s m args below meth c H locs ls hx hb hr hml hown hts hlk hS hls hH hF hB
  exact lv_iand hx hb hd (k p e s m args below meth c H locs ls hx hb hr hml hown hts hlk hS hls hH hF hB)
theorem sc_ishr {d : Nat} {M : mmMi} {l : Launch} {B : Nat} {H0 : Heap} {sk sv : Nat → Nat} {D : va_G} {cA : Nat → ClassId} {μ : mmMem} {L st : List Value} {pc : Nat} {Qc : Array Value → State → Outcome → State → Prop} {x y : Int32} (hd : decode M.2.1 pc = .ok (.ishr, 1)) (k : scE d M l B H0 sk sv D cA μ (pc + 1) L (.int (x >>> (y &&& 31)) :: st) Qc) : scE d M l B H0 sk sv D cA μ pc L (.int y :: .int x :: st) Qc := by
  intro p e s m args below meth c H locs ls hx hb hr hml hown hts hlk hS hls hH hF hB
  exact lv_ishr hx hb hd (k p e s m args below meth c H locs ls hx hb hr hml hown hts hlk hS hls hH hF hB)
theorem sc_i2c {d : Nat} {M : mmMi} {l : Launch} {B : Nat} {H0 : Heap} {sk sv : Nat → Nat} {D : va_G} {cA : Nat → ClassId} {μ : mmMem} {L st : List Value} {pc : Nat} {Qc : Array Value → State → Outcome → State → Prop} {x : Int32} (v : Int32) (hd : decode M.2.1 pc = .ok (.i2c, 1)) (hv : (x.toUInt32 % 65536).toInt32 = v) (k : scE d M l B H0 sk sv D cA μ (pc + 1) L (.int v :: st) Qc) : scE d M l B H0 sk sv D cA μ pc L (.int x :: st) Qc := by
  intro p e s m args below meth c H locs ls hx hb hr hml hown hts hlk hS hls hH hF hB
  exact lv_i2c hx hb hd hv (k p e s m args below meth c H locs ls hx hb hr hml hown hts hlk hS hls hH hF hB)
theorem sc_i2b {d : Nat} {M : mmMi} {l : Launch} {B : Nat} {H0 : Heap} {sk sv : Nat → Nat} {D : va_G} {cA : Nat → ClassId} {μ : mmMem} {L st : List Value} {pc : Nat} {Qc : Array Value → State → Outcome → State → Prop} {x : Int32} (v : Int32) (hd : decode M.2.1 pc = .ok (.i2b, 1)) (hv : x.toInt8.toInt32 = v) (k : scE d M l B H0 sk sv D cA μ (pc + 1) L (.int v :: st) Qc) : scE d M l B H0 sk sv D cA μ pc L (.int x :: st) Qc := by
  intro p e s m args below meth c H locs ls hx hb hr hml hown hts hlk hS hls hH hF hB
  exact lv_i2b hx hb hd hv (k p e s m args below meth c H locs ls hx hb hr hml hown hts hlk hS hls hH hF hB)
theorem sc_pop {d : Nat} {M : mmMi} {l : Launch} {B : Nat} {H0 : Heap} {sk sv : Nat → Nat} {D : va_G} {cA : Nat → ClassId} {μ : mmMem} {L st : List Value} {pc : Nat} {Qc : Array Value → State → Outcome → State → Prop} {v : Value} (hd : decode M.2.1 pc = .ok (.pop, 1)) (hv : v.category = 1) (k : scE d M l B H0 sk sv D cA μ (pc + 1) L st Qc) : scE d M l B H0 sk sv D cA μ pc L (v :: st) Qc := by
  intro p e s m args below meth c H locs ls hx hb hr hml hown hts hlk hS hls hH hF hB
  exact lv_pop hx hb hd hv (k p e s m args below meth c H locs ls hx hb hr hml hown hts hlk hS hls hH hF hB)
theorem sc_goto {d : Nat} {M : mmMi} {l : Launch} {B : Nat} {H0 : Heap} {sk sv : Nat → Nat} {D : va_G} {cA : Nat → ClassId} {μ : mmMem} {L st : List Value} {pc : Nat} {Qc : Array Value → State → Outcome → State → Prop} {off : Int} (t : Nat) (hd : decode M.2.1 pc = .ok (.goto off, 3)) (ht : (pc : Int) + off = (t : Int)) (k : scE d M l B H0 sk sv D cA μ t L st Qc) : scE d M l B H0 sk sv D cA μ pc L st Qc := by
  intro p e s m args below meth c H locs ls hx hb hr hml hown hts hlk hS hls hH hF hB
  exact lv_goto hx hb hd ht (k p e s m args below meth c H locs ls hx hb hr hml hown hts hlk hS hls hH hF hB)
theorem sc_if {d : Nat} {M : mmMi} {l : Launch} {B : Nat} {H0 : Heap} {sk sv : Nat → Nat} {D : va_G} {cA : Nat → ClassId} {μ : mmMem} {L st : List Value} {pc : Nat} {Qc : Array Value → State → Outcome → State → Prop} {cc : ClassFile.Cond} {off : Int} {x : Int32} (t : Nat) (hd : decode M.2.1 pc = .ok (.ifCond cc off, 3)) (ht : (pc : Int) + off = (t : Int)) (h1 : mmCt cc x 0 → scE d M l B H0 sk sv D cA μ t L st Qc) (h2 : mmCf cc x 0 → scE d M l B H0 sk sv D cA μ (pc + 3) L st Qc) : scE d M l B H0 sk sv D cA μ pc L (.int x :: st) Qc := by
  intro p e s m args below meth c H locs ls hx hb hr hml hown hts hlk hS hls hH hF hB
  cases cc with
  | eq => exact lv_if_eq hx hb hd ht (fun q => h1 q p e s m args below meth c H locs ls hx hb hr hml hown hts hlk hS hls hH hF hB) (fun q => h2 q p e s m args below meth c H locs ls hx hb hr hml hown hts hlk hS hls hH hF hB)
  | ne => exact lv_if_ne hx hb hd ht (fun q => h1 q p e s m args below meth c H locs ls hx hb hr hml hown hts hlk hS hls hH hF hB) (fun q => h2 q p e s m args below meth c H locs ls hx hb hr hml hown hts hlk hS hls hH hF hB)
  | lt => exact lv_if_lt hx hb hd ht (fun q => h1 q p e s m args below meth c H locs ls hx hb hr hml hown hts hlk hS hls hH hF hB) (fun q => h2 q p e s m args below meth c H locs ls hx hb hr hml hown hts hlk hS hls hH hF hB)
  | ge => exact lv_if_ge hx hb hd ht (fun q => h1 q p e s m args below meth c H locs ls hx hb hr hml hown hts hlk hS hls hH hF hB) (fun q => h2 q p e s m args below meth c H locs ls hx hb hr hml hown hts hlk hS hls hH hF hB)
  | gt => exact lv_if_gt hx hb hd ht (fun q => h1 q p e s m args below meth c H locs ls hx hb hr hml hown hts hlk hS hls hH hF hB) (fun q => h2 q p e s m args below meth c H locs ls hx hb hr hml hown hts hlk hS hls hH hF hB)
  | le => exact lv_if_le hx hb hd ht (fun q => h1 q p e s m args below meth c H locs ls hx hb hr hml hown hts hlk hS hls hH hF hB) (fun q => h2 q p e s m args below meth c H locs ls hx hb hr hml hown hts hlk hS hls hH hF hB)
theorem sc_icmp {d : Nat} {M : mmMi} {l : Launch} {B : Nat} {H0 : Heap} {sk sv : Nat → Nat} {D : va_G} {cA : Nat → ClassId} {μ : mmMem} {L st : List Value} {pc : Nat} {Qc : Array Value → State → Outcome → State → Prop} {cc : ClassFile.Cond} {off : Int} {x y : Int32} (t : Nat) (hd : decode M.2.1 pc = .ok (.if_icmp cc off, 3)) (ht : (pc : Int) + off = (t : Int)) (h1 : mmCt cc x y → scE d M l B H0 sk sv D cA μ t L st Qc) (h2 : mmCf cc x y → scE d M l B H0 sk sv D cA μ (pc + 3) L st Qc) : scE d M l B H0 sk sv D cA μ pc L (.int y :: .int x :: st) Qc := by
  intro p e s m args below meth c H locs ls hx hb hr hml hown hts hlk hS hls hH hF hB
  cases cc with
  | eq => exact lv_icmp_eq hx hb hd ht (fun q => h1 q p e s m args below meth c H locs ls hx hb hr hml hown hts hlk hS hls hH hF hB) (fun q => h2 q p e s m args below meth c H locs ls hx hb hr hml hown hts hlk hS hls hH hF hB)
  | ne => exact lv_icmp_ne hx hb hd ht (fun q => h1 q p e s m args below meth c H locs ls hx hb hr hml hown hts hlk hS hls hH hF hB) (fun q => h2 q p e s m args below meth c H locs ls hx hb hr hml hown hts hlk hS hls hH hF hB)
  | lt => exact lv_icmp_lt hx hb hd ht (fun q => h1 q p e s m args below meth c H locs ls hx hb hr hml hown hts hlk hS hls hH hF hB) (fun q => h2 q p e s m args below meth c H locs ls hx hb hr hml hown hts hlk hS hls hH hF hB)
  | ge => exact lv_icmp_ge hx hb hd ht (fun q => h1 q p e s m args below meth c H locs ls hx hb hr hml hown hts hlk hS hls hH hF hB) (fun q => h2 q p e s m args below meth c H locs ls hx hb hr hml hown hts hlk hS hls hH hF hB)
  | gt => exact lv_icmp_gt hx hb hd ht (fun q => h1 q p e s m args below meth c H locs ls hx hb hr hml hown hts hlk hS hls hH hF hB) (fun q => h2 q p e s m args below meth c H locs ls hx hb hr hml hown hts hlk hS hls hH hF hB)
  | le => exact lv_icmp_le hx hb hd ht (fun q => h1 q p e s m args below meth c H locs ls hx hb hr hml hown hts hlk hS hls hH hF hB) (fun q => h2 q p e s m args below meth c H locs ls hx hb hr hml hown hts hlk hS hls hH hF hB)
theorem sc_istore {d : Nat} {M : mmMi} {l : Launch} {B : Nat} {H0 : Heap} {sk sv : Nat → Nat} {D : va_G} {cA : Nat → ClassId} {μ : mmMem} {L st : List Value} {pc : Nat} {Qc : Array Value → State → Outcome → State → Prop} {i : Nat} {x : Int32} (hd : decode M.2.1 pc = .ok (.istore i, 2)) (hi : i < M.2.2.1) (hc : ∀ w ∈ L, w.category = 1) (k : scE d M l B H0 sk sv D cA μ (pc + 2) (L.set i (.int x)) st Qc) : scE d M l B H0 sk sv D cA μ pc L (.int x :: st) Qc := by
  intro p e s m args below meth c H locs ls hx hb hr hml hown hts hlk hS hls hH hF hB
  obtain ⟨lv, hlv, hmem⟩ := hls
  exact lv_istore hx hb hd hlv hi rfl (fun ls2 hls2 => k p e s m args below meth c H locs _ hx hb hr hml hown hts hlk hS (scLs.st hmem hls2 hc) hH hF hB)
theorem sc_istore_n {d : Nat} {M : mmMi} {l : Launch} {B : Nat} {H0 : Heap} {sk sv : Nat → Nat} {D : va_G} {cA : Nat → ClassId} {μ : mmMem} {L st : List Value} {pc : Nat} {Qc : Array Value → State → Outcome → State → Prop} {i : Fin 4} {x : Int32} (hd : decode M.2.1 pc = .ok (.istore_n i, 1)) (hi : i.val < M.2.2.1) (hc : ∀ w ∈ L, w.category = 1) (k : scE d M l B H0 sk sv D cA μ (pc + 1) (L.set i.val (.int x)) st Qc) : scE d M l B H0 sk sv D cA μ pc L (.int x :: st) Qc := by
  intro p e s m args below meth c H locs ls hx hb hr hml hown hts hlk hS hls hH hF hB
  obtain ⟨lv, hlv, hmem⟩ := hls
  exact lv_istore_n hx hb hd rfl hlv hi rfl (fun ls2 hls2 => k p e s m args below meth c H locs _ hx hb hr hml hown hts hlk hS (scLs.st hmem hls2 hc) hH hF hB)
theorem sc_iinc {d : Nat} {M : mmMi} {l : Launch} {B : Nat} {H0 : Heap} {sk sv : Nat → Nat} {D : va_G} {cA : Nat → ClassId} {μ : mmMem} {L st : List Value} {pc : Nat} {Qc : Array Value → State → Outcome → State → Prop} {i : Nat} {n : Int} {x : Int32} (v : Int32) (hd : decode M.2.1 pc = .ok (.iinc i n, 3)) (hi : i < M.2.2.1) (hg : L[i]? = some (.int x)) (hv : x + Int32.ofInt n = v) (hc : ∀ w ∈ L, w.category = 1) (k : scE d M l B H0 sk sv D cA μ (pc + 3) (L.set i (.int v)) st Qc) : scE d M l B H0 sk sv D cA μ pc L st Qc := by
  intro p e s m args below meth c H locs ls hx hb hr hml hown hts hlk hS hls hH hF hB
  obtain ⟨lv, hlv, hmem⟩ := hls
  obtain ⟨j, hj⟩ := List.getElem?_of_mem (hmem i (.int x) hg (fun hq => by cases hq))
  exact lv_iinc hx hb hd hlv hj hv hi rfl (fun ls2 hls2 => k p e s m args below meth c H locs _ hx hb hr hml hown hts hlk hS (scLs.st hmem hls2 hc) hH hF hB)
theorem sc_ix : ∀ k, k < 11 → vp_in (nI k) 11 := by
  show ∀ k, k < 11 → ¬ (nI k < 0 ∨ 11 ≤ (nI k).toNatClampNeg)
  decide +kernel
theorem sc_ixN : ∀ k, k < 11 → (nI k).toNatClampNeg = k := by decide +kernel
theorem sc_kept {B : Nat} {H0 H Hs : Heap} {D : va_G} {cA : Nat → ClassId} {μ : mmMem} {locs : List Loc} (hsz : H0.size = B) (hH : mmH B H0 D cA μ H) (hF : va_S (fun q => B ≤ q) Hs H locs) (hB : Hs.size = B + 173) : ∀ a : Nat, a < H0.size → ¬ (B ≤ a) → Hs[a]? = H0[a]? := by
  intro a h1 h2
  rw [← hF.2.1 a (by omega) h2]
  exact hH.2.1 a (by omega)
theorem sc_value {d : Nat} {M : mmMi} {l : Launch} {B : Nat} {H0 : Heap} {sk sv : Nat → Nat} {D : va_G} {cA : Nat → ClassId} {μ : mmMem} {L st : List Value} {pc : Nat} {Qc : Array Value → State → Outcome → State → Prop}  (hcl : M.1.cls = "java/lang/String") (hd : decode M.2.1 pc = .ok (.getfield 9, 3)) (k : scE d M l B H0 sk sv D cA μ (pc + 3) L (.ref (sv 0) :: st) Qc) : scE d M l B H0 sk sv D cA μ pc L (.ref (sk 0) :: st) Qc := by
  intro p e s m args below meth c H locs ls hx hb hr hml hown hts hlk hS hls hH hF hB
  exact vk_getf (own := M.1.cls) (o := "java/lang/String") (n := "value") (d := "[B") (ref := "java/lang/String") hx hb ((hS.2.2.2.2.2.1.1 0 (by omega)).2.2.1.kept (sc_kept hS.1 hH hF hB)) hF hown (by rw [hcl]; exact hts _ (mm_in 1418 (by decide +kernel) rfl)) (fun _ h => h) hd (k p e s m args below meth c H locs ls hx hb hr hml hown hts hlk hS hls hH hF hB)
theorem sc_coder {d : Nat} {M : mmMi} {l : Launch} {B : Nat} {H0 : Heap} {sk sv : Nat → Nat} {D : va_G} {cA : Nat → ClassId} {μ : mmMem} {L st : List Value} {pc : Nat} {Qc : Array Value → State → Outcome → State → Prop}  (hcl : M.1.cls = "java/lang/String") (hd : decode M.2.1 pc = .ok (.getfield 15, 3)) (k : scE d M l B H0 sk sv D cA μ (pc + 3) L (.int 0 :: st) Qc) : scE d M l B H0 sk sv D cA μ pc L (.ref (sk 0) :: st) Qc := by
  intro p e s m args below meth c H locs ls hx hb hr hml hown hts hlk hS hls hH hF hB
  exact vk_getf (own := M.1.cls) (o := "java/lang/String") (n := "coder") (d := "B") (ref := "java/lang/String") hx hb ((hS.2.2.2.2.2.1.1 0 (by omega)).2.1.kept (sc_kept hS.1 hH hF hB)) hF hown (by rw [hcl]; exact hts _ (mm_in 1417 (by decide +kernel) rfl)) (fun _ h => h) hd (k p e s m args below meth c H locs ls hx hb hr hml hown hts hlk hS hls hH hF hB)
theorem sc_compact {d : Nat} {M : mmMi} {l : Launch} {B : Nat} {H0 : Heap} {sk sv : Nat → Nat} {D : va_G} {cA : Nat → ClassId} {μ : mmMem} {L st : List Value} {pc : Nat} {Qc : Array Value → State → Outcome → State → Prop}  (hcl : M.1.cls = "java/lang/String") (hd : decode M.2.1 pc = .ok (.getstatic 38, 3)) (k : scE d M l B H0 sk sv D cA μ (pc + 3) L (.int 1 :: st) Qc) : scE d M l B H0 sk sv D cA μ pc L st Qc := by
  intro p e s m args below meth c H locs ls hx hb hr hml hown hts hlk hS hls hH hF hB
  exact va_gets (own := M.1.cls) (C := "java/lang/String") (n := "COMPACT_STRINGS") (d := "Z") (ref := "java/lang/String") hx hb (hS.2.2.2.2.2.2.1.kept (sc_kept hS.1 hH hF hB)) hF hown (by rw [hcl]; exact hts _ (mm_in 774 (by decide +kernel) rfl)) (fun _ h => h) hd (k p e s m args below meth c H locs ls hx hb hr hml hown hts hlk hS hls hH hF hB)
theorem sc_form {d : Nat} {M : mmMi} {l : Launch} {B : Nat} {H0 : Heap} {sk sv : Nat → Nat} {D : va_G} {cA : Nat → ClassId} {μ : mmMem} {L st : List Value} {pc : Nat} {Qc : Array Value → State → Outcome → State → Prop}  (hcl : M.1.cls = "java/lang/String") (hd : decode M.2.1 pc = .ok (.getstatic 1053, 3)) (k : ∀ v : Value, (v = .null ∨ ∃ t, v = .ref t) → scE d M l B H0 sk sv D cA μ (pc + 3) L (v :: st) Qc) : scE d M l B H0 sk sv D cA μ pc L st Qc := by
  intro p e s m args below meth c H locs ls hx hb hr hml hown hts hlk hS hls hH hF hB
  obtain ⟨v, hv, hz⟩ := hS.2.2.2.2.2.2.2.1
  exact va_gets (own := M.1.cls) (C := "jdk/internal/util/Preconditions") (n := "SIOOBE_FORMATTER") (d := "Ljava/util/function/BiFunction;") (ref := "jdk/internal/util/Preconditions") hx hb (hz.kept (sc_kept hS.1 hH hF hB)) hF hown (by rw [hcl]; exact hts _ (mm_in 782 (by decide +kernel) rfl)) (fun _ h => h) hd (k v hv p e s m args below meth c H locs ls hx hb hr hml hown hts hlk hS hls hH hF hB)
theorem sc_baload {d : Nat} {M : mmMi} {l : Launch} {B : Nat} {H0 : Heap} {sk sv : Nat → Nat} {D : va_G} {cA : Nat → ClassId} {μ : mmMem} {L st : List Value} {pc : Nat} {Qc : Array Value → State → Outcome → State → Prop} {j : Int32} {k0 : Nat} (hd : decode M.2.1 pc = .ok (.baload, 1)) (hj : j = nI k0) (hk0 : k0 < 11) (k : scE d M l B H0 sk sv D cA μ (pc + 1) L (.int (ltr k0) :: st) Qc) : scE d M l B H0 sk sv D cA μ pc L (.int j :: .ref (sv 0) :: st) Qc := by
  intro p e s m args below meth c H locs ls hx hb hr hml hown hts hlk hS hls hH hF hB
  subst hj
  refine va_tb (v := .int (ltr k0)) hx hb ((hS.2.2.2.2.2.1.1 0 (by omega)).2.2.2.kept (sc_kept hS.1 hH hF hB)) hF ?_ ?_ hd (k p e s m args below meth c H locs ls hx hb hr hml hown hts hlk hS hls hH hF hB)
  · exact sc_ix k0 hk0
  · rw [sc_ixN k0 hk0]; rfl
theorem sc_alen {d : Nat} {M : mmMi} {l : Launch} {B : Nat} {H0 : Heap} {sk sv : Nat → Nat} {D : va_G} {cA : Nat → ClassId} {μ : mmMem} {L st : List Value} {pc : Nat} {Qc : Array Value → State → Outcome → State → Prop}  (hd : decode M.2.1 pc = .ok (.arraylength, 1)) (k : scE d M l B H0 sk sv D cA μ (pc + 1) L (.int 11 :: st) Qc) : scE d M l B H0 sk sv D cA μ pc L (.ref (sv 0) :: st) Qc := by
  intro p e s m args below meth c H locs ls hx hb hr hml hown hts hlk hS hls hH hF hB
  exact va_tlen (v := 11) hx hb ((hS.2.2.2.2.2.1.1 0 (by omega)).2.2.2.kept (sc_kept hS.1 hH hF hB)) hF rfl hd (k p e s m args below meth c H locs ls hx hb hr hml hown hts hlk hS hls hH hF hB)
theorem sc_ireturn {d : Nat} {M : mmMi} {l : Launch} {B : Nat} {H0 : Heap} {sk sv : Nat → Nat} {D : va_G} {cA : Nat → ClassId} {μ : mmMem} {L : List Value} {pc : Nat} {Qc : Array Value → State → Outcome → State → Prop} {x : Int32} (ty : FieldType) (hd : decode M.2.1 pc = .ok (.ireturn, 1)) (hret : M.2.2.2 = some ty) (hn : narrow ty (.int x) = .int x) (k : ∀ (a : Array Value) (s t : State), mmH B H0 D cA μ t.heap → Qc a s (.returned (some (.int x))) t) : scE d M l B H0 sk sv D cA μ pc L [.int x] Qc := by
  intro p e s m args below meth c H locs ls hx hb hr hml hown hts hlk hS hls hH hF hB
  exact W.zret hx hb (hr.trans hret) (ty := ty) hn (fun t ht hW => k _ _ t (ht ▸ hH)) hF.2.2 hd hlk
theorem sc_return {d : Nat} {M : mmMi} {l : Launch} {B : Nat} {H0 : Heap} {sk sv : Nat → Nat} {D : va_G} {cA : Nat → ClassId} {μ : mmMem} {L : List Value} {pc : Nat} {Qc : Array Value → State → Outcome → State → Prop}  (hd : decode M.2.1 pc = .ok (.return_, 1)) (hret : M.2.2.2 = none) (k : ∀ (a : Array Value) (s t : State), mmH B H0 D cA μ t.heap → Qc a s (.returned none) t) : scE d M l B H0 sk sv D cA μ pc L [] Qc := by
  intro p e s m args below meth c H locs ls hx hb hr hml hown hts hlk hS hls hH hF hB
  exact W.vret hx hb (hr.trans hret) (fun t ht hW => k _ _ t (ht ▸ hH)) hF.2.2 hd hlk
theorem sc_use {p : Program} {l : Launch} {e : Env} {R : Room} {s : State} {m : MethodId} {args : Array Value} {below : List Frame} {meth : Method} {c : Code} {H : Heap} {locs : List Loc} {pc : Nat} {ls : Array Slot} {st0 rest : List Value} {Q : State → Prop} {B : Nat} {H0 : Heap} {D : va_G} {cA : Nat → ClassId} {o : Option Value} {a : Array Value} {μ : mmMem}
    (hr : va_Run p l e R s m args below meth c H locs 0 0 0 0 (F0 m pc ls st0) rest (scQc B H0 D cA o μ a) (fun q => B ≤ q)) (hH : mmH B H0 D cA μ H) (hF : va_S (fun q => B ≤ q) s.heap H locs) (hB : s.heap.size = B + 173)
    (kk : ∀ (H1 : Heap) (locs1 : List Loc), mmH B H0 D cA μ H1 → va_S (fun q => B ≤ q) s.heap H1 locs1 → W p l e R s m args below meth c H1 locs1 0 0 Q (F0 m (pc + 3) ls (o.toList ++ rest))) :
    W p l e R s m args below meth c H locs 0 0 Q (F0 m pc ls st0) := by
  intro T hT X
  obtain ⟨v, st₀, t, T', L, h0, X', hL, e1, e2, ⟨hv, hh⟩, st⟩ := hr T hT X
  cases hv
  have hh1 : mmH B H0 D cA μ T'.heap := by rw [e1]; exact hh
  have hv1 : va_S (fun q => B ≤ q) s.heap T'.heap (locs ++ L) := by
    refine ⟨by rw [hh1.1, hB]; exact Nat.le_refl _, fun q h1 h2 => ?_, fun q hq => ?_⟩
    · have hq : q < B := Nat.not_le.mp h2
      rw [hh1.2.1 q hq, ← hH.2.1 q hq]
      exact hF.2.1 q h1 h2
    · rcases List.mem_append.mp hq with h | h
      · exact hF.2.2 q h
      · exact hL q h
  obtain ⟨t2, a1, b1⟩ := kk T'.heap (locs ++ L) hh1 hv1 T' rfl X'
  exact ⟨t2, st t2 a1, b1⟩
theorem sc_blind {B : Nat} {H0 : Heap} {sk sv : Nat → Nat} {D : va_G} {cA : Nat → ClassId} {as : List Value} {μ : mmMem} : FrameBlind (scPc B H0 sk sv D cA as μ) := fun a U g mk h => ⟨h.1, h.2.1, mmS.same rfl h.2.2⟩
theorem sc_pre {B : Nat} {H0 : Heap} {sk sv : Nat → Nat} {D : va_G} {cA : Nat → ClassId} {as : List Value} {μ : mmMem} {s U : State} {H : Heap} (hH : mmH B H0 D cA μ H) (hS : mmS B H0 sk sv D cA s) (hU : U.heap = H) (hW : s.WarmedH U.vm) : scPc B H0 sk sv D cA as μ as.toArray U := ⟨rfl, by rw [hU]; exact hH, mmS.warm hW hS⟩

theorem sc_callS {d : Nat} {M : mmMi} {l : Launch} {B : Nat} {H0 : Heap} {sk sv : Nat → Nat} {D : va_G} {cA : Nat → ClassId} {μ : mmMem} {L st : List Value} {pc : Nat} {Qc : Array Value → State → Outcome → State → Prop} {d' w n a : Nat} {Mc : mmMi} {o : Option Value} (as : List Value) {st0 : List Value} (hst : st0 = as.reverse ++ st) (hd : decode M.2.1 pc = .ok (.invokestatic n, 3)) (hw : lw_tbl[w]? = some (.methodLink M.1.cls n Mc.1)) (hg : mmGd Mc true a) (hd' : d' < d) (hl : as.length = a) (hr8 : (st.map fun v => v.category).sum ≤ 8) (hM : scMet d' Mc l B H0 sk sv D cA μ as (scQc B H0 D cA o μ)) (k : scE d M l B H0 sk sv D cA μ (pc + 3) L (o.toList ++ st) Qc) : scE d M l B H0 sk sv D cA μ pc L st0 Qc := by
  subst hst
  intro p e s m args below meth c H locs ls hx hb hr hml hown hts hlk hS hls hH hF hB
  have hls1 : ls.size = M.2.2.1 := hls.choose_spec.1.1
  exact sc_use (rest := st) (va_runS (As := as) (own := M.1.cls) ⟨hx, hb, hml, hown, hts⟩ hM ⟨mm_callB hg hd' hts (mm_word (M := M) hts hw rfl), hts _ (by simpa using hg.2.2.2.2)⟩ ⟨sc_blind, fun U hU hW => sc_pre hH hS hU hW⟩ rfl hl hls1 rfl (lv_room hr8) hd ⟨Nat.le_refl _, Nat.le_refl _⟩) hH hF hB (fun H1 locs1 hH1 hS1 => k p e s m args below meth c H1 locs1 ls hx hb hr hml hown hts hlk hS hls hH1 hS1 hB)
theorem sc_callV {d : Nat} {M : mmMi} {l : Launch} {B : Nat} {H0 : Heap} {sk sv : Nat → Nat} {D : va_G} {cA : Nat → ClassId} {μ : mmMem} {L st : List Value} {pc : Nat} {Qc : Array Value → State → Outcome → State → Prop} {d' w n a : Nat} {Mc : mmMi} {o : Option Value} (as : List Value) {st0 : List Value} (hst : st0 = as.reverse ++ .ref (sk 0) :: st) (hC : Mc.1.cls = "java/lang/String") (hd : decode M.2.1 pc = .ok (.invokevirtual n, 3)) (hw : lw_tbl[w]? = some (.methodLink M.1.cls n Mc.1)) (hg : mmGd Mc false a) (hd' : d' < d) (hl : as.length = a) (hr8 : (st.map fun v => v.category).sum ≤ 8) (hM : scMet d' Mc l B H0 sk sv D cA μ (.ref (sk 0) :: as) (scQc B H0 D cA o μ)) (k : scE d M l B H0 sk sv D cA μ (pc + 3) L (o.toList ++ st) Qc) : scE d M l B H0 sk sv D cA μ pc L st0 Qc := by
  subst hst
  intro p e s m args below meth c H locs ls hx hb hr hml hown hts hlk hS hls hH hF hB
  have hls1 : ls.size = M.2.2.1 := hls.choose_spec.1.1
  have hgv : Cond.instanceMethod Mc.1 ∈ mmT ∧ Cond.selects Mc.1.cls Mc.1 Mc.1 ∈ mmT := by simpa using hg.2.2.2.2
  obtain ⟨cellS, g1, g2, g3, g4⟩ := (hS.2.2.2.2.2.1.1 0 (by omega)).1
  have hq : sk 0 < B := Nat.not_le.mp g4
  exact sc_use (rest := st) (va_runV (As := as) (b := sk 0) (C := Mc.1.cls) (own := M.1.cls) ⟨hx, hb, hml, hown, hts⟩ hM ⟨mm_callB hg hd' hts (mm_word (M := M) hts hw rfl), hts _ hgv.1, hts _ hgv.2⟩ ⟨sc_blind, ⟨cellS, by rw [hH.2.1 _ hq]; exact g1, g2, by rw [hC]; exact g3⟩, fun U hU hW => sc_pre (as := .ref (sk 0) :: as) hH hS hU hW⟩ rfl hl hls1 rfl (lv_room hr8) hd ⟨Nat.le_refl _, Nat.le_refl _⟩) hH hF hB (fun H1 locs1 hH1 hS1 => k p e s m args below meth c H1 locs1 ls hx hb hr hml hown hts hlk hS hls hH1 hS1 hB)
theorem sc_mm {d d' : Nat} {M : mmMi} {st : Bool} {n : Nat} {as : List Value} {μ : mmMem} {P : Option Value → mmMem → Prop} (hg : mmGd M st n) (hl : as.length = (match st with | true => n | false => n + 1)) (hd : d' < d) (h : ∀ (l : Launch) (B : Nat) (H0 : Heap) (sk sv : Nat → Nat) (D : va_G) (cA : Nat → ClassId), scMet d' M l B H0 sk sv D cA μ (as.map (mmV B sk)) (mmQc B H0 sk D cA P)) : mmCU d M st n as μ P := by
  cases st <;> exact ⟨hg, hl, d', hd, P, fun _ _ h => h, fun l B H0 sk sv D cA => h l B H0 sk sv D cA⟩

theorem gS_length : mmGd M_J0_length_8abf5 false 0 := ⟨mm_in 868 (by decide +kernel) rfl, mm_in 76 (by decide +kernel) rfl, by decide +kernel, by decide, ⟨mm_in 866 (by decide +kernel) rfl, mm_in 867 (by decide +kernel) rfl⟩⟩
def M_J0_coder_7d493 : mmMi := (yJ0_coder_7d493, cJ0_coder_7d493, 1, (some .byte))
theorem gS_coder : mmGd M_J0_coder_7d493 false 0 := ⟨mm_in 872 (by decide +kernel) rfl, mm_in 76 (by decide +kernel) rfl, by decide +kernel, by decide, ⟨mm_in 870 (by decide +kernel) rfl, mm_in 871 (by decide +kernel) rfl⟩⟩
def M_J0_isLatin1_aae02 : mmMi := (yJ0_isLatin1_aae02, cJ0_isLatin1_aae02, 1, (some .boolean))
theorem gS_isLatin1 : mmGd M_J0_isLatin1_aae02 false 0 := ⟨mm_in 773 (by decide +kernel) rfl, mm_in 76 (by decide +kernel) rfl, by decide +kernel, by decide, ⟨mm_in 771 (by decide +kernel) rfl, mm_in 772 (by decide +kernel) rfl⟩⟩
theorem gS_charAt : mmGd M_J0_charAt_5068e false 1 := ⟨mm_in 769 (by decide +kernel) rfl, mm_in 76 (by decide +kernel) rfl, by decide +kernel, by decide, ⟨mm_in 767 (by decide +kernel) rfl, mm_in 768 (by decide +kernel) rfl⟩⟩
def M_J0_checkIndex_df160 : mmMi := (yJ0_checkIndex_df160, cJ0_checkIndex_df160, 2, none)
theorem gS_checkIndex : mmGd M_J0_checkIndex_df160 true 2 := ⟨mm_in 781 (by decide +kernel) rfl, mm_in 76 (by decide +kernel) rfl, by decide +kernel, by decide, (show _ from mm_in 780 (by decide +kernel) rfl)⟩
theorem gS_indexOf1 : mmGd M_J0_indexOf_0f7a4 false 1 := ⟨mm_in 1304 (by decide +kernel) rfl, mm_in 76 (by decide +kernel) rfl, by decide +kernel, by decide, ⟨mm_in 1302 (by decide +kernel) rfl, mm_in 1303 (by decide +kernel) rfl⟩⟩
def M_J0_indexOf_7cf53 : mmMi := (yJ0_indexOf_7cf53, cJ0_indexOf_7cf53, 3, (some .int))
theorem gS_indexOf2 : mmGd M_J0_indexOf_7cf53 false 2 := ⟨mm_in 1308 (by decide +kernel) rfl, mm_in 76 (by decide +kernel) rfl, by decide +kernel, by decide, ⟨mm_in 1306 (by decide +kernel) rfl, mm_in 1307 (by decide +kernel) rfl⟩⟩
def M_J1_charAt_3b067 : mmMi := (yJ1_charAt_3b067, cJ1_charAt_3b067, 2, (some .char))
theorem gS_lcharAt : mmGd M_J1_charAt_3b067 true 2 := ⟨mm_in 778 (by decide +kernel) rfl, mm_in 77 (by decide +kernel) rfl, by decide +kernel, by decide, (show _ from mm_in 777 (by decide +kernel) rfl)⟩
def M_J1_canEncode_9a6ad : mmMi := (yJ1_canEncode_9a6ad, cJ1_canEncode_9a6ad, 1, (some .boolean))
theorem gS_canEncode : mmGd M_J1_canEncode_9a6ad true 1 := ⟨mm_in 1315 (by decide +kernel) rfl, mm_in 77 (by decide +kernel) rfl, by decide +kernel, by decide, (show _ from mm_in 1314 (by decide +kernel) rfl)⟩
def M_J1_indexOf_4cfef : mmMi := (yJ1_indexOf_4cfef, cJ1_indexOf_4cfef, 4, (some .int))
theorem gS_lindexOf : mmGd M_J1_indexOf_4cfef true 4 := ⟨mm_in 1312 (by decide +kernel) rfl, mm_in 77 (by decide +kernel) rfl, by decide +kernel, by decide, (show _ from mm_in 1311 (by decide +kernel) rfl)⟩
def M_J1_indexOfChar_4cfef : mmMi := (yJ1_indexOfChar_4cfef, cJ1_indexOfChar_4cfef, 6, (some .int))
theorem gS_indexOfChar : mmGd M_J1_indexOfChar_4cfef true 4 := ⟨mm_in 1324 (by decide +kernel) rfl, mm_in 77 (by decide +kernel) rfl, by decide +kernel, by decide, (show _ from mm_in 1323 (by decide +kernel) rfl)⟩
def M_J3_checkIndex_8e157 : mmMi := (yJ3_checkIndex_8e157, cJ3_checkIndex_8e157, 3, (some .int))
theorem gS_pcheck : mmGd M_J3_checkIndex_8e157 true 3 := ⟨mm_in 786 (by decide +kernel) rfl, mm_in 78 (by decide +kernel) rfl, by decide +kernel, by decide, (show _ from mm_in 785 (by decide +kernel) rfl)⟩
def M_J9_max_7cf53 : mmMi := (yJ9_max_7cf53, cJ9_max_7cf53, 2, (some .int))
theorem gS_max : mmGd M_J9_max_7cf53 true 2 := ⟨mm_in 1318 (by decide +kernel) rfl, mm_in 80 (by decide +kernel) rfl, by decide +kernel, by decide, (show _ from mm_in 1317 (by decide +kernel) rfl)⟩
def M_J9_min_7cf53 : mmMi := (yJ9_min_7cf53, cJ9_min_7cf53, 2, (some .int))
theorem gS_min : mmGd M_J9_min_7cf53 true 2 := ⟨mm_in 1321 (by decide +kernel) rfl, mm_in 80 (by decide +kernel) rfl, by decide +kernel, by decide, (show _ from mm_in 1320 (by decide +kernel) rfl)⟩
