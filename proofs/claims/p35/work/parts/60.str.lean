/-! ===== the constant's text: String's own methods, walked at the level of the kit ===== -/
def scPc (B : Nat) (H0 : Heap) (sk sv : Nat → Nat) (D : va_G) (cA : Nat → ClassId) (as : List Value) (μ : mmMem) : Array Value → State → Prop := fun a U => a = as.toArray ∧ mmH B H0 D cA μ U.heap ∧ mmS B H0 sk sv D cA U
def scQc (B : Nat) (H0 : Heap) (D : va_G) (cA : Nat → ClassId) (o : Option Value) (μ : mmMem) : Array Value → State → Outcome → State → Prop := fun _ _ oc t => oc = .returned o ∧ mmH B H0 D cA μ t.heap
def scE (d : Nat) (M : mmMi) (l : Launch) (B : Nat) (H0 : Heap) (sk sv : Nat → Nat) (D : va_G) (cA : Nat → ClassId) (μ : mmMem) (pc : Nat) (L st : List Value) (Qc : Array Value → State → Outcome → State → Prop) : Prop :=
  ∀ (p : Program) (e : Env) (s : State) (m : MethodId) (args : Array Value) (below : List Frame) (meth : Method) (c : Code) (H : Heap) (locs : List Loc) (ls : Array Slot),
    p.tables.exec = Jvm.exec → c.code = M.2.1 → meth.sig.returnType = M.2.2.2 → c.maxLocals = M.2.2.1 → s.vm.findClass M.1.cls = some m.cls → (∀ w ∈ mmT, w.before args s = true) → meth.locks = false →
    mmS B H0 sk sv D cA s → scLs ls M.2.2.1 L → mmH B H0 D cA μ H → va_S (mmA B) s.heap H locs → s.heap.size = H0.size →
    W p l e (mmRm d) s m args below meth c H locs 0 0 (MQ below Qc args s 0 0 (mmA B)) (F0 m pc ls st)
def scMet (d : Nat) (M : mmMi) (l : Launch) (B : Nat) (H0 : Heap) (sk sv : Nat → Nat) (D : va_G) (cA : Nat → ClassId) (μ : mmMem) (as : List Value) (Qc : Array Value → State → Outcome → State → Prop) : Prop := Met l M.1 (mmWs M) (mmRm d) (scPc B H0 sk sv D cA as μ) Qc 0 0 (mmA B)
theorem scMet.of {d n : Nat} {M : mmMi} {l : Launch} {B : Nat} {H0 : Heap} {sk sv : Nat → Nat} {D : va_G} {cA : Nat → ClassId} {μ : mmMem} {as : List Value} {Qc : Array Value → State → Outcome → State → Prop} (hy : plainFor M.1 = true) (hc : ∀ v ∈ as, v.category = 1) (hn : as.length + n = M.2.2.1) (h : scE d M l B H0 sk sv D cA μ 0 (as ++ List.replicate n (.retAddr 7)) [] Qc) : scMet d M l B H0 sk sv D cA μ as Qc := by
  unfold scMet
  refine Jvm.Free.MetFree.of_bodySF (code := M.2.1) (maxLocals := M.2.2.1) (ret := M.2.2.2) hy (fun args s m hb hn => by
    obtain ⟨meth, c, h1, h2, h3, h4, h5, h6, -, -⟩ := Cond.code_spec hn (atoms_spec (ws := mmWs M) hb _ List.mem_cons_self)
    exact ⟨meth, c, h1, h2, h3, h4, h5, h6⟩) ?_
  intro p e s m args below meth c s₁ Bd hml hP _
  obtain ⟨rfl, hH, hS⟩ := hP
  have hh0 : s₁.heap = s.heap := by rw [Bd.state]; rfl
  have hts := atoms_spec (ws := mmWs M) Bd.pre
  rw [lg_entry_eq]
  have hen := lv_entry as (n := M.2.2.1) (by rw [sc_sl as hc]; omega)
  obtain ⟨t, a1, o, b1, b2, b3⟩ := h p e s m _ below meth c s.heap [] _ Bd.exec Bd.bytes Bd.returns hml (findClass_of_methodNamed Bd.named) (fun w hw => hts w (List.mem_cons_of_mem _ hw)) Bd.notSynchronized hS ⟨lv_args 0 _, hen, fun i v h1 h2 => by simpa using scLo_mem as 0 hc n i v h1 h2⟩ hH ⟨Nat.le_refl _, fun q _ _ => rfl, fun q hq => by cases hq⟩ hH.1 s₁ hh0 (Stand.of_body Bd)
  exact ⟨t, o, a1, b1, b2, ⟨b3.1, b3.2⟩⟩

theorem sc_aload_n {d : Nat} {M : mmMi} {l : Launch} {B : Nat} {H0 : Heap} {sk sv : Nat → Nat} {D : va_G} {cA : Nat → ClassId} {μ : mmMem} {L st : List Value} {pc : Nat} {Qc : Array Value → State → Outcome → State → Prop} {i : Fin 4} {x : Nat} (hd : decode M.2.1 pc = .ok (.aload_n i, 1)) (hg : L[i.val]? = some (.ref x)) (k : scE d M l B H0 sk sv D cA μ (pc + 1) L (.ref x :: st) Qc) : scE d M l B H0 sk sv D cA μ pc L st Qc := by
  intro p e s m args below meth c H locs ls hx hb hr hml hown hts hlk hS hls hH hF hB
  exact lv_aload_n hx hb hd rfl (hls.at hg (fun hq => by cases hq)) (k p e s m args below meth c H locs ls hx hb hr hml hown hts hlk hS hls hH hF hB)
theorem sc_iload_n {d : Nat} {M : mmMi} {l : Launch} {B : Nat} {H0 : Heap} {sk sv : Nat → Nat} {D : va_G} {cA : Nat → ClassId} {μ : mmMem} {L st : List Value} {pc : Nat} {Qc : Array Value → State → Outcome → State → Prop} {i : Fin 4} {x : Int32} (hd : decode M.2.1 pc = .ok (.iload_n i, 1)) (hg : L[i.val]? = some (.int x)) (k : scE d M l B H0 sk sv D cA μ (pc + 1) L (.int x :: st) Qc) : scE d M l B H0 sk sv D cA μ pc L st Qc := by
  intro p e s m args below meth c H locs ls hx hb hr hml hown hts hlk hS hls hH hF hB
  exact lv_iload_n hx hb hd rfl (hls.at hg (fun hq => by cases hq)) (k p e s m args below meth c H locs ls hx hb hr hml hown hts hlk hS hls hH hF hB)
theorem sc_iload {d : Nat} {M : mmMi} {l : Launch} {B : Nat} {H0 : Heap} {sk sv : Nat → Nat} {D : va_G} {cA : Nat → ClassId} {μ : mmMem} {L st : List Value} {pc : Nat} {Qc : Array Value → State → Outcome → State → Prop} {i : Nat} {x : Int32} (hd : decode M.2.1 pc = .ok (.iload i, 2)) (hg : L[i]? = some (.int x)) (k : scE d M l B H0 sk sv D cA μ (pc + 2) L (.int x :: st) Qc) : scE d M l B H0 sk sv D cA μ pc L st Qc := by
  intro p e s m args below meth c H locs ls hx hb hr hml hown hts hlk hS hls hH hF hB
  exact lv_iload hx hb hd (hls.at hg (fun hq => by cases hq)) (k p e s m args below meth c H locs ls hx hb hr hml hown hts hlk hS hls hH hF hB)
theorem sc_iconst {d : Nat} {M : mmMi} {l : Launch} {B : Nat} {H0 : Heap} {sk sv : Nat → Nat} {D : va_G} {cA : Nat → ClassId} {μ : mmMem} {L st : List Value} {pc : Nat} {Qc : Array Value → State → Outcome → State → Prop} {n : Int} (x : Int32) (hd : decode M.2.1 pc = .ok (.iconst n, 1)) (hv : Int32.ofInt n = x) (k : scE d M l B H0 sk sv D cA μ (pc + 1) L (.int x :: st) Qc) : scE d M l B H0 sk sv D cA μ pc L st Qc := by
  intro p e s m args below meth c H locs ls hx hb hr hml hown hts hlk hS hls hH hF hB
  exact lv_iconst hx hb hd hv (k p e s m args below meth c H locs ls hx hb hr hml hown hts hlk hS hls hH hF hB)
theorem sc_sipush {d : Nat} {M : mmMi} {l : Launch} {B : Nat} {H0 : Heap} {sk sv : Nat → Nat} {D : va_G} {cA : Nat → ClassId} {μ : mmMem} {L st : List Value} {pc : Nat} {Qc : Array Value → State → Outcome → State → Prop} {n : Int} (x : Int32) (hd : decode M.2.1 pc = .ok (.sipush n, 3)) (hv : (Int16.ofInt n).toInt32 = x) (k : scE d M l B H0 sk sv D cA μ (pc + 3) L (.int x :: st) Qc) : scE d M l B H0 sk sv D cA μ pc L st Qc := by
  intro p e s m args below meth c H locs ls hx hb hr hml hown hts hlk hS hls hH hF hB
  exact lv_sipush hx hb hd hv (k p e s m args below meth c H locs ls hx hb hr hml hown hts hlk hS hls hH hF hB)
theorem sc_iand {d : Nat} {M : mmMi} {l : Launch} {B : Nat} {H0 : Heap} {sk sv : Nat → Nat} {D : va_G} {cA : Nat → ClassId} {μ : mmMem} {L st : List Value} {pc : Nat} {Qc : Array Value → State → Outcome → State → Prop} {x y : Int32} (hd : decode M.2.1 pc = .ok (.iand, 1)) (k : scE d M l B H0 sk sv D cA μ (pc + 1) L (.int (x &&& y) :: st) Qc) : scE d M l B H0 sk sv D cA μ pc L (.int y :: .int x :: st) Qc := by
  intro p e s m args below meth c H locs ls hx hb hr hml hown hts hlk hS hls hH hF hB
  exact lv_iand hx hb hd (k p e s m args below meth c H locs ls hx hb hr hml hown hts hlk hS hls hH hF hB)
theorem sc_ishr {d : Nat} {M : mmMi} {l : Launch} {B : Nat} {H0 : Heap} {sk sv : Nat → Nat} {D : va_G} {cA : Nat → ClassId} {μ : mmMem} {L st : List Value} {pc : Nat} {Qc : Array Value → State → Outcome → State → Prop} {x y : Int32} (hd : decode M.2.1 pc = .ok (.ishr, 1)) (k : scE d M l B H0 sk sv D cA μ (pc + 1) L (.int (x >>> (y &&& 31)) :: st) Qc) : scE d M l B H0 sk sv D cA μ pc L (.int y :: .int x :: st) Qc := by
  intro p e s m args below meth c H locs ls hx hb hr hml hown hts hlk hS hls hH hF hB
  exact lv_ishr hx hb hd (k p e s m args below meth c H locs ls hx hb hr hml hown hts hlk hS hls hH hF hB)
theorem sc_i2c {d : Nat} {M : mmMi} {l : Launch} {B : Nat} {H0 : Heap} {sk sv : Nat → Nat} {D : va_G} {cA : Nat → ClassId} {μ : mmMem} {L st : List Value} {pc : Nat} {Qc : Array Value → State → Outcome → State → Prop} {x : Int32} (v : Int32) (hd : decode M.2.1 pc = .ok (.i2c, 1)) (hv : (x.toUInt32 % 65536).toInt32 = v) (k : scE d M l B H0 sk sv D cA μ (pc + 1) L (.int v :: st) Qc) : scE d M l B H0 sk sv D cA μ pc L (.int x :: st) Qc := by
  intro p e s m args below meth c H locs ls hx hb hr hml hown hts hlk hS hls hH hF hB
  exact lv_i2c hx hb hd hv (k p e s m args below meth c H locs ls hx hb hr hml hown hts hlk hS hls hH hF hB)
theorem sc_i2b {d : Nat} {M : mmMi} {l : Launch} {B : Nat} {H0 : Heap} {sk sv : Nat → Nat} {D : va_G} {cA : Nat → ClassId} {μ : mmMem} {L st : List Value} {pc : Nat} {Qc : Array Value → State → Outcome → State → Prop} {x : Int32} (v : Int32) (hd : decode M.2.1 pc = .ok (.i2b, 1)) (hv : x.toInt8.toInt32 = v) (k : scE d M l B H0 sk sv D cA μ (pc + 1) L (.int v :: st) Qc) : scE d M l B H0 sk sv D cA μ pc L (.int x :: st) Qc := by
  intro p e s m args below meth c H locs ls hx hb hr hml hown hts hlk hS hls hH hF hB
  exact lv_i2b hx hb hd hv (k p e s m args below meth c H locs ls hx hb hr hml hown hts hlk hS hls hH hF hB)
theorem sc_pop {d : Nat} {M : mmMi} {l : Launch} {B : Nat} {H0 : Heap} {sk sv : Nat → Nat} {D : va_G} {cA : Nat → ClassId} {μ : mmMem} {L st : List Value} {pc : Nat} {Qc : Array Value → State → Outcome → State → Prop} {v : Value} (hd : decode M.2.1 pc = .ok (.pop, 1)) (hv : v.category = 1) (k : scE d M l B H0 sk sv D cA μ (pc + 1) L st Qc) : scE d M l B H0 sk sv D cA μ pc L (v :: st) Qc := by
  intro p e s m args below meth c H locs ls hx hb hr hml hown hts hlk hS hls hH hF hB
  exact lv_pop hx hb hd hv (k p e s m args below meth c H locs ls hx hb hr hml hown hts hlk hS hls hH hF hB)
theorem sc_goto {d : Nat} {M : mmMi} {l : Launch} {B : Nat} {H0 : Heap} {sk sv : Nat → Nat} {D : va_G} {cA : Nat → ClassId} {μ : mmMem} {L st : List Value} {pc : Nat} {Qc : Array Value → State → Outcome → State → Prop} {off : Int} (t : Nat) (hd : decode M.2.1 pc = .ok (.goto off, 3)) (ht : (pc : Int) + off = (t : Int)) (k : scE d M l B H0 sk sv D cA μ t L st Qc) : scE d M l B H0 sk sv D cA μ pc L st Qc := by
  intro p e s m args below meth c H locs ls hx hb hr hml hown hts hlk hS hls hH hF hB
  exact lv_goto hx hb hd ht (k p e s m args below meth c H locs ls hx hb hr hml hown hts hlk hS hls hH hF hB)
theorem sc_if {d : Nat} {M : mmMi} {l : Launch} {B : Nat} {H0 : Heap} {sk sv : Nat → Nat} {D : va_G} {cA : Nat → ClassId} {μ : mmMem} {L st : List Value} {pc : Nat} {Qc : Array Value → State → Outcome → State → Prop} {cc : ClassFile.Cond} {off : Int} {x : Int32} (t : Nat) (hd : decode M.2.1 pc = .ok (.ifCond cc off, 3)) (ht : (pc : Int) + off = (t : Int)) (h1 : mmCt cc x 0 → scE d M l B H0 sk sv D cA μ t L st Qc) (h2 : mmCf cc x 0 → scE d M l B H0 sk sv D cA μ (pc + 3) L st Qc) : scE d M l B H0 sk sv D cA μ pc L (.int x :: st) Qc := by
  intro p e s m args below meth c H locs ls hx hb hr hml hown hts hlk hS hls hH hF hB
  cases cc with
  | eq => exact lv_if_eq hx hb hd ht (fun q => h1 q p e s m args below meth c H locs ls hx hb hr hml hown hts hlk hS hls hH hF hB) (fun q => h2 q p e s m args below meth c H locs ls hx hb hr hml hown hts hlk hS hls hH hF hB)
  | ne => exact lv_if_ne hx hb hd ht (fun q => h1 q p e s m args below meth c H locs ls hx hb hr hml hown hts hlk hS hls hH hF hB) (fun q => h2 q p e s m args below meth c H locs ls hx hb hr hml hown hts hlk hS hls hH hF hB)
  | lt => exact lv_if_lt hx hb hd ht (fun q => h1 q p e s m args below meth c H locs ls hx hb hr hml hown hts hlk hS hls hH hF hB) (fun q => h2 q p e s m args below meth c H locs ls hx hb hr hml hown hts hlk hS hls hH hF hB)
  | ge => exact lv_if_ge hx hb hd ht (fun q => h1 q p e s m args below meth c H locs ls hx hb hr hml hown hts hlk hS hls hH hF hB) (fun q => h2 q p e s m args below meth c H locs ls hx hb hr hml hown hts hlk hS hls hH hF hB)
  | gt => exact lv_if_gt hx hb hd ht (fun q => h1 q p e s m args below meth c H locs ls hx hb hr hml hown hts hlk hS hls hH hF hB) (fun q => h2 q p e s m args below meth c H locs ls hx hb hr hml hown hts hlk hS hls hH hF hB)
  | le => exact lv_if_le hx hb hd ht (fun q => h1 q p e s m args below meth c H locs ls hx hb hr hml hown hts hlk hS hls hH hF hB) (fun q => h2 q p e s m args below meth c H locs ls hx hb hr hml hown hts hlk hS hls hH hF hB)
theorem sc_icmp {d : Nat} {M : mmMi} {l : Launch} {B : Nat} {H0 : Heap} {sk sv : Nat → Nat} {D : va_G} {cA : Nat → ClassId} {μ : mmMem} {L st : List Value} {pc : Nat} {Qc : Array Value → State → Outcome → State → Prop} {cc : ClassFile.Cond} {off : Int} {x y : Int32} (t : Nat) (hd : decode M.2.1 pc = .ok (.if_icmp cc off, 3)) (ht : (pc : Int) + off = (t : Int)) (h1 : mmCt cc x y → scE d M l B H0 sk sv D cA μ t L st Qc) (h2 : mmCf cc x y → scE d M l B H0 sk sv D cA μ (pc + 3) L st Qc) : scE d M l B H0 sk sv D cA μ pc L (.int y :: .int x :: st) Qc := by
  intro p e s m args below meth c H locs ls hx hb hr hml hown hts hlk hS hls hH hF hB
  cases cc with
  | eq => exact lv_icmp_eq hx hb hd ht (fun q => h1 q p e s m args below meth c H locs ls hx hb hr hml hown hts hlk hS hls hH hF hB) (fun q => h2 q p e s m args below meth c H locs ls hx hb hr hml hown hts hlk hS hls hH hF hB)
  | ne => exact lv_icmp_ne hx hb hd ht (fun q => h1 q p e s m args below meth c H locs ls hx hb hr hml hown hts hlk hS hls hH hF hB) (fun q => h2 q p e s m args below meth c H locs ls hx hb hr hml hown hts hlk hS hls hH hF hB)
  | lt => exact lv_icmp_lt hx hb hd ht (fun q => h1 q p e s m args below meth c H locs ls hx hb hr hml hown hts hlk hS hls hH hF hB) (fun q => h2 q p e s m args below meth c H locs ls hx hb hr hml hown hts hlk hS hls hH hF hB)
  | ge => exact lv_icmp_ge hx hb hd ht (fun q => h1 q p e s m args below meth c H locs ls hx hb hr hml hown hts hlk hS hls hH hF hB) (fun q => h2 q p e s m args below meth c H locs ls hx hb hr hml hown hts hlk hS hls hH hF hB)
  | gt => exact lv_icmp_gt hx hb hd ht (fun q => h1 q p e s m args below meth c H locs ls hx hb hr hml hown hts hlk hS hls hH hF hB) (fun q => h2 q p e s m args below meth c H locs ls hx hb hr hml hown hts hlk hS hls hH hF hB)
  | le => exact lv_icmp_le hx hb hd ht (fun q => h1 q p e s m args below meth c H locs ls hx hb hr hml hown hts hlk hS hls hH hF hB) (fun q => h2 q p e s m args below meth c H locs ls hx hb hr hml hown hts hlk hS hls hH hF hB)
theorem sc_istore {d : Nat} {M : mmMi} {l : Launch} {B : Nat} {H0 : Heap} {sk sv : Nat → Nat} {D : va_G} {cA : Nat → ClassId} {μ : mmMem} {L st : List Value} {pc : Nat} {Qc : Array Value → State → Outcome → State → Prop} {i : Nat} {x : Int32} (hd : decode M.2.1 pc = .ok (.istore i, 2)) (hi : i < M.2.2.1) (hc : ∀ w ∈ L, w.category = 1) (k : scE d M l B H0 sk sv D cA μ (pc + 2) (L.set i (.int x)) st Qc) : scE d M l B H0 sk sv D cA μ pc L (.int x :: st) Qc := by
  intro p e s m args below meth c H locs ls hx hb hr hml hown hts hlk hS hls hH hF hB
  obtain ⟨lv, hlv, hmem⟩ := hls
  exact lv_istore hx hb hd hlv hi rfl (fun ls2 hls2 => k p e s m args below meth c H locs _ hx hb hr hml hown hts hlk hS (scLs.st hmem hls2 hc) hH hF hB)
theorem sc_istore_n {d : Nat} {M : mmMi} {l : Launch} {B : Nat} {H0 : Heap} {sk sv : Nat → Nat} {D : va_G} {cA : Nat → ClassId} {μ : mmMem} {L st : List Value} {pc : Nat} {Qc : Array Value → State → Outcome → State → Prop} {i : Fin 4} {x : Int32} (hd : decode M.2.1 pc = .ok (.istore_n i, 1)) (hi : i.val < M.2.2.1) (hc : ∀ w ∈ L, w.category = 1) (k : scE d M l B H0 sk sv D cA μ (pc + 1) (L.set i.val (.int x)) st Qc) : scE d M l B H0 sk sv D cA μ pc L (.int x :: st) Qc := by
  intro p e s m args below meth c H locs ls hx hb hr hml hown hts hlk hS hls hH hF hB
  obtain ⟨lv, hlv, hmem⟩ := hls
  exact lv_istore_n hx hb hd rfl hlv hi rfl (fun ls2 hls2 => k p e s m args below meth c H locs _ hx hb hr hml hown hts hlk hS (scLs.st hmem hls2 hc) hH hF hB)
theorem sc_iinc {d : Nat} {M : mmMi} {l : Launch} {B : Nat} {H0 : Heap} {sk sv : Nat → Nat} {D : va_G} {cA : Nat → ClassId} {μ : mmMem} {L st : List Value} {pc : Nat} {Qc : Array Value → State → Outcome → State → Prop} {i : Nat} {n : Int} {x : Int32} (v : Int32) (hd : decode M.2.1 pc = .ok (.iinc i n, 3)) (hi : i < M.2.2.1) (hg : L[i]? = some (.int x)) (hv : x + Int32.ofInt n = v) (hc : ∀ w ∈ L, w.category = 1) (k : scE d M l B H0 sk sv D cA μ (pc + 3) (L.set i (.int v)) st Qc) : scE d M l B H0 sk sv D cA μ pc L st Qc := by
  intro p e s m args below meth c H locs ls hx hb hr hml hown hts hlk hS hls hH hF hB
  obtain ⟨lv, hlv, hmem⟩ := hls
  obtain ⟨j, hj⟩ := List.getElem?_of_mem (hmem i (.int x) hg (fun hq => by cases hq))
  exact lv_iinc hx hb hd hlv hj hv hi rfl (fun ls2 hls2 => k p e s m args below meth c H locs _ hx hb hr hml hown hts hlk hS (scLs.st hmem hls2 hc) hH hF hB)
theorem sc_ix : ∀ k, k < 11 → vp_in (nI k) 11 := by
  show ∀ k, k < 11 → ¬ (nI k < 0 ∨ 11 ≤ (nI k).toNatClampNeg)
  decide +kernel
theorem sc_ixN : ∀ k, k < 11 → (nI k).toNatClampNeg = k := by decide +kernel
theorem sc_kept {B : Nat} {H0 H Hs : Heap} {D : va_G} {cA : Nat → ClassId} {μ : mmMem} {locs : List Loc} (hH : mmH B H0 D cA μ H) (hF : va_S (mmA B) Hs H locs) (hB : Hs.size = H0.size) : ∀ a : Nat, a < H0.size → ¬ (mmA B a) → Hs[a]? = H0[a]? := by
  intro a h1 h2
  rw [← hF.2.1 a (by omega) h2]
  exact hH.2.1 a h1 h2
theorem sc_value {d : Nat} {M : mmMi} {l : Launch} {B : Nat} {H0 : Heap} {sk sv : Nat → Nat} {D : va_G} {cA : Nat → ClassId} {μ : mmMem} {L st : List Value} {pc : Nat} {Qc : Array Value → State → Outcome → State → Prop}  (hcl : M.1.cls = "java/lang/String") (hd : decode M.2.1 pc = .ok (.getfield 9, 3)) (k : scE d M l B H0 sk sv D cA μ (pc + 3) L (.ref (sv 0) :: st) Qc) : scE d M l B H0 sk sv D cA μ pc L (.ref (sk 0) :: st) Qc := by
  intro p e s m args below meth c H locs ls hx hb hr hml hown hts hlk hS hls hH hF hB
  exact vk_getf (own := M.1.cls) (o := "java/lang/String") (n := "value") (d := "[B") (ref := "java/lang/String") hx hb ((hS.2.2.2.1.1 0 (by omega)).2.2.1.kept (sc_kept hH hF hB)) hF hown (by rw [hcl]; exact hts _ (mm_in 742 (by decide +kernel) rfl)) (fun _ h => h) hd (k p e s m args below meth c H locs ls hx hb hr hml hown hts hlk hS hls hH hF hB)
theorem sc_coder {d : Nat} {M : mmMi} {l : Launch} {B : Nat} {H0 : Heap} {sk sv : Nat → Nat} {D : va_G} {cA : Nat → ClassId} {μ : mmMem} {L st : List Value} {pc : Nat} {Qc : Array Value → State → Outcome → State → Prop}  (hcl : M.1.cls = "java/lang/String") (hd : decode M.2.1 pc = .ok (.getfield 15, 3)) (k : scE d M l B H0 sk sv D cA μ (pc + 3) L (.int 0 :: st) Qc) : scE d M l B H0 sk sv D cA μ pc L (.ref (sk 0) :: st) Qc := by
  intro p e s m args below meth c H locs ls hx hb hr hml hown hts hlk hS hls hH hF hB
  exact vk_getf (own := M.1.cls) (o := "java/lang/String") (n := "coder") (d := "B") (ref := "java/lang/String") hx hb ((hS.2.2.2.1.1 0 (by omega)).2.1.kept (sc_kept hH hF hB)) hF hown (by rw [hcl]; exact hts _ (mm_in 743 (by decide +kernel) rfl)) (fun _ h => h) hd (k p e s m args below meth c H locs ls hx hb hr hml hown hts hlk hS hls hH hF hB)
theorem sc_compact {d : Nat} {M : mmMi} {l : Launch} {B : Nat} {H0 : Heap} {sk sv : Nat → Nat} {D : va_G} {cA : Nat → ClassId} {μ : mmMem} {L st : List Value} {pc : Nat} {Qc : Array Value → State → Outcome → State → Prop}  (hcl : M.1.cls = "java/lang/String") (hd : decode M.2.1 pc = .ok (.getstatic 38, 3)) (k : scE d M l B H0 sk sv D cA μ (pc + 3) L (.int 1 :: st) Qc) : scE d M l B H0 sk sv D cA μ pc L st Qc := by
  intro p e s m args below meth c H locs ls hx hb hr hml hown hts hlk hS hls hH hF hB
  exact va_gets (own := M.1.cls) (C := "java/lang/String") (n := "COMPACT_STRINGS") (d := "Z") (ref := "java/lang/String") hx hb (hS.2.2.2.2.1.kept (sc_kept hH hF hB)) hF hown (by rw [hcl]; exact hts _ (mm_in 545 (by decide +kernel) rfl)) (fun _ h => h) hd (k p e s m args below meth c H locs ls hx hb hr hml hown hts hlk hS hls hH hF hB)
theorem sc_form {d : Nat} {M : mmMi} {l : Launch} {B : Nat} {H0 : Heap} {sk sv : Nat → Nat} {D : va_G} {cA : Nat → ClassId} {μ : mmMem} {L st : List Value} {pc : Nat} {Qc : Array Value → State → Outcome → State → Prop}  (hcl : M.1.cls = "java/lang/String") (hd : decode M.2.1 pc = .ok (.getstatic 1053, 3)) (k : ∀ v : Value, (v = .null ∨ ∃ t, v = .ref t) → scE d M l B H0 sk sv D cA μ (pc + 3) L (v :: st) Qc) : scE d M l B H0 sk sv D cA μ pc L st Qc := by
  intro p e s m args below meth c H locs ls hx hb hr hml hown hts hlk hS hls hH hF hB
  obtain ⟨v, hv, hz⟩ := hS.2.2.2.2.2.1
  exact va_gets (own := M.1.cls) (C := "jdk/internal/util/Preconditions") (n := "SIOOBE_FORMATTER") (d := "Ljava/util/function/BiFunction;") (ref := "jdk/internal/util/Preconditions") hx hb (hz.kept (sc_kept hH hF hB)) hF hown (by rw [hcl]; exact hts _ (mm_in 552 (by decide +kernel) rfl)) (fun _ h => h) hd (k v hv p e s m args below meth c H locs ls hx hb hr hml hown hts hlk hS hls hH hF hB)
theorem sc_baload {d : Nat} {M : mmMi} {l : Launch} {B : Nat} {H0 : Heap} {sk sv : Nat → Nat} {D : va_G} {cA : Nat → ClassId} {μ : mmMem} {L st : List Value} {pc : Nat} {Qc : Array Value → State → Outcome → State → Prop} {j : Int32} {k0 : Nat} (hd : decode M.2.1 pc = .ok (.baload, 1)) (hj : j = nI k0) (hk0 : k0 < 11) (k : scE d M l B H0 sk sv D cA μ (pc + 1) L (.int (ltr k0) :: st) Qc) : scE d M l B H0 sk sv D cA μ pc L (.int j :: .ref (sv 0) :: st) Qc := by
  intro p e s m args below meth c H locs ls hx hb hr hml hown hts hlk hS hls hH hF hB
  subst hj
  refine va_tb (v := .int (ltr k0)) hx hb ((hS.2.2.2.1.1 0 (by omega)).2.2.2.kept (sc_kept hH hF hB)) hF ?_ ?_ hd (k p e s m args below meth c H locs ls hx hb hr hml hown hts hlk hS hls hH hF hB)
  · exact sc_ix k0 hk0
  · rw [sc_ixN k0 hk0]; rfl
theorem sc_alen {d : Nat} {M : mmMi} {l : Launch} {B : Nat} {H0 : Heap} {sk sv : Nat → Nat} {D : va_G} {cA : Nat → ClassId} {μ : mmMem} {L st : List Value} {pc : Nat} {Qc : Array Value → State → Outcome → State → Prop}  (hd : decode M.2.1 pc = .ok (.arraylength, 1)) (k : scE d M l B H0 sk sv D cA μ (pc + 1) L (.int 11 :: st) Qc) : scE d M l B H0 sk sv D cA μ pc L (.ref (sv 0) :: st) Qc := by
  intro p e s m args below meth c H locs ls hx hb hr hml hown hts hlk hS hls hH hF hB
  exact va_tlen (v := 11) hx hb ((hS.2.2.2.1.1 0 (by omega)).2.2.2.kept (sc_kept hH hF hB)) hF rfl hd (k p e s m args below meth c H locs ls hx hb hr hml hown hts hlk hS hls hH hF hB)
theorem sc_ireturn {d : Nat} {M : mmMi} {l : Launch} {B : Nat} {H0 : Heap} {sk sv : Nat → Nat} {D : va_G} {cA : Nat → ClassId} {μ : mmMem} {L : List Value} {pc : Nat} {Qc : Array Value → State → Outcome → State → Prop} {x : Int32} (ty : FieldType) (hd : decode M.2.1 pc = .ok (.ireturn, 1)) (hret : M.2.2.2 = some ty) (hn : narrow ty (.int x) = .int x) (k : ∀ (a : Array Value) (s t : State), mmH B H0 D cA μ t.heap → Qc a s (.returned (some (.int x))) t) : scE d M l B H0 sk sv D cA μ pc L [.int x] Qc := by
  intro p e s m args below meth c H locs ls hx hb hr hml hown hts hlk hS hls hH hF hB
  exact W.zret hx hb (hr.trans hret) (ty := ty) hn (fun t ht hW => k _ _ t (ht ▸ hH)) hF.2.2 hd hlk
theorem sc_return {d : Nat} {M : mmMi} {l : Launch} {B : Nat} {H0 : Heap} {sk sv : Nat → Nat} {D : va_G} {cA : Nat → ClassId} {μ : mmMem} {L : List Value} {pc : Nat} {Qc : Array Value → State → Outcome → State → Prop}  (hd : decode M.2.1 pc = .ok (.return_, 1)) (hret : M.2.2.2 = none) (k : ∀ (a : Array Value) (s t : State), mmH B H0 D cA μ t.heap → Qc a s (.returned none) t) : scE d M l B H0 sk sv D cA μ pc L [] Qc := by
  intro p e s m args below meth c H locs ls hx hb hr hml hown hts hlk hS hls hH hF hB
  exact W.vret hx hb (hr.trans hret) (fun t ht hW => k _ _ t (ht ▸ hH)) hF.2.2 hd hlk
theorem sc_use {p : Program} {l : Launch} {e : Env} {R : Room} {s : State} {m : MethodId} {args : Array Value} {below : List Frame} {meth : Method} {c : Code} {H : Heap} {locs : List Loc} {pc : Nat} {ls : Array Slot} {st0 rest : List Value} {Q : State → Prop} {B : Nat} {H0 : Heap} {D : va_G} {cA : Nat → ClassId} {o : Option Value} {a : Array Value} {μ : mmMem}
    (hr : va_Run p l e R s m args below meth c H locs 0 0 0 0 (F0 m pc ls st0) rest (scQc B H0 D cA o μ a) (mmA B)) (hH : mmH B H0 D cA μ H) (hF : va_S (mmA B) s.heap H locs) (hB : s.heap.size = H0.size)
    (kk : ∀ (H1 : Heap) (locs1 : List Loc), mmH B H0 D cA μ H1 → va_S (mmA B) s.heap H1 locs1 → W p l e R s m args below meth c H1 locs1 0 0 Q (F0 m (pc + 3) ls (o.toList ++ rest))) :
    W p l e R s m args below meth c H locs 0 0 Q (F0 m pc ls st0) := by
  intro T hT X
  obtain ⟨v, st₀, t, T', L, h0, X', hL, e1, e2, ⟨hv, hh⟩, st⟩ := hr T hT X
  cases hv
  have hh1 : mmH B H0 D cA μ T'.heap := by rw [e1]; exact hh
  have hv1 : va_S (mmA B) s.heap T'.heap (locs ++ L) := by
    refine ⟨by rw [hh1.1, hB]; exact Nat.le_refl _, fun q h1 h2 => ?_, fun q hq => ?_⟩
    · rw [hh1.2.1 q (by omega) h2, ← hH.2.1 q (by omega) h2]
      exact hF.2.1 q h1 h2
    · rcases List.mem_append.mp hq with h | h
      · exact hF.2.2 q h
      · exact hL q h
  obtain ⟨t2, a1, b1⟩ := kk T'.heap (locs ++ L) hh1 hv1 T' rfl X'
  exact ⟨t2, st t2 a1, b1⟩
theorem sc_blind {B : Nat} {H0 : Heap} {sk sv : Nat → Nat} {D : va_G} {cA : Nat → ClassId} {as : List Value} {μ : mmMem} : FrameBlind (scPc B H0 sk sv D cA as μ) := fun a U g mk h => ⟨h.1, h.2.1, mmS.same rfl h.2.2⟩
theorem sc_pre {B : Nat} {H0 : Heap} {sk sv : Nat → Nat} {D : va_G} {cA : Nat → ClassId} {as : List Value} {μ : mmMem} {s U : State} {H : Heap} (hH : mmH B H0 D cA μ H) (hS : mmS B H0 sk sv D cA s) (hU : U.heap = H) (hW : s.WarmedH U.vm) : scPc B H0 sk sv D cA as μ as.toArray U := ⟨rfl, by rw [hU]; exact hH, mmS.warm hW hS⟩

theorem sc_callS {d : Nat} {M : mmMi} {l : Launch} {B : Nat} {H0 : Heap} {sk sv : Nat → Nat} {D : va_G} {cA : Nat → ClassId} {μ : mmMem} {L st : List Value} {pc : Nat} {Qc : Array Value → State → Outcome → State → Prop} {d' w n a : Nat} {Mc : mmMi} {o : Option Value} (as : List Value) {st0 : List Value} (hst : st0 = as.reverse ++ st) (hd : decode M.2.1 pc = .ok (.invokestatic n, 3)) (hw : lw_tbl[w]? = some (.methodLink M.1.cls n Mc.1)) (hg : mmGd Mc true a) (hd' : d' < d) (hl : as.length = a) (hr8 : (st.map fun v => v.category).sum ≤ 8) (hM : scMet d' Mc l B H0 sk sv D cA μ as (scQc B H0 D cA o μ)) (k : scE d M l B H0 sk sv D cA μ (pc + 3) L (o.toList ++ st) Qc) : scE d M l B H0 sk sv D cA μ pc L st0 Qc := by
  subst hst
  intro p e s m args below meth c H locs ls hx hb hr hml hown hts hlk hS hls hH hF hB
  have hls1 : ls.size = M.2.2.1 := hls.choose_spec.1.1
  exact sc_use (rest := st) (va_runS (As := as) (own := M.1.cls) ⟨hx, hb, hml, hown, hts⟩ hM ⟨mm_callB hg hd' hts (mm_word (M := M) hts hw rfl), hts _ (by simpa using hg.2.2.2.2)⟩ ⟨sc_blind, fun U hU hW => sc_pre hH hS hU hW⟩ rfl hl hls1 rfl (lv_room hr8) hd ⟨Nat.le_refl _, Nat.le_refl _⟩) hH hF hB (fun H1 locs1 hH1 hS1 => k p e s m args below meth c H1 locs1 ls hx hb hr hml hown hts hlk hS hls hH1 hS1 hB)
theorem sc_callV {d : Nat} {M : mmMi} {l : Launch} {B : Nat} {H0 : Heap} {sk sv : Nat → Nat} {D : va_G} {cA : Nat → ClassId} {μ : mmMem} {L st : List Value} {pc : Nat} {Qc : Array Value → State → Outcome → State → Prop} {d' w n a : Nat} {Mc : mmMi} {o : Option Value} (as : List Value) {st0 : List Value} (hst : st0 = as.reverse ++ .ref (sk 0) :: st) (hC : Mc.1.cls = "java/lang/String") (hd : decode M.2.1 pc = .ok (.invokevirtual n, 3)) (hw : lw_tbl[w]? = some (.methodLink M.1.cls n Mc.1)) (hg : mmGd Mc false a) (hd' : d' < d) (hl : as.length = a) (hr8 : (st.map fun v => v.category).sum ≤ 8) (hM : scMet d' Mc l B H0 sk sv D cA μ (.ref (sk 0) :: as) (scQc B H0 D cA o μ)) (k : scE d M l B H0 sk sv D cA μ (pc + 3) L (o.toList ++ st) Qc) : scE d M l B H0 sk sv D cA μ pc L st0 Qc := by
  subst hst
  intro p e s m args below meth c H locs ls hx hb hr hml hown hts hlk hS hls hH hF hB
  have hls1 : ls.size = M.2.2.1 := hls.choose_spec.1.1
  have hgv : Cond.instanceMethod Mc.1 ∈ mmT ∧ Cond.selects Mc.1.cls Mc.1 Mc.1 ∈ mmT := by simpa using hg.2.2.2.2
  obtain ⟨cellS, g1, g2, g3, g4⟩ := (hS.2.2.2.1.1 0 (by omega)).1
  exact sc_use (rest := st) (va_runV (As := as) (b := sk 0) (C := Mc.1.cls) (own := M.1.cls) ⟨hx, hb, hml, hown, hts⟩ hM ⟨mm_callB hg hd' hts (mm_word (M := M) hts hw rfl), hts _ hgv.1, hts _ hgv.2⟩ ⟨sc_blind, ⟨cellS, by rw [hH.2.1 _ (Array.getElem?_eq_some_iff.mp g1).1 g4]; exact g1, g2, by rw [hC]; exact g3⟩, fun U hU hW => sc_pre (as := .ref (sk 0) :: as) hH hS hU hW⟩ rfl hl hls1 rfl (lv_room hr8) hd ⟨Nat.le_refl _, Nat.le_refl _⟩) hH hF hB (fun H1 locs1 hH1 hS1 => k p e s m args below meth c H1 locs1 ls hx hb hr hml hown hts hlk hS hls hH1 hS1 hB)
theorem sc_mm {d d' : Nat} {M : mmMi} {st : Bool} {n : Nat} {as : List Value} {μ : mmMem} {P : Option Value → mmMem → Prop} (hg : mmGd M st n) (hl : as.length = (match st with | true => n | false => n + 1)) (hd : d' < d) (h : ∀ (l : Launch) (B : Nat) (H0 : Heap) (sk sv : Nat → Nat) (D : va_G) (cA : Nat → ClassId), scMet d' M l B H0 sk sv D cA μ (as.map (mmV B sk)) (mmQc B H0 sk D cA P)) : mmCU d M st n as μ P := by
  cases st <;> exact ⟨hg, hl, d', hd, P, fun _ _ h => h, fun l B H0 sk sv D cA => h l B H0 sk sv D cA⟩

/-! ===== String's methods on the constant ===== -/
theorem w_latin {d : Nat} {l : Launch} {B : Nat} {H0 : Heap} {sk sv : Nat → Nat} {D : va_G} {cA : Nat → ClassId} {μ : mmMem}  : scMet d M_J0_isLatin1_aae02 l B H0 sk sv D cA μ [.ref (sk 0)] (scQc B H0 D cA (some (.int 1)) μ) := by
  refine scMet.of (n := 0) (by decide +kernel) (by simp [Value.category]) rfl ?_
  refine sc_compact rfl (by decide +kernel) ?_
  refine sc_if (cc := .eq) (off := 14) 17 (by decide +kernel) rfl (fun q => absurd q (by simp only [mmCt, mmCf]; decide)) (fun _ => ?_)
  refine sc_aload_n (i := 0) (by decide +kernel) rfl ?_
  refine sc_coder rfl (by decide +kernel) ?_
  refine sc_if (cc := .ne) (off := 7) 17 (by decide +kernel) rfl (fun q => absurd rfl q) (fun _ => ?_)
  refine sc_iconst (n := 1) 1 (by decide +kernel) rfl ?_
  refine sc_goto (off := 4) 18 (by decide +kernel) rfl ?_
  exact sc_ireturn .boolean (by decide +kernel) rfl rfl (fun _ _ _ h => ⟨rfl, h⟩)
theorem w_pcheck {d : Nat} {l : Launch} {B : Nat} {H0 : Heap} {sk sv : Nat → Nat} {D : va_G} {cA : Nat → ClassId} {μ : mmMem} {x y : Int32} {v : Value} (h0 : ¬ x < 0) (h1 : x < y) (hv : v.category = 1) : scMet d M_J3_checkIndex_8e157 l B H0 sk sv D cA μ [.int x, .int y, v] (scQc B H0 D cA (some (.int x)) μ) := by
  refine scMet.of (n := 0) (by decide +kernel) (by simp only [List.mem_cons, List.not_mem_nil, or_false, forall_eq_or_imp, forall_eq]; exact ⟨rfl, rfl, hv⟩) rfl ?_
  refine sc_iload_n (i := 0) (by decide +kernel) rfl ?_
  refine sc_if (cc := .lt) (off := 8) 9 (by decide +kernel) rfl (fun q => absurd q h0) (fun _ => ?_)
  refine sc_iload_n (i := 0) (by decide +kernel) rfl ?_
  refine sc_iload_n (i := 1) (by decide +kernel) rfl ?_
  refine sc_icmp (cc := .lt) (off := 10) 16 (by decide +kernel) rfl (fun _ => ?_) (fun q => absurd h1 q)
  refine sc_iload_n (i := 0) (by decide +kernel) rfl ?_
  exact sc_ireturn .int (by decide +kernel) rfl rfl (fun _ _ _ h => ⟨rfl, h⟩)
theorem w_check {d : Nat} {l : Launch} {B : Nat} {H0 : Heap} {sk sv : Nat → Nat} {D : va_G} {cA : Nat → ClassId} {μ : mmMem} {x y : Int32} (hd : 1 ≤ d) (h0 : ¬ x < 0) (h1 : x < y) : scMet d M_J0_checkIndex_df160 l B H0 sk sv D cA μ [.int x, .int y] (scQc B H0 D cA none μ) := by
  refine scMet.of (n := 0) (by decide +kernel) (by simp [Value.category]) rfl ?_
  refine sc_iload_n (i := 0) (by decide +kernel) rfl ?_
  refine sc_iload_n (i := 1) (by decide +kernel) rfl ?_
  refine sc_form rfl (by decide +kernel) (fun v hv => ?_)
  have hc : v.category = 1 := by rcases hv with rfl | ⟨t, rfl⟩ <;> rfl
  refine sc_callS (d' := d - 1) (n := 1059) (w := 554) [.int x, .int y, v] rfl (by decide +kernel) (by decide +kernel) g_J3_checkIndex_8e157 (by omega) rfl (by simp) (w_pcheck h0 h1 hc) ?_
  refine sc_pop (by decide +kernel) rfl ?_
  exact sc_return (by decide +kernel) rfl (fun _ _ _ h => ⟨rfl, h⟩)
theorem sc_k0 : ∀ k, k < 11 → ¬ nI k < 0 ∧ nI k < 11 := by decide +kernel
theorem sc_l0 : ∀ k, k < 11 → ((ltr k &&& 255).toUInt32 % 65536).toInt32 = ltr k ∧ narrow .char (.int (ltr k)) = .int (ltr k) := by decide +kernel
theorem w_lchar {d : Nat} {l : Launch} {B : Nat} {H0 : Heap} {sk sv : Nat → Nat} {D : va_G} {cA : Nat → ClassId} {μ : mmMem} {k : Nat} (hd : 2 ≤ d) (hk : k < 11) : scMet d M_J1_charAt_3b067 l B H0 sk sv D cA μ [.ref (sv 0), .int (nI k)] (scQc B H0 D cA (some (.int (ltr k))) μ) := by
  refine scMet.of (n := 0) (by decide +kernel) (by simp [Value.category]) rfl ?_
  refine sc_iload_n (i := 1) (by decide +kernel) rfl ?_
  refine sc_aload_n (i := 0) (by decide +kernel) rfl ?_
  refine sc_alen (by decide +kernel) ?_
  refine sc_callS (d' := d - 1) (n := 9) (w := 549) [.int (nI k), .int 11] rfl (by decide +kernel) (by decide +kernel) g_J0_checkIndex_df160 (by omega) rfl (by simp) (w_check (by omega) (sc_k0 k hk).1 (sc_k0 k hk).2) ?_
  refine sc_aload_n (i := 0) (by decide +kernel) rfl ?_
  refine sc_iload_n (i := 1) (by decide +kernel) rfl ?_
  refine sc_baload (by decide +kernel) rfl hk ?_
  refine sc_sipush (n := 255) 255 (by decide +kernel) rfl ?_
  refine sc_iand (by decide +kernel) ?_
  refine sc_i2c (ltr k) (by decide +kernel) (sc_l0 k hk).1 ?_
  exact sc_ireturn .char (by decide +kernel) rfl (sc_l0 k hk).2 (fun _ _ _ h => ⟨rfl, h⟩)
theorem w_charE {d k : Nat} {l : Launch} {B : Nat} {H0 : Heap} {sk sv : Nat → Nat} {D : va_G} {cA : Nat → ClassId} {μ : mmMem} {Qc : Array Value → State → Outcome → State → Prop} (hd : 3 ≤ d) (hk : k < 11) (hQ : ∀ (a : Array Value) (s t : State), mmH B H0 D cA μ t.heap → Qc a s (.returned (some (.int (ltr k)))) t) : scMet d M_J0_charAt_5068e l B H0 sk sv D cA μ [.ref (sk 0), .int (nI k)] Qc := by
  refine scMet.of (n := 0) (by decide +kernel) (by simp [Value.category]) rfl ?_
  refine sc_aload_n (i := 0) (by decide +kernel) rfl ?_
  refine sc_callV (d' := d - 1) (n := 492) (w := 541) [] rfl rfl (by decide +kernel) (by decide +kernel) g_J0_isLatin1_aae02 (by omega) rfl (by simp) w_latin ?_
  refine sc_if (cc := .eq) (off := 12) 16 (by decide +kernel) rfl (fun q => absurd q (by simp only [mmCt, mmCf]; decide)) (fun _ => ?_)
  refine sc_aload_n (i := 0) (by decide +kernel) rfl ?_
  refine sc_value rfl (by decide +kernel) ?_
  refine sc_iload_n (i := 1) (by decide +kernel) rfl ?_
  refine sc_callS (d' := d - 1) (n := 495) (w := 546) [.ref (sv 0), .int (nI k)] rfl (by decide +kernel) (by decide +kernel) g_J1_charAt_3b067 (by omega) rfl (by simp) (w_lchar (by omega) hk) ?_
  exact sc_ireturn .char (by decide +kernel) rfl (sc_l0 k hk).2 hQ
theorem sc_strOK : strOK := by
  intro d k μ K hd hk hK
  refine sc_mm (d' := 3) g_J0_charAt_5068e rfl (by omega) (fun l B H0 sk sv D cA => ?_)
  exact w_charE (Nat.le_refl _) hk (fun a s t h => ⟨some (.int (ltr k)), μ, rfl, hK, h⟩)

