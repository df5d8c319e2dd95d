/-! ===== making objects: what lies at the places made so far ===== -/
def ctU (es : Nat → va_E) (a : Nat) (e : va_E) : Nat → va_E := fun b => if b = a then e else es b
def ctWd (B n : Nat) (es : Nat → va_E) : va_W := (List.range n).map fun a => (B + a, es a)
def ctH (B : Nat) (H0 : Heap) (D : va_G) (n : Nat) (es : Nat → va_E) (H : Heap) : Prop := H.size = B + n ∧ (∀ q : Nat, q < B → H[q]? = H0[q]?) ∧ va_P D vwCl (ctWd B n es) H
def ctMu : mmMem := (fun a k => if mmKD a = 0 then (if k = 0 then -1 else 0) else 0, fun _ _ => 0, fun _ _ => 0)
def ctFn (B : Nat) (cA : Nat → ClassId) (r : Nat) (es : Nat → va_E) : Nat → va_E := fun b => if b < r then es b else mmE B cA ctMu b
def ctR (d mc ms : Nat) : Room := { frames := d, cells := mc, slots := ms, locals := 100 * d }
theorem ctWd_get {B n : Nat} {es : Nat → va_E} {a : Nat} (h : a < n) : (ctWd B n es)[a]? = some (B + a, es a) := by simp [ctWd, h]
theorem ctWd_inv {B n : Nat} {es : Nat → va_E} {k : Nat} {q : Nat × va_E} (h : (ctWd B n es)[k]? = some q) : k < n ∧ q = (B + k, es k) := by
  have hk : k < n := by
    have h1 := (List.getElem?_eq_some_iff.mp h).1
    simpa [ctWd] using h1
  rw [ctWd_get hk] at h
  cases h
  exact ⟨hk, rfl⟩
theorem ctWd_D {B n : Nat} {es : Nat → va_E} : va_D (fun q => B ≤ q) (ctWd B n es) := by
  refine ⟨fun i j p q hi hj h => ?_, fun k q hk => ?_⟩
  · obtain ⟨-, rfl⟩ := ctWd_inv hi
    obtain ⟨-, rfl⟩ := ctWd_inv hj
    simpa using h
  · obtain ⟨-, rfl⟩ := ctWd_inv hk
    show B ≤ B + k
    omega
theorem ctWd_set {B n a : Nat} {es : Nat → va_E} {e : va_E} (ha : a < n) : (ctWd B n es).set a (B + a, e) = ctWd B n (ctU es a e) := mm_mapset ha (fun b hb => by simp [ctU, hb]) (by simp [ctU])
theorem ctWd_congr {B n : Nat} {es es' : Nat → va_E} (h : ∀ a, a < n → es a = es' a) : ctWd B n es = ctWd B n es' := by
  unfold ctWd
  refine List.map_congr_left (fun a ha => ?_)
  rw [h a (List.mem_range.mp ha)]
theorem ctH.congr {B : Nat} {H0 H : Heap} {D : va_G} {n : Nat} {es es' : Nat → va_E} (h : ∀ a, a < n → es a = es' a) (hH : ctH B H0 D n es H) : ctH B H0 D n es' H := ⟨hH.1, hH.2.1, by rw [← ctWd_congr h]; exact hH.2.2⟩
theorem ctH.push {B : Nat} {H0 H H1 : Heap} {D : va_G} {n : Nat} {es : Nat → va_E} {e : va_E} (h : ctH B H0 D n es H) (hs : H1.size = B + n + 1) (ho : ∀ q, q < B + n → H1[q]? = H[q]?) (hc : va_at D vwCl (B + n, e) H1) : ctH B H0 D (n + 1) (ctU es n e) H1 := by
  refine ⟨by omega, fun q hq => (ho q (by omega)).trans (h.2.1 q hq), fun k q hk => ?_⟩
  obtain ⟨hkn, rfl⟩ := ctWd_inv hk
  by_cases hkk : k = n
  · subst hkk
    simpa [ctU] using hc
  · have h1 := h.2.2 k (B + k, es k) (ctWd_get (by omega))
    have h2 : ctU es n e k = es k := by simp [ctU, hkk]
    rw [h2]
    exact h1.kept (ho _ (by show B + k < B + n; omega))
theorem ctFn_ctU {B : Nat} {cA : Nat → ClassId} {r : Nat} {es : Nat → va_E} {e : va_E} : ctFn B cA r (ctU es r e) = ctFn B cA r es := by
  funext b
  unfold ctFn ctU
  split
  · rename_i h
    rw [if_neg (by omega)]
  · rfl
def ctS (B : Nat) (H0 : Heap) (sk sv : Nat → Nat) (D : va_G) (cA : Nat → ClassId) (U : State) : Prop := mmS B H0 sk sv D cA U ∧ va_AO RX1 U ∧ va_AO RX6 U ∧ va_AO RX2 U
theorem ctS.warm {B : Nat} {H0 : Heap} {sk sv : Nat → Nat} {D : va_G} {cA : Nat → ClassId} {s U : State} (hW : s.WarmedH U.vm) (h : ctS B H0 sk sv D cA s) : ctS B H0 sk sv D cA U := ⟨mmS.warm hW h.1, va_AO.moved hW.alike h.2.1, va_AO.moved hW.alike h.2.2.1, va_AO.moved hW.alike h.2.2.2⟩
theorem ctS.same {B : Nat} {H0 : Heap} {sk sv : Nat → Nat} {D : va_G} {cA : Nat → ClassId} {s U : State} (hv : U.vm = s.vm) (h : ctS B H0 sk sv D cA s) : ctS B H0 sk sv D cA U := by
  have hA : s.vm.Alike U.vm := by rw [hv]; exact Vm.Alike.refl s.vm
  exact ⟨mmS.same hv h.1, va_AO.moved hA h.2.1, va_AO.moved hA h.2.2.1, va_AO.moved hA h.2.2.2⟩
theorem ct_bytes {N : Nat} (h : N ≤ 2000) (ty : FieldType) : N * componentBytes ty ≤ 536870912 := by
  have h1 : componentBytes ty ≤ 8 := by cases ty <;> exact Nat.le_of_ble_eq_true rfl
  have h2 := Nat.mul_le_mul_left N h1
  omega
theorem ct_in {x : Int32} {N : Nat} (h : ¬ x < 0) (h1 : x.toNatClampNeg < N) : vp_in x N := by
  intro w
  rcases w with w | w
  · exact h w
  · omega
def ctPc (B : Nat) (H0 : Heap) (sk sv : Nat → Nat) (D : va_G) (cA : Nat → ClassId) (r : Nat) (es : Nat → va_E) : Array Value → State → Prop := fun a U => a = #[.ref (B + r)] ∧ ctH B H0 D (r + 1) es U.heap ∧ ctS B H0 sk sv D cA U
def ctQc (B : Nat) (H0 : Heap) (D : va_G) (cA : Nat → ClassId) (r w : Nat) (es : Nat → va_E) : Array Value → State → Outcome → State → Prop := fun _ _ oc t => oc = .returned none ∧ ctH B H0 D (r + w) (ctFn B cA r es) t.heap
def ctE (d : Nat) (M : mmMi) (l : Launch) (B : Nat) (H0 : Heap) (sk sv : Nat → Nat) (D : va_G) (cA : Nat → ClassId) (mc ms n : Nat) (es : Nat → va_E) (k z pc : Nat) (L st : List Value) (Qc : Array Value → State → Outcome → State → Prop) : Prop :=
  ∀ (p : Program) (e : Env) (s : State) (m : MethodId) (args : Array Value) (below : List Frame) (meth : Method) (c : Code) (H : Heap) (locs : List Loc) (ls : Array Slot),
    p.tables.exec = Jvm.exec → c.code = M.2.1 → meth.sig.returnType = M.2.2.2 → c.maxLocals = M.2.2.1 → s.vm.findClass M.1.cls = some m.cls → (∀ w ∈ mmT, w.before args s = true) → meth.locks = false → meth.name = "<init>" →
    ctS B H0 sk sv D cA s → scLs ls M.2.2.1 L → ctH B H0 D n es H → va_S (fun q => B ≤ q) s.heap H locs → (B ≤ s.heap.size ∧ s.heap.size + k = B + n) →
    W p l e (ctR d mc ms) s m args below meth c H locs k z (MQ below Qc args s mc ms (fun q => B ≤ q)) (F0 m pc ls st)
/-- the default of a class's fields -/
def ctDf (ci : Nat) : List Value := (List.range (mmNF ci)).map fun k => match mmFT ci k with
  | 0 => .int 0
  | 1 => .long 0
  | 2 => .double 0
  | _ => .null
/-- the constructor of the object at place r, that makes the places up to r + w: cells and slots -/
def ctK (d : Nat) (M : mmMi) (mc ms r w ci : Nat) : Prop := ∀ (l : Launch) (B : Nat) (H0 : Heap) (sk sv : Nat → Nat) (D : va_G) (cA : Nat → ClassId) (es : Nat → va_E), es r = .inr (ci, ctDf ci) → Met l M.1 (mmWs M) (ctR d mc ms) (ctPc B H0 sk sv D cA r es) (ctQc B H0 D cA r w es) mc ms (fun q => B ≤ q)
theorem ctK.of {d : Nat} {M : mmMi} {mc ms r w ci j : Nat} (hy : plainFor M.1 = true) (hyi : M.1.name = "<init>") (hj : 1 + j = M.2.2.1) (h : ∀ (l : Launch) (B : Nat) (H0 : Heap) (sk sv : Nat → Nat) (D : va_G) (cA : Nat → ClassId) (es : Nat → va_E), es r = .inr (ci, ctDf ci) → ctE d M l B H0 sk sv D cA mc ms (r + 1) es 0 0 0 (.ref (B + r) :: List.replicate j (.retAddr 7)) [] (ctQc B H0 D cA r w es)) : ctK d M mc ms r w ci := by
  intro l B H0 sk sv D cA es hes
  refine Jvm.Free.MetFree.of_bodySF (code := M.2.1) (maxLocals := M.2.2.1) (ret := M.2.2.2) hy (fun args s m hb hn => by
    obtain ⟨meth, c, h1, h2, h3, h4, h5, h6, -, -⟩ := Cond.code_spec hn (atoms_spec (ws := mmWs M) hb _ List.mem_cons_self)
    exact ⟨meth, c, h1, h2, h3, h4, h5, h6⟩) ?_
  intro p e s m args below meth c s₁ Bd hml hP _
  obtain ⟨rfl, hH, hS⟩ := hP
  have hh0 : s₁.heap = s.heap := by rw [Bd.state]; rfl
  have hts := atoms_spec (ws := mmWs M) Bd.pre
  have hinit : meth.name = "<init>" := (name_of_methodNamed Bd.named Bd.method).1.trans hyi
  have e0 : (#[Value.ref (B + r)] : Array Value) = ([Value.ref (B + r)] : List Value).toArray := rfl
  rw [e0, lg_entry_eq]
  have hen := lv_entry [Value.ref (B + r)] (n := M.2.2.1) (by rw [sc_sl _ (by simp [Value.category])]; simp; omega)
  obtain ⟨t, a1, o, b1, b2, b3⟩ := h l B H0 sk sv D cA es hes p e s m _ below meth c s.heap [] _ Bd.exec Bd.bytes Bd.returns hml (findClass_of_methodNamed Bd.named) (fun w hw => hts w (List.mem_cons_of_mem _ hw)) Bd.notSynchronized hinit hS ⟨lv_args 0 _, hen, fun i v h1 h2 => by simpa using scLo_mem [Value.ref (B + r)] 0 (by simp [Value.category]) j i v h1 h2⟩ hH ⟨Nat.le_refl _, fun q _ _ => rfl, fun q hq => by cases hq⟩ ⟨by rw [hH.1]; omega, by rw [hH.1]; omega⟩ s₁ hh0 (Stand.of_body Bd)
  exact ⟨t, o, a1, b1, b2, ⟨b3.1, b3.2⟩⟩
theorem ctE.congr {d : Nat} {M : mmMi} {l : Launch} {B : Nat} {H0 : Heap} {sk sv : Nat → Nat} {D : va_G} {cA : Nat → ClassId} {mc ms n : Nat} {es : Nat → va_E} {k z : Nat} {L st : List Value} {pc : Nat} {Qc : Array Value → State → Outcome → State → Prop} (es' : Nat → va_E) (he : ∀ a, a < n → es a = es' a) (h : ctE d M l B H0 sk sv D cA mc ms n es' k z pc L st Qc) : ctE d M l B H0 sk sv D cA mc ms n es k z pc L st Qc :=
  fun p e s m args below meth c H locs ls hx hb hr hml hown hts hlk hin hS hls hH hF hB => h p e s m args below meth c H locs ls hx hb hr hml hown hts hlk hin hS hls (hH.congr he) hF hB
theorem ctH.F {B : Nat} {H0 H H1 Hs : Heap} {D : va_G} {n n1 : Nat} {es es1 : Nat → va_E} {locs locs1 : List Loc} (hH : ctH B H0 D n es H) (hH1 : ctH B H0 D n1 es1 H1) (hF : va_S (fun q => B ≤ q) Hs H locs) (hn : n ≤ n1) (hl : ∀ q ∈ locs1, B ≤ q.base) : va_S (fun q => B ≤ q) Hs H1 locs1 := by
  refine ⟨by have := hF.1; have := hH.1; have := hH1.1; omega, fun q h1 h2 => ?_, hl⟩
  have hq : q < B := Nat.not_le.mp h2
  rw [hH1.2.1 q hq, ← hH.2.1 q hq]
  exact hF.2.1 q h1 h2

theorem ct_aload_n {d : Nat} {M : mmMi} {l : Launch} {B : Nat} {H0 : Heap} {sk sv : Nat → Nat} {D : va_G} {cA : Nat → ClassId} {mc ms n : Nat} {es : Nat → va_E} {k z : Nat} {L st : List Value} {pc : Nat} {Qc : Array Value → State → Outcome → State → Prop} {i : Fin 4} {x : Nat} (hd : decode M.2.1 pc = .ok (.aload_n i, 1)) (hg : L[i.val]? = some (.ref x)) (kk : ctE d M l B H0 sk sv D cA mc ms n es k z (pc + 1) L (.ref x :: st) Qc) : ctE d M l B H0 sk sv D cA mc ms n es k z pc L st Qc := by
  intro p e s m args below meth c H locs ls hx hb hr hml hown hts hlk hin hS hls hH hF hB
  exact lv_aload_n hx hb hd rfl (hls.at hg (fun hq => by cases hq)) (kk p e s m args below meth c H locs ls hx hb hr hml hown hts hlk hin hS hls hH hF hB)
theorem ct_iload_n {d : Nat} {M : mmMi} {l : Launch} {B : Nat} {H0 : Heap} {sk sv : Nat → Nat} {D : va_G} {cA : Nat → ClassId} {mc ms n : Nat} {es : Nat → va_E} {k z : Nat} {L st : List Value} {pc : Nat} {Qc : Array Value → State → Outcome → State → Prop} {i : Fin 4} {x : Int32} (hd : decode M.2.1 pc = .ok (.iload_n i, 1)) (hg : L[i.val]? = some (.int x)) (kk : ctE d M l B H0 sk sv D cA mc ms n es k z (pc + 1) L (.int x :: st) Qc) : ctE d M l B H0 sk sv D cA mc ms n es k z pc L st Qc := by
  intro p e s m args below meth c H locs ls hx hb hr hml hown hts hlk hin hS hls hH hF hB
  exact lv_iload_n hx hb hd rfl (hls.at hg (fun hq => by cases hq)) (kk p e s m args below meth c H locs ls hx hb hr hml hown hts hlk hin hS hls hH hF hB)
theorem ct_iconst {d : Nat} {M : mmMi} {l : Launch} {B : Nat} {H0 : Heap} {sk sv : Nat → Nat} {D : va_G} {cA : Nat → ClassId} {mc ms n : Nat} {es : Nat → va_E} {k z : Nat} {L st : List Value} {pc : Nat} {Qc : Array Value → State → Outcome → State → Prop} {i : Int} (x : Int32) (hd : decode M.2.1 pc = .ok (.iconst i, 1)) (hv : Int32.ofInt i = x) (kk : ctE d M l B H0 sk sv D cA mc ms n es k z (pc + 1) L (.int x :: st) Qc) : ctE d M l B H0 sk sv D cA mc ms n es k z pc L st Qc := by
  intro p e s m args below meth c H locs ls hx hb hr hml hown hts hlk hin hS hls hH hF hB
  exact lv_iconst hx hb hd hv (kk p e s m args below meth c H locs ls hx hb hr hml hown hts hlk hin hS hls hH hF hB)
theorem ct_bipush {d : Nat} {M : mmMi} {l : Launch} {B : Nat} {H0 : Heap} {sk sv : Nat → Nat} {D : va_G} {cA : Nat → ClassId} {mc ms n : Nat} {es : Nat → va_E} {k z : Nat} {L st : List Value} {pc : Nat} {Qc : Array Value → State → Outcome → State → Prop} {i : Int} (x : Int32) (hd : decode M.2.1 pc = .ok (.bipush i, 2)) (hv : (Int8.ofInt i).toInt32 = x) (kk : ctE d M l B H0 sk sv D cA mc ms n es k z (pc + 2) L (.int x :: st) Qc) : ctE d M l B H0 sk sv D cA mc ms n es k z pc L st Qc := by
  intro p e s m args below meth c H locs ls hx hb hr hml hown hts hlk hin hS hls hH hF hB
  exact lv_bipush hx hb hd hv (kk p e s m args below meth c H locs ls hx hb hr hml hown hts hlk hin hS hls hH hF hB)
theorem ct_sipush {d : Nat} {M : mmMi} {l : Launch} {B : Nat} {H0 : Heap} {sk sv : Nat → Nat} {D : va_G} {cA : Nat → ClassId} {mc ms n : Nat} {es : Nat → va_E} {k z : Nat} {L st : List Value} {pc : Nat} {Qc : Array Value → State → Outcome → State → Prop} {i : Int} (x : Int32) (hd : decode M.2.1 pc = .ok (.sipush i, 3)) (hv : (Int16.ofInt i).toInt32 = x) (kk : ctE d M l B H0 sk sv D cA mc ms n es k z (pc + 3) L (.int x :: st) Qc) : ctE d M l B H0 sk sv D cA mc ms n es k z pc L st Qc := by
  intro p e s m args below meth c H locs ls hx hb hr hml hown hts hlk hin hS hls hH hF hB
  exact lv_sipush hx hb hd hv (kk p e s m args below meth c H locs ls hx hb hr hml hown hts hlk hin hS hls hH hF hB)
theorem ct_goto {d : Nat} {M : mmMi} {l : Launch} {B : Nat} {H0 : Heap} {sk sv : Nat → Nat} {D : va_G} {cA : Nat → ClassId} {mc ms n : Nat} {es : Nat → va_E} {k z : Nat} {L st : List Value} {pc : Nat} {Qc : Array Value → State → Outcome → State → Prop} {off : Int} (t : Nat) (hd : decode M.2.1 pc = .ok (.goto off, 3)) (ht : (pc : Int) + off = (t : Int)) (kk : ctE d M l B H0 sk sv D cA mc ms n es k z t L st Qc) : ctE d M l B H0 sk sv D cA mc ms n es k z pc L st Qc := by
  intro p e s m args below meth c H locs ls hx hb hr hml hown hts hlk hin hS hls hH hF hB
  exact lv_goto hx hb hd ht (kk p e s m args below meth c H locs ls hx hb hr hml hown hts hlk hin hS hls hH hF hB)
theorem ct_icmpge {d : Nat} {M : mmMi} {l : Launch} {B : Nat} {H0 : Heap} {sk sv : Nat → Nat} {D : va_G} {cA : Nat → ClassId} {mc ms n : Nat} {es : Nat → va_E} {k z : Nat} {L st : List Value} {pc : Nat} {Qc : Array Value → State → Outcome → State → Prop} {off : Int} {x y : Int32} (t : Nat) (hd : decode M.2.1 pc = .ok (.if_icmp .ge off, 3)) (ht : (pc : Int) + off = (t : Int)) (h1 : y ≤ x → ctE d M l B H0 sk sv D cA mc ms n es k z t L st Qc) (h2 : ¬ y ≤ x → ctE d M l B H0 sk sv D cA mc ms n es k z (pc + 3) L st Qc) : ctE d M l B H0 sk sv D cA mc ms n es k z pc L (.int y :: .int x :: st) Qc := by
  intro p e s m args below meth c H locs ls hx hb hr hml hown hts hlk hin hS hls hH hF hB
  exact lv_icmp_ge hx hb hd ht (fun q => h1 q p e s m args below meth c H locs ls hx hb hr hml hown hts hlk hin hS hls hH hF hB) (fun q => h2 q p e s m args below meth c H locs ls hx hb hr hml hown hts hlk hin hS hls hH hF hB)
theorem ct_istore_n {d : Nat} {M : mmMi} {l : Launch} {B : Nat} {H0 : Heap} {sk sv : Nat → Nat} {D : va_G} {cA : Nat → ClassId} {mc ms n : Nat} {es : Nat → va_E} {k z : Nat} {L st : List Value} {pc : Nat} {Qc : Array Value → State → Outcome → State → Prop} {i : Fin 4} {x : Int32} (hd : decode M.2.1 pc = .ok (.istore_n i, 1)) (hi : i.val < M.2.2.1) (hc : ∀ w ∈ L, w.category = 1) (kk : ctE d M l B H0 sk sv D cA mc ms n es k z (pc + 1) (L.set i.val (.int x)) st Qc) : ctE d M l B H0 sk sv D cA mc ms n es k z pc L (.int x :: st) Qc := by
  intro p e s m args below meth c H locs ls hx hb hr hml hown hts hlk hin hS hls hH hF hB
  obtain ⟨lv, hlv, hmem⟩ := hls
  exact lv_istore_n hx hb hd rfl hlv hi rfl (fun ls2 hls2 => kk p e s m args below meth c H locs _ hx hb hr hml hown hts hlk hin hS (scLs.st hmem hls2 hc) hH hF hB)
theorem ct_iinc {d : Nat} {M : mmMi} {l : Launch} {B : Nat} {H0 : Heap} {sk sv : Nat → Nat} {D : va_G} {cA : Nat → ClassId} {mc ms n : Nat} {es : Nat → va_E} {k z : Nat} {L st : List Value} {pc : Nat} {Qc : Array Value → State → Outcome → State → Prop} {i : Nat} {j : Int} {x : Int32} (v : Int32) (hd : decode M.2.1 pc = .ok (.iinc i j, 3)) (hi : i < M.2.2.1) (hg : L[i]? = some (.int x)) (hv : x + Int32.ofInt j = v) (hc : ∀ w ∈ L, w.category = 1) (kk : ctE d M l B H0 sk sv D cA mc ms n es k z (pc + 3) (L.set i (.int v)) st Qc) : ctE d M l B H0 sk sv D cA mc ms n es k z pc L st Qc := by
  intro p e s m args below meth c H locs ls hx hb hr hml hown hts hlk hin hS hls hH hF hB
  obtain ⟨lv, hlv, hmem⟩ := hls
  obtain ⟨q, hq⟩ := List.getElem?_of_mem (hmem i (.int x) hg (fun hq => by cases hq))
  exact lv_iinc hx hb hd hlv hq hv hi rfl (fun ls2 hls2 => kk p e s m args below meth c H locs _ hx hb hr hml hown hts hlk hin hS (scLs.st hmem hls2 hc) hH hF hB)
theorem ct_objInit {d : Nat} {M : mmMi} {l : Launch} {B : Nat} {H0 : Heap} {sk sv : Nat → Nat} {D : va_G} {cA : Nat → ClassId} {mc ms n : Nat} {es : Nat → va_E} {k z : Nat} {L st : List Value} {pc : Nat} {Qc : Array Value → State → Outcome → State → Prop} {i w : Nat} {x : Nat} (hd : decode M.2.1 pc = .ok (.invokespecial i, 3)) (hw : lw_tbl[w]? = some (.methodLink M.1.cls i Lib.objectInit)) (h1d : 1 ≤ d) (hst : st = []) (kk : ctE d M l B H0 sk sv D cA mc ms n es k z (pc + 3) L st Qc) : ctE d M l B H0 sk sv D cA mc ms n es k z pc L (.ref x :: st) Qc := by
  intro p e s m args below meth c H locs ls hx hb hr hml hown hts hlk hin hS hls hH hF hB
  subst hst
  have hls1 : ls.size = M.2.2.1 := hls.choose_spec.1.1
  exact W.objInit hx hb hown (mm_word (M := M) hts hw rfl) (hts _ (mm_in 88 (by decide +kernel) rfl)) (hts _ (mm_in 89 (by decide +kernel) rfl)) rfl (by rw [hml]; exact hls1) rfl hd (by show 1 ≤ d; exact h1d) (by show 2 * 0 + 0 + 12 ≤ 100 * d; omega) (kk p e s m args below meth c H locs ls hx hb hr hml hown hts hlk hin hS hls hH hF hB)
theorem ct_newI {d : Nat} {M : mmMi} {l : Launch} {B : Nat} {H0 : Heap} {sk sv : Nat → Nat} {D : va_G} {cA : Nat → ClassId} {mc ms n : Nat} {es : Nat → va_E} {k z : Nat} {L st : List Value} {pc : Nat} {Qc : Array Value → State → Outcome → State → Prop} {x : Int32} (N : Nat) (hd : decode M.2.1 pc = .ok (.newarray .int, 2)) (hx0 : ¬ x < 0) (hN : x.toNatClampNeg = N) (hN9 : N ≤ 2000) (hk : k + 1 ≤ mc) (hz : z + N ≤ ms) (kk : ctE d M l B H0 sk sv D cA mc ms (n + 1) (ctU es n (.inl (cA 0, N, .inl fun _ => 0))) (k + 1) (z + N) (pc + 2) L (.ref (B + n) :: st) Qc) : ctE d M l B H0 sk sv D cA mc ms n es k z pc L (.int x :: st) Qc := by
  intro p e s m args below meth c H locs ls hx hb hr hml hown hts hlk hin hS hls hH hF hB
  refine va_newaK (N := N) (h := B + n) hx hb (atype := .int) (hts (.arrayClass .int) (mm_in 126 (by decide +kernel) rfl)) rfl hd rfl hx0 hN (ct_bytes hN9 .int) hk hz hH.1 (fun H1 cA1 e1 z1 o1 hAr hNm => ?_)
  have hc : cA1 = cA 0 := Option.some.inj ((show s.vm.findClass _ = some cA1 from hNm).symm.trans (hS.1.2.1.2 0 _ rfl).2)
  subst hc
  have hH1 := hH.push (H1 := H1) (e := .inl (cA 0, N, .inl fun _ => 0)) z1 o1 e1
  exact kk p e s m args below meth c H1 locs ls hx hb hr hml hown hts hlk hin hS hls hH1 (hH.F hH1 hF (by omega) hF.2.2) ⟨hB.1, by omega⟩
theorem ct_newJ {d : Nat} {M : mmMi} {l : Launch} {B : Nat} {H0 : Heap} {sk sv : Nat → Nat} {D : va_G} {cA : Nat → ClassId} {mc ms n : Nat} {es : Nat → va_E} {k z : Nat} {L st : List Value} {pc : Nat} {Qc : Array Value → State → Outcome → State → Prop} {x : Int32} (N : Nat) (hd : decode M.2.1 pc = .ok (.newarray .long, 2)) (hx0 : ¬ x < 0) (hN : x.toNatClampNeg = N) (hN9 : N ≤ 2000) (hk : k + 1 ≤ mc) (hz : z + N ≤ ms) (kk : ctE d M l B H0 sk sv D cA mc ms (n + 1) (ctU es n (.inl (cA 1, N, .inr (.inl fun _ => 0)))) (k + 1) (z + N) (pc + 2) L (.ref (B + n) :: st) Qc) : ctE d M l B H0 sk sv D cA mc ms n es k z pc L (.int x :: st) Qc := by
  intro p e s m args below meth c H locs ls hx hb hr hml hown hts hlk hin hS hls hH hF hB
  refine va_newaK (N := N) (h := B + n) hx hb (atype := .long) (hts (.arrayClass .long) (mm_in 128 (by decide +kernel) rfl)) rfl hd rfl hx0 hN (ct_bytes hN9 .long) hk hz hH.1 (fun H1 cA1 e1 z1 o1 hAr hNm => ?_)
  have hc : cA1 = cA 1 := Option.some.inj ((show s.vm.findClass _ = some cA1 from hNm).symm.trans (hS.1.2.1.2 1 _ rfl).2)
  subst hc
  have hH1 := hH.push (H1 := H1) (e := .inl (cA 1, N, .inr (.inl fun _ => 0))) z1 o1 e1
  exact kk p e s m args below meth c H1 locs ls hx hb hr hml hown hts hlk hin hS hls hH1 (hH.F hH1 hF (by omega) hF.2.2) ⟨hB.1, by omega⟩
theorem ct_newD {d : Nat} {M : mmMi} {l : Launch} {B : Nat} {H0 : Heap} {sk sv : Nat → Nat} {D : va_G} {cA : Nat → ClassId} {mc ms n : Nat} {es : Nat → va_E} {k z : Nat} {L st : List Value} {pc : Nat} {Qc : Array Value → State → Outcome → State → Prop} {x : Int32} (N : Nat) (hd : decode M.2.1 pc = .ok (.newarray .double, 2)) (hx0 : ¬ x < 0) (hN : x.toNatClampNeg = N) (hN9 : N ≤ 2000) (hk : k + 1 ≤ mc) (hz : z + N ≤ ms) (kk : ctE d M l B H0 sk sv D cA mc ms (n + 1) (ctU es n (.inl (cA 2, N, .inr (.inr (.inr (.inl fun _ => 0)))))) (k + 1) (z + N) (pc + 2) L (.ref (B + n) :: st) Qc) : ctE d M l B H0 sk sv D cA mc ms n es k z pc L (.int x :: st) Qc := by
  intro p e s m args below meth c H locs ls hx hb hr hml hown hts hlk hin hS hls hH hF hB
  refine va_newaK (N := N) (h := B + n) hx hb (atype := .double) (hts (.arrayClass .double) (mm_in 129 (by decide +kernel) rfl)) rfl hd rfl hx0 hN (ct_bytes hN9 .double) hk hz hH.1 (fun H1 cA1 e1 z1 o1 hAr hNm => ?_)
  have hc : cA1 = cA 2 := Option.some.inj ((show s.vm.findClass _ = some cA1 from hNm).symm.trans (hS.1.2.1.2 2 _ rfl).2)
  subst hc
  have hH1 := hH.push (H1 := H1) (e := .inl (cA 2, N, .inr (.inr (.inr (.inl fun _ => 0))))) z1 o1 e1
  exact kk p e s m args below meth c H1 locs ls hx hb hr hml hown hts hlk hin hS hls hH1 (hH.F hH1 hF (by omega) hF.2.2) ⟨hB.1, by omega⟩
theorem ct_newZ {d : Nat} {M : mmMi} {l : Launch} {B : Nat} {H0 : Heap} {sk sv : Nat → Nat} {D : va_G} {cA : Nat → ClassId} {mc ms n : Nat} {es : Nat → va_E} {k z : Nat} {L st : List Value} {pc : Nat} {Qc : Array Value → State → Outcome → State → Prop} {x : Int32} (N : Nat) (hd : decode M.2.1 pc = .ok (.newarray .boolean, 2)) (hx0 : ¬ x < 0) (hN : x.toNatClampNeg = N) (hN9 : N ≤ 2000) (hk : k + 1 ≤ mc) (hz : z + N ≤ ms) (kk : ctE d M l B H0 sk sv D cA mc ms (n + 1) (ctU es n (.inl (cA 3, N, .inl fun _ => 0))) (k + 1) (z + N) (pc + 2) L (.ref (B + n) :: st) Qc) : ctE d M l B H0 sk sv D cA mc ms n es k z pc L (.int x :: st) Qc := by
  intro p e s m args below meth c H locs ls hx hb hr hml hown hts hlk hin hS hls hH hF hB
  refine va_newaK (N := N) (h := B + n) hx hb (atype := .boolean) (hts (.arrayClass .boolean) (mm_in 127 (by decide +kernel) rfl)) rfl hd rfl hx0 hN (ct_bytes hN9 .boolean) hk hz hH.1 (fun H1 cA1 e1 z1 o1 hAr hNm => ?_)
  have hc : cA1 = cA 3 := Option.some.inj ((show s.vm.findClass _ = some cA1 from hNm).symm.trans (hS.1.2.1.2 3 _ rfl).2)
  subst hc
  have hH1 := hH.push (H1 := H1) (e := .inl (cA 3, N, .inl fun _ => 0)) z1 o1 e1
  exact kk p e s m args below meth c H1 locs ls hx hb hr hml hown hts hlk hin hS hls hH1 (hH.F hH1 hF (by omega) hF.2.2) ⟨hB.1, by omega⟩
theorem ct_anewC {d : Nat} {M : mmMi} {l : Launch} {B : Nat} {H0 : Heap} {sk sv : Nat → Nat} {D : va_G} {cA : Nat → ClassId} {mc ms n : Nat} {es : Nat → va_E} {k z : Nat} {L st : List Value} {pc : Nat} {Qc : Array Value → State → Outcome → State → Prop} {x : Int32} {i w : Nat} (N : Nat) (hd : decode M.2.1 pc = .ok (.anewarray i, 3)) (hw : lw_tbl[w]? = some (.classLink M.1.cls i RX1)) (hx0 : ¬ x < 0) (hN : x.toNatClampNeg = N) (hN9 : N ≤ 2000) (hk : k + 1 ≤ mc) (hz : z + N ≤ ms) (kk : ctE d M l B H0 sk sv D cA mc ms (n + 1) (ctU es n (.inl (cA 4, N, .inr (.inr (.inr (.inr fun _ => none)))))) (k + 1) (z + N) (pc + 3) L (.ref (B + n) :: st) Qc) : ctE d M l B H0 sk sv D cA mc ms n es k z pc L (.int x :: st) Qc := by
  intro p e s m args below meth c H locs ls hx hb hr hml hown hts hlk hin hS hls hH hF hB
  subst hN
  refine W.anew (C := RX1) hx hb hown (mm_word (M := M) hts hw rfl) (va_AO.use hS.2.1) rfl hd rfl hx0 (by omega) hk hz (fun cA1 kA comp f1 f2 f3 f4 => ?_)
  have hc : cA1 = cA 4 := by
    obtain ⟨kA2, comp2, -, -, -, g4⟩ := (hS.1.2.1.2 4 _ rfl).2
    exact Option.some.inj (f1.symm.trans g4)
  subst hc
  generalize hH1e : H.push ({ cls := cA 4, slots := Array.replicate x.toNatClampNeg .null, vm := .none } : Cell) = H1
  have z1 : H1.size = B + n + 1 := by rw [← hH1e, Array.size_push, hH.1]
  have e1 : H1[B + n]? = some (arrV (cA 4) x.toNatClampNeg (fun _ => .null)) := by rw [← hH1e, ← hH.1, Array.getElem?_push_size, ← arrV_new]
  have o1 : ∀ q : Nat, q < B + n → H1[q]? = H[q]? := fun q hq => by rw [← hH1e, Array.getElem?_push, if_neg (by rw [hH.1]; omega)]
  have hH1 := hH.push (H1 := H1) (e := .inl (cA 4, x.toNatClampNeg, .inr (.inr (.inr (.inr fun _ => none))))) z1 o1 (by show H1[B + n]? = some (vp_cell _ _); rw [vp_cell_q]; exact e1)
  have h9 := kk p e s m args below meth c H1 locs ls hx hb hr hml hown hts hlk hin hS hls hH1 (hH.F hH1 hF (by omega) hF.2.2) ⟨hB.1, by omega⟩
  rw [← hH.1] at h9
  exact h9
theorem ct_anewV {d : Nat} {M : mmMi} {l : Launch} {B : Nat} {H0 : Heap} {sk sv : Nat → Nat} {D : va_G} {cA : Nat → ClassId} {mc ms n : Nat} {es : Nat → va_E} {k z : Nat} {L st : List Value} {pc : Nat} {Qc : Array Value → State → Outcome → State → Prop} {x : Int32} {i w : Nat} (N : Nat) (hd : decode M.2.1 pc = .ok (.anewarray i, 3)) (hw : lw_tbl[w]? = some (.classLink M.1.cls i RX6)) (hx0 : ¬ x < 0) (hN : x.toNatClampNeg = N) (hN9 : N ≤ 2000) (hk : k + 1 ≤ mc) (hz : z + N ≤ ms) (kk : ctE d M l B H0 sk sv D cA mc ms (n + 1) (ctU es n (.inl (cA 5, N, .inr (.inr (.inr (.inr fun _ => none)))))) (k + 1) (z + N) (pc + 3) L (.ref (B + n) :: st) Qc) : ctE d M l B H0 sk sv D cA mc ms n es k z pc L (.int x :: st) Qc := by
  intro p e s m args below meth c H locs ls hx hb hr hml hown hts hlk hin hS hls hH hF hB
  subst hN
  refine W.anew (C := RX6) hx hb hown (mm_word (M := M) hts hw rfl) (va_AO.use hS.2.2.1) rfl hd rfl hx0 (by omega) hk hz (fun cA1 kA comp f1 f2 f3 f4 => ?_)
  have hc : cA1 = cA 5 := by
    obtain ⟨kA2, comp2, -, -, -, g4⟩ := (hS.1.2.1.2 5 _ rfl).2
    exact Option.some.inj (f1.symm.trans g4)
  subst hc
  generalize hH1e : H.push ({ cls := cA 5, slots := Array.replicate x.toNatClampNeg .null, vm := .none } : Cell) = H1
  have z1 : H1.size = B + n + 1 := by rw [← hH1e, Array.size_push, hH.1]
  have e1 : H1[B + n]? = some (arrV (cA 5) x.toNatClampNeg (fun _ => .null)) := by rw [← hH1e, ← hH.1, Array.getElem?_push_size, ← arrV_new]
  have o1 : ∀ q : Nat, q < B + n → H1[q]? = H[q]? := fun q hq => by rw [← hH1e, Array.getElem?_push, if_neg (by rw [hH.1]; omega)]
  have hH1 := hH.push (H1 := H1) (e := .inl (cA 5, x.toNatClampNeg, .inr (.inr (.inr (.inr fun _ => none))))) z1 o1 (by show H1[B + n]? = some (vp_cell _ _); rw [vp_cell_q]; exact e1)
  have h9 := kk p e s m args below meth c H1 locs ls hx hb hr hml hown hts hlk hin hS hls hH1 (hH.F hH1 hF (by omega) hF.2.2) ⟨hB.1, by omega⟩
  rw [← hH.1] at h9
  exact h9
theorem ct_anewF {d : Nat} {M : mmMi} {l : Launch} {B : Nat} {H0 : Heap} {sk sv : Nat → Nat} {D : va_G} {cA : Nat → ClassId} {mc ms n : Nat} {es : Nat → va_E} {k z : Nat} {L st : List Value} {pc : Nat} {Qc : Array Value → State → Outcome → State → Prop} {x : Int32} {i w : Nat} (N : Nat) (hd : decode M.2.1 pc = .ok (.anewarray i, 3)) (hw : lw_tbl[w]? = some (.classLink M.1.cls i RX2)) (hx0 : ¬ x < 0) (hN : x.toNatClampNeg = N) (hN9 : N ≤ 2000) (hk : k + 1 ≤ mc) (hz : z + N ≤ ms) (kk : ctE d M l B H0 sk sv D cA mc ms (n + 1) (ctU es n (.inl (cA 6, N, .inr (.inr (.inr (.inr fun _ => none)))))) (k + 1) (z + N) (pc + 3) L (.ref (B + n) :: st) Qc) : ctE d M l B H0 sk sv D cA mc ms n es k z pc L (.int x :: st) Qc := by
  intro p e s m args below meth c H locs ls hx hb hr hml hown hts hlk hin hS hls hH hF hB
  subst hN
  refine W.anew (C := RX2) hx hb hown (mm_word (M := M) hts hw rfl) (va_AO.use hS.2.2.2) rfl hd rfl hx0 (by omega) hk hz (fun cA1 kA comp f1 f2 f3 f4 => ?_)
  have hc : cA1 = cA 6 := by
    obtain ⟨kA2, comp2, -, -, -, g4⟩ := (hS.1.2.1.2 6 _ rfl).2
    exact Option.some.inj (f1.symm.trans g4)
  subst hc
  generalize hH1e : H.push ({ cls := cA 6, slots := Array.replicate x.toNatClampNeg .null, vm := .none } : Cell) = H1
  have z1 : H1.size = B + n + 1 := by rw [← hH1e, Array.size_push, hH.1]
  have e1 : H1[B + n]? = some (arrV (cA 6) x.toNatClampNeg (fun _ => .null)) := by rw [← hH1e, ← hH.1, Array.getElem?_push_size, ← arrV_new]
  have o1 : ∀ q : Nat, q < B + n → H1[q]? = H[q]? := fun q hq => by rw [← hH1e, Array.getElem?_push, if_neg (by rw [hH.1]; omega)]
  have hH1 := hH.push (H1 := H1) (e := .inl (cA 6, x.toNatClampNeg, .inr (.inr (.inr (.inr fun _ => none))))) z1 o1 (by show H1[B + n]? = some (vp_cell _ _); rw [vp_cell_q]; exact e1)
  have h9 := kk p e s m args below meth c H1 locs ls hx hb hr hml hown hts hlk hin hS hls hH1 (hH.F hH1 hF (by omega) hF.2.2) ⟨hB.1, by omega⟩
  rw [← hH.1] at h9
  exact h9
theorem ct_use {p : Program} {l : Launch} {e : Env} {R : Room} {s : State} {m : MethodId} {args : Array Value} {below : List Frame} {meth : Method} {c : Code} {H : Heap} {locs : List Loc} {pc k z mc ms : Nat} {ls : Array Slot} {st0 rest : List Value} {Q : State → Prop} {B : Nat} {H0 : Heap} {D : va_G} {cA : Nat → ClassId} {a : Array Value} {r w : Nat} {es : Nat → va_E}
    (hr : va_Run p l e R s m args below meth c H locs k z mc ms (F0 m pc ls st0) rest (ctQc B H0 D cA r w es a) (fun q => B ≤ q)) (hH : ctH B H0 D (r + 1) es H) (hw : 1 ≤ w) (hF : va_S (fun q => B ≤ q) s.heap H locs)
    (kk : ∀ (H1 : Heap) (locs1 : List Loc), ctH B H0 D (r + w) (ctFn B cA r es) H1 → va_S (fun q => B ≤ q) s.heap H1 locs1 → W p l e R s m args below meth c H1 locs1 (k + mc) (z + ms) Q (F0 m (pc + 3) ls rest)) :
    W p l e R s m args below meth c H locs k z Q (F0 m pc ls st0) := by
  intro T hT X
  obtain ⟨v, st₀, t, T', L, h0, X', hL, e1, e2, ⟨hv, hh⟩, st⟩ := hr T hT X
  cases hv
  have hh1 : ctH B H0 D (r + w) (ctFn B cA r es) T'.heap := by rw [e1]; exact hh
  have hv1 := hH.F (locs1 := locs ++ L) hh1 hF (by omega) (fun q hq => by
    rcases List.mem_append.mp hq with h | h
    · exact hF.2.2 q h
    · exact hL q h)
  obtain ⟨t2, a1, b1⟩ := kk T'.heap (locs ++ L) hh1 hv1 T' rfl X'
  exact ⟨t2, st t2 a1, b1⟩
theorem ct_blind {B : Nat} {H0 : Heap} {sk sv : Nat → Nat} {D : va_G} {cA : Nat → ClassId} {r : Nat} {es : Nat → va_E} : FrameBlind (ctPc B H0 sk sv D cA r es) := fun a U g mk h => ⟨h.1, h.2.1, ctS.same rfl h.2.2⟩
theorem ct_df {ci : Nat} {ty : Nat → FieldType} {N : Nat} (hN : N = mmNF ci) (h : ∀ j, j < N → defaultValue (ty j) = vp_V (ctDf ci) j) : ∀ j, j < N → defaultValue (ty j) = vp_V (ctDf ci) j := h

def ctGd (M : mmMi) (ci : Nat) : Prop := Cond.code M.1 M.2.1 M.2.2.1 none ∈ mmT ∧ M.2.2.2 = none ∧ Cond.initialized M.1.cls ∈ mmT ∧ (M.1.cls ≠ "java/lang/invoke/MethodHandle" ∧ M.1.cls ≠ "java/lang/invoke/VarHandle" ∧ (parseMethodDescriptor M.1.desc).map (fun d => d.parameters.length) = some 0) ∧ M.2.2.1 ≤ 60 ∧ Cond.instanceMethod M.1 ∈ mmT ∧ M.1.name = "<init>" ∧ (vwCl[ci]?).map (fun q => q.1) = some M.1.cls ∧ Cond.instantiable M.1.cls (mmNF ci) ∈ mmT
theorem mm_dfX : ∀ ci, ci < 9 → ∀ (C : String) (T : u_T) (N : Nat), vwCl[ci]? = some (C, T, N) → ∃ ty : Nat → FieldType, (∀ k, k < N → parseFieldDescriptor (T k).2.2.1 = some (ty k)) ∧ ∀ j, j < N → defaultValue (ty j) = vp_V (ctDf ci) j := by
  intro ci hci C T N h
  match ci, h with
  | 0, h => cases h; exact ⟨tyX0, tyX0_ok, by decide +kernel⟩
  | 1, h => cases h; exact ⟨tyX1, tyX1_ok, by decide +kernel⟩
  | 2, h => cases h; exact ⟨tyX2, tyX2_ok, by decide +kernel⟩
  | 3, h => cases h; exact ⟨tyX3, tyX3_ok, by decide +kernel⟩
  | 4, h => cases h; exact ⟨tyX4, tyX4_ok, by decide +kernel⟩
  | 5, h => cases h; exact ⟨tyX5, tyX5_ok, by decide +kernel⟩
  | 6, h => cases h; exact ⟨tyX6, tyX6_ok, by decide +kernel⟩
  | 7, h => cases h; exact ⟨tyX7, tyX7_ok, by decide +kernel⟩
  | 8, h => cases h; exact ⟨tyX8, tyX8_ok, by decide +kernel⟩
  | n + 9, h => simp [vwCl] at h
theorem ct_make {d : Nat} {M : mmMi} {l : Launch} {B : Nat} {H0 : Heap} {sk sv : Nat → Nat} {D : va_G} {cA : Nat → ClassId} {mc ms n : Nat} {es : Nat → va_E} {k z : Nat} {L st : List Value} {pc : Nat} {Qc : Array Value → State → Outcome → State → Prop} {d' mc' ms' w ci i1 i2 w1 : Nat} {Mc : mmMi} {w2 : Nat} (hw2 : lw_tbl[w2]? = some (.methodLink M.1.cls i2 Mc.1)) (hd1 : decode M.2.1 pc = .ok (.new i1, 3)) (hd2 : decode M.2.1 (pc + 3) = .ok (.dup, 1)) (hd3 : decode M.2.1 (pc + 4) = .ok (.invokespecial i2, 3)) (hw1 : lw_tbl[w1]? = some (.classLink M.1.cls i1 Mc.1.cls)) (hg : ctGd Mc ci) (hci : ci < 9) (hK : ctK d' Mc mc' ms' n w ci) (hw : mc' + 1 = w) (hd' : d' < d) (hk : k + 1 + mc' ≤ mc) (hz : z + mmNF ci + ms' ≤ ms) (hs8 : (st.map fun v => v.category).sum ≤ 7) (kk : ctE d M l B H0 sk sv D cA mc ms (n + w) (ctFn B cA n es) (k + 1 + mc') (z + mmNF ci + ms') (pc + 7) L (.ref (B + n) :: st) Qc) : ctE d M l B H0 sk sv D cA mc ms n es k z pc L st Qc := by
  intro p e s m args below meth c H locs ls hx hb hr hml hown hts hlk hin hS hls hH hF hB
  obtain ⟨g1, g2, g3, g4, g5, g6, g7, g8, g9⟩ := hg
  obtain ⟨⟨C, T, N⟩, hcl, hC⟩ := Option.map_eq_some_iff.mp g8
  dsimp only at hC
  subst hC
  obtain ⟨hci9, rfl, hinw, -, -⟩ := mm_cls hcl
  obtain ⟨ty, hty, hdf⟩ := mm_dfX ci hci _ _ _ hcl
  have hKn := hS.1.2.1.1 ci _ hcl
  have hls1 : ls.size = M.2.2.1 := hls.choose_spec.1.1
  refine W.newcK hx hb hown (mm_word (M := M) hts hw1 rfl) (hts _ g9) (hts _ g3) rfl hd1 (by show k + 1 ≤ mc; omega) (by show z + mmNF ci ≤ ms; omega) hKn.2.1 (h := B + n) hH.1 (fun H1 kC hkC e1 z1 o1 => ?_)
  have hH1 := hH.push (H1 := H1) (e := .inr (ci, ctDf ci)) z1 o1 ⟨_, hcl, (u_born ty hts hinw hKn hkC e1 hty).to hdf⟩
  have hF1 := hH.F hH1 hF (by omega) hF.2.2
  refine lv_dup hx hb hd2 rfl ?_
  have hes : ctU es n (.inr (ci, ctDf ci)) n = .inr (ci, ctDf ci) := by simp [ctU]
  refine ct_use (rest := .ref (B + n) :: st) (va_runI (As := []) (own := M.1.cls) ⟨hx, hb, hml, hown, hts⟩ (hK l B H0 sk sv D cA _ hes) (cwI 0 hts (mm_goodWs (by rw [g2]; exact g1)) (by rw [← g2]; rfl) rfl rfl (hts _ g3) (mm_word (M := M) hts hw2 rfl) (hts _ g6) g7 g4 ⟨hd', by show 8 + (Mc.2.2.1 + 11) + 100 * d' ≤ 100 * d; omega⟩) ⟨ct_blind, fun U hU hW => ⟨rfl, by rw [hU]; exact hH1, ctS.warm hW hS⟩⟩ rfl rfl hls1 rfl (lv_room (by show (1 + (st.map fun v => v.category).sum) ≤ 8; omega)) hd3 ⟨by show k + 1 + mc' ≤ mc; omega, by show z + mmNF ci + ms' ≤ ms; omega⟩) hH1 (by omega) hF1 (fun H2 locs2 hH2 hF2 => ?_)
  rw [ctFn_ctU] at hH2
  exact kk p e s m args below meth c H2 locs2 ls hx hb hr hml hown hts hlk hin hS hls hH2 hF2 ⟨hB.1, by omega⟩
theorem ct_makeN {d : Nat} {M : mmMi} {l : Launch} {B : Nat} {H0 : Heap} {sk sv : Nat → Nat} {D : va_G} {cA : Nat → ClassId} {mc ms n : Nat} {es : Nat → va_E} {k z : Nat} {L st : List Value} {pc : Nat} {Qc : Array Value → State → Outcome → State → Prop} {d' mc' ms' w ci i1 i2 w1 : Nat} {Mc : mmMi} (hw2 : (M.1.cls, i2, Mc.1) ∈ mmNest) (hd1 : decode M.2.1 pc = .ok (.new i1, 3)) (hd2 : decode M.2.1 (pc + 3) = .ok (.dup, 1)) (hd3 : decode M.2.1 (pc + 4) = .ok (.invokespecial i2, 3)) (hw1 : lw_tbl[w1]? = some (.classLink M.1.cls i1 Mc.1.cls)) (hg : ctGd Mc ci) (hci : ci < 9) (hK : ctK d' Mc mc' ms' n w ci) (hw : mc' + 1 = w) (hd' : d' < d) (hk : k + 1 + mc' ≤ mc) (hz : z + mmNF ci + ms' ≤ ms) (hs8 : (st.map fun v => v.category).sum ≤ 7) (kk : ctE d M l B H0 sk sv D cA mc ms (n + w) (ctFn B cA n es) (k + 1 + mc') (z + mmNF ci + ms') (pc + 7) L (.ref (B + n) :: st) Qc) : ctE d M l B H0 sk sv D cA mc ms n es k z pc L st Qc := by
  intro p e s m args below meth c H locs ls hx hb hr hml hown hts hlk hin hS hls hH hF hB
  obtain ⟨g1, g2, g3, g4, g5, g6, g7, g8, g9⟩ := hg
  obtain ⟨⟨C, T, N⟩, hcl, hC⟩ := Option.map_eq_some_iff.mp g8
  dsimp only at hC
  subst hC
  obtain ⟨hci9, rfl, hinw, -, -⟩ := mm_cls hcl
  obtain ⟨ty, hty, hdf⟩ := mm_dfX ci hci _ _ _ hcl
  have hKn := hS.1.2.1.1 ci _ hcl
  have hls1 : ls.size = M.2.2.1 := hls.choose_spec.1.1
  refine W.newcK hx hb hown (mm_word (M := M) hts hw1 rfl) (hts _ g9) (hts _ g3) rfl hd1 (by show k + 1 ≤ mc; omega) (by show z + mmNF ci ≤ ms; omega) hKn.2.1 (h := B + n) hH.1 (fun H1 kC hkC e1 z1 o1 => ?_)
  have hH1 := hH.push (H1 := H1) (e := .inr (ci, ctDf ci)) z1 o1 ⟨_, hcl, (u_born ty hts hinw hKn hkC e1 hty).to hdf⟩
  have hF1 := hH.F hH1 hF (by omega) hF.2.2
  refine lv_dup hx hb hd2 rfl ?_
  have hes : ctU es n (.inr (ci, ctDf ci)) n = .inr (ci, ctDf ci) := by simp [ctU]
  refine ct_use (rest := .ref (B + n) :: st) (va_runIN (As := []) (own := M.1.cls) (host := "ColumnCasts") ⟨hx, hb, hml, hown, hts⟩ (hK l B H0 sk sv D cA _ hes) ⟨va_cnB 0 hts (mm_goodWs (by rw [g2]; exact g1)) (by rw [← g2]; rfl) rfl rfl (hS.1.2.2.2.2.2.2.2.2 _ hw2) (hts _ g3) g4 ⟨hd', by show 8 + (Mc.2.2.1 + 11) + 100 * d' ≤ 100 * d; omega⟩, g7, hts _ g6⟩ ⟨ct_blind, fun U hU hW => ⟨rfl, by rw [hU]; exact hH1, ctS.warm hW hS⟩⟩ rfl rfl hls1 rfl (lv_room (by show (1 + (st.map fun v => v.category).sum) ≤ 8; omega)) hd3 ⟨by show k + 1 + mc' ≤ mc; omega, by show z + mmNF ci + ms' ≤ ms; omega⟩) hH1 (by omega) hF1 (fun H2 locs2 hH2 hF2 => ?_)
  rw [ctFn_ctU] at hH2
  exact kk p e s m args below meth c H2 locs2 ls hx hb hr hml hown hts hlk hin hS hls hH2 hF2 ⟨hB.1, by omega⟩
theorem ct_put {d : Nat} {M : mmMi} {l : Launch} {B : Nat} {H0 : Heap} {sk sv : Nat → Nat} {D : va_G} {cA : Nat → ClassId} {mc ms n : Nat} {es : Nat → va_E} {k z : Nat} {L st : List Value} {pc : Nat} {Qc : Array Value → State → Outcome → State → Prop} {r ci i w : Nat} {C : String} {T : u_T} {N : Nat} {fs : List Value} {v : Value} (j : Nat) (ty : FieldType) (hd : decode M.2.1 pc = .ok (.putfield i, 3)) (hcl : vwCl[ci]? = some (C, T, N)) (hj : j < N) (hw : lw_tbl[w]? = some (.fieldLink M.1.cls i (T j).1 (T j).2.1 (T j).2.2.1)) (hfin : (T j).2.2.2 = false) (hty : parseFieldDescriptor (T j).2.2.1 = some ty) (hn : narrow ty v = v) (hfit : fits ty v = true) (hr0 : r < n) (hes : es r = .inr (ci, fs)) (hjf : j < fs.length) (kk : ctE d M l B H0 sk sv D cA mc ms n (ctU es r (.inr (ci, fs.set j v))) k z (pc + 3) L st Qc) : ctE d M l B H0 sk sv D cA mc ms n es k z pc L (v :: .ref (B + r) :: st) Qc := by
  intro p e s m args below meth c H locs ls hx hb hr hml hown hts hlk hin hS hls hH hF hB
  obtain ⟨hci9, rfl, hinw, hnm, ty9, hty9, -⟩ := mm_cls hcl
  refine va_put (C := C) (T := T) (N := mmNF ci) (own := M.1.cls) (ref := (T j).1) hx hb hts hinw ty9 hty9 hnm hown hS.1.2.1 hH.2.2 ctWd_D hF r (by rw [ctWd_get hr0, hes]) hcl j hj (mm_word (M := M) hts hw rfl) (fun _ q => q) hfin hty hn hfit hjf hd (fun H1 locs1 hP1 hD1 hS1 => ?_)
  rw [ctWd_set hr0] at hP1
  refine mm_sz fun hsz => ?_
  have hs0 : H.size = B + n := hH.1
  have hH1 : ctH B H0 D n (ctU es r (.inr (ci, fs.set j v))) H1 := by
    have hl := (hP1 (n - 1) _ (ctWd_get (by omega))).lt
    dsimp only at hl
    refine ⟨by omega, fun q hq => ?_, hP1⟩
    have h1 := hS1.2.1 q (by omega) (by simpa using hq)
    have h2 := hF.2.1 q (by omega) (by simpa using hq)
    rw [h1, ← h2]
    exact hH.2.1 q hq
  exact kk p e s m args below meth c H1 locs1 ls hx hb hr hml hown hts hlk hin hS hls hH1 hS1 hB
theorem ct_putF {d : Nat} {M : mmMi} {l : Launch} {B : Nat} {H0 : Heap} {sk sv : Nat → Nat} {D : va_G} {cA : Nat → ClassId} {mc ms n : Nat} {es : Nat → va_E} {k z : Nat} {L st : List Value} {pc : Nat} {Qc : Array Value → State → Outcome → State → Prop} {r ci i w : Nat} {C : String} {T : u_T} {N : Nat} {fs : List Value} {v : Value} (j : Nat) (ty : FieldType) (hd : decode M.2.1 pc = .ok (.putfield i, 3)) (hcl : vwCl[ci]? = some (C, T, N)) (hj : j < N) (hw : lw_tbl[w]? = some (.fieldLink M.1.cls i (T j).1 (T j).2.1 (T j).2.2.1)) (hfin : (T j).2.2.2 = true) (hdecl : (T j).1 = M.1.cls) (hty : parseFieldDescriptor (T j).2.2.1 = some ty) (hn : narrow ty v = v) (hfit : fits ty v = true) (hr0 : r < n) (hes : es r = .inr (ci, fs)) (hjf : j < fs.length) (kk : ctE d M l B H0 sk sv D cA mc ms n (ctU es r (.inr (ci, fs.set j v))) k z (pc + 3) L st Qc) : ctE d M l B H0 sk sv D cA mc ms n es k z pc L (v :: .ref (B + r) :: st) Qc := by
  intro p e s m args below meth c H locs ls hx hb hr hml hown hts hlk hin hS hls hH hF hB
  obtain ⟨hci9, rfl, hinw, hnm, ty9, hty9, -⟩ := mm_cls hcl
  refine va_putF (C := C) (T := T) (N := mmNF ci) (own := M.1.cls) (ref := (T j).1) hx hb hts hinw ty9 hty9 hnm hown hS.1.2.1 hH.2.2 ctWd_D hF r (by rw [ctWd_get hr0, hes]) hcl j hj (mm_word (M := M) hts hw rfl) (fun _ q => q) hfin hin hdecl hty hn hfit hjf hd (fun H1 locs1 hP1 hD1 hS1 => ?_)
  rw [ctWd_set hr0] at hP1
  refine mm_sz fun hsz => ?_
  have hs0 : H.size = B + n := hH.1
  have hH1 : ctH B H0 D n (ctU es r (.inr (ci, fs.set j v))) H1 := by
    have hl := (hP1 (n - 1) _ (ctWd_get (by omega))).lt
    dsimp only at hl
    refine ⟨by omega, fun q hq => ?_, hP1⟩
    have h1 := hS1.2.1 q (by omega) (by simpa using hq)
    have h2 := hF.2.1 q (by omega) (by simpa using hq)
    rw [h1, ← h2]
    exact hH.2.1 q hq
  exact kk p e s m args below meth c H1 locs1 ls hx hb hr hml hown hts hlk hin hS hls hH1 hS1 hB
theorem ct_get {d : Nat} {M : mmMi} {l : Launch} {B : Nat} {H0 : Heap} {sk sv : Nat → Nat} {D : va_G} {cA : Nat → ClassId} {mc ms n : Nat} {es : Nat → va_E} {k z : Nat} {L st : List Value} {pc : Nat} {Qc : Array Value → State → Outcome → State → Prop} {r ci i w : Nat} {C : String} {T : u_T} {N : Nat} {fs : List Value} {v : Value} (j : Nat) (hd : decode M.2.1 pc = .ok (.getfield i, 3)) (hcl : vwCl[ci]? = some (C, T, N)) (hj : j < N) (hw : lw_tbl[w]? = some (.fieldLink M.1.cls i (T j).1 (T j).2.1 (T j).2.2.1)) (hr0 : r < n) (hes : es r = .inr (ci, fs)) (hv : fs[j]? = some v) (kk : ctE d M l B H0 sk sv D cA mc ms n es k z (pc + 3) L (v :: st) Qc) : ctE d M l B H0 sk sv D cA mc ms n es k z pc L (.ref (B + r) :: st) Qc := by
  intro p e s m args below meth c H locs ls hx hb hr hml hown hts hlk hin hS hls hH hF hB
  obtain ⟨hci9, rfl, hinw, hnm, ty9, hty9, -⟩ := mm_cls hcl
  exact va_get (C := C) (T := T) (N := mmNF ci) (own := M.1.cls) (ref := (T j).1) hx hb hts hinw hown hS.1.2.1 hH.2.2 r (by rw [ctWd_get hr0, hes]) hcl j hj (mm_word (M := M) hts hw rfl) (fun _ q => q) hv hd (kk p e s m args below meth c H locs ls hx hb hr hml hown hts hlk hin hS hls hH hF hB)
theorem ct_astC {d : Nat} {M : mmMi} {l : Launch} {B : Nat} {H0 : Heap} {sk sv : Nat → Nat} {D : va_G} {cA : Nat → ClassId} {mc ms n : Nat} {es : Nat → va_E} {k z : Nat} {L st : List Value} {pc : Nat} {Qc : Array Value → State → Outcome → State → Prop} {r q N : Nat} {x : Int32} {f : Nat → Option Nat} {vs : List Value} (i : Nat) (hd : decode M.2.1 pc = .ok (.aastore, 1)) (hr0 : r < n) (hes : es r = .inl (cA 4, N, .inr (.inr (.inr (.inr f))))) (hq0 : q < n) (hqs : es q = .inr (1, vs)) (hx0 : ¬ x < 0) (hxi : x.toNatClampNeg = i) (hiN : i < N) (kk : ctE d M l B H0 sk sv D cA mc ms n (ctU es r (.inl (cA 4, N, .inr (.inr (.inr (.inr (va_up f i (some (B + q))))))))) k z (pc + 1) L st Qc) : ctE d M l B H0 sk sv D cA mc ms n es k z pc L (.ref (B + q) :: .int x :: .ref (B + r) :: st) Qc := by
  intro p e s m args below meth c H locs ls hx hb hr hml hown hts hlk hin hS hls hH hF hB
  subst hxi
  refine va_astq (t0 := 4) (ci := 1) (r := (RX1, TX1, mmNF 1)) hx hb hS.1.2.1 hH.2.2 ctWd_D hF r (qk := q) (vs := vs) (by rw [ctWd_get hr0, hes]) rfl (by rw [ctWd_get hq0, hqs]) rfl (ct_in hx0 hiN) hd (fun H1 locs1 hP1 hD1 hS1 => ?_)
  rw [ctWd_set hr0] at hP1
  refine mm_sz fun hsz => ?_
  have hs0 : H.size = B + n := hH.1
  have hH1 : ctH B H0 D n (ctU es r (.inl (cA 4, N, .inr (.inr (.inr (.inr (va_up f x.toNatClampNeg (some (B + q))))))))) H1 := by
    have hl := (hP1 (n - 1) _ (ctWd_get (by omega))).lt
    dsimp only at hl
    refine ⟨by omega, fun q hq => ?_, hP1⟩
    have h1 := hS1.2.1 q (by omega) (by simpa using hq)
    have h2 := hF.2.1 q (by omega) (by simpa using hq)
    rw [h1, ← h2]
    exact hH.2.1 q hq
  exact kk p e s m args below meth c H1 locs1 ls hx hb hr hml hown hts hlk hin hS hls hH1 hS1 hB
theorem ct_astV {d : Nat} {M : mmMi} {l : Launch} {B : Nat} {H0 : Heap} {sk sv : Nat → Nat} {D : va_G} {cA : Nat → ClassId} {mc ms n : Nat} {es : Nat → va_E} {k z : Nat} {L st : List Value} {pc : Nat} {Qc : Array Value → State → Outcome → State → Prop} {r q N : Nat} {x : Int32} {f : Nat → Option Nat} {vs : List Value} (i : Nat) (hd : decode M.2.1 pc = .ok (.aastore, 1)) (hr0 : r < n) (hes : es r = .inl (cA 5, N, .inr (.inr (.inr (.inr f))))) (hq0 : q < n) (hqs : es q = .inr (6, vs)) (hx0 : ¬ x < 0) (hxi : x.toNatClampNeg = i) (hiN : i < N) (kk : ctE d M l B H0 sk sv D cA mc ms n (ctU es r (.inl (cA 5, N, .inr (.inr (.inr (.inr (va_up f i (some (B + q))))))))) k z (pc + 1) L st Qc) : ctE d M l B H0 sk sv D cA mc ms n es k z pc L (.ref (B + q) :: .int x :: .ref (B + r) :: st) Qc := by
  intro p e s m args below meth c H locs ls hx hb hr hml hown hts hlk hin hS hls hH hF hB
  subst hxi
  refine va_astq (t0 := 5) (ci := 6) (r := (RX6, TX6, mmNF 6)) hx hb hS.1.2.1 hH.2.2 ctWd_D hF r (qk := q) (vs := vs) (by rw [ctWd_get hr0, hes]) rfl (by rw [ctWd_get hq0, hqs]) rfl (ct_in hx0 hiN) hd (fun H1 locs1 hP1 hD1 hS1 => ?_)
  rw [ctWd_set hr0] at hP1
  refine mm_sz fun hsz => ?_
  have hs0 : H.size = B + n := hH.1
  have hH1 : ctH B H0 D n (ctU es r (.inl (cA 5, N, .inr (.inr (.inr (.inr (va_up f x.toNatClampNeg (some (B + q))))))))) H1 := by
    have hl := (hP1 (n - 1) _ (ctWd_get (by omega))).lt
    dsimp only at hl
    refine ⟨by omega, fun q hq => ?_, hP1⟩
    have h1 := hS1.2.1 q (by omega) (by simpa using hq)
    have h2 := hF.2.1 q (by omega) (by simpa using hq)
    rw [h1, ← h2]
    exact hH.2.1 q hq
  exact kk p e s m args below meth c H1 locs1 ls hx hb hr hml hown hts hlk hin hS hls hH1 hS1 hB
theorem ct_astF {d : Nat} {M : mmMi} {l : Launch} {B : Nat} {H0 : Heap} {sk sv : Nat → Nat} {D : va_G} {cA : Nat → ClassId} {mc ms n : Nat} {es : Nat → va_E} {k z : Nat} {L st : List Value} {pc : Nat} {Qc : Array Value → State → Outcome → State → Prop} {r q N : Nat} {x : Int32} {f : Nat → Option Nat} {vs : List Value} (i : Nat) (hd : decode M.2.1 pc = .ok (.aastore, 1)) (hr0 : r < n) (hes : es r = .inl (cA 6, N, .inr (.inr (.inr (.inr f))))) (hq0 : q < n) (hqs : es q = .inr (2, vs)) (hx0 : ¬ x < 0) (hxi : x.toNatClampNeg = i) (hiN : i < N) (kk : ctE d M l B H0 sk sv D cA mc ms n (ctU es r (.inl (cA 6, N, .inr (.inr (.inr (.inr (va_up f i (some (B + q))))))))) k z (pc + 1) L st Qc) : ctE d M l B H0 sk sv D cA mc ms n es k z pc L (.ref (B + q) :: .int x :: .ref (B + r) :: st) Qc := by
  intro p e s m args below meth c H locs ls hx hb hr hml hown hts hlk hin hS hls hH hF hB
  subst hxi
  refine va_astq (t0 := 6) (ci := 2) (r := (RX2, TX2, mmNF 2)) hx hb hS.1.2.1 hH.2.2 ctWd_D hF r (qk := q) (vs := vs) (by rw [ctWd_get hr0, hes]) rfl (by rw [ctWd_get hq0, hqs]) rfl (ct_in hx0 hiN) hd (fun H1 locs1 hP1 hD1 hS1 => ?_)
  rw [ctWd_set hr0] at hP1
  refine mm_sz fun hsz => ?_
  have hs0 : H.size = B + n := hH.1
  have hH1 : ctH B H0 D n (ctU es r (.inl (cA 6, N, .inr (.inr (.inr (.inr (va_up f x.toNatClampNeg (some (B + q))))))))) H1 := by
    have hl := (hP1 (n - 1) _ (ctWd_get (by omega))).lt
    dsimp only at hl
    refine ⟨by omega, fun q hq => ?_, hP1⟩
    have h1 := hS1.2.1 q (by omega) (by simpa using hq)
    have h2 := hF.2.1 q (by omega) (by simpa using hq)
    rw [h1, ← h2]
    exact hH.2.1 q hq
  exact kk p e s m args below meth c H1 locs1 ls hx hb hr hml hown hts hlk hin hS hls hH1 hS1 hB
theorem ct_ret {d : Nat} {M : mmMi} {l : Launch} {B : Nat} {H0 : Heap} {sk sv : Nat → Nat} {D : va_G} {cA : Nat → ClassId} {mc ms n : Nat} {es : Nat → va_E} {k z : Nat} {L : List Value} {pc : Nat} {Qc : Array Value → State → Outcome → State → Prop}  (hd : decode M.2.1 pc = .ok (.return_, 1)) (hret : M.2.2.2 = none) (hk : k = mc) (hz : z ≤ ms) (kk : ∀ (a : Array Value) (s t : State), ctH B H0 D n es t.heap → Qc a s (.returned none) t) : ctE d M l B H0 sk sv D cA mc ms n es k z pc L [] Qc := by
  intro p e s m args below meth c H locs ls hx hb hr hml hown hts hlk hin hS hls hH hF hB
  subst hk
  refine W.widen (Nat.le_refl _) hz ?_
  exact W.vret hx hb (hr.trans hret) (fun t ht hW => kk _ _ t (ht ▸ hH)) hF.2.2 hd hlk
