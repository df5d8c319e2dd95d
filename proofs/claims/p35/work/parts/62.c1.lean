/-! ===== an object that makes only whole things ===== -/
def ctKK (B : Nat) (cA : Nat → ClassId) (r ci : Nat) (fs : List Value) (es : Nat → va_E) : Nat → va_E := fun b => if b = r then .inr (ci, fs) else ctFn B cA r es b
theorem ctKK_in {B : Nat} {cA : Nat → ClassId} {r ci : Nat} {fs : List Value} {es : Nat → va_E} (h : es r = .inr (ci, fs)) : ∀ a, a < r + 1 → es a = ctKK B cA r ci fs es a := by
  intro a ha
  unfold ctKK ctFn
  split
  · rename_i h1
    rw [h1, h]
  · rw [if_pos (by omega)]
theorem ctKK_r {B : Nat} {cA : Nat → ClassId} {r ci : Nat} {fs : List Value} {es : Nat → va_E} : ctKK B cA r ci fs es r = .inr (ci, fs) := by simp [ctKK]
theorem ctKK_up {B : Nat} {cA : Nat → ClassId} {r ci n : Nat} {fs : List Value} {es : Nat → va_E} (h : r < n) : ctKK B cA r ci fs es n = mmE B cA ctMu n := by
  unfold ctKK ctFn
  rw [if_neg (by omega), if_neg (by omega)]
theorem ctKK_new {B : Nat} {cA : Nat → ClassId} {r ci n : Nat} {fs : List Value} {es : Nat → va_E} {e : va_E} (h : r < n) (he : e = mmE B cA ctMu n) : ∀ a, a < n + 1 → ctU (ctKK B cA r ci fs es) n e a = ctKK B cA r ci fs es a := by
  intro a ha
  unfold ctU
  split
  · rename_i h1
    rw [h1, ctKK_up h, he]
  · rfl
theorem ctKK_put {B : Nat} {cA : Nat → ClassId} {r ci : Nat} {fs fs' : List Value} {es : Nat → va_E} : ctU (ctKK B cA r ci fs es) r (.inr (ci, fs')) = ctKK B cA r ci fs' es := by
  funext a
  unfold ctU ctKK
  split <;> rfl
theorem ctKK_make {B : Nat} {cA : Nat → ClassId} {r ci n : Nat} {fs : List Value} {es : Nat → va_E} (h : r < n) : ctFn B cA n (ctKK B cA r ci fs es) = ctKK B cA r ci fs es := by
  funext a
  show (if a < n then ctKK B cA r ci fs es a else mmE B cA ctMu a) = _
  split
  · rfl
  · rw [ctKK_up (by omega)]
theorem ctKK_end {B : Nat} {cA : Nat → ClassId} {r ci : Nat} {fs : List Value} {es : Nat → va_E} (h : mmE B cA ctMu r = .inr (ci, fs)) : ctKK B cA r ci fs es = ctFn B cA r es := by
  funext a
  unfold ctKK
  split
  · rename_i h1
    rw [h1, ← h]
    unfold ctFn
    rw [if_neg (by omega)]
  · rfl
theorem ctMu_0 {n kd : Nat} (h : mmKD n = kd) (h0 : kd ≠ 0) : ctMu.1 n = fun _ => 0 := by
  funext j
  show (if mmKD n = 0 then _ else (0 : Int32)) = 0
  rw [if_neg (by omega)]
theorem ct_e10 {B n N : Nat} {cA : Nat → ClassId} (h : mmKD n = 10) (hl : mmLEN n = N) : (.inl (cA 0, N, .inl fun _ => 0) : va_E) = mmE B cA ctMu n := by
  have h1 := mmE_10 (B := B) (cA := cA) (μ := ctMu) h
  rw [mmW_get (mmKD_lt (by omega))] at h1
  have h2 : mmE B cA ctMu n = _ := congrArg Prod.snd (Option.some.inj h1)
  rw [h2]
  dsimp only
  rw [ctMu_0 h (by decide), hl]
theorem ct_e13 {B n N : Nat} {cA : Nat → ClassId} (h : mmKD n = 13) (hl : mmLEN n = N) : (.inl (cA 3, N, .inl fun _ => 0) : va_E) = mmE B cA ctMu n := by
  have h1 := mmE_13 (B := B) (cA := cA) (μ := ctMu) h
  rw [mmW_get (mmKD_lt (by omega))] at h1
  have h2 : mmE B cA ctMu n = _ := congrArg Prod.snd (Option.some.inj h1)
  rw [h2]
  dsimp only
  rw [ctMu_0 h (by decide), hl]
theorem ct_e11 {B n N : Nat} {cA : Nat → ClassId} (h : mmKD n = 11) (hl : mmLEN n = N) : (.inl (cA 1, N, .inr (.inl fun _ => 0)) : va_E) = mmE B cA ctMu n := by
  have h1 := mmE_11 (B := B) (cA := cA) (μ := ctMu) h
  rw [mmW_get (mmKD_lt (by omega))] at h1
  have h2 : mmE B cA ctMu n = _ := congrArg Prod.snd (Option.some.inj h1)
  rw [h2]
  dsimp only
  rw [hl]
  rfl
theorem ct_e12 {B n N : Nat} {cA : Nat → ClassId} (h : mmKD n = 12) (hl : mmLEN n = N) : (.inl (cA 2, N, .inr (.inr (.inr (.inl fun _ => 0)))) : va_E) = mmE B cA ctMu n := by
  have h1 := mmE_12 (B := B) (cA := cA) (μ := ctMu) h
  rw [mmW_get (mmKD_lt (by omega))] at h1
  have h2 : mmE B cA ctMu n = _ := congrArg Prod.snd (Option.some.inj h1)
  rw [h2]
  dsimp only
  rw [hl]
  rfl

def ctP (G : xG) (r w : Nat) (es : Nat → va_E) : Option Value → Nat → (Nat → va_E) → Prop := fun v n1 es1 => v = none ∧ n1 = r + w ∧ ∀ a, a < n1 → es1 a = ctFn G.B G.cA r es a
def ctK (d : Nat) (M : mmMi) (mc ms r w ci : Nat) : Prop := ∀ (l : Launch) (G : xG) (es : Nat → va_E), es r = .inr (ci, ctDf ci) → xMet d mc ms M l G (r + 1) es [.ref (G.B + r)] (ctP G r w es)
def ctGd (M : mmMi) (ci : Nat) : Prop := xGd M 0 ∧ M.2.2.2 = none ∧ M.1.name = "<init>" ∧ (vwCl[ci]?).map (fun q => q.1) = some M.1.cls ∧ Cond.instantiable M.1.cls (mmNF ci) ∈ mmT
theorem ct_make {d : Nat} {M : mmMi} {l : Launch} {G : xG} {mc ms n : Nat} {es : Nat → va_E} {k z : Nat} {L st : List Value} {pc : Nat} {Qc : Array Value → State → Outcome → State → Prop} {d' mc' ms' w cj i1 i2 w1 : Nat} {Mc : mmMi} {w2 : Nat} (hw2 : lw_tbl[w2]? = some (.methodLink M.1.cls i2 Mc.1)) (hd1 : decode M.2.1 pc = .ok (.new i1, 3)) (hd2 : decode M.2.1 (pc + 3) = .ok (.dup, 1)) (hd3 : decode M.2.1 (pc + 4) = .ok (.invokespecial i2, 3)) (hw1 : lw_tbl[w1]? = some (.classLink M.1.cls i1 Mc.1.cls)) (hg : ctGd Mc cj) (hci : cj < 9) (hK : ctK d' Mc mc' ms' n w cj) (hw : mc' + 1 = w) (hd' : d' < d) (hk : k + 1 + mc' ≤ mc) (hz : z + mmNF cj + ms' ≤ ms) (hs8 : (st.map fun v => v.category).sum ≤ 7) (kk : xE true d M l G mc ms (n + w) (ctFn G.B G.cA n es) (k + 1 + mc') (z + mmNF cj + ms') (pc + 7) L (.ref (G.B + n) :: st) Qc) : xE true d M l G mc ms n es k z pc L st Qc := by
  obtain ⟨hg0, hg1, hg2, hg3, hg4⟩ := hg
  obtain ⟨⟨Cn, T, N⟩, hc, hC⟩ := Option.map_eq_some_iff.mp hg3
  dsimp only at hC
  subst hC
  refine x_new (w1 := w1) (ci := cj) hd1 hw1 hc hg4 hg0.2.1 (by omega) (by omega) ?_
  refine x_dup hd2 rfl ?_
  refine x_callI (i := i2) [] rfl hd3 hw2 hg0 hg2 hg1 (hK l G _ (ctU_at _ _ _)) hd' hk hz rfl (fun v n1 es1 hP _ => ?_) (by have h9 : (Value.ref (G.B + n)).category = 1 := rfl; simp only [List.map_cons, List.sum_cons, h9]; omega) (fun v n1 es1 hP hn1 => ?_)
  · obtain ⟨-, h1, -⟩ := hP
    omega
  · obtain ⟨rfl, h1, h2⟩ := hP
    subst h1
    refine xE.congr _ (fun a ha => (h2 a ha).trans ?_) kk
    rw [ctFn_ctU]
theorem ct_makeN {d : Nat} {M : mmMi} {l : Launch} {G : xG} {mc ms n : Nat} {es : Nat → va_E} {k z : Nat} {L st : List Value} {pc : Nat} {Qc : Array Value → State → Outcome → State → Prop} {d' mc' ms' w cj i1 i2 w1 : Nat} {Mc : mmMi} (hw2 : (M.1.cls, i2, Mc.1) ∈ mmNest) (hd1 : decode M.2.1 pc = .ok (.new i1, 3)) (hd2 : decode M.2.1 (pc + 3) = .ok (.dup, 1)) (hd3 : decode M.2.1 (pc + 4) = .ok (.invokespecial i2, 3)) (hw1 : lw_tbl[w1]? = some (.classLink M.1.cls i1 Mc.1.cls)) (hg : ctGd Mc cj) (hci : cj < 9) (hK : ctK d' Mc mc' ms' n w cj) (hw : mc' + 1 = w) (hd' : d' < d) (hk : k + 1 + mc' ≤ mc) (hz : z + mmNF cj + ms' ≤ ms) (hs8 : (st.map fun v => v.category).sum ≤ 7) (kk : xE true d M l G mc ms (n + w) (ctFn G.B G.cA n es) (k + 1 + mc') (z + mmNF cj + ms') (pc + 7) L (.ref (G.B + n) :: st) Qc) : xE true d M l G mc ms n es k z pc L st Qc := by
  obtain ⟨hg0, hg1, hg2, hg3, hg4⟩ := hg
  obtain ⟨⟨Cn, T, N⟩, hc, hC⟩ := Option.map_eq_some_iff.mp hg3
  dsimp only at hC
  subst hC
  refine x_new (w1 := w1) (ci := cj) hd1 hw1 hc hg4 hg0.2.1 (by omega) (by omega) ?_
  refine x_dup hd2 rfl ?_
  refine x_callIN (i := i2) [] rfl hd3 hw2 hg0 hg2 hg1 (hK l G _ (ctU_at _ _ _)) hd' hk hz rfl (fun v n1 es1 hP _ => ?_) (by have h9 : (Value.ref (G.B + n)).category = 1 := rfl; simp only [List.map_cons, List.sum_cons, h9]; omega) (fun v n1 es1 hP hn1 => ?_)
  · obtain ⟨-, h1, -⟩ := hP
    omega
  · obtain ⟨rfl, h1, h2⟩ := hP
    subst h1
    refine xE.congr _ (fun a ha => (h2 a ha).trans ?_) kk
    rw [ctFn_ctU]
theorem k_newI {d : Nat} {M : mmMi} {l : Launch} {G : xG} {mc ms n r ci : Nat} {fs : List Value} {es : Nat → va_E} {k z : Nat} {L st : List Value} {pc : Nat} {Qc : Array Value → State → Outcome → State → Prop} {x : Int32} (N : Nat) (hd : decode M.2.1 pc = .ok (.newarray .int, 2)) (hx0 : ¬ x < 0) (hN : x.toNatClampNeg = N) (hN9 : N ≤ 2000) (hk : k + 1 ≤ mc) (hz : z + N ≤ ms) (hr : r < n) (hkd : mmKD n = 10) (hln : mmLEN n = N) (kk : xE true d M l G mc ms (n + 1) (ctKK G.B G.cA r ci fs es) (k + 1) (z + N) (pc + 2) L (.ref (G.B + n) :: st) Qc) : xE true d M l G mc ms n (ctKK G.B G.cA r ci fs es) k z pc L (.int x :: st) Qc :=
  x_newI N hd hx0 hN (Nat.le_trans hN9 (by decide)) hk hz (xE.congr _ (ctKK_new hr (ct_e10 hkd hln)) kk)
theorem k_newJ {d : Nat} {M : mmMi} {l : Launch} {G : xG} {mc ms n r ci : Nat} {fs : List Value} {es : Nat → va_E} {k z : Nat} {L st : List Value} {pc : Nat} {Qc : Array Value → State → Outcome → State → Prop} {x : Int32} (N : Nat) (hd : decode M.2.1 pc = .ok (.newarray .long, 2)) (hx0 : ¬ x < 0) (hN : x.toNatClampNeg = N) (hN9 : N ≤ 2000) (hk : k + 1 ≤ mc) (hz : z + N ≤ ms) (hr : r < n) (hkd : mmKD n = 11) (hln : mmLEN n = N) (kk : xE true d M l G mc ms (n + 1) (ctKK G.B G.cA r ci fs es) (k + 1) (z + N) (pc + 2) L (.ref (G.B + n) :: st) Qc) : xE true d M l G mc ms n (ctKK G.B G.cA r ci fs es) k z pc L (.int x :: st) Qc :=
  x_newJ N hd hx0 hN (Nat.le_trans hN9 (by decide)) hk hz (xE.congr _ (ctKK_new hr (ct_e11 hkd hln)) kk)
theorem k_newD {d : Nat} {M : mmMi} {l : Launch} {G : xG} {mc ms n r ci : Nat} {fs : List Value} {es : Nat → va_E} {k z : Nat} {L st : List Value} {pc : Nat} {Qc : Array Value → State → Outcome → State → Prop} {x : Int32} (N : Nat) (hd : decode M.2.1 pc = .ok (.newarray .double, 2)) (hx0 : ¬ x < 0) (hN : x.toNatClampNeg = N) (hN9 : N ≤ 2000) (hk : k + 1 ≤ mc) (hz : z + N ≤ ms) (hr : r < n) (hkd : mmKD n = 12) (hln : mmLEN n = N) (kk : xE true d M l G mc ms (n + 1) (ctKK G.B G.cA r ci fs es) (k + 1) (z + N) (pc + 2) L (.ref (G.B + n) :: st) Qc) : xE true d M l G mc ms n (ctKK G.B G.cA r ci fs es) k z pc L (.int x :: st) Qc :=
  x_newD N hd hx0 hN (Nat.le_trans hN9 (by decide)) hk hz (xE.congr _ (ctKK_new hr (ct_e12 hkd hln)) kk)
theorem k_newZ {d : Nat} {M : mmMi} {l : Launch} {G : xG} {mc ms n r ci : Nat} {fs : List Value} {es : Nat → va_E} {k z : Nat} {L st : List Value} {pc : Nat} {Qc : Array Value → State → Outcome → State → Prop} {x : Int32} (N : Nat) (hd : decode M.2.1 pc = .ok (.newarray .boolean, 2)) (hx0 : ¬ x < 0) (hN : x.toNatClampNeg = N) (hN9 : N ≤ 2000) (hk : k + 1 ≤ mc) (hz : z + N ≤ ms) (hr : r < n) (hkd : mmKD n = 13) (hln : mmLEN n = N) (kk : xE true d M l G mc ms (n + 1) (ctKK G.B G.cA r ci fs es) (k + 1) (z + N) (pc + 2) L (.ref (G.B + n) :: st) Qc) : xE true d M l G mc ms n (ctKK G.B G.cA r ci fs es) k z pc L (.int x :: st) Qc :=
  x_newZ N hd hx0 hN (Nat.le_trans hN9 (by decide)) hk hz (xE.congr _ (ctKK_new hr (ct_e13 hkd hln)) kk)
theorem k_make {d : Nat} {M : mmMi} {l : Launch} {G : xG} {mc ms n r ci : Nat} {fs : List Value} {es : Nat → va_E} {k z : Nat} {L st : List Value} {pc : Nat} {Qc : Array Value → State → Outcome → State → Prop} {d' mc' ms' w cj i1 i2 w1 : Nat} {Mc : mmMi} {w2 : Nat} (hw2 : lw_tbl[w2]? = some (.methodLink M.1.cls i2 Mc.1)) (hd1 : decode M.2.1 pc = .ok (.new i1, 3)) (hd2 : decode M.2.1 (pc + 3) = .ok (.dup, 1)) (hd3 : decode M.2.1 (pc + 4) = .ok (.invokespecial i2, 3)) (hw1 : lw_tbl[w1]? = some (.classLink M.1.cls i1 Mc.1.cls)) (hg : ctGd Mc cj) (hci : cj < 9) (hK : ctK d' Mc mc' ms' n w cj) (hw : mc' + 1 = w) (hd' : d' < d) (hk : k + 1 + mc' ≤ mc) (hz : z + mmNF cj + ms' ≤ ms) (hs8 : (st.map fun v => v.category).sum ≤ 7) (hr : r < n) (kk : xE true d M l G mc ms (n + w) (ctKK G.B G.cA r ci fs es) (k + 1 + mc') (z + mmNF cj + ms') (pc + 7) L (.ref (G.B + n) :: st) Qc) : xE true d M l G mc ms n (ctKK G.B G.cA r ci fs es) k z pc L st Qc := by
  refine ct_make hw2 hd1 hd2 hd3 hw1 hg hci hK hw hd' hk hz hs8 ?_
  rw [ctKK_make hr]
  exact kk
theorem k_makeN {d : Nat} {M : mmMi} {l : Launch} {G : xG} {mc ms n r ci : Nat} {fs : List Value} {es : Nat → va_E} {k z : Nat} {L st : List Value} {pc : Nat} {Qc : Array Value → State → Outcome → State → Prop} {d' mc' ms' w cj i1 i2 w1 : Nat} {Mc : mmMi} (hw2 : (M.1.cls, i2, Mc.1) ∈ mmNest) (hd1 : decode M.2.1 pc = .ok (.new i1, 3)) (hd2 : decode M.2.1 (pc + 3) = .ok (.dup, 1)) (hd3 : decode M.2.1 (pc + 4) = .ok (.invokespecial i2, 3)) (hw1 : lw_tbl[w1]? = some (.classLink M.1.cls i1 Mc.1.cls)) (hg : ctGd Mc cj) (hci : cj < 9) (hK : ctK d' Mc mc' ms' n w cj) (hw : mc' + 1 = w) (hd' : d' < d) (hk : k + 1 + mc' ≤ mc) (hz : z + mmNF cj + ms' ≤ ms) (hs8 : (st.map fun v => v.category).sum ≤ 7) (hr : r < n) (kk : xE true d M l G mc ms (n + w) (ctKK G.B G.cA r ci fs es) (k + 1 + mc') (z + mmNF cj + ms') (pc + 7) L (.ref (G.B + n) :: st) Qc) : xE true d M l G mc ms n (ctKK G.B G.cA r ci fs es) k z pc L st Qc := by
  refine ct_makeN hw2 hd1 hd2 hd3 hw1 hg hci hK hw hd' hk hz hs8 ?_
  rw [ctKK_make hr]
  exact kk
theorem k_put {d : Nat} {M : mmMi} {l : Launch} {G : xG} {mc ms n r ci : Nat} {fs : List Value} {es : Nat → va_E} {k z : Nat} {L st : List Value} {pc : Nat} {Qc : Array Value → State → Outcome → State → Prop} {i w : Nat} {C : String} {T : u_T} {N : Nat} {v : Value} (j : Nat) (ty : FieldType) (hd : decode M.2.1 pc = .ok (.putfield i, 3)) (hcl : vwCl[ci]? = some (C, T, N)) (hj : j < N) (hw : lw_tbl[w]? = some (.fieldLink M.1.cls i (T j).1 (T j).2.1 (T j).2.2.1)) (hfin : (T j).2.2.2 = false) (hty : parseFieldDescriptor (T j).2.2.1 = some ty) (hn : narrow ty v = v) (hfit : fits ty v = true) (hr : r < n) (hjf : j < fs.length) (kk : xE true d M l G mc ms n (ctKK G.B G.cA r ci (fs.set j v) es) k z (pc + 3) L st Qc) : xE true d M l G mc ms n (ctKK G.B G.cA r ci fs es) k z pc L (v :: .ref (G.B + r) :: st) Qc := by
  refine x_put j ty hd hcl hj hw hfin hty hn hfit hr ctKK_r hjf ?_
  rw [ctKK_put]
  exact kk
theorem k_putF {d : Nat} {M : mmMi} {l : Launch} {G : xG} {mc ms n r ci : Nat} {fs : List Value} {es : Nat → va_E} {k z : Nat} {L st : List Value} {pc : Nat} {Qc : Array Value → State → Outcome → State → Prop} {i w : Nat} {C : String} {T : u_T} {N : Nat} {v : Value} (j : Nat) (ty : FieldType) (hd : decode M.2.1 pc = .ok (.putfield i, 3)) (hcl : vwCl[ci]? = some (C, T, N)) (hj : j < N) (hw : lw_tbl[w]? = some (.fieldLink M.1.cls i (T j).1 (T j).2.1 (T j).2.2.1)) (hfin : (T j).2.2.2 = true) (hini : M.1.name = "<init>") (hdecl : (T j).1 = M.1.cls) (hty : parseFieldDescriptor (T j).2.2.1 = some ty) (hn : narrow ty v = v) (hfit : fits ty v = true) (hr : r < n) (hjf : j < fs.length) (kk : xE true d M l G mc ms n (ctKK G.B G.cA r ci (fs.set j v) es) k z (pc + 3) L st Qc) : xE true d M l G mc ms n (ctKK G.B G.cA r ci fs es) k z pc L (v :: .ref (G.B + r) :: st) Qc := by
  refine x_putF j ty hd hcl hj hw hfin hini hdecl hty hn hfit hr ctKK_r hjf ?_
  rw [ctKK_put]
  exact kk
theorem k_ret {d : Nat} {M : mmMi} {l : Launch} {G : xG} {mc ms n r ci : Nat} {fs : List Value} {es : Nat → va_E} {k z : Nat} {L : List Value} {pc : Nat} {w m0 : Nat} (hd : decode M.2.1 pc = .ok (.return_, 1)) (hret : M.2.2.2 = none) (hk : k = mc) (hz : z ≤ ms) (hn : n = r + w) (hm0 : m0 ≤ n) (he : mmE G.B G.cA ctMu r = .inr (ci, fs)) : xE true d M l G mc ms n (ctKK G.B G.cA r ci fs es) k z pc L [] (xQc G m0 (ctP G r w es)) := by
  refine x_return hd hret (by omega) hz (fun a s t h => ⟨none, n, _, rfl, ⟨rfl, hn, fun a _ => ?_⟩, hm0, h⟩)
  rw [ctKK_end he]
def M_i0 : mmMi := (yX0_init, cX0_init, 1, none)
theorem gI_0 : ctGd M_i0 0 := ⟨⟨mm_in 101 (by decide +kernel) rfl, mm_in 15 (by decide +kernel) rfl, (by decide +kernel), by decide, mm_in 100 (by decide +kernel) rfl⟩, rfl, rfl, rfl, mm_in 98 (by decide +kernel) rfl⟩
def M_i1 : mmMi := (yX1_init, cX1_init, 1, none)
theorem gI_1 : ctGd M_i1 1 := ⟨⟨mm_in 53 (by decide +kernel) rfl, mm_in 12 (by decide +kernel) rfl, (by decide +kernel), by decide, mm_in 52 (by decide +kernel) rfl⟩, rfl, rfl, rfl, mm_in 50 (by decide +kernel) rfl⟩
def M_i2 : mmMi := (yX2_init, cX2_init, 1, none)
theorem gI_2 : ctGd M_i2 2 := ⟨⟨mm_in 95 (by decide +kernel) rfl, mm_in 14 (by decide +kernel) rfl, (by decide +kernel), by decide, mm_in 94 (by decide +kernel) rfl⟩, rfl, rfl, rfl, mm_in 92 (by decide +kernel) rfl⟩
def M_i3 : mmMi := (yX3_init, cX3_init, 1, none)
theorem gI_3 : ctGd M_i3 3 := ⟨⟨mm_in 190 (by decide +kernel) rfl, mm_in 17 (by decide +kernel) rfl, (by decide +kernel), by decide, mm_in 189 (by decide +kernel) rfl⟩, rfl, rfl, rfl, mm_in 187 (by decide +kernel) rfl⟩
def M_i4 : mmMi := (yX4_init, cX4_init, 2, none)
theorem gI_4 : ctGd M_i4 4 := ⟨⟨mm_in 42 (by decide +kernel) rfl, mm_in 11 (by decide +kernel) rfl, (by decide +kernel), by decide, mm_in 41 (by decide +kernel) rfl⟩, rfl, rfl, rfl, mm_in 39 (by decide +kernel) rfl⟩
def M_i5 : mmMi := (yX5_init, cX5_init, 1, none)
theorem gI_5 : ctGd M_i5 5 := ⟨⟨mm_in 167 (by decide +kernel) rfl, mm_in 16 (by decide +kernel) rfl, (by decide +kernel), by decide, mm_in 166 (by decide +kernel) rfl⟩, rfl, rfl, rfl, mm_in 164 (by decide +kernel) rfl⟩
def M_i6 : mmMi := (yX6_init, cX6_init, 1, none)
theorem gI_6 : ctGd M_i6 6 := ⟨⟨mm_in 81 (by decide +kernel) rfl, mm_in 13 (by decide +kernel) rfl, (by decide +kernel), by decide, mm_in 80 (by decide +kernel) rfl⟩, rfl, rfl, rfl, mm_in 78 (by decide +kernel) rfl⟩
def M_i7 : mmMi := (yX7_init, cX7_init, 1, none)
theorem gI_7 : ctGd M_i7 7 := ⟨⟨mm_in 34 (by decide +kernel) rfl, mm_in 10 (by decide +kernel) rfl, (by decide +kernel), by decide, mm_in 33 (by decide +kernel) rfl⟩, rfl, rfl, rfl, mm_in 31 (by decide +kernel) rfl⟩
theorem ct_end0 {B r : Nat} {cA : Nat → ClassId} (h : mmKD r = 0) : mmE B cA ctMu r = .inr (0, (ctDf 0).set 0 (.int (-1))) := by
  rw [mmE_obj h (by decide)]
  simp [mmNF, mmFV, mmFT, mmRF, ctMu, h, ctDf, List.range, List.range.loop, Nat.add_assoc]
theorem ct_end1 {B r : Nat} {cA : Nat → ClassId} (h : mmKD r = 1) : mmE B cA ctMu r = .inr (1, (((ctDf 1).set 2 (.ref (B + (r + 1)))).set 3 (.ref (B + (r + 1 + 1)))).set 4 (.ref (B + (r + 1 + 1 + 1)))) := by
  rw [mmE_obj h (by decide)]
  simp [mmNF, mmFV, mmFT, mmRF, ctMu, h, ctDf, List.range, List.range.loop, Nat.add_assoc]
theorem ct_end2 {B r : Nat} {cA : Nat → ClassId} (h : mmKD r = 2) : mmE B cA ctMu r = .inr (2, (ctDf 2).set 2 (.ref (B + (r + 1)))) := by
  rw [mmE_obj h (by decide)]
  simp [mmNF, mmFV, mmFT, mmRF, ctMu, h, ctDf, List.range, List.range.loop, Nat.add_assoc]
theorem ct_end3 {B r : Nat} {cA : Nat → ClassId} (h : mmKD r = 3) : mmE B cA ctMu r = .inr (3, (ctDf 3).set 1 (.ref (B + (r + 1)))) := by
  rw [mmE_obj h (by decide)]
  simp [mmNF, mmFV, mmFT, mmRF, ctMu, h, ctDf, List.range, List.range.loop, Nat.add_assoc]
theorem ct_end5 {B r : Nat} {cA : Nat → ClassId} (h : mmKD r = 5) : mmE B cA ctMu r = .inr (5, ((ctDf 5).set 2 (.ref (B + (r + 1)))).set 3 (.ref (B + (r + 1 + 1)))) := by
  rw [mmE_obj h (by decide)]
  simp [mmNF, mmFV, mmFT, mmRF, ctMu, h, ctDf, List.range, List.range.loop, Nat.add_assoc]
theorem ct_end6 {B r : Nat} {cA : Nat → ClassId} (h : mmKD r = 6) : mmE B cA ctMu r = .inr (6, (ctDf 6).set 1 (.ref (B + (r + 1)))) := by
  rw [mmE_obj h (by decide)]
  simp [mmNF, mmFV, mmFT, mmRF, ctMu, h, ctDf, List.range, List.range.loop, Nat.add_assoc]
theorem cI_0 {d r : Nat} (hd : 1 ≤ d) (h : mmKD r = 0) : ctK d M_i0 0 0 r 1 0 := by
  intro l G es hes
  refine xMet.of true (j := 0) (by decide +kernel) (by simp [Value.category]) rfl ?_
  refine x_aload_n (i := 0) (by decide +kernel) rfl ?_
  refine x_objInit (i := 3) (w := 102) (by decide +kernel) (by decide +kernel) (by omega) rfl ?_
  refine xE.congr _ (ctKK_in (B := G.B) (cA := G.cA) hes) ?_
  refine x_aload_n (i := 0) (by decide +kernel) rfl ?_
  refine x_iconst (i := -1) (-1) (by decide +kernel) rfl ?_
  refine k_put (i := 9) (w := 103) 0 .int (by decide +kernel) rfl (by decide) (by decide +kernel) rfl (by decide +kernel) rfl rfl (by omega) (by simp [ctDf, mmNF]) ?_
  exact k_ret (by decide +kernel) rfl rfl (by decide +kernel) (by omega) (by omega) (ct_end0 h)
theorem cI_1 {d r : Nat} (hd : 1 ≤ d) (h : mmKD r = 1) (h1 : mmKD (r + 1) = 10 ∧ mmLEN (r + 1) = 40) (h2 : mmKD (r + 1 + 1) = 11 ∧ mmLEN (r + 1 + 1) = 40) (h3 : mmKD (r + 1 + 1 + 1) = 12 ∧ mmLEN (r + 1 + 1 + 1) = 40) : ctK d M_i1 3 120 r 4 1 := by
  intro l G es hes
  refine xMet.of true (j := 0) (by decide +kernel) (by simp [Value.category]) rfl ?_
  refine x_aload_n (i := 0) (by decide +kernel) rfl ?_
  refine x_objInit (i := 3) (w := 54) (by decide +kernel) (by decide +kernel) (by omega) rfl ?_
  refine xE.congr _ (ctKK_in (B := G.B) (cA := G.cA) hes) ?_
  refine x_aload_n (i := 0) (by decide +kernel) rfl ?_
  refine x_bipush (i := 40) 40 (by decide +kernel) rfl ?_
  refine k_newI 40 (by decide +kernel) (by decide) (by decide) (by decide) (by omega) (by decide +kernel) (by omega) h1.1 h1.2 ?_
  refine k_putF (i := 9) (w := 60) 2 (.array .int) (by decide +kernel) rfl (by decide) (by decide +kernel) rfl rfl rfl (by decide +kernel) rfl rfl (by omega) (by simp [ctDf, mmNF]) ?_
  refine x_aload_n (i := 0) (by decide +kernel) rfl ?_
  refine x_bipush (i := 40) 40 (by decide +kernel) rfl ?_
  refine k_newJ 40 (by decide +kernel) (by decide) (by decide) (by decide) (by omega) (by decide +kernel) (by omega) h2.1 h2.2 ?_
  refine k_putF (i := 15) (w := 61) 3 (.array .long) (by decide +kernel) rfl (by decide) (by decide +kernel) rfl rfl rfl (by decide +kernel) rfl rfl (by omega) (by simp [ctDf, mmNF]) ?_
  refine x_aload_n (i := 0) (by decide +kernel) rfl ?_
  refine x_bipush (i := 40) 40 (by decide +kernel) rfl ?_
  refine k_newD 40 (by decide +kernel) (by decide) (by decide) (by decide) (by omega) (by decide +kernel) (by omega) h3.1 h3.2 ?_
  refine k_putF (i := 19) (w := 62) 4 (.array .double) (by decide +kernel) rfl (by decide) (by decide +kernel) rfl rfl rfl (by decide +kernel) rfl rfl (by omega) (by simp [ctDf, mmNF]) ?_
  exact k_ret (by decide +kernel) rfl rfl (by decide +kernel) (by omega) (by omega) (ct_end1 h)
theorem cI_2 {d r : Nat} (hd : 2 ≤ d) (h : mmKD r = 2) (h1 : mmKD (r + 1) = 0) : ctK d M_i2 1 3 r 2 2 := by
  intro l G es hes
  refine xMet.of true (j := 0) (by decide +kernel) (by simp [Value.category]) rfl ?_
  refine x_aload_n (i := 0) (by decide +kernel) rfl ?_
  refine x_objInit (i := 3) (w := 96) (by decide +kernel) (by decide +kernel) (by omega) rfl ?_
  refine xE.congr _ (ctKK_in (B := G.B) (cA := G.cA) hes) ?_
  refine x_aload_n (i := 0) (by decide +kernel) rfl ?_
  refine k_makeN (i1 := 9) (i2 := 11) (w1 := 97) (d' := d - 1) (by decide +kernel) (by decide +kernel) (by decide +kernel) (by decide +kernel) (by decide +kernel) gI_0 (by decide) (cI_0 (by omega) h1) rfl (by omega) (by omega) (by decide +kernel) (by simp [Value.category]) (by omega) ?_
  refine k_putF (i := 12) (w := 119) 2 (.object "ColumnCasts$Cell") (by decide +kernel) rfl (by decide) (by decide +kernel) rfl rfl rfl (by decide +kernel) rfl rfl (by omega) (by simp [ctDf, mmNF]) ?_
  exact k_ret (by decide +kernel) rfl rfl (by decide +kernel) (by omega) (by omega) (ct_end2 h)
theorem cI_3 {d r : Nat} (hd : 1 ≤ d) (h : mmKD r = 3) (h1 : mmKD (r + 1) = 10 ∧ mmLEN (r + 1) = 1000) : ctK d M_i3 1 1000 r 2 3 := by
  intro l G es hes
  refine xMet.of true (j := 0) (by decide +kernel) (by simp [Value.category]) rfl ?_
  refine x_aload_n (i := 0) (by decide +kernel) rfl ?_
  refine x_objInit (i := 3) (w := 191) (by decide +kernel) (by decide +kernel) (by omega) rfl ?_
  refine xE.congr _ (ctKK_in (B := G.B) (cA := G.cA) hes) ?_
  refine x_aload_n (i := 0) (by decide +kernel) rfl ?_
  refine x_sipush (i := 1000) 1000 (by decide +kernel) rfl ?_
  refine k_newI 1000 (by decide +kernel) (by decide) (by decide) (by decide) (by omega) (by decide +kernel) (by omega) h1.1 h1.2 ?_
  refine k_putF (i := 9) (w := 192) 1 (.array .int) (by decide +kernel) rfl (by decide) (by decide +kernel) rfl rfl rfl (by decide +kernel) rfl rfl (by omega) (by simp [ctDf, mmNF]) ?_
  exact k_ret (by decide +kernel) rfl rfl (by decide +kernel) (by omega) (by omega) (ct_end3 h)
theorem cI_5 {d r : Nat} (hd : 2 ≤ d) (h : mmKD r = 5) (h1 : mmKD (r + 1) = 10 ∧ mmLEN (r + 1) = 100) (h2 : mmKD (r + 1 + 1) = 0) : ctK d M_i5 2 103 r 3 5 := by
  intro l G es hes
  refine xMet.of true (j := 0) (by decide +kernel) (by simp [Value.category]) rfl ?_
  refine x_aload_n (i := 0) (by decide +kernel) rfl ?_
  refine x_objInit (i := 3) (w := 168) (by decide +kernel) (by decide +kernel) (by omega) rfl ?_
  refine xE.congr _ (ctKK_in (B := G.B) (cA := G.cA) hes) ?_
  refine x_aload_n (i := 0) (by decide +kernel) rfl ?_
  refine x_bipush (i := 100) 100 (by decide +kernel) rfl ?_
  refine k_newI 100 (by decide +kernel) (by decide) (by decide) (by decide) (by omega) (by decide +kernel) (by omega) h1.1 h1.2 ?_
  refine k_putF (i := 9) (w := 175) 2 (.array .int) (by decide +kernel) rfl (by decide) (by decide +kernel) rfl rfl rfl (by decide +kernel) rfl rfl (by omega) (by simp [ctDf, mmNF]) ?_
  refine x_aload_n (i := 0) (by decide +kernel) rfl ?_
  refine k_makeN (i1 := 15) (i2 := 17) (w1 := 169) (d' := d - 1) (by decide +kernel) (by decide +kernel) (by decide +kernel) (by decide +kernel) (by decide +kernel) gI_0 (by decide) (cI_0 (by omega) h2) rfl (by omega) (by omega) (by decide +kernel) (by simp [Value.category]) (by omega) ?_
  refine k_putF (i := 18) (w := 176) 3 (.object "ColumnCasts$Cell") (by decide +kernel) rfl (by decide) (by decide +kernel) rfl rfl rfl (by decide +kernel) rfl rfl (by omega) (by simp [ctDf, mmNF]) ?_
  exact k_ret (by decide +kernel) rfl rfl (by decide +kernel) (by omega) (by omega) (ct_end5 h)
theorem cI_6 {d r : Nat} (hd : 1 ≤ d) (h : mmKD r = 6) (h1 : mmKD (r + 1) = 10 ∧ mmLEN (r + 1) = 40) : ctK d M_i6 1 40 r 2 6 := by
  intro l G es hes
  refine xMet.of true (j := 0) (by decide +kernel) (by simp [Value.category]) rfl ?_
  refine x_aload_n (i := 0) (by decide +kernel) rfl ?_
  refine x_objInit (i := 3) (w := 82) (by decide +kernel) (by decide +kernel) (by omega) rfl ?_
  refine xE.congr _ (ctKK_in (B := G.B) (cA := G.cA) hes) ?_
  refine x_aload_n (i := 0) (by decide +kernel) rfl ?_
  refine x_bipush (i := 40) 40 (by decide +kernel) rfl ?_
  refine k_newI 40 (by decide +kernel) (by decide) (by decide) (by decide) (by omega) (by decide +kernel) (by omega) h1.1 h1.2 ?_
  refine k_putF (i := 9) (w := 85) 1 (.array .int) (by decide +kernel) rfl (by decide) (by decide +kernel) rfl rfl rfl (by decide +kernel) rfl rfl (by omega) (by simp [ctDf, mmNF]) ?_
  exact k_ret (by decide +kernel) rfl rfl (by decide +kernel) (by omega) (by omega) (ct_end6 h)
