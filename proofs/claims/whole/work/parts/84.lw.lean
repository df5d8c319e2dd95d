/-! ===== the empty table ===== -/
def aS0 : aS := ((0, [], [], [], [], []), none, 0, (0, 0, 0), [])
theorem okT_0 : okT aS0.1 := by
  refine ⟨by decide, by decide, (fun c hc => by cases hc), ⟨List.nodup_nil, (fun r hr => by cases hr)⟩, ⟨List.nodup_nil, (fun r hr => by cases hr)⟩, by decide, (fun k hk => by cases hk), by decide, (fun f hf => by cases hf)⟩
theorem CS_0 : CS ctMu aS0 := by
  refine ⟨⟨⟨by decide, by decide, by decide, by decide⟩, (fun c col h => by cases h), ⟨⟨by decide, (fun i r h => by cases h)⟩, ⟨by decide, (fun i r h => by cases h)⟩⟩, (fun k q h => by cases h), (fun f q h => by cases h)⟩, okT_0, by show ctMu.1 0 2 = 0; decide, rfl, ⟨by decide, by decide, by decide⟩, ⟨by decide, (fun i x h => by cases h)⟩, by decide, (fun x h => by cases h)⟩
theorem MS_0 : MS ctMu aS0 := by
  refine ⟨⟨⟨by decide, by decide, by decide, by decide⟩, (fun c col h => by cases h), ⟨⟨by decide, (fun i r h => by cases h)⟩, ⟨by decide, (fun i r h => by cases h)⟩⟩, (fun k q h => by cases h), (fun f q h => by cases h)⟩, okT_0, by show ctMu.1 160 4 = 0; decide, rfl, ⟨by decide, by decide, by decide⟩, ⟨by decide, (fun i x h => by cases h)⟩, by decide, (fun x h => by cases h)⟩
theorem MS.hi {μ ν : mmMem} {S : aS} (h : MS μ S) (e : hiE μ ν) : MS ν S := by
  obtain ⟨h1, h2, h3, h4, h5, h6, h7⟩ := h
  have e0 := e 160 (by decide)
  refine ⟨by rw [(e 161 (by decide)).1, (e 162 (by decide)).2.1]; exact h1, h2, h3.fr (by rw [e0.1]) (e 163 (by decide)).1 (e 164 (by decide)).2.1, by rw [e0.2.1]; exact h4, by rw [(e 165 (by decide)).1]; exact h5, ⟨by rw [e0.1]; exact h6.1, fun i x hx => by rw [(e 171 (by decide)).1]; exact h6.2 i x hx⟩, h7⟩
/-! ===== the law's own steps ===== -/
def lwC (p : Program) (s : State) (m : MethodId) (meth : Method) (c : Code) (b L : Nat) (xs : Nat → Int32) (sk sv : Nat → Nat) (D : va_G) (cA : Nat → ClassId) : Prop := lw_At p s m meth c b L xs ∧ ctS s.heap.size s.heap sk sv D cA s
def lwE (p : Program) (l : Launch) (e : Env) (s : State) (m : MethodId) (below : List Frame) (meth : Method) (c : Code) (b : Nat) (D : va_G) (cA : Nat → ClassId) (μ : mmMem) (pc : Nat) (Lv st : List Value) : Prop :=
  ∀ (H : Heap) (locs : List Loc) (ls : Array Slot), scLs ls 4 Lv → mmH s.heap.size s.heap D cA μ H → va_S (fun q => s.heap.size ≤ q) s.heap H locs → W p l e room_1 s m #[.ref b] below meth c H locs 600000 7302250 (lw_Z below #[.ref b] s) (F0 m pc ls st)
theorem lwC.ts {p : Program} {s : State} {m : MethodId} {meth : Method} {c : Code} {b L : Nat} {xs : Nat → Int32} {sk sv : Nat → Nat} {D : va_G} {cA : Nat → ClassId} (C : lwC p s m meth c b L xs sk sv D cA) : ∀ w ∈ mmT, w.before #[Value.ref b] s = true := fun w hw => C.1.2.2.2.2.2.1 w (List.mem_filter.mp hw).1
theorem lw_aload {p : Program} {l : Launch} {e : Env} {s : State} {m : MethodId} {below : List Frame} {meth : Method} {c : Code} {b L : Nat} {xs : Nat → Int32} {sk sv : Nat → Nat} {D : va_G} {cA : Nat → ClassId} {μ : mmMem} {Lv st : List Value} {pc : Nat} (C : lwC p s m meth c b L xs sk sv D cA) {i : Fin 4} {x : Nat} (hd : decode code pc = .ok (.aload_n i, 1)) (hg : Lv[i.val]? = some (.ref x)) (k : lwE p l e s m below meth c b D cA μ (pc + 1) Lv (.ref x :: st)) : lwE p l e s m below meth c b D cA μ pc Lv st := by
  intro H locs ls hls hH hS
  obtain ⟨hx, hb, hr, hml, hown, -, hX, hbl, hlk, -⟩ := C.1
  exact lv_aload_n hx hb hd rfl (hls.at hg (fun hq => by cases hq)) (k H locs ls hls hH hS)
theorem lw_arg {p : Program} {l : Launch} {e : Env} {s : State} {m : MethodId} {below : List Frame} {meth : Method} {c : Code} {b L : Nat} {xs : Nat → Int32} {sk sv : Nat → Nat} {D : va_G} {cA : Nat → ClassId} {μ : mmMem} {Lv st : List Value} {pc : Nat} (C : lwC p s m meth c b L xs sk sv D cA)  (i q : Nat) (d1 : decode code pc = .ok (.aload_n 0, 1)) (d2 : decode code (pc + 1) = .ok (.iload_n 3, 1)) (d3 : decode code (pc + 2) = .ok (.iconst q, 1)) (d4 : decode code (pc + 3) = .ok (.iadd, 1)) (d5 : decode code (pc + 4) = .ok (.iaload, 1)) (h0 : Lv[0]? = some (.ref b)) (h3 : Lv[3]? = some (.int (nI i))) (hL : i + q < L) (hL2 : L ≤ 3584) (k : lwE p l e s m below meth c b D cA μ (pc + 5) Lv (.int (xs (i + q)) :: st)) : lwE p l e s m below meth c b D cA μ pc Lv st := by
  intro H locs ls hls hH hS
  obtain ⟨hx, hb, hr, hml, hown, -, hX, hbl, hlk, -⟩ := C.1
  refine lv_aload_n (i := 0) hx hb d1 rfl (hls.at h0 (fun hq => by cases hq)) ?_
  refine lv_iload_n (i := 3) hx hb d2 rfl (hls.at h3 (fun hq => by cases hq)) ?_
  refine lv_iconst hx hb d3 rfl ?_
  refine lv_iadd hx hb d4 ?_
  have e1 : nI i + Int32.ofInt (q : Int) = nI (i + q) := nI_add i q
  have e2 : (nI (i + q)).toNatClampNeg = i + q := nI_clamp (by omega)
  rw [e1]
  have h9 := (k H locs ls hls hH hS)
  refine va_sld hx hb hX hbl (by simp; omega) hS (vp_in_nI hL (by omega)) d5 ?_
  rw [e2]
  exact h9
theorem lw_arg6 {p : Program} {l : Launch} {e : Env} {s : State} {m : MethodId} {below : List Frame} {meth : Method} {c : Code} {b L : Nat} {xs : Nat → Int32} {sk sv : Nat → Nat} {D : va_G} {cA : Nat → ClassId} {μ : mmMem} {Lv st : List Value} {pc : Nat} (C : lwC p s m meth c b L xs sk sv D cA)  (i : Nat) (d1 : decode code pc = .ok (.aload_n 0, 1)) (d2 : decode code (pc + 1) = .ok (.iload_n 3, 1)) (d3 : decode code (pc + 2) = .ok (.bipush 6, 2)) (d4 : decode code (pc + 4) = .ok (.iadd, 1)) (d5 : decode code (pc + 5) = .ok (.iaload, 1)) (h0 : Lv[0]? = some (.ref b)) (h3 : Lv[3]? = some (.int (nI i))) (hL : i + 6 < L) (hL2 : L ≤ 3584) (k : lwE p l e s m below meth c b D cA μ (pc + 6) Lv (.int (xs (i + 6)) :: st)) : lwE p l e s m below meth c b D cA μ pc Lv st := by
  intro H locs ls hls hH hS
  obtain ⟨hx, hb, hr, hml, hown, -, hX, hbl, hlk, -⟩ := C.1
  refine lv_aload_n (i := 0) hx hb d1 rfl (hls.at h0 (fun hq => by cases hq)) ?_
  refine lv_iload_n (i := 3) hx hb d2 rfl (hls.at h3 (fun hq => by cases hq)) ?_
  refine lv_bipush hx hb d3 (v := 6) (by decide) ?_
  refine lv_iadd hx hb d4 ?_
  have e1 : nI i + 6 = nI (i + 6) := nI_add i 6
  have e2 : (nI (i + 6)).toNatClampNeg = i + 6 := nI_clamp (by omega)
  rw [e1]
  have h9 := (k H locs ls hls hH hS)
  refine va_sld hx hb hX hbl (by simp; omega) hS (vp_in_nI hL (by omega)) d5 ?_
  rw [e2]
  exact h9
def lwJ (x y : Int32) : Int64 := (x.toInt64 <<< ((32 : Int32).toInt64 &&& 63)) ||| (y.toInt64 &&& 4294967295)
theorem lw_up {p : Program} {l : Launch} {e : Env} {s : State} {m : MethodId} {below : List Frame} {meth : Method} {c : Code} {b L : Nat} {xs : Nat → Int32} {sk sv : Nat → Nat} {D : va_G} {cA : Nat → ClassId} {μ : mmMem} {Lv st : List Value} {pc : Nat} (C : lwC p s m meth c b L xs sk sv D cA) {x : Int32} (d1 : decode code pc = .ok (.i2l, 1)) (d2 : decode code (pc + 1) = .ok (.bipush 32, 2)) (d3 : decode code (pc + 3) = .ok (.lshl, 1)) (k : lwE p l e s m below meth c b D cA μ (pc + 4) Lv (.long (x.toInt64 <<< ((32 : Int32).toInt64 &&& 63)) :: st)) : lwE p l e s m below meth c b D cA μ pc Lv (.int x :: st) := by
  intro H locs ls hls hH hS
  obtain ⟨hx, hb, hr, hml, hown, -, hX, hbl, hlk, -⟩ := C.1
  refine lv_i2l hx hb d1 rfl ?_
  refine lv_bipush hx hb d2 (v := 32) (by decide) ?_
  exact lv_lshl hx hb d3 rfl (k H locs ls hls hH hS)
theorem lw_low {p : Program} {l : Launch} {e : Env} {s : State} {m : MethodId} {below : List Frame} {meth : Method} {c : Code} {b L : Nat} {xs : Nat → Int32} {sk sv : Nat → Nat} {D : va_G} {cA : Nat → ClassId} {μ : mmMem} {Lv st : List Value} {pc : Nat} (C : lwC p s m meth c b L xs sk sv D cA) {x y : Int32} (d1 : decode code pc = .ok (.i2l, 1)) (d2 : decode code (pc + 1) = .ok (.ldc2_w 40, 3)) (d3 : decode code (pc + 4) = .ok (.land, 1)) (d4 : decode code (pc + 5) = .ok (.lor, 1)) (k : lwE p l e s m below meth c b D cA μ (pc + 6) Lv (.long (lwJ x y) :: st)) : lwE p l e s m below meth c b D cA μ pc Lv (.int y :: .long (x.toInt64 <<< ((32 : Int32).toInt64 &&& 63)) :: st) := by
  intro H locs ls hls hH hS
  obtain ⟨hx, hb, hr, hml, hown, -, hX, hbl, hlk, -⟩ := C.1
  refine lv_i2l hx hb d1 rfl ?_
  refine lv_ldc2 (own := R_law) (v := 4294967295) hx hb hown (C.ts _ (mm_in 1416 (by decide +kernel) rfl)) d2 ?_
  refine lv_land hx hb d3 ?_
  exact lv_lor hx hb d4 (k H locs ls hls hH hS)
theorem lw_bool {p : Program} {l : Launch} {e : Env} {s : State} {m : MethodId} {below : List Frame} {meth : Method} {c : Code} {b L : Nat} {xs : Nat → Int32} {sk sv : Nat → Nat} {D : va_G} {cA : Nat → ClassId} {μ : mmMem} {Lv st : List Value} {pc : Nat} (C : lwC p s m meth c b L xs sk sv D cA) {x : Int32} (t1 t2 : Nat) {o1 o2 : Int} (d1 : decode code pc = .ok (.ifCond .eq o1, 3)) (e1 : (pc : Int) + o1 = (t1 : Int)) (d2 : decode code (pc + 3) = .ok (.iconst 1, 1)) (d3 : decode code (pc + 4) = .ok (.goto o2, 3)) (e2 : ((pc + 4 : Nat) : Int) + o2 = (t2 : Int)) (d4 : decode code t1 = .ok (.iconst 0, 1)) (e3 : t1 + 1 = t2) (k : lwE p l e s m below meth c b D cA μ t2 Lv (.int (if (decide (x ≠ 0)) = true then 1 else 0) :: st)) : lwE p l e s m below meth c b D cA μ pc Lv (.int x :: st) := by
  intro H locs ls hls hH hS
  obtain ⟨hx, hb, hr, hml, hown, -, hX, hbl, hlk, -⟩ := C.1
  refine lv_if_eq hx hb d1 e1 (fun q => ?_) (fun q => ?_)
  · refine lv_iconst (v := 0) hx hb d4 rfl ?_
    have h9 := (k H locs ls hls hH hS)
    rw [if_neg (by simpa using q)] at h9
    rw [e3]
    exact h9
  · refine lv_iconst (v := 1) hx hb d2 rfl ?_
    refine lv_goto hx hb d3 e2 ?_
    have h9 := (k H locs ls hls hH hS)
    rw [if_pos (by simpa using q)] at h9
    exact h9
theorem lw_use {p : Program} {l : Launch} {e : Env} {s : State} {m : MethodId} {args : Array Value} {below : List Frame} {meth : Method} {c : Code} {H : Heap} {locs : List Loc} {pc k z : Nat} {ls : Array Slot} {st0 rest : List Value} {Q : State → Prop} {B : Nat} {H0 : Heap} {sk : Nat → Nat} {D : va_G} {cA : Nat → ClassId} {P : Option Value → mmMem → Prop} {a : Array Value} {R : Room}
    (hr : va_Run p l e R s m args below meth c H locs k z 0 0 (F0 m pc ls st0) rest (mmQc B H0 sk D cA P a) (fun q => B ≤ q)) (hsz : H.size = B + 173) (hH0 : ∀ q : Nat, q < B → H[q]? = H0[q]?) (hF : va_S (fun q => B ≤ q) s.heap H locs)
    (kk : ∀ (v : Option Value) (ν : mmMem) (H1 : Heap) (locs1 : List Loc), P v ν → mmH B H0 D cA ν H1 → va_S (fun q => B ≤ q) s.heap H1 locs1 → W p l e R s m args below meth c H1 locs1 k z Q (F0 m (pc + 3) ls ((v.map (mmV B sk)).toList ++ rest))) :
    W p l e R s m args below meth c H locs k z Q (F0 m pc ls st0) := by
  intro T hT X
  obtain ⟨v, st₀, t, T', L, h0, X', hL, e1, e2, ⟨v', ν, hv, hp, hh⟩, st⟩ := hr T hT X
  cases hv
  have hh1 : mmH B H0 D cA ν T'.heap := by rw [e1]; exact hh
  have hv1 : va_S (fun q => B ≤ q) s.heap T'.heap (locs ++ L) := by
    refine ⟨by have := hF.1; rw [hh1.1, ← hsz]; exact this, fun q h1 h2 => ?_, fun q hq => ?_⟩
    · have hq : q < B := Nat.not_le.mp h2
      rw [hh1.2.1 q hq, ← hH0 q hq]
      exact hF.2.1 q h1 h2
    · rcases List.mem_append.mp hq with h | h
      · exact hF.2.2 q h
      · exact hL q h
  obtain ⟨t2, a1, b1⟩ := kk v' ν T'.heap (locs ++ L) hp hh1 hv1 T' rfl X'
  exact ⟨t2, st t2 a1, b1⟩
theorem lw_callI {p : Program} {l : Launch} {e : Env} {s : State} {m : MethodId} {below : List Frame} {meth : Method} {c : Code} {b L : Nat} {xs : Nat → Int32} {sk sv : Nat → Nat} {D : va_G} {cA : Nat → ClassId} {μ : mmMem} {Lv st : List Value} {pc : Nat} (C : lwC p s m meth c b L xs sk sv D cA) {d i w a o ci : Nat} {M : mmMi} {as : List Value} {st0 : List Value} {K : Int32 → mmMem → Prop} (hst : st0 = (as.map (mmV s.heap.size sk)).reverse ++ .ref (s.heap.size + o) :: st) (hd : decode code pc = .ok (.invokevirtual i, 3)) (hw : lw_tbl[w]? = some (.methodLink R_law i M.1)) (hci : (vwCl[ci]?).map (fun q => q.1) = some M.1.cls) (hKD : mmKD o = ci) (hd9 : d ≤ 100) (hr8 : (st.map fun v => v.category).sum ≤ 8) (h : mmCI d M false a (.ref o :: as) μ K) (k : ∀ x ν, K x ν → lwE p l e s m below meth c b D cA ν (pc + 3) Lv (.int x :: st)) : lwE p l e s m below meth c b D cA μ pc Lv st0 := by
  subst hst
  intro H locs ls hls hH hS
  have hts := C.ts
  obtain ⟨hx, hb, hr, hml, hown, -, hX, hbl, hlk, -⟩ := C.1
  obtain ⟨hg, hlen, d', hd', P', hmo, hcall⟩ := h
  obtain ⟨⟨Cn, T, N⟩, hc, hC⟩ := Option.map_eq_some_iff.mp hci
  dsimp only at hC
  subst hC
  obtain ⟨hci9, -⟩ := mm_cls hc
  have hls1 : ls.size = 4 := hls.choose_spec.1.1
  have hgv : Cond.instanceMethod M.1 ∈ mmT ∧ Cond.selects M.1.cls M.1 M.1 ∈ mmT := by simpa using hg.2.2.2.2
  refine lw_use (rest := st) (va_runV (As := as.map (mmV s.heap.size sk)) (b := s.heap.size + o) (C := M.1.cls) (own := R_law) ⟨hx, hb, hml, hown, hts⟩ (hcall l s.heap.size s.heap sk sv D cA) ⟨callB_of a hts (mm_goodWs hg.1) rfl rfl rfl (hts _ hg.2.1) (hts _ (mm_in w hw rfl)) hg.2.2.1 ⟨by show d' + 1 ≤ 2048; omega, by have := hg.2.2.2.1; show 8 + (M.2.2.1 + 11) + 100 * d' ≤ 84000; omega⟩, hts _ hgv.1, hts _ hgv.2⟩ ⟨mm_blind, va_recv C.2.1.2.1 hH.2.2 hc (mmE_o hKD hci9), fun U hU hW => mm_pre (as := .ref o :: as) hH C.2.1 hU hW⟩ rfl (by simpa using hlen) hls1 rfl (lv_room hr8) hd ⟨Nat.le_refl _, Nat.le_refl _⟩) hH.1 hH.2.1 hS (fun v ν H1 locs1 hP hH1 hS1 => ?_)
  obtain ⟨x, rfl, hKx⟩ := mmPI_ok (hmo _ _ hP)
  exact k x ν hKx H1 locs1 ls hls hH1 hS1
theorem lw_callJ {p : Program} {l : Launch} {e : Env} {s : State} {m : MethodId} {below : List Frame} {meth : Method} {c : Code} {b L : Nat} {xs : Nat → Int32} {sk sv : Nat → Nat} {D : va_G} {cA : Nat → ClassId} {μ : mmMem} {Lv st : List Value} {pc : Nat} (C : lwC p s m meth c b L xs sk sv D cA) {d i w a o ci : Nat} {M : mmMi} {as : List Value} {st0 : List Value} {K : Int64 → mmMem → Prop} (hst : st0 = (as.map (mmV s.heap.size sk)).reverse ++ .ref (s.heap.size + o) :: st) (hd : decode code pc = .ok (.invokevirtual i, 3)) (hw : lw_tbl[w]? = some (.methodLink R_law i M.1)) (hci : (vwCl[ci]?).map (fun q => q.1) = some M.1.cls) (hKD : mmKD o = ci) (hd9 : d ≤ 100) (hr8 : (st.map fun v => v.category).sum ≤ 8) (h : mmCJ d M false a (.ref o :: as) μ K) (k : ∀ x ν, K x ν → lwE p l e s m below meth c b D cA ν (pc + 3) Lv (.long x :: st)) : lwE p l e s m below meth c b D cA μ pc Lv st0 := by
  subst hst
  intro H locs ls hls hH hS
  have hts := C.ts
  obtain ⟨hx, hb, hr, hml, hown, -, hX, hbl, hlk, -⟩ := C.1
  obtain ⟨hg, hlen, d', hd', P', hmo, hcall⟩ := h
  obtain ⟨⟨Cn, T, N⟩, hc, hC⟩ := Option.map_eq_some_iff.mp hci
  dsimp only at hC
  subst hC
  obtain ⟨hci9, -⟩ := mm_cls hc
  have hls1 : ls.size = 4 := hls.choose_spec.1.1
  have hgv : Cond.instanceMethod M.1 ∈ mmT ∧ Cond.selects M.1.cls M.1 M.1 ∈ mmT := by simpa using hg.2.2.2.2
  refine lw_use (rest := st) (va_runV (As := as.map (mmV s.heap.size sk)) (b := s.heap.size + o) (C := M.1.cls) (own := R_law) ⟨hx, hb, hml, hown, hts⟩ (hcall l s.heap.size s.heap sk sv D cA) ⟨callB_of a hts (mm_goodWs hg.1) rfl rfl rfl (hts _ hg.2.1) (hts _ (mm_in w hw rfl)) hg.2.2.1 ⟨by show d' + 1 ≤ 2048; omega, by have := hg.2.2.2.1; show 8 + (M.2.2.1 + 11) + 100 * d' ≤ 84000; omega⟩, hts _ hgv.1, hts _ hgv.2⟩ ⟨mm_blind, va_recv C.2.1.2.1 hH.2.2 hc (mmE_o hKD hci9), fun U hU hW => mm_pre (as := .ref o :: as) hH C.2.1 hU hW⟩ rfl (by simpa using hlen) hls1 rfl (lv_room hr8) hd ⟨Nat.le_refl _, Nat.le_refl _⟩) hH.1 hH.2.1 hS (fun v ν H1 locs1 hP hH1 hS1 => ?_)
  obtain ⟨x, rfl, hKx⟩ := mmPJ_ok (hmo _ _ hP)
  exact k x ν hKx H1 locs1 ls hls hH1 hS1
theorem lw_same {p : Program} {l : Launch} {e : Env} {s : State} {m : MethodId} {below : List Frame} {meth : Method} {c : Code} {b L : Nat} {xs : Nat → Int32} {sk sv : Nat → Nat} {D : va_G} {cA : Nat → ClassId} {μ : mmMem} {Lv st : List Value} {pc : Nat} (C : lwC p s m meth c b L xs sk sv D cA) {x : Int32} {off : Int} (t : Nat) (hd : decode code pc = .ok (.if_icmp .eq off, 3)) (ht : (pc : Int) + off = (t : Int)) (k : lwE p l e s m below meth c b D cA μ t Lv st) : lwE p l e s m below meth c b D cA μ pc Lv (.int x :: .int x :: st) := by
  intro H locs ls hls hH hS
  obtain ⟨hx, hb, hr, hml, hown, -, hX, hbl, hlk, -⟩ := C.1
  exact lv_icmp_eq hx hb hd ht (fun _ => (k H locs ls hls hH hS)) (fun q => absurd rfl q)
theorem lw_sameJ {p : Program} {l : Launch} {e : Env} {s : State} {m : MethodId} {below : List Frame} {meth : Method} {c : Code} {b L : Nat} {xs : Nat → Int32} {sk sv : Nat → Nat} {D : va_G} {cA : Nat → ClassId} {μ : mmMem} {Lv st : List Value} {pc : Nat} (C : lwC p s m meth c b L xs sk sv D cA) {x : Int64} {off : Int} (t : Nat) (hd1 : decode code pc = .ok (.lcmp, 1)) (hd : decode code (pc + 1) = .ok (.ifCond .eq off, 3)) (ht : ((pc + 1 : Nat) : Int) + off = (t : Int)) (k : lwE p l e s m below meth c b D cA μ t Lv st) : lwE p l e s m below meth c b D cA μ pc Lv (.long x :: .long x :: st) := by
  intro H locs ls hls hH hS
  obtain ⟨hx, hb, hr, hml, hown, -, hX, hbl, hlk, -⟩ := C.1
  refine W.lcmp hx hb hd1 ?_
  have e0 : lg_cmp x x = 0 := by simp [lg_cmp]
  rw [e0]
  exact lv_if_eq hx hb hd ht (fun _ => (k H locs ls hls hH hS)) (fun q => absurd rfl q)
