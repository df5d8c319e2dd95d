/-! ===== calls ===== -/
theorem mm_use {p : Program} {l : Launch} {e : Env} {R : Room} {s : State} {m : MethodId} {args : Array Value} {below : List Frame} {meth : Method} {c : Code} {H : Heap} {locs : List Loc} {pc : Nat} {ls : Array Slot} {st0 rest : List Value} {Q : State → Prop} {B : Nat} {H0 : Heap} {sk : Nat → Nat} {D : va_G} {cA : Nat → ClassId} {P : Option Value → mmMem → Prop} {a : Array Value} {μ : mmMem}
    (hr : va_Run p l e R s m args below meth c H locs 0 0 0 0 (F0 m pc ls st0) rest (mmQc B H0 sk D cA P a) (mmA B)) (hH : mmH B H0 D cA μ H) (hF : va_S (mmA B) s.heap H locs) (hB : s.heap.size = H0.size)
    (kk : ∀ (v : Option Value) (ν : mmMem) (H1 : Heap) (locs1 : List Loc), P v ν → mmH B H0 D cA ν H1 → va_S (mmA B) s.heap H1 locs1 → W p l e R s m args below meth c H1 locs1 0 0 Q (F0 m (pc + 3) ls ((v.map (mmV B sk)).toList ++ rest))) :
    W p l e R s m args below meth c H locs 0 0 Q (F0 m pc ls st0) := by
  intro T hT X
  obtain ⟨v, st₀, t, T', L, h0, X', hL, e1, e2, ⟨v', ν, hv, hp, hh⟩, st⟩ := hr T hT X
  cases hv
  have hh1 : mmH B H0 D cA ν T'.heap := by rw [e1]; exact hh
  have hv1 : va_S (mmA B) s.heap T'.heap (locs ++ L) := by
    refine ⟨by rw [hh1.1, hB]; exact Nat.le_refl _, fun q h1 h2 => ?_, fun q hq => ?_⟩
    · have hq : q < H0.size := by rw [← hB]; exact h1
      rw [hh1.2.1 q hq h2, ← hH.2.1 q hq h2]
      exact hF.2.1 q h1 h2
    · rcases List.mem_append.mp hq with h | h
      · exact hF.2.2 q h
      · exact hL q h
  obtain ⟨t2, a1, b1⟩ := kk v' ν T'.heap (locs ++ L) hp hh1 hv1 T' rfl X'
  exact ⟨t2, st t2 a1, b1⟩
theorem mm_goodWs {M : mmMi} (h : Cond.code M.1 M.2.1 M.2.2.1 M.2.2.2 ∈ mmT) : GoodIn mmT (mmWs M) := fun w hw => by
  rcases List.mem_cons.mp hw with rfl | hw
  · exact mm_goodT _ h
  · exact mm_goodT _ hw
theorem mm_blind {B : Nat} {H0 : Heap} {sk sv : Nat → Nat} {D : va_G} {cA : Nat → ClassId} {as : List Value} {μ : mmMem} : FrameBlind (mmPc B H0 sk sv D cA as μ) := fun a U g mk h => ⟨h.1, h.2.1, mmS.same rfl h.2.2⟩
theorem mm_pre {B : Nat} {H0 : Heap} {sk sv : Nat → Nat} {D : va_G} {cA : Nat → ClassId} {as : List Value} {μ : mmMem} {s U : State} {H : Heap} (hH : mmH B H0 D cA μ H) (hS : mmS B H0 sk sv D cA s) (hU : U.heap = H) (hW : s.WarmedH U.vm) : mmPc B H0 sk sv D cA as μ (as.map (mmV B sk)).toArray U := ⟨rfl, by rw [hU]; exact hH, mmS.warm hW hS⟩
theorem mm_rest {B : Nat} {sk : Nat → Nat} {m : MethodId} {pc : Nat} {ls : Array Slot} {st r : List Value} (h : Nat.ble (mcat r) 8 = true) : 2 * (F0 m pc ls st).monitorRoom + ((r.map (mmV B sk)).map fun v => v.category).sum ≤ 8 := by
  refine lv_room ?_
  rw [mcat_ok]
  exact Nat.le_of_ble_eq_true h
theorem mm_callB {d d' : Nat} {M Mc : mmMi} {st : Bool} {a n : Nat} {s : State} {args : Array Value} (hg : mmGd Mc st a) (hd' : d' < d) (hts : ∀ w ∈ mmT, w.before args s = true) (hl : (Cond.methodLink M.1.cls n Mc.1).before args s = true) : CallB (mmRm d) s args M.1.cls n Mc.1 Mc.2.1 Mc.2.2.1 Mc.2.2.2 (mmWs Mc) (mmRm d') 0 0 a :=
  callB_of a hts (mm_goodWs hg.1) rfl rfl rfl (hts _ hg.2.1) hl hg.2.2.1 ⟨hd', by have := hg.2.2.2.1; show 8 + (Mc.2.2.1 + 11) + 40 * d' ≤ 40 * d; omega⟩

theorem st_invokestatic0 {d : Nat} {M : mmMi} {P : Option Value → mmMem → Prop} {k : List Value → List Value → mmMem → Prop} {L st : List Value} {μ : mmMem} {pc len w a n : Nat} {v : Value} {Mc : mmMi} (hok : mmOkI M (pc, .invokestatic n, len, w, a, 0, v, Mc) = true) (hk : ∀ L st μ, k L st μ → mmEnds d M (pc + len) L st μ P) (h : wpI d M P (pc, .invokestatic n, len, w, a, 0, v, Mc) k L st μ) : mmEnds d M pc L st μ P := by
  obtain ⟨hd, hX⟩ := mmOkI_ok hok
  dsimp only at hd
  obtain ⟨rfl, hw⟩ : len = 3 ∧ lw_tbl[w]? = some (.methodLink M.1.cls n Mc.1) := by simpa [mmOkX] using hX
  cases hp : mpop a [] st with
  | mk as r =>
    have h : mif (Nat.ble (mcat r) 8) (mmCl d Mc true a as μ r fun st ν => k L st ν) := by
      simp only [wpI, hp] at h
      exact h
    obtain ⟨hc8, h⟩ := mif_ok h
    obtain ⟨hg, hlen, d', hd', P', hmo, hcall⟩ := mmCl_ok h
    obtain ⟨bs, e1, rfl, -⟩ := mpop_ok a [] st as r hp
    rw [List.append_nil] at e1
    subst e1
    intro p l e s m args below meth c H locs B H0 sk sv D cA ls hx hb hr hml hown hts hlk hS hls hH hF hB
    have hls1 : ls.size = M.2.2.1 := hls.choose_spec.1.1
    refine mm_use (rest := r.map (mmV B sk)) (va_runS (As := bs.reverse.map (mmV B sk)) (own := M.1.cls) ⟨hx, hb, hml, hown, hts⟩ (hcall l B H0 sk sv D cA) ⟨mm_callB hg hd' hts (mm_word (M := M) hts hw rfl), hts _ (by simpa using hg.2.2.2.2)⟩ ⟨mm_blind, fun U hU hW => mm_pre hH hS hU hW⟩ rfl (by simpa using hlen) hls1 (by simp) (mm_rest hc8) hd ⟨Nat.le_refl _, Nat.le_refl _⟩) hH hF hB (fun v ν H1 locs1 hP hH1 hS1 => ?_)
    have h9 := hk _ _ _ (hmo _ _ hP) p l e s m args below meth c H1 locs1 B H0 sk sv D cA ls hx hb hr hml hown hts hlk hS hls hH1 hS1 hB
    cases v with
    | none => exact h9
    | some v => exact h9
theorem st_invokestatic1 {d : Nat} {M : mmMi} {P : Option Value → mmMem → Prop} {k : List Value → List Value → mmMem → Prop} {L st : List Value} {μ : mmMem} {pc len w a n : Nat} {v : Value} {Mc : mmMi} (hok : mmOkI M (pc, .invokestatic n, len, w, a, 1, v, Mc) = true) (hk : ∀ L st μ, k L st μ → mmEnds d M (pc + len) L st μ P) (h : wpI d M P (pc, .invokestatic n, len, w, a, 1, v, Mc) k L st μ) : mmEnds d M pc L st μ P := by
  obtain ⟨hd, hX⟩ := mmOkI_ok hok
  dsimp only at hd
  obtain ⟨rfl, hw⟩ : len = 3 ∧ (M.1.cls, n, Mc.1) ∈ mmNest := by simpa [mmOkX] using hX
  cases hp : mpop a [] st with
  | mk as r =>
    have h : mif (Nat.ble (mcat r) 8) (mmCl d Mc true a as μ r fun st ν => k L st ν) := by
      simp only [wpI, hp] at h
      exact h
    obtain ⟨hc8, h⟩ := mif_ok h
    obtain ⟨hg, hlen, d', hd', P', hmo, hcall⟩ := mmCl_ok h
    obtain ⟨bs, e1, rfl, -⟩ := mpop_ok a [] st as r hp
    rw [List.append_nil] at e1
    subst e1
    intro p l e s m args below meth c H locs B H0 sk sv D cA ls hx hb hr hml hown hts hlk hS hls hH hF hB
    have hls1 : ls.size = M.2.2.1 := hls.choose_spec.1.1
    have hnest := hS.2.2.2.2.2.2 _ hw
    refine mm_use (rest := r.map (mmV B sk)) (va_runSN (As := bs.reverse.map (mmV B sk)) (own := M.1.cls) (host := "ColumnCasts") ⟨hx, hb, hml, hown, hts⟩ (hcall l B H0 sk sv D cA) ⟨va_cnB a hts (mm_goodWs hg.1) rfl rfl rfl hnest (hts _ hg.2.1) hg.2.2.1 ⟨hd', by have := hg.2.2.2.1; show 8 + (Mc.2.2.1 + 11) + 40 * d' ≤ 40 * d; omega⟩, hts _ (by simpa using hg.2.2.2.2), trivial⟩ ⟨mm_blind, fun U hU hW => mm_pre hH hS hU hW⟩ rfl (by simpa using hlen) hls1 (by simp) (mm_rest hc8) hd ⟨Nat.le_refl _, Nat.le_refl _⟩) hH hF hB (fun v ν H1 locs1 hP hH1 hS1 => ?_)
    have h9 := hk _ _ _ (hmo _ _ hP) p l e s m args below meth c H1 locs1 B H0 sk sv D cA ls hx hb hr hml hown hts hlk hS hls hH1 hS1 hB
    cases v with
    | none => exact h9
    | some v => exact h9
theorem st_invokevirtual {d : Nat} {M : mmMi} {P : Option Value → mmMem → Prop} {k : List Value → List Value → mmMem → Prop} {L st : List Value} {μ : mmMem} {pc len w a b n : Nat} {v : Value} {Mc : mmMi} (hok : mmOkI M (pc, .invokevirtual n, len, w, a, b, v, Mc) = true) (hk : ∀ L st μ, k L st μ → mmEnds d M (pc + len) L st μ P) (h : wpI d M P (pc, .invokevirtual n, len, w, a, b, v, Mc) k L st μ) : mmEnds d M pc L st μ P := by
  obtain ⟨hd, hX⟩ := mmOkI_ok hok
  dsimp only at hd
  simp only [mmOkX, Bool.and_eq_true, beq_iff_eq, decide_eq_true_eq] at hX
  obtain ⟨⟨rfl, hw⟩, hX⟩ := hX
  cases hp : mpop a [] st with
  | mk as r0 =>
    obtain ⟨bs, e1, rfl, -⟩ := mpop_ok a [] st as r0 hp
    rw [List.append_nil] at e1
    subst e1
    match r0, hp, h with
    | .ref o :: r, hp, h =>
      have h : mmKD o = b ∧ mif (Nat.ble (mcat r) 8) (mmCl d Mc false a (.ref o :: bs.reverse) μ r fun st ν => k L st ν) := by
        simp only [wpI, hp] at h
        exact h
      obtain ⟨hKD, h⟩ := h
      obtain ⟨hc8, h⟩ := mif_ok h
      obtain ⟨hg, hlen, d', hd', P', hmo, hcall⟩ := mmCl_ok h
      by_cases hb99 : b = 98
      · exfalso
        have h1 : mmKD o = 98 := hKD.trans hb99
        have h2 : ∀ a, a < 160 → mmKD a ≠ 98 := by decide +kernel
        exact h2 o (mmKD_lt (by omega)) h1
      have hX : (vwCl[b]?).map (fun q => q.1) = some Mc.1.cls := by
        split at hX
        · exact absurd rfl hb99
        · simpa using hX
      intro p l e s m args below meth c H locs B H0 sk sv D cA ls hx hb hr hml hown hts hlk hS hls hH hF hB
      have hls1 : ls.size = M.2.2.1 := hls.choose_spec.1.1
      obtain ⟨⟨C, T, N⟩, hc, hC⟩ := Option.map_eq_some_iff.mp hX
      dsimp only at hC
      subst hC
      obtain ⟨hci, -⟩ := mm_cls hc
      have hgv : Cond.instanceMethod Mc.1 ∈ mmT ∧ Cond.selects Mc.1.cls Mc.1 Mc.1 ∈ mmT := by simpa using hg.2.2.2.2
      refine mm_use (rest := r.map (mmV B sk)) (va_runV (As := bs.reverse.map (mmV B sk)) (b := B + o) (C := Mc.1.cls) (own := M.1.cls) ⟨hx, hb, hml, hown, hts⟩ (hcall l B H0 sk sv D cA) ⟨mm_callB hg hd' hts (mm_word (M := M) hts hw rfl), hts _ hgv.1, hts _ hgv.2⟩ ⟨mm_blind, va_recv hS.2.1 hH.2.2 hc (mmE_o hKD hci), fun U hU hW => mm_pre (as := .ref o :: bs.reverse) hH hS hU hW⟩ rfl (by simpa using hlen) hls1 (by simp [mmV]) (mm_rest hc8) hd ⟨Nat.le_refl _, Nat.le_refl _⟩) hH hF hB (fun v ν H1 locs1 hP hH1 hS1 => ?_)
      have h9 := hk _ _ _ (hmo _ _ hP) p l e s m args below meth c H1 locs1 B H0 sk sv D cA ls hx hb hr hml hown hts hlk hS hls hH1 hS1 hB
      cases v with
      | none => exact h9
      | some v => exact h9
    | .retAddr x :: r, hp, h =>
      have h : mif (Nat.beq b 98) (mif (Nat.ble (mcat r) 8) (mmCl d Mc false a (.retAddr x :: bs.reverse) μ r fun st ν => k L st ν)) := by
        simp only [wpI, hp] at h
        exact h
      obtain ⟨hb9, h⟩ := mif_ok h
      obtain ⟨hc8, h⟩ := mif_ok h
      obtain ⟨hg, hlen, d', hd', P', hmo, hcall⟩ := mmCl_ok h
      have hb99 : b = 98 := Nat.eq_of_beq_eq_true hb9
      subst hb99
      have hC : Mc.1.cls = "java/lang/String" := by simpa using hX
      intro p l e s m args below meth c H locs B H0 sk sv D cA ls hx hb hr hml hown hts hlk hS hls hH hF hB
      have hls1 : ls.size = M.2.2.1 := hls.choose_spec.1.1
      have hgv : Cond.instanceMethod Mc.1 ∈ mmT ∧ Cond.selects Mc.1.cls Mc.1 Mc.1 ∈ mmT := by simpa using hg.2.2.2.2
      obtain ⟨cellS, g1, g2, g3, g4⟩ := (hS.2.2.2.1.1 0 (by omega)).1
      refine mm_use (rest := r.map (mmV B sk)) (va_runV (As := bs.reverse.map (mmV B sk)) (b := sk 0) (C := Mc.1.cls) (own := M.1.cls) ⟨hx, hb, hml, hown, hts⟩ (hcall l B H0 sk sv D cA) ⟨mm_callB hg hd' hts (mm_word (M := M) hts hw rfl), hts _ hgv.1, hts _ hgv.2⟩ ⟨mm_blind, ⟨cellS, by rw [hH.2.1 _ (Array.getElem?_eq_some_iff.mp g1).1 g4]; exact g1, g2, by rw [hC]; exact g3⟩, fun U hU hW => mm_pre (as := .retAddr x :: bs.reverse) hH hS hU hW⟩ rfl (by simpa using hlen) hls1 (by simp [mmV]) (mm_rest hc8) hd ⟨Nat.le_refl _, Nat.le_refl _⟩) hH hF hB (fun v ν H1 locs1 hP hH1 hS1 => ?_)
      have h9 := hk _ _ _ (hmo _ _ hP) p l e s m args below meth c H1 locs1 B H0 sk sv D cA ls hx hb hr hml hown hts hlk hS hls hH1 hS1 hB
      cases v with
      | none => exact h9
      | some v => exact h9
    | [], hp, h => simp only [wpI, hp] at h
    | .int _ :: _, hp, h => simp [wpI, hp] at h
    | .long _ :: _, hp, h => simp [wpI, hp] at h
    | .float _ :: _, hp, h => simp [wpI, hp] at h
    | .double _ :: _, hp, h => simp [wpI, hp] at h
    | .null :: _, hp, h => simp [wpI, hp] at h
theorem mm_acNat : Cond.native arraycopyName ∈ mmT := mm_in 371 (by decide +kernel) rfl
theorem mm_acSt : Cond.static arraycopyName ∈ mmT := mm_in 370 (by decide +kernel) rfl
theorem mm_acIni : Cond.initialized "java/lang/System" ∈ mmT := mm_in 27 (by decide +kernel) rfl
theorem st_arraycopy {d : Nat} {M : mmMi} {P : Option Value → mmMem → Prop} {k : List Value → List Value → mmMem → Prop} {L st : List Value} {μ : mmMem} {pc len w a b n : Nat} {v : Value} {Mc : mmMi} (hbb : b = 10 ∨ b = 11 ∨ b = 12) (hok : mmOkI M (pc, .invokestatic n, len, w, a, b, v, Mc) = true) (hk : ∀ L st μ, k L st μ → mmEnds d M (pc + len) L st μ P) (h : wpI d M P (pc, .invokestatic n, len, w, a, b, v, Mc) k L st μ) : mmEnds d M pc L st μ P := by
  obtain ⟨hd, hX⟩ := mmOkI_ok hok
  dsimp only at hd
  obtain ⟨rfl, hw⟩ : len = 3 ∧ lw_tbl[w]? = some (.methodLink M.1.cls n arraycopyName) := by
    rcases hbb with rfl | rfl | rfl <;> simpa [mmOkX] using hX
  rcases hbb with rfl | rfl | rfl
  · obtain ⟨n1, r, rfl, h⟩ := pI_ok h
    obtain ⟨dp, r, rfl, h⟩ := pI_ok h
    obtain ⟨y, r, rfl, h⟩ := pA_ok h
    obtain ⟨sp, r, rfl, h⟩ := pI_ok h
    obtain ⟨x, r, rfl, h1d, hKx, hKy, hsp, hdp, hn, hl1, hl2, h⟩ := pA_ok h
    obtain ⟨hc8, h⟩ := mif_ok h
    intro p l e s m args below meth c H locs B H0 sk sv D cA ls hx hb hr hml hown hts hlk hS hls hH hF hB
    have hls1 : ls.size = M.2.2.1 := hls.choose_spec.1.1
    have h7 : y < 160 := mmKD_lt (by rw [hKy]; decide)
    have h8 := mmE_10 (B := B) (cA := cA) (μ := cI μ x y sp.toNatClampNeg dp.toNatClampNeg n1.toNatClampNeg) hKy
    rw [mmW_get h7] at h8
    have h6 := congrArg Prod.snd (Option.some.inj h8)
    dsimp only at h6
    have e9 := mmW_set (B := B) (cA := cA) (μ := μ) (ν := cI μ x y sp.toNatClampNeg dp.toNatClampNeg n1.toNatClampNeg) h7 (fun q hq => by simp [cI, hq]) (fun q hq => by simp [cI, hq]) (fun q hq => by simp [cI, hq]) h6.symm
    refine va_copyi (own := M.1.cls) (t0 := 0) (t1 := 0) hx hb (hml.trans hls1.symm) hown (mm_word (M := M) hts hw rfl) (hts _ mm_acNat) (hts _ mm_acSt) (hts _ mm_acIni) hS.2.1 hH.2.2 mmW_D hF x y (mmE_10 hKx) (mmE_10 hKy) rfl rfl rfl hsp hdp hn hl1 hl2 (fun i hi => rfl) h1d (by rw [mcat_ok]; have := Nat.le_of_ble_eq_true hc8; show mcat r + (7 + 11) ≤ 40 * d; omega) hd (fun H1 locs1 hP1 hD1 hS1 => mm_sz fun hsz => ?_)
    have hP9 : va_P D vwCl (mmW B cA (cI μ x y sp.toNatClampNeg dp.toNatClampNeg n1.toNatClampNeg)) H1 := by
      rw [← e9]
      simpa [cI] using hP1
    exact hk _ _ _ h p l e s m args below meth c H1 locs1 B H0 sk sv D cA ls hx hb hr hml hown hts hlk hS hls (mm_next hH hF hB hP9 hS1 hsz) hS1 hB
  · obtain ⟨n1, r, rfl, h⟩ := pI_ok h
    obtain ⟨dp, r, rfl, h⟩ := pI_ok h
    obtain ⟨y, r, rfl, h⟩ := pA_ok h
    obtain ⟨sp, r, rfl, h⟩ := pI_ok h
    obtain ⟨x, r, rfl, h1d, hKx, hKy, hsp, hdp, hn, hl1, hl2, h⟩ := pA_ok h
    obtain ⟨hc8, h⟩ := mif_ok h
    intro p l e s m args below meth c H locs B H0 sk sv D cA ls hx hb hr hml hown hts hlk hS hls hH hF hB
    have hls1 : ls.size = M.2.2.1 := hls.choose_spec.1.1
    have h7 : y < 160 := mmKD_lt (by rw [hKy]; decide)
    have h8 := mmE_11 (B := B) (cA := cA) (μ := cJ μ x y sp.toNatClampNeg dp.toNatClampNeg n1.toNatClampNeg) hKy
    rw [mmW_get h7] at h8
    have h6 := congrArg Prod.snd (Option.some.inj h8)
    dsimp only at h6
    have e9 := mmW_set (B := B) (cA := cA) (μ := μ) (ν := cJ μ x y sp.toNatClampNeg dp.toNatClampNeg n1.toNatClampNeg) h7 (fun q hq => by simp [cJ, hq]) (fun q hq => by simp [cJ, hq]) (fun q hq => by simp [cJ, hq]) h6.symm
    refine va_copyl (own := M.1.cls) (t0 := 1) (t1 := 1) hx hb (hml.trans hls1.symm) hown (mm_word (M := M) hts hw rfl) (hts _ mm_acNat) (hts _ mm_acSt) (hts _ mm_acIni) hS.2.1 hH.2.2 mmW_D hF x y (mmE_11 hKx) (mmE_11 hKy) rfl rfl rfl hsp hdp hn hl1 hl2 (fun i hi => rfl) h1d (by rw [mcat_ok]; have := Nat.le_of_ble_eq_true hc8; show mcat r + (7 + 11) ≤ 40 * d; omega) hd (fun H1 locs1 hP1 hD1 hS1 => mm_sz fun hsz => ?_)
    have hP9 : va_P D vwCl (mmW B cA (cJ μ x y sp.toNatClampNeg dp.toNatClampNeg n1.toNatClampNeg)) H1 := by
      rw [← e9]
      simpa [cJ] using hP1
    exact hk _ _ _ h p l e s m args below meth c H1 locs1 B H0 sk sv D cA ls hx hb hr hml hown hts hlk hS hls (mm_next hH hF hB hP9 hS1 hsz) hS1 hB
  · obtain ⟨n1, r, rfl, h⟩ := pI_ok h
    obtain ⟨dp, r, rfl, h⟩ := pI_ok h
    obtain ⟨y, r, rfl, h⟩ := pA_ok h
    obtain ⟨sp, r, rfl, h⟩ := pI_ok h
    obtain ⟨x, r, rfl, h1d, hKx, hKy, hsp, hdp, hn, hl1, hl2, h⟩ := pA_ok h
    obtain ⟨hc8, h⟩ := mif_ok h
    intro p l e s m args below meth c H locs B H0 sk sv D cA ls hx hb hr hml hown hts hlk hS hls hH hF hB
    have hls1 : ls.size = M.2.2.1 := hls.choose_spec.1.1
    have h7 : y < 160 := mmKD_lt (by rw [hKy]; decide)
    have h8 := mmE_12 (B := B) (cA := cA) (μ := cD μ x y sp.toNatClampNeg dp.toNatClampNeg n1.toNatClampNeg) hKy
    rw [mmW_get h7] at h8
    have h6 := congrArg Prod.snd (Option.some.inj h8)
    dsimp only at h6
    have e9 := mmW_set (B := B) (cA := cA) (μ := μ) (ν := cD μ x y sp.toNatClampNeg dp.toNatClampNeg n1.toNatClampNeg) h7 (fun q hq => by simp [cD, hq]) (fun q hq => by simp [cD, hq]) (fun q hq => by simp [cD, hq]) h6.symm
    refine va_copyd (own := M.1.cls) (t0 := 2) (t1 := 2) hx hb (hml.trans hls1.symm) hown (mm_word (M := M) hts hw rfl) (hts _ mm_acNat) (hts _ mm_acSt) (hts _ mm_acIni) hS.2.1 hH.2.2 mmW_D hF x y (mmE_12 hKx) (mmE_12 hKy) rfl rfl rfl hsp hdp hn hl1 hl2 (fun i hi => rfl) h1d (by rw [mcat_ok]; have := Nat.le_of_ble_eq_true hc8; show mcat r + (7 + 11) ≤ 40 * d; omega) hd (fun H1 locs1 hP1 hD1 hS1 => mm_sz fun hsz => ?_)
    have hP9 : va_P D vwCl (mmW B cA (cD μ x y sp.toNatClampNeg dp.toNatClampNeg n1.toNatClampNeg)) H1 := by
      rw [← e9]
      simpa [cD] using hP1
    exact hk _ _ _ h p l e s m args below meth c H1 locs1 B H0 sk sv D cA ls hx hb hr hml hown hts hlk hS hls (mm_next hH hF hB hP9 hS1 hsz) hS1 hB

