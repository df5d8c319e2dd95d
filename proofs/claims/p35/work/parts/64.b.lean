/-! ===== calling the class from the world that grows ===== -/
def xBk (G : xG) (ν : mmMem) (es : Nat → va_E) : Nat → va_E := fun a => if a < 160 then mmE G.B G.cA ν a else es a
def xV (G : xG) (n : Nat) (es : Nat → va_E) (S : aS) : Prop := 160 ≤ n ∧ ∃ μ, (∀ a, a < 160 → es a = mmE G.B G.cA μ a) ∧ CS μ S
theorem xV.grow {G : xG} {n n1 : Nat} {es es1 : Nat → va_E} {S : aS} (h : xV G n es S) (hn : n ≤ n1) (he : ∀ a, a < n → es1 a = es a) : xV G n1 es1 S := by
  obtain ⟨h0, μ, h1, h2⟩ := h
  exact ⟨by omega, μ, fun a ha => (he a (by omega)).trans (h1 a ha), h2⟩
theorem x_mmH {G : xG} {n : Nat} {es : Nat → va_E} {μ : mmMem} {H : Heap} (h0 : 160 ≤ n) (h1 : ∀ a, a < 160 → es a = mmE G.B G.cA μ a) (hH : ctH G.B G.H0 G.D n es H) : mmH G.B H G.D G.cA μ H := by
  refine ⟨rfl, fun _ _ _ => rfl, fun k q hk => ?_⟩
  have hk1 : k < 160 := by
    have h9 := (List.getElem?_eq_some_iff.mp hk).1
    simpa [mmW] using h9
  rw [mmW_get hk1] at hk
  cases hk
  rw [← h1 k hk1]
  exact hH.2.2 k _ (ctWd_get (by omega))
theorem x_mmS {G : xG} {n : Nat} {es : Nat → va_E} {H : Heap} {s : State} (h0 : 160 ≤ n) (hH : ctH G.B G.H0 G.D n es H) (hS : xS G s) : mmS G.B H G.sk G.sv G.D G.cA s := by
  obtain ⟨g0, g1, g2, g3, g4, g5, ⟨v, hv, g6⟩, g7, -⟩ := hS
  have hq : ∀ a : Nat, a < G.H0.size → ¬ G.B ≤ a → H[a]? = G.H0[a]? := fun a h1 _ => hH.2.1 a (by omega)
  have hA : ∀ q, mmA G.B q → G.B ≤ q := fun q h => h.1
  have g4' := (g4.kept hq).narrow hA
  refine ⟨by rw [hH.1]; omega, g1, g2, ⟨fun i hi => ?_, fun i j hi hj _ => by omega⟩, (g5.kept hq).narrow hA, ⟨v, hv, (g6.kept hq).narrow hA⟩, g7⟩
  have e : i = 0 := by omega
  subst e
  exact g4'.1 0 (by omega)
theorem x_back {G : xG} {n : Nat} {es : Nat → va_E} {ν : mmMem} {H H1 : Heap} (h0 : 160 ≤ n) (hH : ctH G.B G.H0 G.D n es H) (h1 : mmH G.B H G.D G.cA ν H1) : ctH G.B G.H0 G.D n (xBk G ν es) H1 := by
  have hs := hH.1
  refine ⟨h1.1.trans hH.1, fun q hq => (h1.2.1 q (by omega) (fun h => by have := h.1; omega)).trans (hH.2.1 q hq), fun k q hk => ?_⟩
  obtain ⟨hkn, rfl⟩ := ctWd_inv hk
  unfold xBk
  by_cases h : k < 160
  · rw [if_pos h]
    exact h1.2.2 k _ (mmW_get h)
  · rw [if_neg h]
    exact (hH.2.2 k _ (ctWd_get hkn)).kept (h1.2.1 _ (by omega) (fun q => by have := q.2; omega))
theorem x_useC {p : Program} {l : Launch} {e : Env} {R : Room} {s : State} {m : MethodId} {args : Array Value} {below : List Frame} {meth : Method} {c : Code} {H : Heap} {locs : List Loc} {pc k z n : Nat} {ls : Array Slot} {st0 rest : List Value} {Q : State → Prop} {G : xG} {a : Array Value} {es : Nat → va_E} {P : Option Value → mmMem → Prop}
    (hr : va_Run p l e R s m args below meth c H locs k z 0 0 (F0 m pc ls st0) rest (mmQc G.B H G.sk G.D G.cA P a) (mmA G.B)) (h0 : 160 ≤ n) (hH : ctH G.B G.H0 G.D n es H) (hF : va_S (fun q => G.B ≤ q) s.heap H locs)
    (kk : ∀ (v : Option Value) (ν : mmMem) (H1 : Heap) (locs1 : List Loc), P v ν → ctH G.B G.H0 G.D n (xBk G ν es) H1 → va_S (fun q => G.B ≤ q) s.heap H1 locs1 → W p l e R s m args below meth c H1 locs1 k z Q (F0 m (pc + 3) ls ((v.map (mmV G.B G.sk)).toList ++ rest))) :
    W p l e R s m args below meth c H locs k z Q (F0 m pc ls st0) := by
  intro T hT X
  obtain ⟨v, st₀, t, T', L, h0', X', hL, e1, e2, ⟨v', ν, hv, hp, hh⟩, st⟩ := hr T hT X
  cases hv
  have hh1 : ctH G.B G.H0 G.D n (xBk G ν es) T'.heap := by rw [e1]; exact x_back h0 hH hh
  have hv1 := hH.F (locs1 := locs ++ L) hh1 hF (Nat.le_refl _) (fun q hq => by
    rcases List.mem_append.mp hq with h | h
    · exact hF.2.2 q h
    · exact (hL q h).1)
  obtain ⟨t2, a1, b1⟩ := kk v' ν T'.heap (locs ++ L) hp hh1 hv1 T' rfl X'
  exact ⟨t2, st t2 a1, b1⟩
theorem x_ints {B : Nat} {sk : Nat → Nat} : ∀ ys : List Int32, (ys.map Value.int).map (mmV B sk) = ys.map Value.int := by
  intro ys
  rw [List.map_map]
  rfl
theorem x_callC {ex : Bool} {d : Nat} {M : mmMi} {l : Launch} {G : xG} {mc ms n : Nat} {es : Nat → va_E} {k z : Nat} {L st : List Value} {pc : Nat} {Qc : Array Value → State → Outcome → State → Prop} {i w na d9 : Nat} {Mc : mmMi} {μ : mmMem} {P : Option Value → mmMem → Prop} {st0 : List Value} (ys : List Int32) (hst : st0 = (ys.map Value.int).reverse ++ .ref (G.B + 0) :: st) (hd : decode M.2.1 pc = .ok (.invokevirtual i, 3)) (hw : lw_tbl[w]? = some (.methodLink M.1.cls i Mc.1)) (hC : Mc.1.cls = RX7) (hd9 : d9 ≤ d) (hr8 : (st.map fun v => v.category).sum ≤ 8) (hk : k ≤ mc) (hz : z ≤ ms) (h0 : 160 ≤ n) (h1 : ∀ a, a < 160 → es a = mmE G.B G.cA μ a) (h : mmCU d9 Mc false na (.ref 0 :: ys.map Value.int) μ P)
    (kk : ∀ (v : Option Value) (ν : mmMem), P v ν → xE ex d M l G mc ms n (xBk G ν es) k z (pc + 3) L ((v.map (mmV G.B G.sk)).toList ++ st) Qc) : xE ex d M l G mc ms n es k z pc L st0 Qc := by
  intro p e s m args below meth c H locs ls hx hb hr hml hown hts hlk hin hS hls hH hF hB
  have hls1 : ls.size = M.2.2.1 := hls.choose_spec.1.1
  subst hst
  obtain ⟨hg, hlen, d', hd', P', hmo, hcall⟩ := h
  have hm20 := hg.2.2.2.1
  have hgv : Cond.instanceMethod Mc.1 ∈ mmT ∧ Cond.selects Mc.1.cls Mc.1 Mc.1 ∈ mmT := by simpa using hg.2.2.2.2
  have hrc : xRc G n es (G.B + 0) RX7 := xRc.own (q := (RX7, TX7, 19)) (by omega) ((h1 0 (by omega)).trans (mmE_obj (show mmKD 0 = 7 by decide +kernel) (by decide))) rfl
  exact x_useC (rest := st) (va_runV (As := ys.map Value.int) (b := G.B + 0) (C := Mc.1.cls) (own := M.1.cls) ⟨hx, hb, hml, hown, hts⟩ (hcall l G.B H G.sk G.sv G.D G.cA) ⟨callB_of na hts (mm_goodWs hg.1) rfl rfl rfl (hts _ hg.2.1) (mm_word (M := M) hts hw rfl) hg.2.2.1 ⟨by show d' + 1 ≤ d; omega, by have h20 : Mc.2.2.1 ≤ 20 := hm20; show 8 + (Mc.2.2.1 + 11) + 40 * d' ≤ 40 * d; omega⟩, hts _ hgv.1, hts _ hgv.2⟩ ⟨mm_blind, by rw [hC]; exact hrc s H hS hH, fun U hU hW => by
    have h9 := mm_pre (as := .ref 0 :: ys.map Value.int) (x_mmH h0 h1 hH) (x_mmS h0 hH hS) hU hW
    rw [List.map_cons, x_ints] at h9
    exact h9⟩ rfl (by simpa using hlen) hls1 rfl (lv_room hr8) hd ⟨hk, hz⟩) h0 hH hF (fun v ν H1 locs1 hP hH1 hS1 => kk v ν (hmo _ _ hP) p e s m args below meth c H1 locs1 ls hx hb hr hml hown hts hlk hin hS hls hH1 hS1 hB)

theorem x_cI {ex : Bool} {d : Nat} {M : mmMi} {l : Launch} {G : xG} {mc ms n : Nat} {es : Nat → va_E} {k z : Nat} {L st : List Value} {pc : Nat} {Qc : Array Value → State → Outcome → State → Prop} {i w na d9 : Nat} {Mc : mmMi} {S : aS} {R : Int32 × aS} {st0 : List Value} (ys : List Int32) (hst : st0 = (ys.map Value.int).reverse ++ .ref (G.B + 0) :: st) (hd : decode M.2.1 pc = .ok (.invokevirtual i, 3)) (hw : lw_tbl[w]? = some (.methodLink M.1.cls i Mc.1)) (hC : Mc.1.cls = RX7) (hd9 : d9 ≤ d) (hr8 : (st.map fun v => v.category).sum ≤ 8) (hk : k ≤ mc) (hz : z ≤ ms) (hV : xV G n es S) (h : ∀ μ, CS μ S → mmCI d9 Mc false na (.ref 0 :: ys.map Value.int) μ (fun x ν => x = R.1 ∧ CS ν R.2))
    (kk : ∀ es1, xV G n es1 R.2 → (∀ a, 160 ≤ a → es1 a = es a) → xE ex d M l G mc ms n es1 k z (pc + 3) L (.int R.1 :: st) Qc) : xE ex d M l G mc ms n es k z pc L st0 Qc := by
  obtain ⟨h0, μ, h1, h2⟩ := hV
  refine x_callC ys hst hd hw hC hd9 hr8 hk hz h0 h1 (h μ h2) (fun v ν hP => ?_)
  obtain ⟨x, rfl, rfl, h3⟩ := mmPI_ok hP
  exact kk (xBk G ν es) ⟨h0, ν, fun a ha => by unfold xBk; rw [if_pos ha], h3⟩ (fun a ha => by unfold xBk; rw [if_neg (by omega)])
theorem x_cJ {ex : Bool} {d : Nat} {M : mmMi} {l : Launch} {G : xG} {mc ms n : Nat} {es : Nat → va_E} {k z : Nat} {L st : List Value} {pc : Nat} {Qc : Array Value → State → Outcome → State → Prop} {i w na d9 : Nat} {Mc : mmMi} {S : aS} {st0 : List Value} (ys : List Int32) (hst : st0 = (ys.map Value.int).reverse ++ .ref (G.B + 0) :: st) (hd : decode M.2.1 pc = .ok (.invokevirtual i, 3)) (hw : lw_tbl[w]? = some (.methodLink M.1.cls i Mc.1)) (hC : Mc.1.cls = RX7) (hd9 : d9 ≤ d) (hr8 : (st.map fun v => v.category).sum ≤ 8) (hk : k ≤ mc) (hz : z ≤ ms) (hV : xV G n es S) (h : ∀ μ, CS μ S → mmCJ d9 Mc false na (.ref 0 :: ys.map Value.int) μ (fun x ν => x = S.2.2.1 ∧ CS ν S))
    (kk : ∀ es1, xV G n es1 S → (∀ a, 160 ≤ a → es1 a = es a) → xE ex d M l G mc ms n es1 k z (pc + 3) L (.long S.2.2.1 :: st) Qc) : xE ex d M l G mc ms n es k z pc L st0 Qc := by
  obtain ⟨h0, μ, h1, h2⟩ := hV
  refine x_callC ys hst hd hw hC hd9 hr8 hk hz h0 h1 (h μ h2) (fun v ν hP => ?_)
  obtain ⟨x, rfl, rfl, h3⟩ := mmPJ_ok hP
  exact kk (xBk G ν es) ⟨h0, ν, fun a ha => by unfold xBk; rw [if_pos ha], h3⟩ (fun a ha => by unfold xBk; rw [if_neg (by omega)])
