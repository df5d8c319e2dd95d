/-! ===== the law from its entry ===== -/
theorem lw_make {p : Program} {l : Launch} {e : Env} {s : State} {m : MethodId} {below : List Frame} {meth : Method} {c : Code} {b L : Nat} {xs : Nat → Int32} {sk sv : Nat → Nat} {D : va_G} {cA : Nat → ClassId} {Q : State → Prop} {n k z pc d' mc' ms' w ci i1 i2 w1 w2 : Nat} {es : Nat → va_E} {st : List Value} {Mc : mmMi} {H : Heap} {locs : List Loc} {ls : Array Slot} (C : lwC p s m meth c b L xs sk sv D cA) (hls1 : ls.size = 4) (hH : ctH s.heap.size s.heap D n es H) (hS : va_S (fun q => s.heap.size ≤ q) s.heap H locs)
    (hd1 : decode code pc = .ok (.new i1, 3)) (hd2 : decode code (pc + 3) = .ok (.dup, 1)) (hd3 : decode code (pc + 4) = .ok (.invokespecial i2, 3)) (hw1 : lw_tbl[w1]? = some (.classLink R_law i1 Mc.1.cls)) (hw2 : lw_tbl[w2]? = some (.methodLink R_law i2 Mc.1)) (hg : ctGd Mc ci) (hci : ci < 9) (hK : ctK d' Mc mc' ms' n w ci) (hw : 1 ≤ w) (hd' : d' ≤ 100) (hk : k + 1 + mc' ≤ 600000) (hz : z + mmNF ci + ms' ≤ 7302250) (hs8 : (st.map fun v => v.category).sum ≤ 7)
    (kk : ∀ (H2 : Heap) (locs2 : List Loc), ctH s.heap.size s.heap D (n + w) (ctFn s.heap.size cA n es) H2 → va_S (fun q => s.heap.size ≤ q) s.heap H2 locs2 → W p l e room_1 s m #[.ref b] below meth c H2 locs2 (k + 1 + mc') (z + mmNF ci + ms') Q (F0 m (pc + 7) ls (.ref (s.heap.size + n) :: st))) : W p l e room_1 s m #[.ref b] below meth c H locs k z Q (F0 m pc ls st) := by
  have hts := C.ts
  obtain ⟨hx, hb, hr, hml, hown, -, hX, hbl, hlk, -⟩ := C.1
  obtain ⟨g1, g2, g3, g4, g5, g6, g7, g8, g9⟩ := hg
  obtain ⟨⟨Cn, T, N⟩, hcl, hC⟩ := Option.map_eq_some_iff.mp g8
  dsimp only at hC
  subst hC
  obtain ⟨hci9, rfl, hinw, -, -⟩ := mm_cls hcl
  obtain ⟨ty, hty, hdf⟩ := mm_dfX ci hci _ _ _ hcl
  have hKn := C.2.1.2.1.1 ci _ hcl
  refine W.newcK hx hb hown (hts _ (mm_in w1 hw1 rfl)) (hts _ g9) (hts _ g3) rfl hd1 (by show k + 1 ≤ 600000; omega) (by show z + mmNF ci ≤ 7302250; omega) hKn.2.1 (h := s.heap.size + n) hH.1 (fun H1 kC hkC e1 z1 o1 => ?_)
  have hH1 := hH.push (H1 := H1) (e := .inr (ci, ctDf ci)) z1 o1 ⟨_, hcl, (u_born ty hts hinw hKn hkC e1 hty).to hdf⟩
  have hF1 := hH.F hH1 hS (by omega) hS.2.2
  refine lv_dup hx hb hd2 rfl ?_
  have hes : ctU es n (.inr (ci, ctDf ci)) n = .inr (ci, ctDf ci) := by simp [ctU]
  refine ct_use (rest := .ref (s.heap.size + n) :: st) (va_runI (As := []) (own := R_law) ⟨hx, hb, hml, hown, hts⟩ (hK l s.heap.size s.heap sk sv D cA _ hes) (cwI 0 hts (mm_goodWs (by rw [g2]; exact g1)) (by rw [← g2]; rfl) rfl rfl (hts _ g3) (hts _ (mm_in w2 hw2 rfl)) (hts _ g6) g7 g4 ⟨by show d' + 1 ≤ 2048; omega, by show 8 + (Mc.2.2.1 + 11) + 100 * d' ≤ 84000; omega⟩) ⟨ct_blind, fun U hU hW => ⟨rfl, by rw [hU]; exact hH1, ctS.warm hW C.2⟩⟩ rfl rfl hls1 rfl (lv_room (by show (1 + (st.map fun v => v.category).sum) ≤ 8; omega)) hd3 ⟨by show k + 1 + mc' ≤ 600000; omega, by show z + mmNF ci + ms' ≤ 7302250; omega⟩) hH1 hw hF1 (fun H2 locs2 hH2 hF2 => ?_)
  rw [ctFn_ctU] at hH2
  exact kk H2 locs2 hH2 hF2
theorem whole_start {p : Program} {e : Env} {s : State} {m : MethodId} {below : List Frame} {meth : Method} {c : Code} (l : Launch) (hflags : l.flags = flags0) {b L : Nat} {xs : Nat → Int32} (hL : L ≤ 3584) (C0 : lw_At p s m meth c b L xs) : W p l e room_1 s m #[Value.ref b] below meth c s.heap [] 0 0 (lw_Z below #[Value.ref b] s) (entryFrame m ([Value.ref b] : List Value).toArray 4) := by
  obtain ⟨sk, sv, D, cA, C⟩ := lw_world C0
  have hx := C.1.1
  have hb := C.1.2.1
  rw [lg_entry_eq]
  have hen := lv_entry [Value.ref b] (n := 4) (by rw [sc_sl _ (by simp [Value.category])]; exact (by simp))
  generalize (lg_sl [Value.ref b] ++ List.replicate (4 - (lg_sl [Value.ref b]).length) Slot.unset).toArray = ls at hen ⊢
  have hH0 : ctH s.heap.size s.heap D 0 (fun _ => .inr (0, [])) s.heap := ⟨rfl, fun q _ => rfl, fun k q hk => absurd (ctWd_inv hk).1 (by omega)⟩
  have hm7 : (0 : Nat) + mmNF 7 + 10000 ≤ 7302250 := by decide +kernel
  have hm8 : (0 : Nat) + mmNF 7 + 10000 + mmNF 8 + 4000 ≤ 7302250 := by decide +kernel
  refine lw_make (i1 := 7) (i2 := 9) (w1 := 82) (w2 := 84) C hen.1 hH0 va_S.rf (by decide +kernel) (by decide +kernel) (by decide +kernel) (by decide +kernel) (by decide +kernel) gI_7 (by decide) (cI_7 (d := 20) (by decide)) (by decide) (by decide) (by decide) hm7 (by decide) (fun H1 locs1 hH1 hS1 => ?_)
  have hen0 : scLs ls 4 [.ref b, .retAddr 7, .retAddr 7, .retAddr 7] := ⟨_, hen, fun i v h1 h2 => by simpa using scLo_mem [Value.ref b] 0 (by simp [Value.category]) 3 i v h1 h2⟩
  obtain ⟨lv0, hlv0, hmem0⟩ := hen0
  refine lv_astore_n (k := 1) hx hb (by decide +kernel) rfl hlv0 (by decide) rfl (fun ls1 hls1 => ?_)
  have hen1 := scLs.st hmem0 hls1 (by simp [Value.category])
  refine lw_make (i1 := 10) (i2 := 12) (w1 := 930) (w2 := 932) C hls1.1 hH1 hS1 (by decide +kernel) (by decide +kernel) (by decide +kernel) (by decide +kernel) (by decide +kernel) gI_8 (by decide) (cI_8 (d := 20) (by decide)) (by decide) (by decide) (by decide) hm8 (by decide) (fun H2 locs2 hH2 hS2 => ?_)
  obtain ⟨lv1, hlv1, hmem1⟩ := hen1
  refine lv_astore_n (k := 2) hx hb (by decide +kernel) rfl hlv1 (by decide) rfl (fun ls2 hls2 => ?_)
  have hen2 := scLs.st hmem1 hls2 (by simp [Value.category])
  refine lv_iconst (n := 0) (v := 0) hx hb (by decide +kernel) rfl ?_
  obtain ⟨lv2, hlv2, hmem2⟩ := hen2
  refine lv_istore_n (k := 3) hx hb (by decide +kernel) rfl hlv2 (by decide) rfl (fun ls3 hls3 => ?_)
  have hen3 := scLs.st hmem2 hls3 (by simp [Value.category])
  refine W.widen (k := 600000) (n := 7302250) (by decide) (by decide +kernel) ?_
  have hmm : mmH s.heap.size s.heap D cA ctMu H2 := by
    refine ⟨hH2.1, hH2.2.1, ?_⟩
    have e9 : ctWd s.heap.size 173 (ctFn s.heap.size cA 160 (ctFn s.heap.size cA 0 fun _ => .inr (0, []))) = mmW s.heap.size cA ctMu := by
      rw [ctWd_congr (es' := mmE s.heap.size cA ctMu) (fun a ha => by
        unfold ctFn
        split
        · rw [if_neg (by omega)]
        · rfl)]
      rfl
    rw [← e9]
    exact hH2.2.2
  exact lw_loop C hL (L + 7) 0 ctMu aS0 (by omega) (by omega) CS_0 MS_0 H2 locs2 ls3 hen3 hmm hS2
