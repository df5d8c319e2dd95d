/-! ===== the model: rows swapped ===== -/
theorem okC.e {x : aC} (ok : okC x) : (x.1, if x.1 = -1 then (0 : Int64) else x.2) = x := by
  by_cases h : x.1 = -1
  · rw [if_pos h]
    have h2 : x.2 = 0 := by
      unfold okC at ok
      rw [h] at ok
      simpa using ok
    exact Prod.ext rfl h2.symm
  · rw [if_neg h]
def swL (r q : Nat) (l : List aCol) (c : Nat) : List aCol := (l.take c).map (swC r q) ++ l.drop c
theorem swL_len (r q : Nat) (l : List aCol) (c : Nat) : (swL r q l c).length = l.length := by
  unfold swL
  rw [List.length_append, List.length_map, List.length_take, List.length_drop]
  omega
theorem swL_at {r q : Nat} {l : List aCol} {c : Nat} {x : aCol} (h : l[c]? = some x) : (swL r q l c)[c]? = some x ∧ (swL r q l c).set c (swC r q x) = swL r q l (c + 1) := by
  have hc := lt_of_get h
  have hA : ((l.take c).map (swC r q)).length = c := by rw [List.length_map, List.length_take]; omega
  have e : swL r q l c = (l.take c).map (swC r q) ++ x :: l.drop (c + 1) := by unfold swL; rw [drop_get h]
  have e2 : swL r q l (c + 1) = (l.take c).map (swC r q) ++ swC r q x :: l.drop (c + 1) := by
    unfold swL
    rw [List.take_add_one, h, List.map_append, List.append_assoc]
    rfl
  constructor
  · rw [e, List.getElem?_append_right (by omega), hA, Nat.sub_self]; rfl
  · rw [e, e2, List.set_append_right _ _ (by omega), hA, Nat.sub_self]; rfl
theorem swL_end {r q : Nat} {l : List aCol} {c : Nat} (h : l.length ≤ c) : swL r q l c = l.map (swC r q) := by
  unfold swL
  rw [List.take_of_length_le h, List.drop_of_length_le h, List.append_nil]
theorem m_swapE {d r q : Nat} {S : aS} {P : Option Value → mmMem → Prop} (hd : 2 ≤ d) (hr : r < S.1.1) (hq : q < S.1.1) (h12 : S.1.2.1.length ≤ 12) (h40 : S.1.1 ≤ 40) (μ0 : mmMem) (h : ∀ ν, MS ν (sT S (swT S.1 r q)) → loE μ0 ν → P (some (.int (nI (S.1.2.1.filter (fun c => !c.2.1)).length))) ν) : ∀ (j c : Nat) (μ : mmMem) (v5 v6 v7 : Value), c + j = 12 → MS μ (sT S (S.1.1, swL r q S.1.2.1 c, S.1.2.2)) → loE μ0 μ → mmEnds d M_X8_swap 28 [.ref 160, .int (nI r), .int (nI q), .int (nI ((S.1.2.1.take c).filter (fun c => !c.2.1)).length), .int (nI c), v5, v6, v7] [] μ P := by
  intro j
  induction j with
  | zero =>
    intro c μ v5 v6 v7 hj hM hl
    refine s_X8_swap_28 (by omega) ?_
    rw [swL_end (by omega)] at hM
    rw [List.take_of_length_le (by omega)]
    exact ⟨fun _ => h μ hM hl, fun w => absurd (nI_le (a := 12) (by omega) (by omega)) w⟩
  | succ j ih =>
    intro c μ v5 v6 v7 hj hM hl
    have hlen := swL_len r q S.1.2.1 c
    refine s_X8_swap_28 (by omega) ?_
    have e1 : μ.1 161 1 = nI S.1.2.1.length := by rw [← hlen]; exact hM.1.1.2.1
    rw [e1, nI_1 c, nI_leI (by omega) (by omega)]
    refine ⟨fun w => absurd w (nI_ge (b := 12) (by omega) (by omega)), fun _ => ⟨fun w => ?_, fun w => ?_⟩⟩
    · have := ih (c + 1) μ v5 v6 v7 (by omega) (by rw [swL_end (by omega)]; rw [swL_end (by omega)] at hM; exact hM) hl
      rw [List.take_of_length_le (by omega)] at this ⊢
      exact this
    · obtain ⟨col, hcol⟩ : ∃ col, S.1.2.1[c]? = some col := ⟨_, List.getElem?_eq_getElem (by omega)⟩
      obtain ⟨k1, k2⟩ := swL_at (r := r) (q := q) hcol
      obtain ⟨g1, g2, g3⟩ := hM.1.2.1 c col k1
      have okc := hM.2.1.2.2.1 col (List.mem_of_getElem? k1)
      have e18 : (18 : Int32) + nI c = nI (18 + c) := nI_addr 18 c
      have et : S.1.2.1.take (c + 1) = S.1.2.1.take c ++ [col] := by rw [List.take_add_one, hcol]; rfl
      rw [e18, nI_clamp (by omega), g2]
      refine ⟨vp_in_nI (by omega) (by decide), fun w => ?_, fun w => ?_⟩
      · have hg : col.2.1 = true := by
          cases hh : col.2.1 with
          | true => rfl
          | false => rw [hh] at w; exact absurd rfl w
        have es : swC r q col = col := if_pos hg
        have := ih (c + 1) μ v5 v6 v7 (by omega) (by
          rw [← k2, es]
          have e3 : (swL r q S.1.2.1 c).set c col = swL r q S.1.2.1 c := by
            apply List.ext_getElem?
            intro i
            by_cases e : i = c
            · subst e; rw [List.getElem?_set_self (by omega), k1]
            · rw [List.getElem?_set_ne (Ne.symm e)]
          rw [e3]; exact hM) hl
        rw [et, List.filter_append, List.filter_cons_of_neg (by simp [hg]), List.filter_nil, List.append_nil] at this
        exact this
      · have hg : col.2.1 = false := by
          cases hh : col.2.1 with
          | true => rw [hh] at w; exact absurd w (by decide)
          | false => rfl
        have es : swC r q col = (col.1, col.2.1, fun i => if i = q then col.2.2 r else if i = r then col.2.2 q else col.2.2 i) := if_neg (by rw [hg]; decide)
        obtain ⟨x4, x5⟩ := g3 r hr
        obtain ⟨y4, y5⟩ := g3 q hq
        rw [nI_plc, nI_plc, nI_136, nI_136, nI_clamp (show 136 + (40 * c + r) < 2 ^ 31 by omega), nI_clamp (show 136 + (40 * c + q) < 2 ^ 31 by omega), nI_clamp (show 40 * c + r < 2 ^ 31 by omega), nI_clamp (show 40 * c + q < 2 ^ 31 by omega), x4, y4, x5, y5]
        refine ⟨vp_in_nI (by omega) (by decide), vp_in_nI (by omega) (by decide), vp_in_nI (by omega) (by decide), vp_in_nI (by omega) (by decide), ?_⟩
        refine m_puts hd (by omega) (by omega) ?_
        refine m_puts hd (by omega) (by omega) ?_
        rw [(okc.2.2 r hr).1.e, (okc.2.2 q hq).1.e, nI_1]
        have p1 : ∀ j, (putM (putM μ c r (col.2.2 q)) c q (col.2.2 r)).1 161 j = if j = 136 + (40 * c + q) then (col.2.2 r).1 else if j = 136 + (40 * c + r) then (col.2.2 q).1 else μ.1 161 j := fun j => by rw [putM_1, putM_1]
        have p2 : ∀ j, (putM (putM μ c r (col.2.2 q)) c q (col.2.2 r)).2.1 162 j = if j = 40 * c + q then (col.2.2 r).2 else if j = 40 * c + r then (col.2.2 q).2 else μ.2.1 162 j := fun j => by rw [putM_2, putM_2]
        have f : ∀ z, z ≠ 161 → z ≠ 162 → eq3 μ (putM (putM μ c r (col.2.2 q)) c q (col.2.2 r)) z := fun z a b => (putM_e _ _ _ _ _ a b).trans (putM_e _ _ _ _ _ a b)
        have hlen2 : c < (swL r q S.1.2.1 c).length := by omega
        have := ih (c + 1) (putM (putM μ c r (col.2.2 q)) c q (col.2.2 r)) (.int (col.2.2 r).1) (.long (col.2.2 r).2) (.retAddr 7) (by omega) (by
          rw [← k2]
          refine hM.tab (hM.1.put hM.2.1 hlen2 (fun j a b e => by rw [p1, if_neg (by omega), if_neg (by omega)]) (fun j e => by rw [p2, if_neg (by omega), if_neg (by omega)]) ⟨?_, ?_, fun i hi => ?_⟩) (hM.2.1.put (swC_ok okc hr hq)) f
          · rw [p1, if_neg (by omega), if_neg (by omega), es]; exact g1
          · rw [p1, if_neg (by omega), if_neg (by omega), es]; exact g2
          · have hi : i < S.1.1 := hi
            obtain ⟨z1, z2⟩ := g3 i hi
            rw [p1, p2, es]
            show _ = (if i = q then col.2.2 r else if i = r then col.2.2 q else col.2.2 i).1 ∧ _ = (if i = q then col.2.2 r else if i = r then col.2.2 q else col.2.2 i).2
            by_cases w1 : i = q
            · rw [if_pos w1, if_pos (by omega), if_pos (by omega)]; exact ⟨rfl, rfl⟩
            · by_cases w2 : i = r
              · rw [if_neg w1, if_pos w2]
                constructor
                · rw [if_neg (by omega), if_pos (by omega)]
                · rw [if_neg (by omega), if_pos (by omega)]
              · rw [if_neg w1, if_neg w2]
                constructor
                · rw [if_neg (by omega), if_neg (by omega)]; exact z1
                · rw [if_neg (by omega), if_neg (by omega)]; exact z2) (hl.trans fun z hz => f z (by omega) (by omega))
        rw [et, List.filter_append, List.filter_cons_of_pos (by simp [hg]), List.filter_nil, List.length_append] at this
        exact this
theorem m_swap {d : Nat} {r q : Int32} {S : aS} {μ : mmMem} {K : Int32 → mmMem → Prop} (hd : 4 ≤ d) (hM : MS μ S) (h : ∀ ν, MS ν (sp_swap r q S).2 → loE μ ν → K (sp_swap r q S).1 ν) : mmCI d M_X8_swap false 2 [.ref 160, .int r, .int q] μ K := by
  refine u_X8_swap (by omega) ?_
  unfold sp_swap at h
  refine m_isRow (by omega) hM ?_
  by_cases z1 : noRow S.1 r
  · rw [if_pos (Or.inl z1)] at h
    rw [if_pos z1]
    exact ⟨fun _ => m_refuses (by omega) (Or.inl rfl) hM h, fun w => absurd rfl w⟩
  · rw [if_neg z1]
    refine ⟨fun w => absurd w (by decide), fun _ => ?_⟩
    refine m_isRow (by omega) hM ?_
    by_cases z2 : noRow S.1 q
    · rw [if_pos (Or.inr z2)] at h
      rw [if_pos z2]
      exact ⟨fun w => absurd rfl w, fun _ => m_refuses (by omega) (Or.inl rfl) hM h⟩
    · rw [if_neg (by rintro (w | w); exact z1 w; exact z2 w)] at h
      rw [if_neg z2]
      refine ⟨fun _ => ?_, fun w => absurd w (by decide)⟩
      have h40 := hM.2.1.1
      obtain ⟨i, hi, rfl⟩ := row_of hM.2.1 z1
      obtain ⟨j, hj, rfl⟩ := row_of hM.2.1 z2
      rw [nI_clamp (by omega), nI_clamp (by omega)] at h
      exact m_swapE (S := S) (by omega) hi hj hM.2.1.2.1 h40 μ (fun ν hν l => h ν hν l) 12 0 μ _ _ _ rfl hM (loE.refl _)
