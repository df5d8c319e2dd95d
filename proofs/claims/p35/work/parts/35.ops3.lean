/-! ===== the class: brought, swapped, compared ===== -/
theorem c_sameRows {d a r q n : Nat} {c : aCol} {μ : mmMem} {K : Int32 → mmMem → Prop} (hd : 2 ≤ d) (ha : mmKD a = 1) (ha2 : a < 143 ∨ a = 146) (hc : colC μ a n c) (oc : okCol n c) (hn : n ≤ 40) (hr : r < n) (hq : q < n) (h : ∀ ν, scr μ ν → (∀ z, z ≠ 152 → z ≠ 153 → eq3 μ ν z) → K (if c.2.2 r = c.2.2 q then 1 else 0) ν) : mmCI d M_X7_isSame false 3 [.ref 0, .ref a, .int (nI r), .int (nI q)] μ K := by
  refine u_X7_isSame (by omega) ha ?_
  have e1 : ∀ z, z ≠ 152 → eq3 μ (setC μ 152 (c.2.2 r)) z := fun z hz => ⟨setC_1 _ _ _ _ hz, setC_2 _ _ _ _ hz, setC_3 _ _ _ _ hz⟩
  have s1 := setC_scr μ 152 (c.2.2 r) (by decide) (by decide)
  refine c_load (by omega) ha kd_152 hc hr hn ?_
  have hc2 := hc.fr (e1 _ (by omega)) (e1 _ (by omega)) (e1 _ (by omega)) (e1 _ (by omega))
  refine c_load (by omega) ha kd_153 hc2 hq hn ?_
  have s2 := setC_scr (setC μ 152 (c.2.2 r)) 153 (c.2.2 q) (by decide) (by decide)
  have e2 : ∀ z, z ≠ 153 → eq3 (setC μ 152 (c.2.2 r)) (setC (setC μ 152 (c.2.2 r)) 153 (c.2.2 q)) z := fun z hz => ⟨setC_1 _ _ _ _ hz, setC_2 _ _ _ _ hz, setC_3 _ _ _ _ hz⟩
  refine c_isSame (by omega) kd_152 kd_153 ((setC_cl _ _ _).set (by decide)) (setC_cl _ _ _) (oc.2.2 r hr).1 (oc.2.2 q hq).1 ?_
  refine ⟨by split <;> simp, h _ (s1.trans s2) (fun z h1 h2 => (e1 z h1).trans (e2 z h2))⟩
def swC (r q : Nat) (c : aCol) : aCol := if c.2.1 = true then c else (c.1, c.2.1, fun i => if i = q then c.2.2 r else if i = r then c.2.2 q else c.2.2 i)
def swT (T : aT) (r q : Nat) : aT := (T.1, T.2.1.map (swC r q), T.2.2)
def sp_swap (r q : Int32) (S : aS) : Int32 × aS := if noRow S.1 r ∨ noRow S.1 q then (-21, rfs S (-21)) else (nI (S.1.2.1.filter (fun c => !c.2.1)).length, sT S (swT S.1 r.toNatClampNeg q.toNatClampNeg))
theorem swC_ok {n r q : Nat} {c : aCol} (h : okCol n c) (hr : r < n) (hq : q < n) : okCol n (swC r q c) := by
  unfold swC
  split
  · exact h
  · refine ⟨h.1, h.2.1, fun i hi => ?_⟩
    dsimp only
    split
    · exact h.2.2 r hr
    · split
      · exact h.2.2 q hq
      · exact h.2.2 i hi
theorem c_swapE {d r q : Nat} {T : aT} {P : Option Value → mmMem → Prop} (hd : 1 ≤ d) (ok : okT T) (hr : r < T.1) (hq : q < T.1) (μ0 : mmMem) (h0 : μ0.1 1 1 = nI T.2.1.length) (h : ∀ ν, (∀ z, z < 7 ∨ (55 ≤ z ∧ z ≠ 152 ∧ z ≠ 153) → eq3 μ0 ν z) → (∀ c col, T.2.1[c]? = some col → colC ν (7 + 4 * c) T.1 (swC r q col)) → P (some (.int (nI (T.2.1.filter (fun c => !c.2.1)).length))) ν) :
    ∀ (j c : Nat) (μ : mmMem) (v : Value), T.2.1.length - c = j → c ≤ T.2.1.length → (∀ z, z < 7 ∨ (55 ≤ z ∧ z ≠ 152 ∧ z ≠ 153) → eq3 μ0 μ z) → (∀ i col, T.2.1[i]? = some col → (i < c → colC μ (7 + 4 * i) T.1 (swC r q col)) ∧ (c ≤ i → colC μ (7 + 4 * i) T.1 col)) → mmEnds d M_X7_swap 28 [.ref 0, .int (nI r), .int (nI q), .int (nI ((T.2.1.take c).filter (fun c => !c.2.1)).length), .int (nI c), v] [] μ P := by
  have hl := ok.2.1
  have hr40 := ok.1
  intro j
  induction j with
  | zero =>
    intro c μ v hj hc hf hi
    refine s_X7_swap_28 (by omega) ?_
    have e1 : μ.1 1 1 = nI T.2.1.length := by rw [(hf 1 (by omega)).1]; exact h0
    rw [e1]
    have ec : c = T.2.1.length := by omega
    refine ⟨fun _ => ?_, fun w => absurd (nI_le (by omega) (by omega)) w⟩
    rw [ec, List.take_length]
    exact h μ hf (fun i col hic => (hi i col hic).1 (by have := lt_of_get hic; omega))
  | succ j ih =>
    intro c μ v hj hc hf hi
    refine s_X7_swap_28 (by omega) ?_
    have e1 : μ.1 1 1 = nI T.2.1.length := by rw [(hf 1 (by omega)).1]; exact h0
    have hlt : c < T.2.1.length := by omega
    obtain ⟨col, hcol⟩ : ∃ col, T.2.1[c]? = some col := ⟨_, List.getElem?_eq_getElem hlt⟩
    have hcc := (hi c col hcol).2 (Nat.le_refl _)
    have okc := ok.2.2.1 col (List.mem_of_getElem? hcol)
    have ht : T.2.1.take (c + 1) = T.2.1.take c ++ [col] := by rw [List.take_add_one, hcol]; rfl
    rw [e1, nI_clamp (by omega), hcc.2.1, nI_1, nI_1]
    have hlen : ((T.2.1.take c).filter (fun c => !c.2.1)).length ≤ 12 := Nat.le_trans (List.length_filter_le _ _) (by rw [List.length_take]; omega)
    refine ⟨fun w => absurd w (nI_ge (by omega) (by omega)), fun _ => ⟨vp_in_nI (by omega) (by decide), fun w => ?_, fun w => ?_⟩⟩
    · have hg : col.2.1 = true := by
        cases hh : col.2.1 with
        | true => rfl
        | false => rw [hh] at w; exact absurd rfl w
      have := ih (c + 1) μ (.ref (7 + 4 * c)) (by omega) (by omega) hf (fun i col2 hi2 => ⟨fun hlt2 => ?_, fun hle => (hi i col2 hi2).2 (by omega)⟩)
      · rw [ht, List.filter_append, List.filter_cons_of_neg (by simp [hg])] at this
        simpa using this
      · by_cases hic : i = c
        · subst hic
          rw [hcol] at hi2
          cases hi2
          unfold swC
          rw [if_pos hg]
          exact hcc
        · exact (hi i col2 hi2).1 (by omega)
    · have hg : col.2.1 = false := by
        cases hh : col.2.1 with
        | true => rw [hh] at w; exact absurd w (by decide)
        | false => rfl
      have ka := (kcol c (by omega)).1
      refine c_load (by omega) ka kd_152 hcc hr hr40 ?_
      have f1 : ∀ z, z ≠ 152 → eq3 μ (setC μ 152 (col.2.2 r)) z := fun z hz => ⟨setC_1 _ _ _ _ hz, setC_2 _ _ _ _ hz, setC_3 _ _ _ _ hz⟩
      have hc1 := hcc.fr (f1 _ (by omega)) (f1 _ (by omega)) (f1 _ (by omega)) (f1 _ (by omega))
      refine c_load (by omega) ka kd_153 hc1 hq hr40 ?_
      have f2 : ∀ z, z ≠ 153 → eq3 (setC μ 152 (col.2.2 r)) (setC (setC μ 152 (col.2.2 r)) 153 (col.2.2 q)) z := fun z hz => ⟨setC_1 _ _ _ _ hz, setC_2 _ _ _ _ hz, setC_3 _ _ _ _ hz⟩
      have hc2 := hc1.fr (f2 _ (by omega)) (f2 _ (by omega)) (f2 _ (by omega)) (f2 _ (by omega))
      refine c_store (by omega) ka kd_153 (setC_cl _ _ _) (by omega) (fun ν3 u3 => ?_)
      have k152 : clC ν3 152 (col.2.2 r) := (((setC_cl μ 152 (col.2.2 r)).set (by decide)).fr (u3.1 152 (by omega) (by omega) (by omega)))
      refine c_store (by omega) ka kd_152 k152 (by omega) (fun ν4 u4 => ?_)
      have u34 := u3.trans u4 (g := fun i => if i = q then some (col.2.2 r) else if i = r then some (col.2.2 q) else none) (fun i => by
        by_cases z : i = q
        · rw [if_pos z]; simp [z]
        · rw [if_neg z]; simp [z])
      have all : ∀ z, z < 7 + 4 * c ∨ 11 + 4 * c ≤ z → z ≠ 152 → z ≠ 153 → eq3 μ ν4 z := fun z h1 h2 h3 => ((f1 z h2).trans (f2 z h3)).trans (u34.1 z (by omega) (by omega) (by omega))
      have := ih (c + 1) ν4 (.ref (7 + 4 * c)) (by omega) (by omega) (fun z hz => (hf z hz).trans (all z (by omega) (by omega) (by omega))) (fun i col2 hi2 => ⟨fun hlt2 => ?_, fun hle => by have := lt_of_get hi2; exact ((hi i col2 hi2).2 (by omega)).fr (all _ (by omega) (by omega) (by omega)) (all _ (by omega) (by omega) (by omega)) (all _ (by omega) (by omega) (by omega)) (all _ (by omega) (by omega) (by omega))⟩)
      · rw [ht, List.filter_append, List.filter_cons_of_pos (by simp [hg])] at this
        simpa using this
      · by_cases hic : i = c
        · subst hic
          rw [hcol] at hi2
          cases hi2
          obtain ⟨g1, g2, g3⟩ := u34
          have e0 := g1 (7 + 4 * i) (by omega) (by omega) (by omega)
          have es : swC r q col = (col.1, col.2.1, fun i => if i = q then col.2.2 r else if i = r then col.2.2 q else col.2.2 i) := by unfold swC; rw [if_neg (by rw [hg]; decide)]
          rw [es]
          refine ⟨by rw [e0.1]; exact hc2.1, by rw [e0.1]; exact hc2.2.1, fun z hz => ?_⟩
          obtain ⟨w1, w2, w3⟩ := g3 z
          rw [w1, w2, w3]
          dsimp only
          by_cases z1 : z = q
          · rw [if_pos z1, if_pos z1]; exact ⟨rfl, rfl, rfl⟩
          · rw [if_neg z1, if_neg z1]
            by_cases z2 : z = r
            · rw [if_pos z2, if_pos z2]; exact ⟨rfl, rfl, rfl⟩
            · rw [if_neg z2, if_neg z2]; exact hc2.2.2 z hz
        · exact ((hi i col2 hi2).1 (by omega)).fr (all _ (by omega) (by omega) (by omega)) (all _ (by omega) (by omega) (by omega)) (all _ (by omega) (by omega) (by omega)) (all _ (by omega) (by omega) (by omega))
theorem rows2 {T : aT} {r q : Int32} {A B : Prop} (ha : (noRow T r ∨ noRow T q) → A) (hb : ¬ noRow T r → ¬ noRow T q → B) : (r < 0 → A) ∧ (¬ r < 0 → (nI T.1 ≤ r → A) ∧ (¬ nI T.1 ≤ r → (q < 0 → A) ∧ (¬ q < 0 → (nI T.1 ≤ q → A) ∧ (¬ nI T.1 ≤ q → B)))) :=
  ⟨fun l => ha (Or.inl (Or.inl l)), fun l => ⟨fun m => ha (Or.inl (Or.inr (Int32.not_lt.mpr m))), fun m => ⟨fun l2 => ha (Or.inr (Or.inl l2)), fun l2 => ⟨fun m2 => ha (Or.inr (Or.inr (Int32.not_lt.mpr m2))), fun m2 => hb (by rintro (w | w); exact l w; exact m (Int32.not_lt.mp w)) (by rintro (w | w); exact l2 w; exact m2 (Int32.not_lt.mp w))⟩⟩⟩⟩
theorem tabC.cols {μ ν : mmMem} {T : aT} {f : aCol → aCol} (h : tabC μ 1 T) (ok : okT T) (e : ∀ q, q < 7 ∨ 55 ≤ q → q < 71 → eq3 μ ν q) (hc : ∀ c col, T.2.1[c]? = some col → colC ν (7 + 4 * c) T.1 (f col)) : tabC ν 1 (T.1, T.2.1.map f, T.2.2) := by
  obtain ⟨⟨h1, h2, h3, h4⟩, h5, ⟨h6, h7⟩, h8, h9⟩ := h
  have e0 := (e 1 (by omega) (by omega)).1
  refine ⟨⟨by rw [e0]; exact h1, by rw [e0]; simpa using h2, by rw [e0]; exact h3, by rw [e0]; exact h4⟩, fun i col hi => ?_, ⟨h6.fr (e _ (by omega) (by omega)) (e _ (by omega) (by omega)), h7.fr (e _ (by omega) (by omega)) (e _ (by omega) (by omega))⟩, fun i q hi => ?_, fun i q hi => ?_⟩
  · have hi' : (T.2.1.map f)[i]? = some col := hi
    rw [List.getElem?_map, Option.map_eq_some_iff] at hi'
    obtain ⟨c0, hc0, rfl⟩ := hi'
    rw [show 1 + 6 + 4 * i = 7 + 4 * i by omega]
    exact hc i c0 hc0
  · rw [(e (1 + 3) (by omega) (by omega)).1, (e (1 + 4) (by omega) (by omega)).1]
    exact h8 i q hi
  · have : i < T.2.2.2.2.2.length := lt_of_get hi
    have := ok.2.2.2.2.2.2.2.1
    obtain ⟨g1, g2, g3⟩ := h9 i q hi
    have e1 := (e (1 + 58 + 2 * i) (by omega) (by omega)).1
    exact ⟨by rw [e1]; exact g1, by rw [e1]; exact g2, g3.fr (e _ (by omega) (by omega))⟩
theorem okT.cols {T : aT} {f : aCol → aCol} (ok : okT T) (hf : ∀ c, okCol T.1 c → okCol T.1 (f c)) : okT (T.1, T.2.1.map f, T.2.2) := by
  obtain ⟨h1, h2, h3, h4, h5, h6, h7, h8, h9⟩ := ok
  refine ⟨h1, by simpa using h2, fun x hx => ?_, h4, h5, h6, by simpa using h7, h8, by simpa using h9⟩
  obtain ⟨c0, hc0, rfl⟩ := List.mem_map.mp hx
  exact hf c0 (h3 c0 hc0)
theorem c_swap {d : Nat} {r q : Int32} {S : aS} {μ : mmMem} {K : Int32 → mmMem → Prop} (hd : 3 ≤ d) (hC : CS μ S) (h : ∀ ν, CS ν (sp_swap r q S).2 → hiE μ ν → K (sp_swap r q S).1 ν) : mmCI d M_X7_swap false 2 [.ref 0, .int r, .int q] μ K := by
  refine u_X7_swap (by omega) ?_
  rw [hC.1.1.1]
  have hrow := hC.2.1.1
  have bad : (noRow S.1 r ∨ noRow S.1 q) → mmCI (d - 1) M_X7_refused false 1 [.ref 0, .int (-21)] μ K := fun w => by
    unfold sp_swap at h
    rw [if_pos w] at h
    exact c_refused (by omega) hC (fun ν2 h2 g2 => h ν2 h2 g2)
  refine rows2 bad fun n1 n2 => ?_
  have e : sp_swap r q S = _ := if_neg (by rintro (w | w); exact n1 w; exact n2 w)
  rw [e] at h
  obtain ⟨i, hi, rfl⟩ := row_of hC.2.1 n1
  obtain ⟨j, hj, rfl⟩ := row_of hC.2.1 n2
  rw [nI_clamp (by omega), nI_clamp (by omega)] at h
  refine c_swapE (T := S.1) (by omega) hC.2.1 hi hj μ hC.1.1.2.1 (fun ν f g => ?_) _ 0 μ _ rfl (Nat.zero_le _) (fun z _ => eq3.rfl') (fun c col hc => ⟨fun w => absurd w (Nat.not_lt_zero _), fun _ => hC.colC hc⟩)
  exact h ν (hC.tab (hC.1.cols hC.2.1 (fun z h1 _ => f z (by omega)) g) (hC.2.1.cols fun c hc => swC_ok hc hi hj) (fun z h1 h2 => f z (by omega)) (by rw [(f 141 (by omega)).1])) (fun z hz => f z (by omega))
