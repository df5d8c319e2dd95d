/-! ===== the model: rows, views, keys ===== -/
theorem m_isView {d : Nat} {v : Int32} {μ : mmMem} {K : Int32 → mmMem → Prop} (hd : 2 ≤ d) (h : K (if noView v then 0 else 1) μ) : mmCI d M_X8_isView true 1 [.int v] μ K := by
  refine u_X8_isView (by omega) ?_
  refine m_isInI (a := 0) (b := 1) (by omega) rfl rfl ?_
  have e2 : (2 : Int32) ≤ v ↔ (1 : Int32) < v := by
    rw [Int32.lt_iff_toInt_lt, Int32.le_iff_toInt_le]
    have a1 : (1 : Int32).toInt = 1 := rfl
    have a2 : (2 : Int32).toInt = 2 := rfl
    omega
  by_cases q : noView v
  · rw [if_pos q] at h
    rw [if_neg (fun w => by rcases q with z | z; exact w.1 z; exact w.2 (e2.mp z))]
    exact ⟨Or.inl rfl, h⟩
  · rw [if_neg q] at h
    rw [if_pos ⟨fun z => q (Or.inl z), fun z => q (Or.inr (e2.mpr z))⟩]
    exact ⟨Or.inr rfl, h⟩
theorem m_isRow {d : Nat} {r : Int32} {S : aS} {μ : mmMem} {K : Int32 → mmMem → Prop} (hd : 2 ≤ d) (hM : MS μ S) (h : K (if noRow S.1 r then 0 else 1) μ) : mmCI d M_X8_isRow false 1 [.ref 160, .int r] μ K := by
  refine u_X8_isRow (by omega) ?_
  have h40 := hM.2.1.1
  refine m_isInI (a := 0) (b := μ.1 161 0 - 1) (by omega) rfl rfl ?_
  rw [hM.1.1.1]
  have ei : ∀ n : Nat, n ≤ 40 → (nI n - 1).toInt = (n : Int) - 1 ∧ (nI n).toInt = (n : Int) := by
    intro n hn
    have : ∀ n, n < 41 → (nI n - 1).toInt = (n : Int) - 1 ∧ (nI n).toInt = (n : Int) := by decide +kernel
    exact this n (by omega)
  obtain ⟨i1, i2⟩ := ei S.1.1 h40
  have e2 : (nI S.1.1 - 1 < r) ↔ ¬ r < nI S.1.1 := by
    rw [Int32.lt_iff_toInt_lt, Int32.lt_iff_toInt_lt, i1, i2]
    omega
  by_cases q : noRow S.1 r
  · rw [if_pos q] at h
    rw [if_neg (fun w => by rcases q with z | z; exact w.1 z; exact w.2 (e2.mpr z))]
    exact ⟨Or.inl rfl, h⟩
  · rw [if_neg q] at h
    rw [if_pos ⟨fun z => q (Or.inl z), fun z => q (Or.inr (e2.mp z))⟩]
    exact ⟨Or.inr rfl, h⟩
theorem tabM.vw {a : Nat → Int32} {b : Nat → Int64} {T : aT} (h : tabM a b T) {v : Nat} (hv : v < 2) : a (4 + v) = nI (getV T v).length ∧ ∀ i r, (getV T v)[i]? = some r → a (56 + 40 * v + i) = nI r := by
  have : v = 0 ∨ v = 1 := by omega
  rcases this with rfl | rfl
  · exact ⟨h.2.2.1.1.1, fun i r hr => by rw [show 56 + 40 * 0 + i = 56 + i by omega]; exact h.2.2.1.1.2 i r hr⟩
  · exact ⟨h.2.2.1.2.1, fun i r hr => by rw [show 56 + 40 * 1 + i = 96 + i by omega]; exact h.2.2.1.2.2 i r hr⟩
theorem tabM.setV {a a' : Nat → Int32} {b : Nat → Int64} {T : aT} {v : Nat} {l : List Nat} (h : tabM a b T) (ok : okT T) (hv : v < 2) (ea : ∀ j, j ≠ 4 + v → (j < 56 + 40 * v ∨ 96 + 40 * v ≤ j) → a' j = a j) (el : a' (4 + v) = nI l.length) (en : ∀ i r, l[i]? = some r → a' (56 + 40 * v + i) = nI r) : tabM a' b (setV T v l) := by
  obtain ⟨⟨h1, h2, h3, h4⟩, h5, ⟨⟨h6, h7⟩, h8, h9⟩, h10, h11⟩ := h
  have l1 := ok.1
  have l2 := ok.2.1
  have l4 := ok.2.2.2.1.len
  have l5 := ok.2.2.2.2.1.len
  have l6 := ok.2.2.2.2.2.1
  have l8 := ok.2.2.2.2.2.2.2.1
  have cols : ∀ c col, T.2.1[c]? = some col → a' (6 + c) = col.1 ∧ a' (18 + c) = (if col.2.1 = true then 1 else 0) ∧ ∀ r, r < T.1 → a' (136 + (40 * c + r)) = (col.2.2 r).1 ∧ b (40 * c + r) = (col.2.2 r).2 := fun c col hc => by
    have := lt_of_get hc
    obtain ⟨g1, g2, g3⟩ := h5 c col hc
    refine ⟨by rw [ea _ (by omega) (by omega)]; exact g1, by rw [ea _ (by omega) (by omega)]; exact g2, fun r hr => ?_⟩
    rw [ea _ (by omega) (by omega)]
    exact g3 r hr
  have keys : ∀ k q, T.2.2.2.2.1[k]? = some q → a' (30 + 2 * k) = nI q.1 ∧ a' (31 + 2 * k) = if q.2 = true then 1 else 0 := fun k q hk => by
    have := lt_of_get hk
    rw [ea _ (by omega) (by omega), ea _ (by omega) (by omega)]
    exact h10 k q hk
  have fils : ∀ f q, T.2.2.2.2.2[f]? = some q → a' (38 + 3 * f) = nI q.1 ∧ a' (39 + 3 * f) = q.2.1 ∧ isTst q.2.1 (a' (40 + 3 * f)) (b (480 + f)) ∧ tCell (a' (40 + 3 * f)) (b (480 + f)) = q.2.2 := fun f q hf => by
    have := lt_of_get hf
    rw [ea _ (by omega) (by omega), ea _ (by omega) (by omega), ea _ (by omega) (by omega)]
    exact h11 f q hf
  have : v = 0 ∨ v = 1 := by omega
  rcases this with rfl | rfl
  · refine ⟨⟨by rw [ea 0 (by omega) (by omega)]; exact h1, by rw [ea 1 (by omega) (by omega)]; exact h2, by rw [ea 2 (by omega) (by omega)]; exact h3, by rw [ea 3 (by omega) (by omega)]; exact h4⟩, cols, ⟨⟨el, fun i r hr => ?_⟩, by rw [ea 5 (by omega) (by omega)]; exact h8, fun i r hr => ?_⟩, keys, fils⟩
    · have := en i r hr
      rw [show 56 + 40 * 0 + i = 56 + i by omega] at this; exact this
    · have hr : T.2.2.2.1[i]? = some r := hr
      have := lt_of_get hr
      rw [ea _ (by omega) (by omega)]
      exact h9 i r hr
  · refine ⟨⟨by rw [ea 0 (by omega) (by omega)]; exact h1, by rw [ea 1 (by omega) (by omega)]; exact h2, by rw [ea 2 (by omega) (by omega)]; exact h3, by rw [ea 3 (by omega) (by omega)]; exact h4⟩, cols, ⟨⟨by rw [ea 4 (by omega) (by omega)]; exact h6, fun i r hr => ?_⟩, el, fun i r hr => ?_⟩, keys, fils⟩
    · have hr : T.2.2.1[i]? = some r := hr
      have := lt_of_get hr
      rw [ea _ (by omega) (by omega)]
      exact h7 i r hr
    · have := en i r hr
      rw [show 56 + 40 * 1 + i = 96 + i by omega] at this; exact this
theorem MS.setV {μ ν : mmMem} {S : aS} {v : Nat} {l : List Nat} (h : MS μ S) (hv : v < 2) (okl : okV S.1.1 l) (f : frV μ ν v) (el : ν.1 161 (4 + v) = nI l.length) (en : enV ν v l) : MS ν (sT S (setV S.1 v l)) := by
  have e162 : ν.2.1 162 = μ.2.1 162 := (f.1 162 (by decide)).2.1
  refine h.tab ?_ (h.2.1.setV okl) (fun q a _ => f.1 q a)
  rw [e162]
  exact h.1.setV h.2.1 hv f.2 el en
theorem frV.lo {μ ν : mmMem} {v : Nat} (f : frV μ ν v) : loE μ ν := fun q hq => f.1 q (by omega)
theorem m_viewE {d v n : Nat} {P : Option Value → mmMem → Prop} (hv : v < 2) (hn : n ≤ 40) (μ0 : mmMem) (h0 : μ0.1 161 0 = nI n) (h : ∀ ν, frV μ0 ν v → ν.1 161 (4 + v) = μ0.1 161 (4 + v) → enV ν v (List.range' 0 n) → P (some (.int (nI n))) ν) : ∀ (j r : Nat) (μ : mmMem), r + j = n → frV μ0 μ v → μ.1 161 (4 + v) = μ0.1 161 (4 + v) → enV μ v (List.range' 0 r) → mmEnds d M_X8_view 25 [.ref 160, .int (nI v), .int (nI r)] [] μ P := by
  intro j
  induction j with
  | zero =>
    intro r μ hj hf h4 he
    refine s_X8_view_25 (by omega) ?_
    rw [hf.2 0 (by omega) (by omega), h0]
    have e : r = n := by omega
    subst e
    exact ⟨fun _ => h μ hf h4 he, fun w => absurd (nI_le (by omega) (by omega)) w⟩
  | succ j ih =>
    intro r μ hj hf h4 he
    refine s_X8_view_25 (by omega) ?_
    rw [hf.2 0 (by omega) (by omega), h0, nI_vw, nI_clamp (by omega), nI_1]
    refine ⟨fun w => absurd w (nI_ge (by omega) (by omega)), fun _ => ⟨vp_in_nI (by omega) (by decide), ?_⟩⟩
    have e1 : List.range' 0 (r + 1) = List.range' 0 r ++ [r] := by rw [List.range'_1_concat, Nat.zero_add]
    have := enV.push (r := r) he
    rw [List.length_range', ← e1] at this
    exact ih (r + 1) _ (by omega) (hf.put (by omega)) (by rw [sI_at, if_neg (by omega)]; exact h4) this
theorem m_view {d : Nat} {v : Int32} {S : aS} {μ : mmMem} {K : Int32 → mmMem → Prop} (hd : 3 ≤ d) (hM : MS μ S) (h : ∀ ν, MS ν (sp_view v S).2 → loE μ ν → K (sp_view v S).1 ν) : mmCI d M_X8_view false 1 [.ref 160, .int v] μ K := by
  refine u_X8_view (by omega) ?_
  refine m_isView (by omega) ?_
  unfold sp_view at h
  by_cases nv : noView v
  · rw [if_pos nv] at h ⊢
    exact ⟨fun w => absurd rfl w, fun _ => h μ hM (loE.refl _)⟩
  · rw [if_neg nv] at h ⊢
    refine ⟨fun _ => ?_, fun w => absurd w (by decide)⟩
    obtain ⟨k, hk, rfl⟩ := view_of nv
    have h40 := hM.2.1.1
    rw [nI_clamp (by omega)] at h
    rw [nI_4, nI_clamp (by omega), hM.1.1.1]
    refine ⟨vp_in_nI (by omega) (by decide), ?_⟩
    have f1 : frV μ (sI μ 161 (4 + k) (nI S.1.1)) k := (frV.refl μ k).len hk
    refine m_viewE (n := S.1.1) hk h40 (sI μ 161 (4 + k) (nI S.1.1)) (by rw [f1.2 0 (by omega) (by omega)]; exact hM.1.1.1) (fun ν f g1 g2 => ?_) S.1.1 0 _ (by omega) (frV.refl _ _) rfl (fun i r hr => by cases hr)
    have f2 : frV μ ν k := ⟨fun q hq => (f1.1 q hq).trans (f.1 q hq), fun j a b => by rw [f.2 j a b]; exact f1.2 j a b⟩
    refine h ν (hM.setV hk ⟨List.nodup_range', fun r hr => ?_⟩ f2 (by rw [g1, sI_at, if_pos rfl, List.length_range']) g2) f2.lo
    have := List.mem_range'_1.mp hr
    omega
theorem m_viewed {d : Nat} {v i : Int32} {S : aS} {μ : mmMem} {K : Int32 → mmMem → Prop} (hd : 3 ≤ d) (hM : MS μ S) (h : ∀ ν, MS ν (sp_viewed v i S).2 → loE μ ν → K (sp_viewed v i S).1 ν) : mmCI d M_X8_viewed false 2 [.ref 160, .int v, .int i] μ K := by
  refine u_X8_viewed (by omega) ?_
  refine m_isView (by omega) ?_
  unfold sp_viewed at h
  by_cases nv : noView v
  · rw [if_pos nv] at h ⊢
    exact ⟨fun _ => h μ hM (loE.refl _), fun w => absurd rfl w⟩
  · rw [if_neg nv] at h ⊢
    refine ⟨fun w => absurd w (by decide), fun _ => ?_⟩
    obtain ⟨k, hk, rfl⟩ := view_of nv
    have h40 := hM.2.1.1
    have hln := (hM.2.1.vw k).len
    obtain ⟨g1, g2⟩ := hM.1.vw hk
    rw [nI_clamp (by omega)] at h
    rw [nI_4, nI_clamp (by omega)]
    refine ⟨vp_in_nI (by omega) (by decide), ?_⟩
    refine m_isInI (a := -1) (b := μ.1 161 (4 + k) - 1) (by omega) rfl rfl ?_
    rw [g1]
    have ei : (nI (getV S.1 k).length - 1).toInt = ((getV S.1 k).length : Int) - 1 ∧ (nI (getV S.1 k).length).toInt = ((getV S.1 k).length : Int) := by
      have : ∀ n, n < 41 → (nI n - 1).toInt = (n : Int) - 1 ∧ (nI n).toInt = (n : Int) := by decide +kernel
      exact this _ (by omega)
    obtain ⟨i1, i2⟩ := ei
    have em : (-1 : Int32).toInt = -1 := rfl
    have e0 : (0 : Int32).toInt = 0 := rfl
    by_cases q : ¬ i < -1 ∧ ¬ nI (getV S.1 k).length - 1 < i
    · rw [if_pos q]
      refine ⟨fun _ => ⟨fun p => ?_, fun p => ?_⟩, fun w => absurd w (by decide)⟩
      · have n1 : ¬ i = -1 := fun e => by rw [e] at p; exact absurd p (by decide)
        have hlt : i < nI (getV S.1 k).length := by
          have := q.2
          rw [Int32.lt_iff_toInt_lt, i1] at this
          rw [Int32.lt_iff_toInt_lt, i2]
          omega
        have hnn : ¬ i < 0 := Int32.not_lt.mpr p
        rw [if_neg n1, if_neg (by rintro (w | w); exact hnn w; exact w hlt)] at h
        obtain ⟨j, hj, rfl⟩ := nI_of hnn
        have hl : j < (getV S.1 k).length := (nI_ltI hj (by omega)).mp hlt
        rw [nI_clamp hj] at h
        rw [nI_vw, nI_clamp (by omega)]
        refine ⟨vp_in_nI (by omega) (by decide), ?_⟩
        obtain ⟨r, hr⟩ : ∃ r, (getV S.1 k)[j]? = some r := ⟨_, List.getElem?_eq_getElem hl⟩
        have e3 : (getV S.1 k).getD j 0 = r := by rw [List.getD_eq_getElem?_getD, hr]; rfl
        rw [e3] at h
        rw [g2 j r hr]
        exact h μ hM (loE.refl _)
      · have e1 : i = -1 := by
          apply Int32.toInt_inj.mp
          have a1 := q.1
          rw [Int32.lt_iff_toInt_lt, em] at a1
          rw [Int32.le_iff_toInt_le, e0] at p
          rw [em]
          omega
        rw [if_pos e1] at h
        exact h μ hM (loE.refl _)
    · rw [if_neg q]
      refine ⟨fun w => absurd rfl w, fun _ => ?_⟩
      have n1 : ¬ i = -1 := fun e => q ⟨by rw [e]; decide, by
        rw [e, Int32.lt_iff_toInt_lt, i1, em]
        omega⟩
      have w : i < 0 ∨ ¬ i < nI (getV S.1 k).length := by
        by_cases w : i < 0
        · exact Or.inl w
        · right
          intro w2
          apply q
          rw [Int32.lt_iff_toInt_lt] at w w2
          rw [Int32.lt_iff_toInt_lt, Int32.lt_iff_toInt_lt, i1, em]
          rw [i2] at w2
          rw [e0] at w
          exact ⟨by omega, by omega⟩
      rw [if_neg n1, if_pos w] at h
      exact h μ hM (loE.refl _)
