/-! ===== the model: what stands a test; kept; filtered ===== -/
theorem m_isTold {d : Nat} {t k : Int32} {v : Int64} {μ : mmMem} {K : Int32 → mmMem → Prop} (hd : 2 ≤ d) (h : K (if isTst t k v then 1 else 0) μ) : mmCI d M_X8_isTold true 3 [.int t, .int k, .long v] μ K := by
  refine u_X8_isTold (by omega) ?_
  have f : ¬ isTst t k v → K 0 μ := fun e => by rw [if_neg e] at h; exact h
  have g : isTst t k v → K 1 μ := fun e => by rw [if_pos e] at h; exact h
  refine m_isInI (a := 0) (b := 5) (by omega) rfl rfl ?_
  by_cases q : ¬ t < 0 ∧ ¬ (5 : Int32) < t
  · rw [if_pos q]
    refine ⟨fun w => absurd w (by decide), fun _ => ?_⟩
    have q5 := Int32.not_lt.mp q.2
    refine m_isInI (a := 0) (b := 7) (by omega) rfl rfl ?_
    by_cases q2 : ¬ k < 0 ∧ ¬ (7 : Int32) < k
    · rw [if_pos q2]
      have n10 : ¬ k = 10 := fun e => q2.2 (by rw [e]; decide)
      exact ⟨fun _ => g ⟨q.1, q5, by rw [if_neg n10]; exact q2⟩, fun w => absurd w (by decide)⟩
    · rw [if_neg q2]
      refine ⟨fun w => absurd rfl w, fun _ => ⟨fun n10 => f fun w => ?_, fun e10 => ?_⟩⟩
      · have := w.2.2
        rw [if_neg n10] at this
        exact q2 this
      · refine m_isIn (by omega) ?_
        by_cases q3 : isWrd v
        · rw [if_pos q3]
          exact ⟨fun w => absurd w (by decide), fun _ => g ⟨q.1, q5, by rw [if_pos e10]; exact q3⟩⟩
        · rw [if_neg q3]
          refine ⟨fun _ => f fun w => q3 ?_, fun w => absurd rfl w⟩
          have := w.2.2
          rw [if_pos e10] at this
          exact this
  · rw [if_neg q]
    exact ⟨fun _ => f fun w => q ⟨w.1, Int32.not_lt.mpr w.2.1⟩, fun w => absurd rfl w⟩
theorem m_stB {d : Nat} {x y : aC} {t : Int32} {μ : mmMem} {K : Int32 → mmMem → Prop} (hd : 4 ≤ d) (okx : okC x) (oky : okC y) (ht : 0 ≤ t.toInt ∧ t.toInt ≤ 5) (h : K (if aStands t x y = true then 1 else 0) μ) :
    (t.toInt < 0 ∨ 4 < t.toInt → (¬ x.1 = y.1 → K (0 : Int32) μ) ∧ (x.1 = y.1 → (¬ lg_cmp x.2 y.2 = (0 : Int32) → K (0 : Int32) μ) ∧ (lg_cmp x.2 y.2 = (0 : Int32) → K (1 : Int32) μ))) ∧
    (t.toInt = 0 → mmCI d M_X8_held true 4 [.int x.1, .long x.2, .int y.1, .long y.2] μ fun y22 ν21 => (¬ y22 = (-1 : Int32) → K (0 : Int32) ν21) ∧ (y22 = (-1 : Int32) → K (1 : Int32) ν21)) ∧
    (t.toInt = 1 → mmCI d M_X8_held true 4 [.int x.1, .long x.2, .int y.1, .long y.2] μ fun y29 ν28 => (¬ y29 = (0 : Int32) → K (0 : Int32) ν28) ∧ (y29 = (0 : Int32) → K (1 : Int32) ν28)) ∧
    (t.toInt = 2 → mmCI d M_X8_held true 4 [.int x.1, .long x.2, .int y.1, .long y.2] μ fun y36 ν35 => (¬ y36 = (1 : Int32) → K (0 : Int32) ν35) ∧ (y36 = (1 : Int32) → K (1 : Int32) ν35)) ∧
    (t.toInt = 3 → (¬ x.1 = (-1 : Int32) → K (0 : Int32) μ) ∧ (x.1 = (-1 : Int32) → K (1 : Int32) μ)) ∧
    (t.toInt = 4 → (x.1 = (-1 : Int32) → K (0 : Int32) μ) ∧ (¬ x.1 = (-1 : Int32) → K (1 : Int32) μ)) ∧ True := by
  have i32 : ∀ j : Int32, t.toInt = j.toInt → t = j := fun j q => Int32.toInt_inj.mp q
  have no : aStands t x y = false → K 0 μ := fun e => by rw [e] at h; exact h
  have yes : aStands t x y = true → K 1 μ := fun e => by rw [e] at h; exact h
  refine ⟨fun q => ?_, fun q => ?_, fun q => ?_, fun q => ?_, fun q => ?_, fun q => ?_, trivial⟩
  · have e5 : t = 5 := i32 5 (by
      have : (5 : Int32).toInt = 5 := rfl
      omega)
    have es : aStands t x y = (x == y) := by rw [e5]; rfl
    rw [es] at no yes
    refine ⟨fun n => no (beq_eq_false_iff_ne.mpr fun w => n (by rw [w])), fun e => ⟨fun n => no (beq_eq_false_iff_ne.mpr fun w => n (by rw [w]; exact (lg_e _ _).mpr rfl)), fun e2 => yes (beq_iff_eq.mpr (Prod.ext e ((lg_e _ _).mp e2)))⟩⟩
  · have es : aStands t x y = (aHeld x y == -1) := by rw [i32 0 q]; rfl
    rw [es] at no yes
    exact m_held hd okx oky ⟨fun n => no (beq_eq_false_iff_ne.mpr n), fun e => yes (beq_iff_eq.mpr e)⟩
  · have es : aStands t x y = (aHeld x y == 0) := by rw [i32 1 q]; rfl
    rw [es] at no yes
    exact m_held hd okx oky ⟨fun n => no (beq_eq_false_iff_ne.mpr n), fun e => yes (beq_iff_eq.mpr e)⟩
  · have es : aStands t x y = (aHeld x y == 1) := by rw [i32 2 q]; rfl
    rw [es] at no yes
    exact m_held hd okx oky ⟨fun n => no (beq_eq_false_iff_ne.mpr n), fun e => yes (beq_iff_eq.mpr e)⟩
  · have es : aStands t x y = (x.1 == -1) := by rw [i32 3 q]; rfl
    rw [es] at no yes
    exact ⟨fun n => no (beq_eq_false_iff_ne.mpr n), fun e => yes (beq_iff_eq.mpr e)⟩
  · have es : aStands t x y = (x.1 != -1) := by rw [i32 4 q]; rfl
    rw [es] at no yes
    exact ⟨fun e => no (by simp [e]), fun n => yes (by simp [n])⟩
theorem m_stands {d k r : Nat} {x : aC} {t kd : Int32} {v : Int64} {μ : mmMem} {K : Int32 → mmMem → Prop} (hd : 6 ≤ d) (hk : k < 12) (hr : r < 40) (e1 : μ.1 161 (136 + (40 * k + r)) = x.1) (e2 : μ.2.1 162 (40 * k + r) = x.2) (okx : okC x) (ht : isTst t kd v) (h : K (if aStands t x (tCell kd v) = true then 1 else 0) μ) : mmCI d M_X8_stands false 5 [.ref 160, .int (nI k), .int (nI r), .int t, .int kd, .long v] μ K := by
  refine u_X8_stands (by omega) ?_
  rw [nI_plc, nI_136, nI_clamp (show 136 + (40 * k + r) < 2 ^ 31 by omega), nI_clamp (show 40 * k + r < 2 ^ 31 by omega), e1, e2]
  obtain ⟨okt, tt⟩ := tCell_ok ht
  refine ⟨vp_in_nI (by omega) (by decide), vp_in_nI (by omega) (by decide), fun n => ?_, fun e => ?_⟩
  · have ec : tCell kd v = (kd, aMade kd v) := if_neg n
    have h3 := ht.2.2
    rw [if_neg n] at h3
    rw [ec] at h okt
    refine m_made (by omega) (isB_i h3.1 (Int32.not_lt.mp h3.2)) ?_
    exact m_stB (y := (kd, aMade kd v)) (by omega) okx okt tt h
  · have ec : tCell kd v = (8, v) := if_pos e
    rw [ec] at h okt
    refine m_made8 (by omega) ?_
    exact m_stB (y := (8, v)) (by omega) okx okt tt h
/-- columns and filters, as the tests read them -/
def prdM (μ : mmMem) (T : aT) : Prop := (μ.1 161 0 = nI T.1 ∧ μ.1 161 1 = nI T.2.1.length ∧ μ.1 161 3 = nI T.2.2.2.2.2.length) ∧ (∀ c col, T.2.1[c]? = some col → μ.1 161 (6 + c) = col.1 ∧ μ.1 161 (18 + c) = (if col.2.1 = true then 1 else 0) ∧ ∀ r, r < T.1 → μ.1 161 (136 + (40 * c + r)) = (col.2.2 r).1 ∧ μ.2.1 162 (40 * c + r) = (col.2.2 r).2) ∧ ∀ f q, T.2.2.2.2.2[f]? = some q → μ.1 161 (38 + 3 * f) = nI q.1 ∧ μ.1 161 (39 + 3 * f) = q.2.1 ∧ isTst q.2.1 (μ.1 161 (40 + 3 * f)) (μ.2.1 162 (480 + f)) ∧ tCell (μ.1 161 (40 + 3 * f)) (μ.2.1 162 (480 + f)) = q.2.2
theorem MS.prd {μ : mmMem} {S : aS} (hM : MS μ S) : prdM μ S.1 := ⟨⟨hM.1.1.1, hM.1.1.2.1, hM.1.1.2.2.2⟩, hM.1.2.1, hM.1.2.2.2.2⟩
theorem prdM.fr {μ ν : mmMem} {v : Nat} {T : aT} (h : prdM μ T) (ok : okT T) (hv : v < 2) (f : frV μ ν v) : prdM ν T := by
  have e162 : ν.2.1 162 = μ.2.1 162 := (f.1 162 (by decide)).2.1
  obtain ⟨⟨h0, h1, h3⟩, hc, hf⟩ := h
  have l2 := ok.2.1
  have l8 := ok.2.2.2.2.2.2.2.1
  refine ⟨⟨by rw [f.2 0 (by omega) (by omega)]; exact h0, by rw [f.2 1 (by omega) (by omega)]; exact h1, by rw [f.2 3 (by omega) (by omega)]; exact h3⟩, fun c col q => ?_, fun i q hq => ?_⟩
  · have := lt_of_get q
    obtain ⟨g1, g2, g3⟩ := hc c col q
    refine ⟨by rw [f.2 _ (by omega) (by omega)]; exact g1, by rw [f.2 _ (by omega) (by omega)]; exact g2, fun r hr => ?_⟩
    rw [f.2 _ (by omega) (by omega), e162]
    exact g3 r hr
  · have := lt_of_get hq
    rw [f.2 _ (by omega) (by omega), f.2 _ (by omega) (by omega), f.2 _ (by omega) (by omega), e162]
    exact hf i q hq
theorem aPass_at {T : aT} {q : aFil} {col : aCol} {r : Nat} (hcol : T.2.1[q.1]? = some col) : aPass T q r = (!col.2.1 && aStands q.2.1 (col.2.2 r) q.2.2) := by unfold aPass; rw [hcol]
theorem m_passes {d f r : Nat} {q : aFil} {T : aT} {μ : mmMem} {K : Int32 → mmMem → Prop} (hd : 7 ≤ d) (hp : prdM μ T) (ok : okT T) (hq : T.2.2.2.2.2[f]? = some q) (hr : r < T.1) (h : K (if aPass T q r = true then 1 else 0) μ) : mmCI d M_X8_passes false 2 [.ref 160, .int (nI f), .int (nI r)] μ K := by
  refine u_X8_passes (by omega) ?_
  have lf := lt_of_get hq
  have h40 := ok.1
  have l2 := ok.2.1
  have l8 := ok.2.2.2.2.2.2.2.1
  have okq := ok.2.2.2.2.2.2.2.2 q (List.mem_of_getElem? hq)
  obtain ⟨g1, g2, g3, g4⟩ := hp.2.2 f q hq
  have hlt := okq.1
  obtain ⟨col, hcol⟩ : ∃ col, T.2.1[q.1]? = some col := ⟨_, List.getElem?_eq_getElem hlt⟩
  obtain ⟨c1, c2, c3⟩ := hp.2.1 q.1 col hcol
  rw [aPass_at hcol] at h
  have e38 : (38 : Int32) + (3 : Int32) * nI f = nI (38 + 3 * f) := by
    have e1 : (3 : Int32) * nI f = nI (3 * f) := nI_mul 3 f
    rw [e1]
    exact nI_add 38 (3 * f)
  have e40 : nI (38 + 3 * f) + (2 : Int32) = nI (38 + 3 * f + 2) := nI_add _ 2
  have e480 : (480 : Int32) + nI f = nI (480 + f) := nI_addr 480 f
  have e18 : (18 : Int32) + nI q.1 = nI (18 + q.1) := nI_addr 18 _
  rw [e38, nI_clamp (show 38 + 3 * f < 2 ^ 31 by omega), g1, hp.1.2.1, e18, nI_clamp (show 18 + q.1 < 2 ^ 31 by omega), c2, nI_1 (38 + 3 * f), e40, e480, nI_clamp (show 38 + 3 * f + 1 < 2 ^ 31 by omega), nI_clamp (show 38 + 3 * f + 2 < 2 ^ 31 by omega), nI_clamp (show 480 + f < 2 ^ 31 by omega)]
  refine ⟨vp_in_nI (by omega) (by decide), fun w => absurd w (nI_ge hlt (by omega)), fun _ => ⟨vp_in_nI (by omega) (by decide), fun w => ?_, fun w => ⟨vp_in_nI (by omega) (by decide), vp_in_nI (by omega) (by decide), vp_in_nI (by omega) (by decide), ?_⟩⟩⟩
  · have hg : col.2.1 = true := by
      cases hh : col.2.1 with
      | true => rfl
      | false => rw [hh] at w; exact absurd rfl w
    rw [hg] at h
    exact h
  · have hg : col.2.1 = false := by
      cases hh : col.2.1 with
      | true => rw [hh] at w; exact absurd w (by decide)
      | false => rfl
    rw [hg] at h
    have a1 : μ.1 161 (38 + 3 * f + 1) = q.2.1 := by rw [show 38 + 3 * f + 1 = 39 + 3 * f by omega]; exact g2
    rw [a1, show 38 + 3 * f + 2 = 40 + 3 * f by omega]
    obtain ⟨z1, z2⟩ := c3 r hr
    refine m_stands (by omega) (by omega) (by omega) z1 z2 (((ok.2.2.1 col (List.mem_of_getElem? hcol)).2.2 r hr).1) g3 ?_
    rw [g4]
    cases ha : aStands q.2.1 (col.2.2 r) q.2.2 with
    | true => rw [ha] at h; exact ⟨fun z => absurd z (by decide), fun _ => h⟩
    | false => rw [ha] at h; exact ⟨fun _ => h, fun z => absurd rfl z⟩
/-- rows of a view that stay close up in front -/
def vwG (μ0 μ : mmMem) (v : Nat) (l : List Nat) (p : Nat → Bool) (i : Nat) (k : List Nat) : Prop := i ≤ l.length ∧ k.length ≤ i ∧ l.filter p = k ++ (l.drop i).filter p ∧ enV μ v k ∧ (∀ j r, i ≤ j → l[j]? = some r → μ.1 161 (56 + 40 * v + j) = nI r) ∧ frV μ0 μ v ∧ μ.1 161 (4 + v) = nI l.length
theorem vwG.start {μ : mmMem} {S : aS} {v : Nat} {p : Nat → Bool} (hM : MS μ S) (hv : v < 2) : vwG μ μ v (getV S.1 v) p 0 [] := by
  obtain ⟨g1, g2⟩ := hM.1.vw hv
  exact ⟨Nat.zero_le _, Nat.zero_le _, by simp, fun i r hr => (by cases hr), fun j r _ hr => g2 j r hr, frV.refl _ _, g1⟩
theorem vwG.skip {μ0 μ : mmMem} {v i r : Nat} {l k : List Nat} {p : Nat → Bool} (h : vwG μ0 μ v l p i k) (hr : l[i]? = some r) (hp : p r = false) : vwG μ0 μ v l p (i + 1) k := by
  obtain ⟨h1, h2, h3, h4, h5, h6, h7⟩ := h
  have := lt_of_get hr
  rw [drop_get hr, List.filter_cons_of_neg (by rw [hp]; decide)] at h3
  exact ⟨by omega, by omega, h3, h4, fun j q hj hq => h5 j q (by omega) hq, h6, h7⟩
theorem vwG.take {μ0 μ : mmMem} {v i r : Nat} {l k : List Nat} {p : Nat → Bool} (h : vwG μ0 μ v l p i k) (hv : v < 2) (hl : l.length ≤ 40) (hr : l[i]? = some r) (hp : p r = true) : vwG μ0 (sI μ 161 (56 + 40 * v + k.length) (nI r)) v l p (i + 1) (k ++ [r]) := by
  obtain ⟨h1, h2, h3, h4, h5, h6, h7⟩ := h
  have hlt := lt_of_get hr
  rw [drop_get hr, List.filter_cons_of_pos hp] at h3
  refine ⟨by omega, by rw [List.length_append]; simp; omega, by rw [h3, List.append_assoc]; rfl, h4.push, fun j q hj hq => ?_, h6.put (by omega), ?_⟩
  · rw [sI_at, if_neg (by omega)]; exact h5 j q (by omega) hq
  · rw [sI_at, if_neg (by omega)]; exact h7
theorem vwG.done {μ0 μ : mmMem} {v i : Nat} {l k : List Nat} {p : Nat → Bool} (h : vwG μ0 μ v l p i k) (hv : v < 2) (hl : l.length ≤ 40) (hi : l.length - i = 0) : k = l.filter p ∧ frV μ0 (sI μ 161 (4 + v) (nI k.length)) v ∧ (sI μ 161 (4 + v) (nI k.length)).1 161 (4 + v) = nI k.length ∧ enV (sI μ 161 (4 + v) (nI k.length)) v k := by
  obtain ⟨h1, h2, h3, h4, h5, h6, h7⟩ := h
  rw [List.drop_of_length_le (by omega), List.filter_nil, List.append_nil] at h3
  refine ⟨h3.symm, h6.len hv, by rw [sI_at, if_pos rfl], fun j q hq => ?_⟩
  have := lt_of_get hq
  rw [sI_at, if_neg (by omega)]
  exact h4 j q hq
theorem m_keepE {d v k : Nat} {t kd x7 : Int32} {x : Int64} {col : aCol} {S : aS} {K : Int32 → mmMem → Prop} (hd : 6 ≤ d) (hv : v < 2) (hcol : S.1.2.1[k]? = some col) (hg : col.2.1 = false) (ht : isTst t kd x) (μ0 : mmMem) (hM : MS μ0 S) (h : ∀ ν, MS ν (sT S (setV S.1 v ((getV S.1 v).filter (aPass S.1 (k, t, tCell kd x))))) → loE μ0 ν → K (nI ((getV S.1 v).filter (aPass S.1 (k, t, tCell kd x))).length) ν) : ∀ (j i : Nat) (k' : List Nat) (μ : mmMem) (v10 : Value), (getV S.1 v).length - i = j → vwG μ0 μ v (getV S.1 v) (aPass S.1 (k, t, tCell kd x)) i k' → mmEnds d M_X8_keep 44 [.ref 160, .int (nI v), .int (nI k), .int t, .int kd, .long x, .retAddr 7, .int x7, .int (nI k'.length), .int (nI i), v10] [] μ (mmPI K) := by
  have okv := hM.2.1.vw v
  have hln := okv.len
  have h40 := hM.2.1.1
  have h12 := hM.2.1.2.1
  have lk := lt_of_get hcol
  intro j
  induction j with
  | zero =>
    intro i k' μ v10 hj hG
    have hil := hG.1
    refine s_X8_keep_44 (by omega) ?_
    rw [nI_4, nI_clamp (by omega), hG.2.2.2.2.2.2]
    refine ⟨vp_in_nI (by omega) (by decide), fun _ => ?_, fun w => absurd (nI_le (by omega) (by omega)) w⟩
    obtain ⟨rfl, f, el, en⟩ := hG.done hv (by omega) hj
    exact h _ (hM.setV hv (okv.filter _) f el en) f.lo
  | succ j ih =>
    intro i k' μ v10 hj hG
    obtain ⟨r, hr⟩ : ∃ r, (getV S.1 v)[i]? = some r := ⟨_, List.getElem?_eq_getElem (by omega)⟩
    have hrr := okv.2 r (List.mem_of_getElem? hr)
    have hki := hG.2.1
    refine s_X8_keep_44 (by omega) ?_
    rw [nI_4, nI_clamp (show 4 + v < 2 ^ 31 by omega), hG.2.2.2.2.2.2, nI_vw, nI_clamp (show 56 + 40 * v + i < 2 ^ 31 by omega), hG.2.2.2.2.1 i r (Nat.le_refl _) hr, nI_vw, nI_clamp (show 56 + 40 * v + k'.length < 2 ^ 31 by omega), nI_1 i, nI_1 k'.length]
    refine ⟨vp_in_nI (by omega) (by decide), fun w => absurd w (nI_ge (by omega) (by omega)), fun _ => ⟨vp_in_nI (by omega) (by decide), ?_⟩⟩
    obtain ⟨-, -, c3⟩ := (hM.prd.fr hM.2.1 hv hG.2.2.2.2.2.1).2.1 k col hcol
    obtain ⟨z1, z2⟩ := c3 r hrr
    refine m_stands hd (by omega) (by omega) z1 z2 (((hM.2.1.2.2.1 col (List.mem_of_getElem? hcol)).2.2 r hrr).1) ht ?_
    have ep : aPass S.1 (k, t, tCell kd x) r = aStands t (col.2.2 r) (tCell kd x) := by
      rw [aPass_at (q := (k, t, tCell kd x)) hcol, hg]; rfl
    cases ha : aStands t (col.2.2 r) (tCell kd x) with
    | false =>
      refine ⟨fun _ => ?_, fun w => absurd rfl w⟩
      exact ih (i + 1) k' μ _ (by omega) (hG.skip hr (by rw [ep]; exact ha))
    | true =>
      refine ⟨fun w => absurd w (by decide), fun _ => ⟨vp_in_nI (by omega) (by decide), ?_⟩⟩
      have := ih (i + 1) (k' ++ [r]) _ (.int (nI r)) (by omega) (hG.take hv (by omega) hr (by rw [ep]; exact ha))
      rw [List.length_append] at this
      exact this
theorem m_keep {d : Nat} {v c t kd : Int32} {x : Int64} {S : aS} {μ : mmMem} {K : Int32 → mmMem → Prop} (hd : 7 ≤ d) (hM : MS μ S) (h : ∀ ν, MS ν (sp_keep v c t kd x S).2 → loE μ ν → K (sp_keep v c t kd x S).1 ν) : mmCI d M_X8_keep false 5 [.ref 160, .int v, .int c, .int t, .int kd, .long x] μ K := by
  refine u_X8_keep (by omega) ?_
  refine m_isView (by omega) ?_
  unfold sp_keep at h
  by_cases nv : noView v
  · rw [if_pos nv] at h ⊢
    exact ⟨fun w => absurd rfl w, fun _ => h μ hM (loE.refl _)⟩
  · rw [if_neg nv] at h ⊢
    refine ⟨fun _ => ?_, fun w => absurd w (by decide)⟩
    obtain ⟨v, hv, rfl⟩ := view_of nv
    rw [nI_clamp (by omega)] at h
    refine m_amiss (by omega) hM (fun ν hν hh => ?_)
    refine ⟨fun q => ?_, fun q => ?_⟩
    · obtain ⟨k, col, hk, rfl, hcol, hg⟩ := cref_0 q
      rw [withC_ok hk q hcol] at h
      rw [q] at hν
      have hν : MS ν S := hν
      refine m_isTold (by omega) ?_
      by_cases ht : isTst t kd x
      · rw [if_pos ht]
        rw [if_neg (fun w => w ht)] at h
        refine ⟨fun _ => ?_, fun w => absurd w (by decide)⟩
        exact m_keepE (by omega) hv hcol hg ht ν hν (fun ν2 m2 l2 => h ν2 m2 (hh.trans l2)) _ 0 [] ν _ rfl (vwG.start hν hv)
      · rw [if_neg ht]
        rw [if_pos ht] at h
        exact ⟨fun w => absurd rfl w, fun _ => h ν hν hh⟩
    · rw [withC_no q] at h
      exact h ν hν hh
theorem tabM.setF {a a' : Nat → Int32} {b b' : Nat → Int64} {T : aT} {fs : List aFil} (h : tabM a b T) (ok : okT T) (ea : ∀ j, j ≠ 3 → (j < 38 ∨ 56 ≤ j) → a' j = a j) (eb : ∀ j, j < 480 → b' j = b j) (el : a' 3 = nI fs.length) (en : ∀ f q, fs[f]? = some q → a' (38 + 3 * f) = nI q.1 ∧ a' (39 + 3 * f) = q.2.1 ∧ isTst q.2.1 (a' (40 + 3 * f)) (b' (480 + f)) ∧ tCell (a' (40 + 3 * f)) (b' (480 + f)) = q.2.2) : tabM a' b' (setF T fs) := by
  obtain ⟨⟨h1, h2, h3, h4⟩, h5, ⟨⟨h6, h7⟩, h8, h9⟩, h10, h11⟩ := h
  have h40 := ok.1
  have l2 := ok.2.1
  have l6 := ok.2.2.2.2.2.1
  refine ⟨⟨by rw [ea 0 (by omega) (by omega)]; exact h1, by rw [ea 1 (by omega) (by omega)]; exact h2, by rw [ea 2 (by omega) (by omega)]; exact h3, el⟩, fun c col hc => ?_, ⟨⟨by rw [ea 4 (by omega) (by omega)]; exact h6, fun i r hr => ?_⟩, by rw [ea 5 (by omega) (by omega)]; exact h8, fun i r hr => ?_⟩, fun k q hk => ?_, en⟩
  · have hc : T.2.1[c]? = some col := hc
    have := lt_of_get hc
    obtain ⟨g1, g2, g3⟩ := h5 c col hc
    refine ⟨by rw [ea _ (by omega) (by omega)]; exact g1, by rw [ea _ (by omega) (by omega)]; exact g2, fun r hr => ?_⟩
    have hr : r < T.1 := hr
    rw [ea _ (by omega) (by omega), eb _ (by omega)]
    exact g3 r hr
  · rw [ea _ (by omega) (by omega)]
    exact h7 i r hr
  · rw [ea _ (by omega) (by omega)]
    exact h9 i r hr
  · have hk : T.2.2.2.2.1[k]? = some q := hk
    have := lt_of_get hk
    rw [ea _ (by omega) (by omega), ea _ (by omega) (by omega)]
    exact h10 k q hk
theorem okT.setF {T : aT} {fs : List aFil} (ok : okT T) (hl : fs.length ≤ 6) (hk : ∀ k ∈ fs, okFil T.2.1.length k) : okT (setF T fs) := by
  obtain ⟨h1, h2, h3, h4, h5, h6, h7, h8, h9⟩ := ok
  exact ⟨h1, h2, h3, h4, h5, h6, h7, hl, hk⟩
theorem sJ_1 (μ : mmMem) (p i : Nat) (x : Int64) : (sJ μ p i x).1 = μ.1 := rfl
theorem sI_21 (μ : mmMem) (p i : Nat) (x : Int32) : (sI μ p i x).2.1 = μ.2.1 := rfl
theorem m_filter {d : Nat} {c t kd : Int32} {x : Int64} {S : aS} {μ : mmMem} {K : Int32 → mmMem → Prop} (hd : 3 ≤ d) (hM : MS μ S) (h : ∀ ν, MS ν (sp_filter c t kd x S).2 → loE μ ν → K (sp_filter c t kd x S).1 ν) : mmCI d M_X8_filter false 4 [.ref 160, .int c, .int t, .int kd, .long x] μ K := by
  refine u_X8_filter (by omega) ?_
  unfold sp_filter at h
  refine ⟨fun n => ?_, fun e => ?_⟩
  · rw [if_neg n] at h
    refine m_amiss (by omega) hM (fun ν hν hh => ?_)
    refine ⟨fun q => ?_, fun q => ?_⟩
    · obtain ⟨k, col, hk, rfl, hcol, hg⟩ := cref_0 q
      rw [withC_ok hk q hcol] at h
      rw [q] at hν
      have hν : MS ν S := hν
      have l8 := hν.2.1.2.2.2.2.2.2.2.1
      have h3 := hν.1.1.2.2.2
      refine m_isTold (by omega) ?_
      by_cases ht : isTst t kd x
      · rw [if_pos ht]
        rw [if_neg (fun w => w ht)] at h
        refine ⟨fun _ => ?_, fun w => absurd w (by decide)⟩
        generalize hF : S.1.2.2.2.2.2.length = F at h3 l8 h
        have e38 : (38 : Int32) + (3 : Int32) * nI F = nI (38 + 3 * F) := by
          have e1 : (3 : Int32) * nI F = nI (3 * F) := nI_mul 3 F
          rw [e1]
          exact nI_add 38 (3 * F)
        have e40 : nI (38 + 3 * F) + (2 : Int32) = nI (38 + 3 * F + 2) := nI_add _ 2
        have e480 : (480 : Int32) + nI F = nI (480 + F) := nI_addr 480 F
        have a1 : (sI (sI (sI ν 161 (38 + 3 * F) (nI k)) 161 (38 + 3 * F + 1) t) 161 (38 + 3 * F + 2) kd).1 161 3 = nI F := by
          rw [sI_at, if_neg (by omega), sI_at, if_neg (by omega), sI_at, if_neg (by omega)]; exact h3
        rw [h3]
        refine ⟨fun n6 => ?_, fun e6 => ?_⟩
        · have hlt : F < 6 := Nat.lt_of_le_of_ne l8 (fun e => n6 (by rw [e]; rfl))
          rw [if_pos hlt] at h
          rw [e38, nI_1 (38 + 3 * F), e40, e480, nI_clamp (show 38 + 3 * F < 2 ^ 31 by omega), nI_clamp (show 38 + 3 * F + 1 < 2 ^ 31 by omega), nI_clamp (show 38 + 3 * F + 2 < 2 ^ 31 by omega), nI_clamp (show 480 + F < 2 ^ 31 by omega), a1, nI_1 F]
          refine ⟨vp_in_nI (by omega) (by decide), vp_in_nI (by omega) (by decide), vp_in_nI (by omega) (by decide), vp_in_nI (by omega) (by decide), ?_⟩
          have at1 : ∀ j, (sI (sJ (sI (sI (sI ν 161 (38 + 3 * F) (nI k)) 161 (38 + 3 * F + 1) t) 161 (38 + 3 * F + 2) kd) 162 (480 + F) x) 161 3 (nI (F + 1))).1 161 j = if j = 3 then nI (F + 1) else if j = 38 + 3 * F + 2 then kd else if j = 38 + 3 * F + 1 then t else if j = 38 + 3 * F then nI k else ν.1 161 j := fun j => by rw [sI_at, sJ_1, sI_at, sI_at, sI_at]
          have at2 : ∀ j, (sI (sJ (sI (sI (sI ν 161 (38 + 3 * F) (nI k)) 161 (38 + 3 * F + 1) t) 161 (38 + 3 * F + 2) kd) 162 (480 + F) x) 161 3 (nI (F + 1))).2.1 162 j = if j = 480 + F then x else ν.2.1 162 j := fun j => by rw [sI_21, sJ_at]; rfl
          refine h _ (hν.tab (hν.1.setF hν.2.1 (fun j j1 j2 => by rw [at1, if_neg j1, if_neg (by omega), if_neg (by omega), if_neg (by omega)]) (fun j j1 => by rw [at2, if_neg (by omega)]) (by rw [at1, if_pos rfl, List.length_append, hF]; rfl) (fun i q2 hi => ?_)) (hν.2.1.setF (by rw [List.length_append, hF]; exact hlt) (fun q2 hq => ?_)) (fun q a b => by simp [eq3, sI, sJ, a, b])) (hh.trans fun q hq => by
            have a : q ≠ 161 := by omega
            have b : q ≠ 162 := by omega
            simp [eq3, sI, sJ, a, b])
          · by_cases il : i < F
            · rw [List.getElem?_append_left (by omega)] at hi
              rw [at1, at1, at1, at2]
              rw [if_neg (by omega), if_neg (by omega), if_neg (by omega), if_neg (by omega), if_neg (by omega), if_neg (by omega), if_neg (by omega), if_neg (by omega), if_neg (by omega), if_neg (by omega), if_neg (by omega), if_neg (by omega), if_neg (by omega)]
              exact hν.1.2.2.2.2 i q2 hi
            · have := lt_of_get hi
              simp [hF] at this
              have : i = S.1.2.2.2.2.2.length := by omega
              subst this
              rw [List.getElem?_concat_length] at hi
              cases hi
              rw [hF, at1, at1, at1, at2]
              have w1 : (if 38 + 3 * F = 3 then nI (F + 1) else if 38 + 3 * F = 38 + 3 * F + 2 then kd else if 38 + 3 * F = 38 + 3 * F + 1 then t else if 38 + 3 * F = 38 + 3 * F then nI k else ν.1 161 (38 + 3 * F)) = nI k := by rw [if_neg (by omega), if_neg (by omega), if_neg (by omega), if_pos rfl]
              have w2 : (if 39 + 3 * F = 3 then nI (F + 1) else if 39 + 3 * F = 38 + 3 * F + 2 then kd else if 39 + 3 * F = 38 + 3 * F + 1 then t else if 39 + 3 * F = 38 + 3 * F then nI k else ν.1 161 (39 + 3 * F)) = t := by rw [if_neg (by omega), if_neg (by omega), if_pos (by omega)]
              have w3 : (if 40 + 3 * F = 3 then nI (F + 1) else if 40 + 3 * F = 38 + 3 * F + 2 then kd else if 40 + 3 * F = 38 + 3 * F + 1 then t else if 40 + 3 * F = 38 + 3 * F then nI k else ν.1 161 (40 + 3 * F)) = kd := by rw [if_neg (by omega), if_pos (by omega)]
              rw [w1, w2, w3, if_pos rfl]
              exact ⟨rfl, rfl, ht, rfl⟩
          · rcases List.mem_append.mp hq with w | w
            · exact hν.2.1.2.2.2.2.2.2.2.2 q2 w
            · rw [List.mem_singleton.mp w]
              exact ⟨lt_of_get hcol, (tCell_ok ht).2, (tCell_ok ht).1⟩
        · have hlt : ¬ F < 6 := fun w => by
            have := (nI_eq (b := 6) (by omega) (by decide)).mp e6
            omega
          rw [if_neg hlt] at h
          exact h ν hν hh
      · rw [if_neg ht]
        rw [if_pos ht] at h
        exact ⟨fun w => absurd rfl w, fun _ => h ν hν hh⟩
    · rw [withC_no q] at h
      exact h ν hν hh
  · rw [if_pos e] at h
    refine h _ (hM.tab (hM.1.setF hM.2.1 (fun j j1 j2 => by rw [sI_at, if_neg j1]) (fun j _ => rfl) (by rw [sI_at, if_pos rfl]; rfl) (fun i q2 hi => by cases hi)) (hM.2.1.setF (by decide) (fun q2 hq => by cases hq)) (fun q a _ => by simp [eq3, sI, a])) (loE_sI _ _ _ _ (by decide))
