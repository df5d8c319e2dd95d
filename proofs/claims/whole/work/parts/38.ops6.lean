/-! ===== the class: kept, keyed, filtered ===== -/
def sp_keep (v c t kd : Int32) (x : Int64) (S : aS) : Int32 × aS := if noView v then (-1, S) else withC S c fun k _ => if ¬ isTst t kd x then (-2, S) else (nI ((getV S.1 v.toNatClampNeg).filter (aPass S.1 (k, t, tCell kd x))).length, sT S (setV S.1 v.toNatClampNeg ((getV S.1 v.toNatClampNeg).filter (aPass S.1 (k, t, tCell kd x)))))
theorem nar01 (b : Bool) : vp_nar .boolean (if b = true then (1 : Int32) else 0) = if b = true then 1 else 0 := by cases b <;> decide
theorem scr_156 (μ : mmMem) (i : Nat) (x : Int32) : scr μ (sI μ 156 i x) := ⟨fun q hq => by
  have : q ≠ 156 := by omega
  simp [eq3, sI, this], by simp [sI]⟩
theorem okV.filter {n : Nat} {l : List Nat} (h : okV n l) (p : Nat → Bool) : okV n (l.filter p) := ⟨h.1.filter _, fun r hr => h.2 r (List.mem_filter.mp hr).1⟩
/-- the loops that mark the rows that stay -/
theorem stays_upd {μ : mmMem} {l : List Nat} {p : Nat → Bool} {i r : Nat} (hr : l[i]? = some r) (h : ∀ j r, j < i → l[j]? = some r → μ.1 156 j = if p r = true then 1 else 0) : ∀ j r, j < i + 1 → l[j]? = some r → (sI μ 156 i (vp_nar .boolean (if p (l.getD i 0) = true then 1 else 0))).1 156 j = if p r = true then 1 else 0 := by
  intro j r2 hj h2
  have e : l.getD i 0 = r := by rw [List.getD_eq_getElem?_getD, hr]; rfl
  rw [e, nar01]
  by_cases q : j = i
  · subst q
    rw [hr] at h2
    cases h2
    simp [sI, upd]
  · rw [← h j r2 (by omega) h2]
    simp [sI, upd, q]
theorem c_keepE {d v : Nat} {f : aFil} {S : aS} {K : Int32 → mmMem → Prop} (hd : 6 ≤ d) (hv : v < 2) (okf : okFil S.1.2.1.length f) (x1 x2 x3 x4 x7 : Int32) (x5 : Int64) (μ0 : mmMem) (h : ∀ ν, CS ν (sT S (setV S.1 v ((getV S.1 v).filter (aPass S.1 f)))) → hiE μ0 ν → K (nI ((getV S.1 v).filter (aPass S.1 f)).length) ν) : ∀ (j i : Nat) (μ : mmMem), (getV S.1 v).length - i = j → i ≤ (getV S.1 v).length → CS μ S → hiE μ0 μ → filC μ 150 f → (∀ j r, j < i → (getV S.1 v)[j]? = some r → μ.1 156 j = if aPass S.1 f r = true then 1 else 0) → mmEnds d M_X7_keep 65 [.ref 0, .int x1, .int x2, .int x3, .int x4, .long x5, .retAddr 7, .int x7, .ref (55 + 2 * v), .int (nI i)] [] μ (mmPI K) := by
  intro j
  induction j with
  | zero =>
    intro i μ hj hi hC hh hf hs
    have hvw := hC.1.vw hv
    have okv := hC.2.1.vw v
    have hln := okv.len
    have h40 := hC.2.1.1
    refine s_X7_keep_65 (by omega) (kvw v hv).1 ?_
    rw [hvw.1]
    refine ⟨fun _ => ?_, fun w => absurd (nI_le (by omega) (by omega)) w⟩
    refine c_keepThose (p := aPass S.1 f) (by omega) (kvw v hv).1 (by omega) (by omega) hvw (fun i2 r hr => hs i2 r (by have := lt_of_get hr; omega) hr) (fun ν f1 g1 => ?_)
    rw [g1.1]
    exact h ν (hC.setV hv (fun q h1 h2 _ => f1.1 q h1 (by omega)) (by rw [(f1.1 141 (by omega) (by omega)).1]) g1 (okv.filter _)) (hh.trans fun q hq => f1.1 q (by omega) (by omega))
  | succ j ih =>
    intro i μ hj hi hC hh hf hs
    have hvw := hC.1.vw hv
    have okv := hC.2.1.vw v
    have hln := okv.len
    have h40 := hC.2.1.1
    refine s_X7_keep_65 (by omega) (kvw v hv).1 ?_
    obtain ⟨r, hr⟩ : ∃ r, (getV S.1 v)[i]? = some r := ⟨_, List.getElem?_eq_getElem (by omega)⟩
    have hrr := okv.2 r (List.mem_of_getElem? hr)
    rw [hvw.1, nI_clamp (by omega), hvw.2 i r hr, nI_1]
    refine ⟨fun w => absurd w (nI_ge (by omega) (by omega)), fun _ => ⟨vp_in_nI (by omega) (by decide), ?_⟩⟩
    refine c_passes (by omega) kd_150 (by decide) (by decide) hC hf okf hrr (fun ν g => ?_)
    have s1 : scr μ ν := ⟨fun q hq => g q (by omega), by rw [(g 141 (by omega)).1]⟩
    have hs1 : ∀ j r, j < i → (getV S.1 v)[j]? = some r → ν.1 156 j = if aPass S.1 f r = true then 1 else 0 := fun j r h1 h2 => by rw [(g 156 (by decide)).1]; exact hs j r h1 h2
    have hs2 := stays_upd hr hs1
    have e : (getV S.1 v).getD i 0 = r := by rw [List.getD_eq_getElem?_getD, hr]; rfl
    rw [e] at hs2
    have s2 := s1.trans (scr_156 ν i (vp_nar .boolean (if aPass S.1 f r = true then 1 else 0)))
    refine ih (i + 1) _ (by omega) (by omega) (hC.scr s2) (hh.trans s2.hi) ?_ hs2
    have e156 : ∀ q, q ≠ 156 → eq3 ν (sI ν 156 i (vp_nar .boolean (if aPass S.1 f r = true then 1 else 0))) q := fun q hq => by simp [eq3, sI, hq]
    exact (hf.fr (g _ (by decide)) (g _ (by decide))).fr (e156 _ (by decide)) (e156 _ (by decide))
theorem c_keep {d : Nat} {v c t kd : Int32} {x : Int64} {S : aS} {μ : mmMem} {K : Int32 → mmMem → Prop} (hd : 7 ≤ d) (hC : CS μ S) (h : ∀ ν, CS ν (sp_keep v c t kd x S).2 → hiE μ ν → K (sp_keep v c t kd x S).1 ν) : mmCI d M_X7_keep false 5 [.ref 0, .int v, .int c, .int t, .int kd, .long x] μ K := by
  refine u_X7_keep (by omega) ?_
  unfold sp_keep at h
  have bad : noView v → K (-1) μ := fun w => by
    rw [if_pos w] at h
    exact h μ hC (hiE.refl _)
  refine ⟨fun a => bad (Or.inl a), fun a => ⟨fun b => bad (Or.inr b), fun b => ?_⟩⟩
  have nv : ¬ noView v := by rintro (w | w); exact a w; exact b w
  rw [if_neg nv] at h
  obtain ⟨v, hv, rfl⟩ := view_of nv
  rw [nI_clamp (by omega)] at h ⊢
  refine c_columnRefusal (by omega) hC (fun ν hν hh => ?_)
  refine ⟨fun q => ?_, fun q => ?_⟩
  · obtain ⟨k, col, hk, rfl, hcol, hg⟩ := cref_0 q
    rw [withC_ok hk q hcol] at h
    rw [q] at hν
    replace hν : CS ν S := hν
    refine c_isTest (by omega) ?_
    by_cases ht : isTst t kd x
    · rw [if_pos ht]
      rw [if_neg (fun w => w ht)] at h
      refine ⟨fun _ => ?_, fun w => absurd w (by decide)⟩
      refine c_fset (by omega) kd_150 ht (fun ν2 f2 g2 => ?_)
      have s2 : scr ν ν2 := ⟨fun z hz => g2 z (by omega) (by omega), by rw [(g2 141 (by decide) (by decide)).1]⟩
      exact c_keepE (f := (k, t, tCell kd x)) (by omega) hv ⟨lt_of_get hcol, (tCell_ok ht).2, (tCell_ok ht).1⟩ _ _ _ _ _ _ μ h _ 0 ν2 rfl (Nat.zero_le _) (hν.scr s2) (hh.trans s2.hi) f2 (fun j r hj => absurd hj (Nat.not_lt_zero _))
    · rw [if_neg ht]
      rw [if_pos ht] at h
      exact ⟨fun w => absurd rfl w, fun _ => h ν hν hh⟩
  · rw [withC_no q] at h
    exact h ν hν hh
def setK (T : aT) (ks : List (Nat × Bool)) : aT := (T.1, T.2.1, T.2.2.1, T.2.2.2.1, ks, T.2.2.2.2.2)
def setF (T : aT) (fs : List aFil) : aT := (T.1, T.2.1, T.2.2.1, T.2.2.2.1, T.2.2.2.2.1, fs)
def sp_key (c : Int32) (b : Bool) (S : aS) : Int32 × aS := if c = -1 then (0, sT S (setK S.1 [])) else withC S c fun k _ => if S.1.2.2.2.2.1.length < 4 then (nI (S.1.2.2.2.2.1.length + 1), sT S (setK S.1 (S.1.2.2.2.2.1 ++ [(k, b)]))) else (-4, S)
def sp_filter (c t kd : Int32) (x : Int64) (S : aS) : Int32 × aS := if c = -1 then (0, sT S (setF S.1 [])) else withC S c fun k _ => if ¬ isTst t kd x then (-2, S) else if S.1.2.2.2.2.2.length < 6 then (nI (S.1.2.2.2.2.2.length + 1), sT S (setF S.1 (S.1.2.2.2.2.2 ++ [(k, t, tCell kd x)]))) else (-4, S)
theorem c_key {d : Nat} {c : Int32} {b : Bool} {S : aS} {μ : mmMem} {K : Int32 → mmMem → Prop} (hd : 4 ≤ d) (hC : CS μ S) (h : ∀ ν, CS ν (sp_key c b S).2 → hiE μ ν → K (sp_key c b S).1 ν) : mmCI d M_X7_key false 2 [.ref 0, .int c, .int (if b = true then 1 else 0)] μ K := by
  refine u_X7_key (by omega) ?_
  unfold sp_key at h
  have fr1 : ∀ i x, (∀ q, q ≠ 1 → eq3 μ (sI μ 1 i x) q) := fun i x q hq => by simp [eq3, sI, hq]
  refine ⟨fun n => ?_, fun n => ?_⟩
  · rw [if_neg n] at h
    refine c_columnRefusal (by omega) hC (fun ν hν hh => ?_)
    refine ⟨fun q => ?_, fun q => ?_⟩
    · obtain ⟨k, col, hk, rfl, hcol, hg⟩ := cref_0 q
      rw [withC_ok hk q hcol] at h
      rw [q] at hν
      replace hν : CS ν S := hν
      obtain ⟨⟨h1, h2, h3, h4⟩, h5, ⟨h6, h7⟩, h8, h9⟩ := hν.1
      have hkl := hC.2.1.2.2.2.2.2.1
      rw [h3]
      refine ⟨fun l => ?_, fun l => ?_⟩
      · have hlt : S.1.2.2.2.2.1.length < 4 := (nI_ltI (by omega) (by decide : (4 : Nat) < 2 ^ 31)).mp l
        rw [if_pos hlt] at h
        refine u_X4_addKey (by omega) kd_1 ?_
        have e1 : ∀ x, (sI ν (1 + 3) S.1.2.2.2.2.1.length x).1 1 2 = nI S.1.2.2.2.2.1.length := fun x => by
          have : (1 : Nat) ≠ 1 + 3 := by decide
          simp [sI, h3]
        have e2 : ∀ x y, (sI (sI ν (1 + 3) S.1.2.2.2.2.1.length x) (1 + 4) S.1.2.2.2.2.1.length y).1 1 2 = nI S.1.2.2.2.2.1.length := fun x y => by
          simp [sI, h3]
        rw [h3, nI_clamp (by omega), e1, nI_clamp (by omega), e2, nI_1, nar01]
        refine ⟨vp_in_nI hlt (by decide), vp_in_nI hlt (by decide), ?_⟩
        have g : ∀ q, q ≠ 1 → q ≠ 4 → q ≠ 5 → eq3 ν (sI (sI (sI ν (1 + 3) S.1.2.2.2.2.1.length (nI k)) (1 + 4) S.1.2.2.2.2.1.length (if b = true then 1 else 0)) 1 2 (nI (S.1.2.2.2.2.1.length + 1))) q := fun q q1 q2 q3 => by simp [eq3, sI, q1, q2, q3]
        have ev : (sI (sI (sI ν (1 + 3) S.1.2.2.2.2.1.length (nI k)) (1 + 4) S.1.2.2.2.2.1.length (if b = true then 1 else 0)) 1 2 (nI (S.1.2.2.2.2.1.length + 1))).1 1 2 = nI (S.1.2.2.2.2.1.length + 1) := by simp [sI, upd]
        rw [ev]
        refine h _ (hν.tab ⟨⟨?_, ?_, ?_, ?_⟩, fun i c2 hi => ?_, ⟨h6.fr (g _ (by decide) (by decide) (by decide)) (g _ (by decide) (by decide) (by decide)), h7.fr (g _ (by decide) (by decide) (by decide)) (g _ (by decide) (by decide) (by decide))⟩, fun i q2 hi => ?_, fun i q2 hi => ?_⟩ ?_ (fun q h1 h2 => g q (by omega) (by omega) (by omega)) (by rw [(g 141 (by decide) (by decide) (by decide)).1])) (hh.trans fun q hq => g q (by omega) (by omega) (by omega))
        · simp [sI, upd, h1, setK]
        · simp [sI, upd, h2, setK]
        · rw [ev]; simp [setK]
        · simp [sI, upd, h4, setK]
        · have hi2 : S.1.2.1[i]? = some c2 := hi
          have := lt_of_get hi2
          have := hC.2.1.2.1
          exact (h5 i c2 hi2).fr (g _ (by omega) (by omega) (by omega)) (g _ (by omega) (by omega) (by omega)) (g _ (by omega) (by omega) (by omega)) (g _ (by omega) (by omega) (by omega))
        · have hi2 : (S.1.2.2.2.2.1 ++ [(k, b)])[i]? = some q2 := hi
          by_cases il : i < S.1.2.2.2.2.1.length
          · rw [List.getElem?_append_left il] at hi2
            obtain ⟨w1, w2⟩ := h8 i q2 hi2
            have ne : i ≠ S.1.2.2.2.2.1.length := by omega
            have w1' : ν.1 4 i = nI q2.1 := w1
            have w2' : ν.1 5 i = if q2.2 = true then 1 else 0 := w2
            constructor
            · simp [sI, upd, ne, w1']
            · simp [sI, upd, ne, w2']
          · have := lt_of_get hi2
            simp at this
            have : i = S.1.2.2.2.2.1.length := by omega
            subst this
            rw [List.getElem?_concat_length] at hi2
            cases hi2
            constructor
            · simp [sI, upd]
            · simp [sI, upd]
        · have hi2 : S.1.2.2.2.2.2[i]? = some q2 := hi
          obtain ⟨w1, w2, w3⟩ := h9 i q2 hi2
          have e9 := (g (1 + 58 + 2 * i) (by omega) (by omega) (by omega)).1
          exact ⟨by rw [e9]; exact w1, by rw [e9]; exact w2, w3.fr (g _ (by omega) (by omega) (by omega))⟩
        · obtain ⟨o1, o2, o3, o4, o5, o6, o7, o8, o9⟩ := hC.2.1
          refine ⟨o1, o2, o3, o4, o5, by simp [setK]; omega, fun z hz => ?_, o8, o9⟩
          rcases List.mem_append.mp hz with w | w
          · exact o7 z w
          · rw [List.mem_singleton.mp w]; exact lt_of_get hcol
      · have hlt : ¬ S.1.2.2.2.2.1.length < 4 := fun w => l ((nI_ltI (by omega) (by decide : (4 : Nat) < 2 ^ 31)).mpr w)
        rw [if_neg hlt] at h
        exact h ν hν hh
    · rw [withC_no q] at h
      exact h ν hν hh
  · rw [if_pos n] at h
    have g := fr1 2 0
    obtain ⟨⟨h1, h2, h3, h4⟩, h5, ⟨h6, h7⟩, h8, h9⟩ := hC.1
    refine h _ (hC.tab ⟨⟨?_, ?_, ?_, ?_⟩, fun i c2 hi => ?_, ⟨h6.fr (g _ (by decide)) (g _ (by decide)), h7.fr (g _ (by decide)) (g _ (by decide))⟩, fun i q2 hi => ?_, fun i q2 hi => ?_⟩ ?_ (fun q h1 h2 => g q (by omega)) (by rw [(g 141 (by decide)).1])) (fun q hq => g q (by omega))
    · simp [sI, upd, h1, setK]
    · simp [sI, upd, h2, setK]
    · simp [sI, upd, setK]; rfl
    · simp [sI, upd, h4, setK]
    · exact (h5 i c2 hi).fr (g _ (by omega)) (g _ (by omega)) (g _ (by omega)) (g _ (by omega))
    · simp [setK] at hi
    · obtain ⟨w1, w2, w3⟩ := h9 i q2 hi
      have e9 := (g (1 + 58 + 2 * i) (by omega)).1
      exact ⟨by rw [e9]; exact w1, by rw [e9]; exact w2, w3.fr (g _ (by omega))⟩
    · obtain ⟨o1, o2, o3, o4, o5, o6, o7, o8, o9⟩ := hC.2.1
      exact ⟨o1, o2, o3, o4, o5, by simp [setK], fun z hz => by simp [setK] at hz, o8, o9⟩
theorem c_filter {d : Nat} {c t kd : Int32} {x : Int64} {S : aS} {μ : mmMem} {K : Int32 → mmMem → Prop} (hd : 5 ≤ d) (hC : CS μ S) (h : ∀ ν, CS ν (sp_filter c t kd x S).2 → hiE μ ν → K (sp_filter c t kd x S).1 ν) : mmCI d M_X7_filter false 4 [.ref 0, .int c, .int t, .int kd, .long x] μ K := by
  refine u_X7_filter (by omega) ?_
  unfold sp_filter at h
  refine ⟨fun n => ?_, fun n => ?_⟩
  · rw [if_neg n] at h
    refine c_columnRefusal (by omega) hC (fun ν hν hh => ?_)
    refine ⟨fun q => ?_, fun q => ?_⟩
    · obtain ⟨k, col, hk, rfl, hcol, hg⟩ := cref_0 q
      rw [withC_ok hk q hcol] at h
      rw [q] at hν
      replace hν : CS ν S := hν
      refine c_isTest (by omega) ?_
      by_cases ht : isTst t kd x
      · rw [if_pos ht]
        rw [if_neg (fun w => w ht)] at h
        refine ⟨fun _ => ?_, fun w => absurd w (by decide)⟩
        obtain ⟨⟨h1, h2, h3, h4⟩, h5, ⟨h6, h7⟩, h8, h9⟩ := hν.1
        have hfl := hC.2.1.2.2.2.2.2.2.2.1
        rw [h4, nI_1]
        refine ⟨fun l => ?_, fun l => ?_⟩
        · have hlt : S.1.2.2.2.2.2.length < 6 := (nI_ltI (by omega) (by decide : (6 : Nat) < 2 ^ 31)).mp l
          rw [if_pos hlt] at h
          have ep : nI (S.1.2.2.2.2.2.length + 1) - 1 = nI S.1.2.2.2.2.2.length := nI_pred _
          rw [ep, nI_clamp (by omega)]
          refine ⟨vp_in_nI hlt (by decide), ?_⟩
          refine c_fset (by omega) (kfil _ hlt).1 ht (fun ν3 f3 g3 => ?_)
          have g0 : ∀ q, q ≠ 1 → eq3 ν (sI ν 1 3 (nI (S.1.2.2.2.2.2.length + 1))) q := fun q hq => by simp [eq3, sI, hq]
          have g : ∀ q, q ≠ 1 → q ≠ 59 + 2 * S.1.2.2.2.2.2.length → q ≠ 60 + 2 * S.1.2.2.2.2.2.length → eq3 ν ν3 q := fun q q1 q2 q3 => (g0 q q1).trans (g3 q q2 (by omega))
          have e1 : ν3.1 1 = (sI ν 1 3 (nI (S.1.2.2.2.2.2.length + 1))).1 1 := (g3 1 (by omega) (by omega)).1
          have ev : ν3.1 1 3 = nI (S.1.2.2.2.2.2.length + 1) := by rw [e1]; simp [sI, upd]
          rw [ev]
          refine h _ (hν.tab ⟨⟨?_, ?_, ?_, ?_⟩, fun i c2 hi => ?_, ⟨h6.fr (g _ (by omega) (by omega) (by omega)) (g _ (by omega) (by omega) (by omega)), h7.fr (g _ (by omega) (by omega) (by omega)) (g _ (by omega) (by omega) (by omega))⟩, fun i q2 hi => ?_, fun i q2 hi => ?_⟩ ?_ (fun q h1 h2 => g q (by omega) (by omega) (by omega)) (by rw [(g 141 (by omega) (by omega) (by omega)).1])) (hh.trans fun q hq => g q (by omega) (by omega) (by omega))
          · rw [e1]; simp [sI, upd, h1, setF]
          · rw [e1]; simp [sI, upd, h2, setF]
          · rw [e1]; simp [sI, upd, h3, setF]
          · rw [ev]; simp [setF]
          · have hi2 : S.1.2.1[i]? = some c2 := hi
            have := lt_of_get hi2
            have := hC.2.1.2.1
            exact (h5 i c2 hi2).fr (g _ (by omega) (by omega) (by omega)) (g _ (by omega) (by omega) (by omega)) (g _ (by omega) (by omega) (by omega)) (g _ (by omega) (by omega) (by omega))
          · rw [(g (1 + 3) (by omega) (by omega) (by omega)).1, (g (1 + 4) (by omega) (by omega) (by omega)).1]
            exact h8 i q2 hi
          · have hi2 : (S.1.2.2.2.2.2 ++ [(k, t, tCell kd x)])[i]? = some q2 := hi
            by_cases il : i < S.1.2.2.2.2.2.length
            · rw [List.getElem?_append_left il] at hi2
              obtain ⟨w1, w2, w3⟩ := h9 i q2 hi2
              have e9 := (g (1 + 58 + 2 * i) (by omega) (by omega) (by omega)).1
              exact ⟨by rw [e9]; exact w1, by rw [e9]; exact w2, w3.fr (g _ (by omega) (by omega) (by omega))⟩
            · have := lt_of_get hi2
              simp at this
              have : i = S.1.2.2.2.2.2.length := by omega
              subst this
              rw [List.getElem?_concat_length] at hi2
              cases hi2
              have e59 : 1 + 58 + 2 * S.1.2.2.2.2.2.length = 59 + 2 * S.1.2.2.2.2.2.length := by omega
              have e60 : 1 + 59 + 2 * S.1.2.2.2.2.2.length = 59 + 2 * S.1.2.2.2.2.2.length + 1 := by omega
              rw [e59, e60]
              exact f3
          · obtain ⟨o1, o2, o3, o4, o5, o6, o7, o8, o9⟩ := hC.2.1
            refine ⟨o1, o2, o3, o4, o5, o6, o7, by simp [setF]; omega, fun z hz => ?_⟩
            rcases List.mem_append.mp hz with w | w
            · exact o9 z w
            · rw [List.mem_singleton.mp w]; exact ⟨lt_of_get hcol, (tCell_ok ht).2, (tCell_ok ht).1⟩
        · have hlt : ¬ S.1.2.2.2.2.2.length < 6 := fun w => l ((nI_ltI (by omega) (by decide : (6 : Nat) < 2 ^ 31)).mpr w)
          rw [if_neg hlt] at h
          exact h ν hν hh
      · rw [if_neg ht]
        rw [if_pos ht] at h
        exact ⟨fun w => absurd rfl w, fun _ => h ν hν hh⟩
    · rw [withC_no q] at h
      exact h ν hν hh
  · rw [if_pos n] at h
    have g : ∀ q, q ≠ 1 → eq3 μ (sI μ 1 3 0) q := fun q hq => by simp [eq3, sI, hq]
    obtain ⟨⟨h1, h2, h3, h4⟩, h5, ⟨h6, h7⟩, h8, h9⟩ := hC.1
    refine h _ (hC.tab ⟨⟨?_, ?_, ?_, ?_⟩, fun i c2 hi => ?_, ⟨h6.fr (g _ (by decide)) (g _ (by decide)), h7.fr (g _ (by decide)) (g _ (by decide))⟩, fun i q2 hi => ?_, fun i q2 hi => ?_⟩ ?_ (fun q h1 h2 => g q (by omega)) (by rw [(g 141 (by decide)).1])) (fun q hq => g q (by omega))
    · simp [sI, upd, h1, setF]
    · simp [sI, upd, h2, setF]
    · simp [sI, upd, h3, setF]
    · simp [sI, upd, setF]; rfl
    · exact (h5 i c2 hi).fr (g _ (by omega)) (g _ (by omega)) (g _ (by omega)) (g _ (by omega))
    · rw [(g (1 + 3) (by decide)).1, (g (1 + 4) (by decide)).1]
      exact h8 i q2 hi
    · simp [setF] at hi
    · obtain ⟨o1, o2, o3, o4, o5, o6, o7, o8, o9⟩ := hC.2.1
      exact ⟨o1, o2, o3, o4, o5, o6, o7, by simp [setF], fun z hz => by simp [setF] at hz⟩
