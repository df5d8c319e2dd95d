/-! ===== columns and views of the class ===== -/
abbrev aCol : Type := Int32 × Bool × (Nat → aC)
abbrev aFil : Type := Nat × Int32 × aC
def eq3 (μ ν : mmMem) (q : Nat) : Prop := ν.1 q = μ.1 q ∧ ν.2.1 q = μ.2.1 q ∧ ν.2.2 q = μ.2.2 q
theorem eq3.rfl' {μ : mmMem} {q : Nat} : eq3 μ μ q := ⟨rfl, rfl, rfl⟩
theorem eq3.trans {μ ν ξ : mmMem} {q : Nat} (h : eq3 μ ν q) (h2 : eq3 ν ξ q) : eq3 μ ξ q := ⟨h2.1.trans h.1, h2.2.1.trans h.2.1, h2.2.2.trans h.2.2⟩
/-- the cells of the column at a are written where g tells so; else all is as it was -/
def colUpd (μ ν : mmMem) (a : Nat) (g : Nat → Option aC) : Prop :=
  (∀ q, q ≠ a + 1 → q ≠ a + 2 → q ≠ a + 3 → eq3 μ ν q) ∧ (ν.2.1 (a + 1) = μ.2.1 (a + 1) ∧ ν.2.2 (a + 1) = μ.2.2 (a + 1) ∧ ν.1 (a + 2) = μ.1 (a + 2) ∧ ν.2.2 (a + 2) = μ.2.2 (a + 2) ∧ ν.1 (a + 3) = μ.1 (a + 3) ∧ ν.2.1 (a + 3) = μ.2.1 (a + 3)) ∧
  ∀ r, ν.1 (a + 1) r = (match g r with | some x => enK x | none => μ.1 (a + 1) r) ∧ ν.2.1 (a + 2) r = (match g r with | some x => enN x | none => μ.2.1 (a + 2) r) ∧ ν.2.2 (a + 3) r = (match g r with | some x => enR x | none => μ.2.2 (a + 3) r)
theorem colUpd.same (μ : mmMem) (a : Nat) (g : Nat → Option aC) (h : ∀ r, g r = none) : colUpd μ μ a g := by
  refine ⟨fun q _ _ _ => eq3.rfl', ⟨rfl, rfl, rfl, rfl, rfl, rfl⟩, fun r => ?_⟩
  rw [h r]
  exact ⟨rfl, rfl, rfl⟩
theorem colUpd.trans {μ ν ξ : mmMem} {a : Nat} {g1 g2 g : Nat → Option aC} (h1 : colUpd μ ν a g1) (h2 : colUpd ν ξ a g2) (hg : ∀ r, g r = match g2 r with | some x => some x | none => g1 r) : colUpd μ ξ a g := by
  obtain ⟨a1, ⟨b1, b2, b3, b4, b5, b6⟩, c1⟩ := h1
  obtain ⟨a2, ⟨d1, d2, d3, d4, d5, d6⟩, c2⟩ := h2
  refine ⟨fun q x y z => (a1 q x y z).trans (a2 q x y z), ⟨d1.trans b1, d2.trans b2, d3.trans b3, d4.trans b4, d5.trans b5, d6.trans b6⟩, fun r => ?_⟩
  obtain ⟨e1, e2, e3⟩ := c1 r
  obtain ⟨f1, f2, f3⟩ := c2 r
  rw [hg r]
  cases hh : g2 r with
  | some x => rw [hh] at f1 f2 f3; exact ⟨f1, f2, f3⟩
  | none => rw [hh] at f1 f2 f3; exact ⟨f1.trans e1, f2.trans e2, f3.trans e3⟩
theorem colUpd.one (μ : mmMem) (a r : Nat) (x : aC) : colUpd μ (sD (sJ (sI μ (a + 1) r (enK x)) (a + 2) r (enN x)) (a + 3) r (enR x)) a (fun i => if i = r then some x else none) := by
  refine ⟨fun q h1 h2 h3 => ?_, ?_, fun i => ?_⟩
  · simp [eq3, sI, sJ, sD, h1, h2, h3]
  · simp [sI, sJ, sD]
  · by_cases h : i = r <;> simp [sI, sJ, sD, upd, vp_updL, vf_upd, h]
/-- the column at a holds a column, as far as n rows -/
def colC (μ : mmMem) (a n : Nat) (c : aCol) : Prop := μ.1 a 0 = c.1 ∧ μ.1 a 1 = (if c.2.1 = true then 1 else 0) ∧ ∀ r, r < n → μ.1 (a + 1) r = enK (c.2.2 r) ∧ μ.2.1 (a + 2) r = enN (c.2.2 r) ∧ μ.2.2 (a + 3) r = enR (c.2.2 r)
def newC (k : Int32) : aC := if k ≤ 7 then (k, 0) else (-1, 0)
/-- a view: rows in some order -/
def vwC (μ : mmMem) (a : Nat) (l : List Nat) : Prop := μ.1 a 0 = nI l.length ∧ ∀ i r, l[i]? = some r → μ.1 (a + 1) i = nI r
theorem c_load {d a p r n : Nat} {c : aCol} {μ : mmMem} {K : mmMem → Prop} (hd : 1 ≤ d) (ha : mmKD a = 1) (hp : mmKD p = 0) (hc : colC μ a n c) (hr : r < n) (hn : n ≤ 40) (h : K (setC μ p (c.2.2 r))) : mmC0 d M_X1_load false 2 [.ref a, .int (nI r), .ref p] μ K := by
  refine u_X1_load hd ha hp ?_
  refine ⟨fun q => absurd q (nI_pos (by omega)), fun _ => ⟨fun q => absurd q (nI_ge (b := 40) (by omega) (by decide)), fun _ => ?_⟩⟩
  rw [nI_clamp (by omega)]
  obtain ⟨e1, e2, e3⟩ := hc.2.2 r hr
  rw [e1, e2, e3]
  exact h
theorem c_store {d a p r : Nat} {x : aC} {μ : mmMem} {K : mmMem → Prop} (hd : 1 ≤ d) (ha : mmKD a = 1) (hp : mmKD p = 0) (hx : clC μ p x) (hr : r < 40) (h : ∀ ν, colUpd μ ν a (fun i => if i = r then some x else none) → K ν) : mmC0 d M_X1_store false 2 [.ref a, .int (nI r), .ref p] μ K := by
  refine u_X1_store hd ha hp ?_
  refine ⟨fun q => absurd q (nI_pos (by omega)), fun _ => ⟨fun q => absurd q (nI_ge (b := 40) (by omega) (by decide)), fun _ => ?_⟩⟩
  rw [nI_clamp (by omega), hx.1, hx.2.1, hx.2.2]
  exact h _ (colUpd.one μ a r x)
theorem newC_en {k : Int32} (h : 0 ≤ k.toInt ∧ k.toInt ≤ 10) : (¬ 7 < k → enK (newC k) = k) ∧ (7 < k → enK (newC k) = -1) ∧ enN (newC k) = 0 ∧ enR (newC k) = 0 := by
  have e : ∀ j : Int32, k.toInt = j.toInt → k = j := fun j q => Int32.toInt_inj.mp q
  have : k.toInt = 0 ∨ k.toInt = 1 ∨ k.toInt = 2 ∨ k.toInt = 3 ∨ k.toInt = 4 ∨ k.toInt = 5 ∨ k.toInt = 6 ∨ k.toInt = 7 ∨ k.toInt = 8 ∨ k.toInt = 9 ∨ k.toInt = 10 := by omega
  have : k = 0 ∨ k = 1 ∨ k = 2 ∨ k = 3 ∨ k = 4 ∨ k = 5 ∨ k = 6 ∨ k = 7 ∨ k = 8 ∨ k = 9 ∨ k = 10 := by
    rcases this with q | q | q | q | q | q | q | q | q | q | q
    · simp [e 0 q]
    · simp [e 1 q]
    · simp [e 2 q]
    · simp [e 3 q]
    · simp [e 4 q]
    · simp [e 5 q]
    · simp [e 6 q]
    · simp [e 7 q]
    · simp [e 8 q]
    · simp [e 9 q]
    · simp [e 10 q]
  rcases this with rfl | rfl | rfl | rfl | rfl | rfl | rfl | rfl | rfl | rfl | rfl <;> decide +kernel
theorem c_renewE {d a n : Nat} {kd : Int32} {P : Option Value → mmMem → Prop} (ha : mmKD a = 1) (hk : 0 ≤ kd.toInt ∧ kd.toInt ≤ 10) (hn : n ≤ 40) (x1 : Int32) : ∀ (j r : Nat) (μ : mmMem), n - r = j → r ≤ 40 → μ.1 a 0 = kd → (∀ ν, colUpd μ ν a (fun i => if r ≤ i ∧ i < n then some (newC kd) else none) → P none ν) → mmEnds d M_X1_renew 2 [.ref a, .int x1, .int (nI n), .int (nI r)] [] μ P := by
  intro j
  induction j with
  | zero =>
    intro r μ hj hr h0 h
    refine s_X1_renew_2 (by omega) ha ?_
    refine ⟨fun q => absurd q (nI_pos (by omega)), fun _ => ⟨fun _ => h μ (colUpd.same _ _ _ fun i => if_neg (by omega)), fun q => absurd (nI_le (by omega) (by omega)) q⟩⟩
  | succ j ih =>
    intro r μ hj hr h0 h
    refine s_X1_renew_2 (by omega) ha ?_
    refine ⟨fun q => absurd q (nI_pos (by omega)), fun _ => ⟨fun q => absurd q (nI_ge (by omega) (by omega)), fun _ => ⟨fun q => absurd q (nI_ge (b := 40) (by omega) (by decide)), fun _ => ?_⟩⟩⟩
    obtain ⟨e1, e2, e3, e4⟩ := newC_en hk
    rw [nI_clamp (by omega), nI_1, h0]
    have z : FP.dconst0 = 0 := rfl
    have step : ∀ k, enK (newC kd) = k → mmEnds d M_X1_renew 2 [.ref a, .int x1, .int (nI n), .int (nI (r + 1))] [] (sD (sJ (sI μ (a + 1) r k) (a + 2) r 0) (a + 3) r FP.dconst0) P := by
      intro k hk2
      rw [z, ← hk2, ← e3, ← e4]
      refine ih (r + 1) _ (by omega) (by omega) ?_ (fun ν hν => h ν ?_)
      · have := ((colUpd.one μ a r (newC kd)).1 a (by omega) (by omega) (by omega)).1
        rw [this]; exact h0
      · refine (colUpd.one μ a r (newC kd)).trans hν (fun i => ?_)
        by_cases c1 : r + 1 ≤ i ∧ i < n
        · rw [if_pos c1, if_pos (by omega)]
        · rw [if_neg c1]
          by_cases c2 : i = r
          · rw [if_pos (by omega), if_pos c2]
          · rw [if_neg (by omega), if_neg c2]
    exact ⟨fun q => step _ (e2 q), fun q => step _ (e1 q)⟩
theorem c_renew {d a m n : Nat} {kd : Int32} {μ : mmMem} {K : mmMem → Prop} (hd : 1 ≤ d) (ha : mmKD a = 1) (hk : 0 ≤ kd.toInt ∧ kd.toInt ≤ 10) (hm : m ≤ 40) (hn : n ≤ 40) (h0 : μ.1 a 0 = kd) (h : ∀ ν, colUpd μ ν a (fun i => if m ≤ i ∧ i < n then some (newC kd) else none) → K ν) : mmC0 d M_X1_renew false 2 [.ref a, .int (nI m), .int (nI n)] μ K := by
  refine u_X1_renew hd ha ?_
  exact c_renewE ha hk hn _ _ m μ rfl hm h0 (fun ν hν => h ν hν)
/-- a view's rows are written where g tells so, and its length -/
def vwUpd (μ ν : mmMem) (a : Nat) : Prop := (∀ q, q ≠ a → q ≠ a + 1 → eq3 μ ν q) ∧ ν.2.1 a = μ.2.1 a ∧ ν.2.2 a = μ.2.2 a ∧ ν.2.1 (a + 1) = μ.2.1 (a + 1) ∧ ν.2.2 (a + 1) = μ.2.2 (a + 1) ∧ ∀ i, i ≠ 0 → ν.1 a i = μ.1 a i
theorem vwUpd.refl (μ : mmMem) (a : Nat) : vwUpd μ μ a := ⟨fun _ _ _ => eq3.rfl', rfl, rfl, rfl, rfl, fun _ _ => rfl⟩
theorem vwUpd.trans {μ ν ξ : mmMem} {a : Nat} (h : vwUpd μ ν a) (h2 : vwUpd ν ξ a) : vwUpd μ ξ a := by
  obtain ⟨a1, a2, a3, a4, a5, a6⟩ := h
  obtain ⟨b1, b2, b3, b4, b5, b6⟩ := h2
  exact ⟨fun q x y => (a1 q x y).trans (b1 q x y), b2.trans a2, b3.trans a3, b4.trans a4, b5.trans a5, fun i hi => (b6 i hi).trans (a6 i hi)⟩
theorem vwUpd.put (μ : mmMem) (a i : Nat) (x : Int32) : vwUpd μ (sI μ (a + 1) i x) a := by
  refine ⟨fun q h1 h2 => ?_, ?_, ?_, ?_, ?_, fun i hi => ?_⟩ <;> simp [eq3, sI]
  intro e; exact absurd e h2
theorem vwUpd.len (μ : mmMem) (a : Nat) (x : Int32) : vwUpd μ (sI μ a 0 x) a := by
  refine ⟨fun q h1 h2 => ?_, ?_, ?_, ?_, ?_, fun i hi => ?_⟩
  · simp [eq3, sI, h1]
  · simp [sI]
  · simp [sI]
  · simp [sI]
  · simp [sI]
  · simp [sI, upd, hi]
theorem vwC.push {μ : mmMem} {a r : Nat} {l : List Nat} (h : vwC μ a l) : vwC (sI (sI μ (a + 1) l.length (nI r)) a 0 (nI (l.length + 1))) a (l ++ [r]) := by
  refine ⟨by simp [sI, upd], fun i q hq => ?_⟩
  have hne : a + 1 ≠ a := by omega
  by_cases hi : i = l.length
  · subst hi
    rw [List.getElem?_concat_length] at hq
    cases hq
    simp [sI, upd]
  · have hlt : i < l.length := by
      have := (List.getElem?_eq_some_iff.mp hq).1
      simp at this
      omega
    rw [List.getElem?_append_left hlt] at hq
    have := h.2 i q hq
    simp [sI, upd, hi, this]
theorem c_appendE {d a n : Nat} {P : Option Value → mmMem → Prop} (ha : mmKD a = 6) (hn : n ≤ 40) (x1 : Int32) : ∀ (j r : Nat) (μ : mmMem) (l : List Nat), n - r = j → r ≤ 40 → l.length + (n - r) ≤ 40 → vwC μ a l → (∀ ν, vwUpd μ ν a → vwC ν a (l ++ List.range' r (n - r)) → P none ν) → mmEnds d M_X6_append 2 [.ref a, .int x1, .int (nI n), .int (nI r)] [] μ P := by
  intro j
  induction j with
  | zero =>
    intro r μ l hj hr hl hv h
    refine s_X6_append_2 (by omega) ha ?_
    refine ⟨fun _ => h μ (vwUpd.refl _ _) (by rw [hj]; simpa using hv), fun q => absurd (nI_le (by omega) (by omega)) q⟩
  | succ j ih =>
    intro r μ l hj hr hl hv h
    refine s_X6_append_2 (by omega) ha ?_
    rw [hv.1, nI_clamp (by omega)]
    refine ⟨fun q => absurd q (nI_ge (by omega) (by omega)), fun _ => ⟨fun q => absurd q (nI_ge (b := 40) (by omega) (by decide)), fun _ => ⟨vp_in_nI (by omega) (by decide), ?_⟩⟩⟩
    have e1 : (sI μ (a + 1) l.length (nI r)).1 a 0 = nI l.length := by
      have : (sI μ (a + 1) l.length (nI r)).1 a = μ.1 a := by simp [sI]
      rw [this]; exact hv.1
    rw [e1, nI_1, nI_1]
    refine ih (r + 1) _ (l ++ [r]) (by omega) (by omega) (by simp; omega) hv.push (fun ν h1 h2 => h ν (((vwUpd.put μ a _ _).trans (vwUpd.len _ a _)).trans h1) ?_)
    have : List.range' r (n - r) = r :: List.range' (r + 1) (n - (r + 1)) := by
      rw [hj, List.range'_succ, show n - (r + 1) = j by omega]
    rw [this]
    simpa using h2
theorem c_append {d a m n : Nat} {l : List Nat} {μ : mmMem} {K : mmMem → Prop} (hd : 1 ≤ d) (ha : mmKD a = 6) (hn : n ≤ 40) (hm : m ≤ 40) (hl : l.length + (n - m) ≤ 40) (hv : vwC μ a l) (h : ∀ ν, vwUpd μ ν a → vwC ν a (l ++ List.range' m (n - m)) → K ν) : mmC0 d M_X6_append false 2 [.ref a, .int (nI m), .int (nI n)] μ K := by
  refine u_X6_append hd ha ?_
  exact c_appendE ha hn _ _ m μ l rfl hm hl hv (fun ν h1 h2 => h ν h1 h2)
theorem c_showAll {d a n : Nat} {l : List Nat} {μ : mmMem} {K : mmMem → Prop} (hd : 2 ≤ d) (ha : mmKD a = 6) (hn : n ≤ 40) (hv : vwC μ a l) (h : ∀ ν, vwUpd μ ν a → vwC ν a (List.range' 0 n) → K ν) : mmC0 d M_X6_showAll false 1 [.ref a, .int (nI n)] μ K := by
  refine u_X6_showAll (by omega) ha ?_
  refine c_append (l := []) (m := 0) (by omega) ha hn (by omega) (by simpa using hn) ⟨by simp [sI, upd]; rfl, fun i r hr => by simp at hr⟩ (fun ν h1 h2 => h ν ((vwUpd.len μ a 0).trans h1) (by simpa using h2))
/-- the rows that stay close up in front -/
def vwF (μ : mmMem) (a : Nat) (l : List Nat) (i s : Nat) (k : List Nat) : Prop := μ.1 a 0 = nI l.length ∧ s = k.length ∧ s ≤ i ∧ (∀ j r, k[j]? = some r → μ.1 (a + 1) j = nI r) ∧ ∀ j r, i ≤ j → l[j]? = some r → μ.1 (a + 1) j = nI r
theorem vwF.keep {μ : mmMem} {a i s r : Nat} {l k : List Nat} (h : vwF μ a l i s k) (hr : l[i]? = some r) : vwF (sI μ (a + 1) s (nI r)) a l (i + 1) (s + 1) (k ++ [r]) := by
  obtain ⟨h1, h2, h3, h4, h5⟩ := h
  refine ⟨by simp [sI, h1], by simp [h2], by omega, fun j q hq => ?_, fun j q hj hq => ?_⟩
  · by_cases hi : j = k.length
    · subst hi
      rw [List.getElem?_concat_length] at hq
      cases hq
      simp [sI, upd, h2]
    · have hlt : j < k.length := by
        have := (List.getElem?_eq_some_iff.mp hq).1
        simp at this
        omega
      rw [List.getElem?_append_left hlt] at hq
      have := h4 j q hq
      have hn : j ≠ s := by omega
      simp [sI, upd, hn, this]
  · have hn : j ≠ s := by omega
    simp [sI, upd, hn, h5 j q (by omega) hq]
theorem vwF.skip {μ : mmMem} {a i s : Nat} {l k : List Nat} (h : vwF μ a l i s k) : vwF μ a l (i + 1) s k := ⟨h.1, h.2.1, by have := h.2.2.1; omega, h.2.2.2.1, fun j r hj => h.2.2.2.2 j r (by omega)⟩
theorem vwF.done {μ : mmMem} {a s i : Nat} {l k : List Nat} (h : vwF μ a l i s k) : vwC (sI μ a 0 (nI s)) a k := by
  obtain ⟨h1, h2, h3, h4, h5⟩ := h
  refine ⟨by simp [sI, upd, h2], fun j r hr => ?_⟩
  simp [sI, h4 j r hr]
theorem c_vresizeE {d a m n : Nat} {l : List Nat} {P : Option Value → mmMem → Prop} (hd : 2 ≤ d) (ha : mmKD a = 6) (hm : m ≤ 40) (hn : n ≤ 40) (hl : ∀ r ∈ l, r < 2 ^ 31) (hll : l.length ≤ 40) (hlen : (l.filter (fun r => decide (r < n))).length + (n - m) ≤ 40) : ∀ (j i s : Nat) (μ : mmMem) (k : List Nat), l.length - i = j → i ≤ l.length → vwF μ a l i s k → k = (l.take i).filter (fun r => decide (r < n)) → (∀ ν, vwUpd μ ν a → vwC ν a (l.filter (fun r => decide (r < n)) ++ List.range' m (n - m)) → P none ν) → mmEnds d M_X6_resize 5 [.ref a, .int (nI m), .int (nI n), .int (nI s), .int (nI i)] [] μ P := by
  intro j
  induction j with
  | zero =>
    intro i s μ k hj hi hv hk h
    refine s_X6_resize_5 (by omega) ha ?_
    rw [hv.1]
    refine ⟨fun _ => ?_, fun q => absurd (nI_le (by omega) (by omega)) q⟩
    have e : i = l.length := by omega
    rw [e, List.take_length] at hk
    refine c_append (by omega) ha hn hm (l := k) (by rw [hk]; exact hlen) hv.done (fun ν h1 h2 => ?_)
    exact h ν ((vwUpd.len μ a _).trans h1) (by rw [← hk]; exact h2)
  | succ j ih =>
    intro i s μ k hj hi hv hk h
    refine s_X6_resize_5 (by omega) ha ?_
    have hil : i < l.length := by omega
    obtain ⟨r, hr⟩ : ∃ r, l[i]? = some r := ⟨l[i], List.getElem?_eq_getElem hil⟩
    have hrl : r < 2 ^ 31 := hl r (List.mem_of_getElem? hr)
    have ht : l.take (i + 1) = l.take i ++ [r] := by
      rw [List.take_succ, hr]; rfl
    rw [hv.1, nI_clamp (by omega), hv.2.2.2.2 i r (Nat.le_refl _) hr, nI_1, nI_1]
    have hsi := hv.2.2.1
    refine ⟨fun q => absurd q (nI_ge (by omega) (by omega)), fun _ => ⟨vp_in_nI (by omega) (by decide), fun q => ?_, fun q => ⟨vp_in_nI (by omega) (by decide), ?_⟩⟩⟩
    · rw [nI_leI (by omega) hrl] at q
      refine ih (i + 1) s μ k (by omega) (by omega) hv.skip ?_ h
      rw [ht, List.filter_append, ← hk, List.filter_cons_of_neg (by simp; omega)]
      simp
    · rw [nI_leI (by omega) hrl] at q
      rw [nI_clamp (by omega)]
      refine ih (i + 1) (s + 1) _ (k ++ [r]) (by omega) (by omega) (hv.keep hr) ?_ (fun ν h1 h2 => h ν ((vwUpd.put μ a _ _).trans h1) h2)
      rw [ht, List.filter_append, ← hk, List.filter_cons_of_pos (by simp; omega)]
      simp
theorem vwF.start {μ : mmMem} {a : Nat} {l : List Nat} (h : vwC μ a l) : vwF μ a l 0 0 [] := ⟨h.1, rfl, Nat.le_refl _, fun j r hr => by simp at hr, fun j r _ => h.2 j r⟩
theorem c_vresize {d a m n : Nat} {l : List Nat} {μ : mmMem} {K : mmMem → Prop} (hd : 3 ≤ d) (ha : mmKD a = 6) (hm : m ≤ 40) (hn : n ≤ 40) (hl : ∀ r ∈ l, r < 2 ^ 31) (hll : l.length ≤ 40) (hlen : (l.filter (fun r => decide (r < n))).length + (n - m) ≤ 40) (hv : vwC μ a l) (h : ∀ ν, vwUpd μ ν a → vwC ν a (l.filter (fun r => decide (r < n)) ++ List.range' m (n - m)) → K ν) : mmC0 d M_X6_resize false 2 [.ref a, .int (nI m), .int (nI n)] μ K := by
  refine u_X6_resize (by omega) ha ?_
  exact c_vresizeE (by omega) ha hm hn hl hll hlen _ 0 0 μ [] rfl (Nat.zero_le _) (vwF.start hv) (by simp) (fun ν h1 h2 => h ν h1 h2)
