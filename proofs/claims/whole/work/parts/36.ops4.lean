/-! ===== the class: differs, of ===== -/
def difAt (r q : Nat) : List aCol → Nat → Int32
  | [], _ => -5
  | c :: t, i => if c.2.1 = false ∧ ¬ c.2.2 r = c.2.2 q then nI i else difAt r q t (i + 1)
def sp_differs (r q : Int32) (S : aS) : Int32 × aS := if noRow S.1 r ∨ noRow S.1 q then (-21, rfs S (-21)) else (difAt r.toNatClampNeg q.toNatClampNeg S.1.2.1 0, S)
theorem drop_get {α : Type} {l : List α} {i : Nat} {x : α} (h : l[i]? = some x) : l.drop i = x :: l.drop (i + 1) := by
  have hl := lt_of_get h
  rw [List.drop_eq_getElem_cons hl]
  congr 1
  exact (List.getElem?_eq_some_iff.mp h).2
theorem c_differsE {d r q : Nat} {S : aS} {P : Option Value → mmMem → Prop} (hd : 2 ≤ d) (hr : r < S.1.1) (hq : q < S.1.1) (ans : Int32) : ∀ (j c : Nat) (μ : mmMem), S.1.2.1.length - c = j → c ≤ S.1.2.1.length → CS μ S → ans = difAt r q (S.1.2.1.drop c) c → (∀ ν, scr μ ν → P (some (.int ans)) ν) → mmEnds d M_X7_differs 25 [.ref 0, .int (nI r), .int (nI q), .int (nI c)] [] μ P := by
  intro j
  induction j with
  | zero =>
    intro c μ hj hc hC ha h
    have hl := hC.2.1.2.1
    refine s_X7_differs_25 (by omega) ?_
    rw [hC.1.1.2.1]
    rw [List.drop_of_length_le (by omega)] at ha
    subst ha
    exact ⟨fun _ => h μ (scr.refl μ), fun w => absurd (nI_le (by omega) (by omega)) w⟩
  | succ j ih =>
    intro c μ hj hc hC ha h
    have hl := hC.2.1.2.1
    have hr40 := hC.2.1.1
    refine s_X7_differs_25 (by omega) ?_
    obtain ⟨col, hcol⟩ : ∃ col, S.1.2.1[c]? = some col := ⟨_, List.getElem?_eq_getElem (by omega)⟩
    have hcc := hC.colC hcol
    rw [drop_get hcol] at ha
    unfold difAt at ha
    rw [hC.1.1.2.1, nI_clamp (by omega), hcc.2.1, nI_1]
    refine ⟨fun w => absurd w (nI_ge (by omega) (by omega)), fun _ => ⟨vp_in_nI (by omega) (by decide), fun w => ?_, fun w => ?_⟩⟩
    · have hg : col.2.1 = true := by
        cases hh : col.2.1 with
        | true => rfl
        | false => rw [hh] at w; exact absurd rfl w
      rw [if_neg (fun e => by rw [hg] at e; exact absurd e.1 (by decide))] at ha
      exact ih (c + 1) μ (by omega) (by omega) hC ha h
    · have hg : col.2.1 = false := by
        cases hh : col.2.1 with
        | true => rw [hh] at w; exact absurd w (by decide)
        | false => rfl
      refine c_sameRows (by omega) (kcol c (by omega)).1 (by omega) hcc (hC.okCol hcol) hr40 hr hq (fun ν s1 _ => ?_)
      by_cases e : col.2.2 r = col.2.2 q
      · rw [if_pos e]
        rw [if_neg (fun w => w.2 e)] at ha
        exact ⟨fun _ => ih (c + 1) ν (by omega) (by omega) (hC.scr s1) ha (fun ν2 s2 => h ν2 (s1.trans s2)), fun w => absurd w (by decide)⟩
      · rw [if_neg e]
        rw [if_pos ⟨hg, e⟩] at ha
        subst ha
        exact ⟨fun w => absurd rfl w, fun _ => h ν s1⟩
theorem c_differs {d : Nat} {r q : Int32} {S : aS} {μ : mmMem} {K : Int32 → mmMem → Prop} (hd : 4 ≤ d) (hC : CS μ S) (h : ∀ ν, CS ν (sp_differs r q S).2 → hiE μ ν → K (sp_differs r q S).1 ν) : mmCI d M_X7_differs false 2 [.ref 0, .int r, .int q] μ K := by
  refine u_X7_differs (by omega) ?_
  rw [hC.1.1.1]
  have hrow := hC.2.1.1
  have bad : (noRow S.1 r ∨ noRow S.1 q) → mmCI (d - 1) M_X7_refused false 1 [.ref 0, .int (-21)] μ K := fun w => by
    unfold sp_differs at h
    rw [if_pos w] at h
    exact c_refused (by omega) hC (fun ν2 h2 g2 => h ν2 h2 g2)
  refine rows2 bad fun n1 n2 => ?_
  have e : sp_differs r q S = _ := if_neg (by rintro (w | w); exact n1 w; exact n2 w)
  rw [e] at h
  obtain ⟨i, hi, rfl⟩ := row_of hC.2.1 n1
  obtain ⟨j, hj, rfl⟩ := row_of hC.2.1 n2
  rw [nI_clamp (by omega), nI_clamp (by omega)] at h
  exact c_differsE (S := S) (by omega) hi hj _ _ 0 μ rfl (Nat.zero_le _) hC rfl (fun ν s => h ν (hC.scr s) s.hi)
/-- how many below n -/
def cnt (p : Nat → Bool) (n : Nat) : Nat := ((List.range n).filter p).length
theorem cnt_0 (p : Nat → Bool) : cnt p 0 = 0 := rfl
theorem cnt_s (p : Nat → Bool) (n : Nat) : cnt p (n + 1) = cnt p n + (if p n = true then 1 else 0) := by
  unfold cnt
  rw [List.range_succ, List.filter_append, List.length_append]
  congr 1
  cases h : p n <;> simp [h]
theorem cnt_le (p : Nat → Bool) (n : Nat) : cnt p n ≤ n := by
  unfold cnt
  exact Nat.le_trans (List.length_filter_le _ _) (by simp)
def pEmp (c : aCol) (r : Nat) : Bool := (c.2.2 r).1 == -1
def pUnl (c : aCol) (r : Nat) : Bool := (List.range r).all fun q => !(c.2.2 r == c.2.2 q)
def pNot (c : aCol) (r : Nat) : Bool := decide (0 < r) && !(decide (aRank (c.2.2 r) (c.2.2 (r - 1)) < 0))
def sp_of (c w : Int32) (S : aS) : Int32 × aS := withC S c fun _ col => if w = 0 then (nI (cnt (pEmp col) S.1.1), S) else if w = 1 then (nI (cnt (pUnl col) S.1.1), S) else if w = 2 then (nI (cnt (pNot col) S.1.1), S) else (-2, S)
theorem c_emptyE {d a k : Nat} {S : aS} {col : aCol} {P : Option Value → mmMem → Prop} (hd : 1 ≤ d) (ea : a = 7 + 4 * k) (hk : S.1.2.1[k]? = some col) : ∀ (j r : Nat) (μ : mmMem), S.1.1 - r = j → r ≤ S.1.1 → CS μ S → (∀ ν, scr μ ν → P (some (.int (nI (cnt (pEmp col) S.1.1)))) ν) → mmEnds d M_X7_emptyCells 4 [.ref 0, .ref a, .int (nI (cnt (pEmp col) r)), .int (nI r)] [] μ P := by
  intro j
  induction j with
  | zero =>
    intro r μ hj hr hC h
    have hl := hC.2.1.2.1
    have hlt := lt_of_get hk
    have h40 := hC.2.1.1
    refine s_X7_emptyCells_4 (by omega) (by rw [ea]; exact (kcol k (by omega)).1) ?_
    rw [hC.1.1.1]
    have er : r = S.1.1 := by omega
    rw [er]
    exact ⟨fun _ => h μ (scr.refl μ), fun w => absurd (nI_le (Nat.le_refl _) (by omega)) w⟩
  | succ j ih =>
    intro r μ hj hr hC h
    have hl := hC.2.1.2.1
    have hlt := lt_of_get hk
    have h40 := hC.2.1.1
    have ka : mmKD a = 1 := by rw [ea]; exact (kcol k (by omega)).1
    refine s_X7_emptyCells_4 (by omega) ka ?_
    rw [hC.1.1.1, nI_1, nI_1]
    refine ⟨fun w => absurd w (nI_ge (by omega) (by omega)), fun _ => ?_⟩
    subst ea
    have hcc := hC.colC hk
    refine c_load (by omega) ka kd_152 hcc (by omega) h40 ?_
    have s1 := setC_scr μ 152 (col.2.2 r) (by decide) (by decide)
    have okx := ((hC.okCol hk).2.2 r (by omega)).1
    rw [(setC_cl μ 152 (col.2.2 r)).1]
    have e : enK (col.2.2 r) = -1 ↔ (col.2.2 r).1 = -1 := by
      unfold enK
      rcases okx.cases with w | w | w | w | w | w | w | w | w | w <;> rw [w] <;> decide
    rw [e]
    have := ih (r + 1) _ (by omega) (by omega) (hC.scr s1) (fun ν2 s2 => h ν2 (s1.trans s2))
    rw [cnt_s] at this
    refine ⟨fun w => ?_, fun w => ?_⟩
    · rw [if_neg (by simpa [pEmp] using w)] at this; exact this
    · rw [if_pos (by simpa [pEmp] using w)] at this; exact this
theorem pUnl_iff {c : aCol} {r : Nat} : pUnl c r = true ↔ ∀ q, q < r → ¬ c.2.2 r = c.2.2 q := by
  simp [pUnl, List.all_eq_true]
theorem c_unlikeE {d a k : Nat} {S : aS} {col : aCol} {P : Option Value → mmMem → Prop} (hd : 2 ≤ d) (ea : a = 7 + 4 * k) (hk : S.1.2.1[k]? = some col) : ∀ (j r : Nat) (μ : mmMem) (v : Value), S.1.1 - r = j → r ≤ S.1.1 → CS μ S → (∀ ν, scr μ ν → P (some (.int (nI (cnt (pUnl col) S.1.1)))) ν) → mmEnds d M_X7_unlikeCells 4 [.ref 0, .ref a, .int (nI (cnt (pUnl col) r)), .int (nI r), v] [] μ P := by
  intro j
  induction j with
  | zero =>
    intro r μ v hj hr hC h
    have hl := hC.2.1.2.1
    have hlt := lt_of_get hk
    have h40 := hC.2.1.1
    refine s_X7_unlikeCells_4 (by omega) (by rw [ea]; exact (kcol k (by omega)).1) ?_
    rw [hC.1.1.1]
    have er : r = S.1.1 := by omega
    rw [er]
    exact ⟨fun _ => h μ (scr.refl μ), fun w => absurd (nI_le (Nat.le_refl _) (by omega)) w⟩
  | succ j ih =>
    intro r μ v hj hr hC h
    have hl := hC.2.1.2.1
    have hlt := lt_of_get hk
    have h40 := hC.2.1.1
    have ka : mmKD a = 1 := by rw [ea]; exact (kcol k (by omega)).1
    have inner : ∀ (m q : Nat) (μ : mmMem), r - q = m → q ≤ r → CS μ S → (∀ i, i < q → ¬ col.2.2 r = col.2.2 i) → (∀ ν, scr μ ν → P (some (.int (nI (cnt (pUnl col) S.1.1)))) ν) → mmEnds d M_X7_unlikeCells 18 [.ref 0, .ref a, .int (nI (cnt (pUnl col) r)), .int (nI r), .int (nI q)] [] μ P := by
      intro m
      induction m with
      | zero =>
        intro q μ hm hq hC hp h
        have eq : q = r := by omega
        subst eq
        refine s_X7_unlikeCells_18 (by omega) ka ?_
        rw [nI_1, nI_1]
        refine ⟨fun _ => ⟨fun w => absurd rfl w, fun _ => ?_⟩, fun w => absurd (nI_le (Nat.le_refl _) (by omega)) w⟩
        have := ih (q + 1) μ (.int (nI q)) (by omega) (by omega) hC h
        rw [cnt_s, if_pos (pUnl_iff.mpr hp)] at this
        exact this
      | succ m ihm =>
        intro q μ hm hq hC hp h
        refine s_X7_unlikeCells_18 (by omega) ka ?_
        rw [nI_1, nI_1, nI_1]
        refine ⟨fun w => absurd w (nI_ge (by omega) (by omega)), fun _ => ?_⟩
        subst ea
        refine c_sameRows (by omega) ka (by omega) (hC.colC hk) (hC.okCol hk) h40 (by omega) (by omega) (fun ν s1 _ => ?_)
        by_cases e : col.2.2 r = col.2.2 q
        · rw [if_pos e]
          refine ⟨fun _ => ⟨fun _ => ?_, fun w => ?_⟩, fun w => absurd w (by decide)⟩
          · have := ih (r + 1) ν (.int (nI q)) (by omega) (by omega) (hC.scr s1) (fun ν2 s2 => h ν2 (s1.trans s2))
            rw [cnt_s, if_neg (fun w => (pUnl_iff.mp w) q (by omega) e)] at this
            exact this
          · exact absurd ((nI_eq (by omega) (by omega)).mp w) (by omega)
        · rw [if_neg e]
          refine ⟨fun w => absurd rfl w, fun _ => ?_⟩
          refine ihm (q + 1) ν (by omega) (by omega) (hC.scr s1) (fun i hi => ?_) (fun ν2 s2 => h ν2 (s1.trans s2))
          by_cases hiq : i = q
          · rw [hiq]; exact e
          · exact hp i (by omega)
    refine s_X7_unlikeCells_4 (by omega) ka ?_
    rw [hC.1.1.1]
    refine ⟨fun w => absurd w (nI_ge (by omega) (by omega)), fun _ => ?_⟩
    exact inner r 0 μ rfl (Nat.zero_le _) hC (fun i hi => absurd hi (Nat.not_lt_zero _)) h
theorem c_notE {d a k : Nat} {S : aS} {col : aCol} {P : Option Value → mmMem → Prop} (hd : 3 ≤ d) (ea : a = 7 + 4 * k) (hk : S.1.2.1[k]? = some col) : ∀ (j r : Nat) (μ : mmMem), S.1.1 - r = j → 1 ≤ r → (r ≤ S.1.1 ∨ (r = 1 ∧ S.1.1 = 0)) → CS μ S → (∀ ν, scr μ ν → P (some (.int (nI (cnt (pNot col) S.1.1)))) ν) → mmEnds d M_X7_cellsNotAhead 4 [.ref 0, .ref a, .int (nI (cnt (pNot col) r)), .int (nI r)] [] μ P := by
  intro j
  induction j with
  | zero =>
    intro r μ hj hr1 hr hC h
    have hl := hC.2.1.2.1
    have hlt := lt_of_get hk
    have h40 := hC.2.1.1
    refine s_X7_cellsNotAhead_4 (by omega) (by rw [ea]; exact (kcol k (by omega)).1) ?_
    rw [hC.1.1.1]
    refine ⟨fun _ => ?_, fun w => absurd (nI_le (by omega) (by omega)) w⟩
    have : cnt (pNot col) r = cnt (pNot col) S.1.1 := by
      rcases hr with q | q
      · rw [show r = S.1.1 by omega]
      · rw [q.1, q.2]; rfl
    rw [this]
    exact h μ (scr.refl μ)
  | succ j ih =>
    intro r μ hj hr1 hr hC h
    have hl := hC.2.1.2.1
    have hlt := lt_of_get hk
    have h40 := hC.2.1.1
    have ka : mmKD a = 1 := by rw [ea]; exact (kcol k (by omega)).1
    refine s_X7_cellsNotAhead_4 (by omega) ka ?_
    rw [hC.1.1.1, nI_1, nI_1]
    refine ⟨fun w => absurd w (nI_ge (by omega) (by omega)), fun _ => ?_⟩
    subst ea
    have hcc := hC.colC hk
    refine c_load (by omega) ka kd_152 hcc (by omega) h40 ?_
    have s1 := setC_scr μ 152 (col.2.2 r) (by decide) (by decide)
    have e1 : nI r - 1 = nI (r - 1) := nI_subN (b := 1) hr1 (by omega)
    rw [e1]
    have hcc1 := (hC.scr s1).colC hk
    refine c_load (by omega) ka kd_153 hcc1 (by omega) h40 ?_
    have s2 := s1.trans (setC_scr (setC μ 152 (col.2.2 r)) 153 (col.2.2 (r - 1)) (by decide) (by decide))
    have okx := ((hC.okCol hk).2.2 r (by omega)).1
    have oky := ((hC.okCol hk).2.2 (r - 1) (by omega)).1
    refine c_rank (by omega) kd_152 kd_153 ((setC_cl _ _ _).set (by decide)) (setC_cl _ _ _) okx oky (fun y hy => ?_)
    have := ih (r + 1) _ (by omega) (by omega) (by omega) (hC.scr s2) (fun ν2 s3 => h ν2 (s2.trans s3))
    rw [cnt_s] at this
    rw [hy.1]
    refine ⟨fun w => ?_, fun w => ?_⟩
    · rw [if_neg (by simp [pNot, w])] at this; exact this
    · rw [if_pos (by simp [pNot, w]; omega)] at this; exact this
theorem c_of {d : Nat} {c w : Int32} {S : aS} {μ : mmMem} {K : Int32 → mmMem → Prop} (hd : 6 ≤ d) (hC : CS μ S) (h : ∀ ν, CS ν (sp_of c w S).2 → hiE μ ν → K (sp_of c w S).1 ν) : mmCI d M_X7_of false 2 [.ref 0, .int c, .int w] μ K := by
  refine u_X7_of (by omega) ?_
  refine c_columnRefusal (by omega) hC (fun ν hν hh => ?_)
  refine ⟨fun q => ?_, fun q => ?_⟩
  · obtain ⟨k, col, hk, rfl, hcol, hg⟩ := cref_0 q
    have e := withC_ok (f := fun _ col => if w = 0 then (nI (cnt (pEmp col) S.1.1), S) else if w = 1 then (nI (cnt (pUnl col) S.1.1), S) else if w = 2 then (nI (cnt (pNot col) S.1.1), S) else (-2, S)) hk q hcol
    rw [show sp_of (nI k) w S = _ from e] at h
    rw [q] at hν
    replace hν : CS ν S := hν
    rw [nI_clamp (by omega)]
    have ka := (kcol k hk).1
    have h40 := hC.2.1.1
    have i32 : ∀ j : Int32, w.toInt = j.toInt → w = j := fun j q => Int32.toInt_inj.mp q
    refine ⟨vp_in_nI hk (by decide), fun x => ?_, fun x => ?_, fun x => ?_, fun x => ?_, trivial⟩
    · have n0 : w ≠ 0 := fun u => by rw [u] at x; revert x; decide
      have n1 : w ≠ 1 := fun u => by rw [u] at x; revert x; decide
      have n2 : w ≠ 2 := fun u => by rw [u] at x; revert x; decide
      rw [if_neg n0, if_neg n1, if_neg n2] at h
      exact h ν hν hh
    · obtain rfl := i32 0 x
      rw [if_pos rfl] at h
      refine u_X7_emptyCells (by omega) ka ?_
      exact c_emptyE (S := S) (by omega) rfl hcol _ 0 ν rfl (Nat.zero_le _) hν (fun ν2 s => h ν2 (hν.scr s) (hh.trans s.hi))
    · obtain rfl := i32 1 x
      rw [if_neg (by decide), if_pos rfl] at h
      refine u_X7_unlikeCells (by omega) ka ?_
      exact c_unlikeE (S := S) (by omega) rfl hcol _ 0 ν _ rfl (Nat.zero_le _) hν (fun ν2 s => h ν2 (hν.scr s) (hh.trans s.hi))
    · obtain rfl := i32 2 x
      rw [if_neg (by decide), if_neg (by decide), if_pos rfl] at h
      refine u_X7_cellsNotAhead (by omega) ka ?_
      have := c_notE (S := S) (P := mmPI K) (d := d - 1 - 1) (by omega) rfl hcol _ 1 ν rfl (Nat.le_refl _) (by omega) hν (fun ν2 s => h ν2 (hν.scr s) (hh.trans s.hi))
      rw [cnt_s, cnt_0, if_neg (by simp [pNot])] at this
      exact this
  · have e : sp_of c w S = (cref S.1 c, rfs S (cref S.1 c)) := withC_no q
    rw [e] at h
    exact h ν hν hh
