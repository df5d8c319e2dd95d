/-! ===== the class: groups ===== -/
def rowAt (l : List Nat) (p : Nat) : Nat := l.getD p 0
def pLead (f : Nat → aC) (l : List Nat) (p : Nat) : Bool := (List.range p).all fun q => !(f (rowAt l q) == f (rowAt l p))
theorem pLead_iff {f : Nat → aC} {l : List Nat} {p : Nat} : pLead f l p = true ↔ ∀ q, q < p → ¬ f (rowAt l q) = f (rowAt l p) := by simp [pLead, List.all_eq_true]
theorem rowAt_get {l : List Nat} {p : Nat} (h : p < l.length) : l[p]? = some (rowAt l p) := by
  unfold rowAt
  rw [List.getD_eq_getElem?_getD, List.getElem?_eq_getElem h]
  rfl
/-- the i-th place at which p holds -/
def nthP (p : Nat → Bool) (i : Int32) : Nat → Nat → Int32 → Option Nat
  | 0, _, _ => none
  | j + 1, k, c => if p k = true then (if c = i then some k else nthP p i j (k + 1) (c + 1)) else nthP p i j (k + 1) c
theorem nthP_some {p : Nat → Bool} {i : Int32} : ∀ {j k : Nat} {c : Int32} {a : Nat}, nthP p i j k c = some a → p a = true ∧ k ≤ a ∧ a < k + j
  | 0, _, _, _, h => by cases h
  | j + 1, k, c, a, h => by
    unfold nthP at h
    split at h
    · split at h
      · cases h
        exact ⟨by assumption, Nat.le_refl _, by omega⟩
      · have := nthP_some h
        exact ⟨this.1, by omega, by omega⟩
    · have := nthP_some h
      exact ⟨this.1, by omega, by omega⟩
/-- what the walks over a view know -/
def vwK (μ : mmMem) (S : aS) (v k : Nat) (col : aCol) : Prop := CS μ S ∧ v < 2 ∧ S.1.2.1[k]? = some col
theorem c_isLeadE {d v k : Nat} {S : aS} {col : aCol} {P : Option Value → mmMem → Prop} {p : Nat} (hd : 3 ≤ d) (hv : v < 2) (hk : S.1.2.1[k]? = some col) (hp : p < (getV S.1 v).length) : ∀ (j q : Nat) (μ : mmMem), p - q = j → q ≤ p → CS μ S → (∀ i, i < q → ¬ col.2.2 (rowAt (getV S.1 v) i) = col.2.2 (rowAt (getV S.1 v) p)) → (∀ ν, scr μ ν → P (some (.int (if pLead col.2.2 (getV S.1 v) p = true then 1 else 0))) ν) → mmEnds d M_X7_isLead 3 [.ref 0, .ref (55 + 2 * v), .ref (7 + 4 * k), .int (nI p), .int (nI q)] [] μ P := by
  intro j
  induction j with
  | zero =>
    intro q μ hj hq hC hi h
    have okv := hC.2.1.vw v
    have hln := okv.len
    have h40 := hC.2.1.1
    have h12 := hC.2.1.2.1
    have hkl := lt_of_get hk
    refine s_X7_isLead_3 (by omega) (kvw v hv).1 (kcol k (by omega)).1 ?_
    have e : q = p := by omega
    subst e
    rw [if_pos (pLead_iff.mpr hi)] at h
    exact ⟨fun _ => h μ (scr.refl μ), fun w => absurd (nI_le (Nat.le_refl _) (by omega)) w⟩
  | succ j ih =>
    intro q μ hj hq hC hi h
    have okv := hC.2.1.vw v
    have hln := okv.len
    have h40 := hC.2.1.1
    have h12 := hC.2.1.2.1
    have hkl := lt_of_get hk
    have hvw := hC.1.vw hv
    have e1 := rowAt_get (l := getV S.1 v) (p := q) (by omega)
    have e2 := rowAt_get (l := getV S.1 v) (p := p) hp
    refine s_X7_isLead_3 (by omega) (kvw v hv).1 (kcol k (by omega)).1 ?_
    rw [nI_clamp (by omega), nI_clamp (by omega), hvw.2 q _ e1, hvw.2 p _ e2, nI_1]
    refine ⟨fun w => absurd w (nI_ge (by omega) (by omega)), fun _ => ⟨vp_in_nI (by omega) (by decide), vp_in_nI (by omega) (by decide), ?_⟩⟩
    refine c_sameRows (by omega) (kcol k (by omega)).1 (by omega) (hC.colC hk) (hC.okCol hk) h40 (okv.2 _ (List.mem_of_getElem? e1)) (okv.2 _ (List.mem_of_getElem? e2)) (fun ν s1 _ => ?_)
    by_cases z : col.2.2 (rowAt (getV S.1 v) q) = col.2.2 (rowAt (getV S.1 v) p)
    · rw [if_pos z]
      rw [if_neg (fun w => pLead_iff.mp w q (by omega) z)] at h
      exact ⟨fun w => absurd w (by decide), fun _ => h ν s1⟩
    · rw [if_neg z]
      refine ⟨fun _ => ih (q + 1) ν (by omega) (by omega) (hC.scr s1) (fun i hq => ?_) (fun ν2 s2 => h ν2 (s1.trans s2)), fun w => absurd rfl w⟩
      by_cases e : i = q
      · rw [e]; exact z
      · exact hi i (by omega)
theorem c_isLead {d v k p : Nat} {S : aS} {col : aCol} {μ : mmMem} {K : Int32 → mmMem → Prop} (hd : 4 ≤ d) (hv : v < 2) (hk : S.1.2.1[k]? = some col) (hp : p < (getV S.1 v).length) (hC : CS μ S) (h : ∀ ν, scr μ ν → K (if pLead col.2.2 (getV S.1 v) p = true then 1 else 0) ν) : mmCI d M_X7_isLead false 3 [.ref 0, .ref (55 + 2 * v), .ref (7 + 4 * k), .int (nI p)] μ K := by
  have h12 := hC.2.1.2.1
  have hkl := lt_of_get hk
  refine u_X7_isLead (by omega) (kvw v hv).1 (kcol k (by omega)).1 ?_
  exact c_isLeadE (by omega) hv hk hp _ 0 μ rfl (Nat.zero_le _) hC (fun i hi => absurd hi (Nat.not_lt_zero _)) (fun ν s => h ν s)
theorem c_groupsE {d v k : Nat} {S : aS} {col : aCol} {P : Option Value → mmMem → Prop} (hd : 4 ≤ d) (hv : v < 2) (hk : S.1.2.1[k]? = some col) : ∀ (j p : Nat) (μ : mmMem), (getV S.1 v).length - p = j → p ≤ (getV S.1 v).length → CS μ S → (∀ ν, scr μ ν → P (some (.int (nI (cnt (pLead col.2.2 (getV S.1 v)) (getV S.1 v).length)))) ν) → mmEnds d M_X7_groupsOf 5 [.ref 0, .ref (55 + 2 * v), .ref (7 + 4 * k), .int (nI (cnt (pLead col.2.2 (getV S.1 v)) p)), .int (nI p)] [] μ P := by
  intro j
  induction j with
  | zero =>
    intro p μ hj hp hC h
    have okv := hC.2.1.vw v
    have hln := okv.len
    have h40 := hC.2.1.1
    have h12 := hC.2.1.2.1
    have hkl := lt_of_get hk
    refine s_X7_groupsOf_5 (by omega) (kvw v hv).1 (kcol k (by omega)).1 ?_
    rw [(hC.1.vw hv).1]
    have e : p = (getV S.1 v).length := by omega
    rw [e]
    exact ⟨fun _ => h μ (scr.refl μ), fun w => absurd (nI_le (Nat.le_refl _) (by omega)) w⟩
  | succ j ih =>
    intro p μ hj hp hC h
    have okv := hC.2.1.vw v
    have hln := okv.len
    have h40 := hC.2.1.1
    have h12 := hC.2.1.2.1
    have hkl := lt_of_get hk
    refine s_X7_groupsOf_5 (by omega) (kvw v hv).1 (kcol k (by omega)).1 ?_
    rw [(hC.1.vw hv).1]
    refine ⟨fun w => absurd w (nI_ge (by omega) (by omega)), fun _ => ?_⟩
    refine c_isLead (by omega) hv hk (by omega) hC (fun ν s1 => ?_)
    have := ih (p + 1) ν (by omega) (by omega) (hC.scr s1) (fun ν2 s2 => h ν2 (s1.trans s2))
    rw [cnt_s] at this
    rw [nI_1, nI_1]
    cases hl : pLead col.2.2 (getV S.1 v) p with
    | true => rw [hl] at this; exact ⟨fun w => absurd w (by decide), fun _ => this⟩
    | false => rw [hl] at this; exact ⟨fun _ => this, fun w => absurd rfl w⟩
def leadAns (o : Option Nat) : Int32 := match o with
  | none => -1
  | some a => nI a
theorem c_leadE {d v k : Nat} {i : Int32} {S : aS} {col : aCol} {P : Option Value → mmMem → Prop} (hd : 4 ≤ d) (hv : v < 2) (hk : S.1.2.1[k]? = some col) (ans : Int32) : ∀ (j p : Nat) (c : Int32) (μ : mmMem), (getV S.1 v).length - p = j → p ≤ (getV S.1 v).length → CS μ S → ans = leadAns (nthP (pLead col.2.2 (getV S.1 v)) i j p c) → (∀ ν, scr μ ν → P (some (.int ans)) ν) → mmEnds d M_X7_leadOf 6 [.ref 0, .ref (55 + 2 * v), .ref (7 + 4 * k), .int i, .int c, .int (nI p)] [] μ P := by
  intro j
  induction j with
  | zero =>
    intro p c μ hj hp hC ha h
    have okv := hC.2.1.vw v
    have hln := okv.len
    have h40 := hC.2.1.1
    have h12 := hC.2.1.2.1
    have hkl := lt_of_get hk
    refine s_X7_leadOf_6 (by omega) (kvw v hv).1 (kcol k (by omega)).1 ?_
    rw [(hC.1.vw hv).1]
    have e : ans = -1 := ha
    rw [e] at h
    exact ⟨fun _ => h μ (scr.refl μ), fun w => absurd (nI_le (by omega) (by omega)) w⟩
  | succ j ih =>
    intro p c μ hj hp hC ha h
    have okv := hC.2.1.vw v
    have hln := okv.len
    have h40 := hC.2.1.1
    have h12 := hC.2.1.2.1
    have hkl := lt_of_get hk
    refine s_X7_leadOf_6 (by omega) (kvw v hv).1 (kcol k (by omega)).1 ?_
    rw [(hC.1.vw hv).1]
    refine ⟨fun w => absurd w (nI_ge (by omega) (by omega)), fun _ => ?_⟩
    refine c_isLead (by omega) hv hk (by omega) hC (fun ν s1 => ?_)
    rw [nI_1]
    unfold nthP at ha
    cases hl : pLead col.2.2 (getV S.1 v) p with
    | true =>
      rw [hl, if_pos rfl] at ha
      refine ⟨fun w => absurd w (by decide), fun _ => ⟨fun n => ?_, fun e => ?_⟩⟩
      · rw [if_neg n] at ha
        exact ih (p + 1) (c + 1) ν (by omega) (by omega) (hC.scr s1) ha (fun ν2 s2 => h ν2 (s1.trans s2))
      · rw [if_pos e] at ha
        have e2 : ans = nI p := ha
        rw [e2] at h
        exact h ν s1
    | false =>
      rw [hl, if_neg (by decide)] at ha
      exact ⟨fun _ => ih (p + 1) c ν (by omega) (by omega) (hC.scr s1) ha (fun ν2 s2 => h ν2 (s1.trans s2)), fun w => absurd rfl w⟩
theorem c_leadOf {d v k : Nat} {i : Int32} {S : aS} {col : aCol} {μ : mmMem} {K : Int32 → mmMem → Prop} (hd : 5 ≤ d) (hv : v < 2) (hk : S.1.2.1[k]? = some col) (hC : CS μ S) (h : ∀ ν, scr μ ν → K (leadAns (nthP (pLead col.2.2 (getV S.1 v)) i (getV S.1 v).length 0 0)) ν) : mmCI d M_X7_leadOf false 3 [.ref 0, .ref (55 + 2 * v), .ref (7 + 4 * k), .int i] μ K := by
  have h12 := hC.2.1.2.1
  have hkl := lt_of_get hk
  refine u_X7_leadOf (by omega) (kvw v hv).1 (kcol k (by omega)).1 ?_
  exact c_leadE (by omega) hv hk _ _ 0 0 μ rfl (Nat.zero_le _) hC rfl (fun ν s => h ν s)
def pSame (f : Nat → aC) (l : List Nat) (a p : Nat) : Bool := f (rowAt l a) == f (rowAt l p)
theorem cnt_from {f : Nat → aC} {l : List Nat} {a : Nat} (h : pLead f l a = true) : cnt (pSame f l a) a = 0 := by
  unfold cnt
  rw [List.length_eq_zero_iff, List.filter_eq_nil_iff]
  intro q hq
  have := pLead_iff.mp h q (List.mem_range.mp hq)
  unfold pSame
  simp only [beq_iff_eq]
  exact fun e => this e.symm
theorem c_membersE {d v k a : Nat} {S : aS} {col : aCol} {P : Option Value → mmMem → Prop} (hd : 3 ≤ d) (hv : v < 2) (hk : S.1.2.1[k]? = some col) (ha : a < (getV S.1 v).length) : ∀ (j p : Nat) (μ : mmMem), (getV S.1 v).length - p = j → p ≤ (getV S.1 v).length → CS μ S → (∀ ν, scr μ ν → P (some (.int (nI (cnt (pSame col.2.2 (getV S.1 v) a) (getV S.1 v).length)))) ν) → mmEnds d M_X7_membersOf 6 [.ref 0, .ref (55 + 2 * v), .ref (7 + 4 * k), .int (nI a), .int (nI (cnt (pSame col.2.2 (getV S.1 v) a) p)), .int (nI p)] [] μ P := by
  intro j
  induction j with
  | zero =>
    intro p μ hj hp hC h
    have okv := hC.2.1.vw v
    have hln := okv.len
    have h40 := hC.2.1.1
    have h12 := hC.2.1.2.1
    have hkl := lt_of_get hk
    refine s_X7_membersOf_6 (by omega) (kvw v hv).1 (kcol k (by omega)).1 ?_
    rw [(hC.1.vw hv).1]
    have e : p = (getV S.1 v).length := by omega
    rw [e]
    exact ⟨fun _ => h μ (scr.refl μ), fun w => absurd (nI_le (Nat.le_refl _) (by omega)) w⟩
  | succ j ih =>
    intro p μ hj hp hC h
    have okv := hC.2.1.vw v
    have hln := okv.len
    have h40 := hC.2.1.1
    have h12 := hC.2.1.2.1
    have hkl := lt_of_get hk
    have hvw := hC.1.vw hv
    have e1 := rowAt_get (l := getV S.1 v) (p := a) ha
    have e2 := rowAt_get (l := getV S.1 v) (p := p) (by omega)
    refine s_X7_membersOf_6 (by omega) (kvw v hv).1 (kcol k (by omega)).1 ?_
    rw [hvw.1, nI_clamp (by omega), nI_clamp (by omega), hvw.2 a _ e1, hvw.2 p _ e2]
    refine ⟨fun w => absurd w (nI_ge (by omega) (by omega)), fun _ => ⟨vp_in_nI (by omega) (by decide), vp_in_nI (by omega) (by decide), ?_⟩⟩
    refine c_sameRows (by omega) (kcol k (by omega)).1 (by omega) (hC.colC hk) (hC.okCol hk) h40 (okv.2 _ (List.mem_of_getElem? e1)) (okv.2 _ (List.mem_of_getElem? e2)) (fun ν s1 _ => ?_)
    have := ih (p + 1) ν (by omega) (by omega) (hC.scr s1) (fun ν2 s2 => h ν2 (s1.trans s2))
    rw [cnt_s] at this
    rw [nI_1, nI_1]
    by_cases z : col.2.2 (rowAt (getV S.1 v) a) = col.2.2 (rowAt (getV S.1 v) p)
    · rw [if_pos z]
      rw [if_pos (by simp [pSame, z])] at this
      exact ⟨fun w => absurd w (by decide), fun _ => this⟩
    · rw [if_neg z]
      rw [if_neg (by simp [pSame, z])] at this
      exact ⟨fun _ => this, fun w => absurd rfl w⟩
def sp_group (v c i w : Int32) (S : aS) : Int32 × aS := if noView v then (-1, S) else withC S c fun _ col =>
  if i = -1 then (nI (cnt (pLead col.2.2 (getV S.1 v.toNatClampNeg)) (getV S.1 v.toNatClampNeg).length), S) else match nthP (pLead col.2.2 (getV S.1 v.toNatClampNeg)) i (getV S.1 v.toNatClampNeg).length 0 0 with
  | none => (-1, S)
  | some a => if w = 0 then (nI (rowAt (getV S.1 v.toNatClampNeg) a), S) else if w = 1 then (nI (cnt (pSame col.2.2 (getV S.1 v.toNatClampNeg) a) (getV S.1 v.toNatClampNeg).length), S) else (-2, S)
theorem c_group {d : Nat} {v c i w : Int32} {S : aS} {μ : mmMem} {K : Int32 → mmMem → Prop} (hd : 7 ≤ d) (hC : CS μ S) (h : ∀ ν, CS ν (sp_group v c i w S).2 → hiE μ ν → K (sp_group v c i w S).1 ν) : mmCI d M_X7_group false 4 [.ref 0, .int v, .int c, .int i, .int w] μ K := by
  refine u_X7_group (by omega) ?_
  unfold sp_group at h
  have bad : noView v → K (-1) μ := fun w => by
    rw [if_pos w] at h
    exact h μ hC (hiE.refl _)
  refine ⟨fun a => bad (Or.inl a), fun a => ⟨fun b => bad (Or.inr b), fun b => ?_⟩⟩
  have nv : ¬ noView v := by rintro (w | w); exact a w; exact b w
  rw [if_neg nv] at h
  obtain ⟨v, hv, rfl⟩ := view_of nv
  rw [nI_clamp (by omega)] at h ⊢
  refine c_columnRefusal (by omega) hC (fun ν hν hh => ?_)
  refine ⟨fun q => ?_, fun q => ?_⟩
  · obtain ⟨k, col, hk, rfl, hcol, hg⟩ := cref_0 q
    rw [withC_ok hk q hcol] at h
    rw [q] at hν
    replace hν : CS ν S := hν
    rw [nI_clamp (by omega)]
    have okv := hC.2.1.vw v
    have hln := okv.len
    have h40 := hC.2.1.1
    refine ⟨vp_in_nI hk (by decide), fun n => ?_, fun e => ?_⟩
    · rw [if_neg n] at h
      refine c_leadOf (by omega) hv hcol hν (fun ν2 s2 => ?_)
      have hC2 := hν.scr s2
      cases ho : nthP (pLead col.2.2 (getV S.1 v)) i (getV S.1 v).length 0 0 with
      | none =>
        rw [ho] at h
        exact ⟨fun w => absurd w (by decide), fun _ => h ν2 hC2 (hh.trans s2.hi)⟩
      | some a =>
        rw [ho] at h
        obtain ⟨a1, -, a2⟩ := nthP_some ho
        rw [Nat.zero_add] at a2
        have e1 := rowAt_get (l := getV S.1 v) (p := a) a2
        refine ⟨fun _ => ?_, fun w => absurd (nI_pos' (by omega)) w⟩
        dsimp only [leadAns] at h ⊢
        rw [nI_clamp (by omega), (hC2.1.vw hv).2 a _ e1]
        refine ⟨fun w0 => ?_, fun w0 => ⟨fun w1 => ?_, fun w1 => ?_⟩⟩
        · obtain rfl : w = 0 := Int32.toInt_inj.mp w0
          rw [if_pos rfl] at h
          exact ⟨vp_in_nI (by omega) (by decide), h ν2 hC2 (hh.trans s2.hi)⟩
        · obtain rfl : w = 1 := Int32.toInt_inj.mp w1
          rw [if_neg (by decide), if_pos rfl] at h
          refine u_X7_membersOf (by omega) (kvw v hv).1 (kcol k hk).1 ?_
          have := c_membersE (S := S) (P := mmPI K) (d := d - 1 - 1) (by omega) hv hcol a2 _ a ν2 rfl (by omega) hC2 (fun ν3 s3 => h ν3 (hC2.scr s3) ((hh.trans s2.hi).trans s3.hi))
          rw [cnt_from a1] at this
          exact this
        · rw [if_neg (fun e => w0 (by rw [e]; rfl)), if_neg (fun e => w1 (by rw [e]; rfl))] at h
          exact h ν2 hC2 (hh.trans s2.hi)
    · rw [if_pos e] at h
      refine u_X7_groupsOf (by omega) (kvw v hv).1 (kcol k hk).1 ?_
      exact c_groupsE (S := S) (by omega) hv hcol _ 0 ν rfl (Nat.zero_le _) hν (fun ν2 s2 => h ν2 (hν.scr s2) (hh.trans s2.hi))
  · rw [withC_no q] at h
    exact h ν hν hh
