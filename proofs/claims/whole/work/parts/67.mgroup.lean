/-! ===== the model: groups ===== -/
def unlV (f : Nat → aC) (l : List Nat) (a b : Nat) : Bool := (List.range b).all fun q => !(f (rowAt l q) == f (rowAt l a))
theorem unlV_s (f : Nat → aC) (l : List Nat) (a b : Nat) : unlV f l a (b + 1) = (unlV f l a b && !(f (rowAt l b) == f (rowAt l a))) := by
  unfold unlV
  rw [List.range_succ, List.all_append]
  simp
theorem nthP_s {p : Nat → Bool} {i : Int32} {j k : Nat} {c : Int32} : nthP p i (j + 1) k c = if p k = true then (if c = i then some k else nthP p i j (k + 1) (c + 1)) else nthP p i j (k + 1) c := rfl
theorem m_groupedE {d v k : Nat} {i : Int32} {col : aCol} {S : aS} {μ : mmMem} {P : Option Value → mmMem → Prop} (hd : 3 ≤ d) (hv : v < 2) (hM : MS μ S) (hcol : S.1.2.1[k]? = some col) (h1 : ∀ a, nthP (pLead col.2.2 (getV S.1 v)) i (getV S.1 v).length 0 0 = some a → P (some (.int (nI (rowAt (getV S.1 v) a)))) μ) (h2 : nthP (pLead col.2.2 (getV S.1 v)) i (getV S.1 v).length 0 0 = none → P (some (.int (-1 - nI (cnt (pLead col.2.2 (getV S.1 v)) (getV S.1 v).length)))) μ) : ∀ (j a : Nat) (v6 v7 : Value), a + j = (getV S.1 v).length → nthP (pLead col.2.2 (getV S.1 v)) i (getV S.1 v).length 0 0 = nthP (pLead col.2.2 (getV S.1 v)) i j a (nI (cnt (pLead col.2.2 (getV S.1 v)) a)) → mmEnds d M_X8_grouped 6 [.ref 160, .int (nI v), .int (nI k), .int i, .int (nI (cnt (pLead col.2.2 (getV S.1 v)) a)), .int (nI a), v6, v7] [] μ P := by
  have okv := hM.2.1.vw v
  have hln := okv.len
  have h40 := hM.2.1.1
  obtain ⟨g1, g2⟩ := hM.1.vw hv
  intro j
  induction j with
  | zero =>
    intro a v6 v7 hj ha
    refine s_X8_grouped_6 (by omega) ?_
    have e : a = (getV S.1 v).length := by omega
    rw [nI_4, nI_clamp (by omega), g1]
    refine ⟨vp_in_nI (by omega) (by decide), fun _ => ?_, fun w => absurd (nI_le (by omega) (by omega)) w⟩
    rw [e]
    exact h2 ha
  | succ j ih =>
    intro a v6 v7 hj ha
    refine s_X8_grouped_6 (by omega) ?_
    rw [nI_4, nI_clamp (by omega), g1]
    refine ⟨vp_in_nI (by omega) (by decide), fun w => absurd w (nI_ge (by omega) (by omega)), fun _ => ?_⟩
    have ea := rowAt_get (l := getV S.1 v) (p := a) (by omega)
    have hra := okv.2 _ (List.mem_of_getElem? ea)
    have inner : ∀ (t b : Nat), b + t = a → mmEnds d M_X8_grouped 25 [.ref 160, .int (nI v), .int (nI k), .int i, .int (nI (cnt (pLead col.2.2 (getV S.1 v)) a)), .int (nI a), .int (if unlV col.2.2 (getV S.1 v) a b = true then 1 else 0), .int (nI b)] [] μ P := by
      intro t
      induction t with
      | zero =>
        intro b hb
        refine s_X8_grouped_25 (by omega) ?_
        have e : b = a := by omega
        subst e
        have eu : unlV col.2.2 (getV S.1 v) b b = pLead col.2.2 (getV S.1 v) b := rfl
        have := ih (b + 1)
        rw [cnt_s] at this
        rw [nthP_s] at ha
        rw [eu, nI_vw, nI_clamp (show 56 + 40 * v + b < 2 ^ 31 by omega), g2 b _ ea, nI_1 b, nI_1]
        refine ⟨fun _ => ⟨fun z => ?_, fun z => ⟨fun n => ?_, fun e => ⟨vp_in_nI (by omega) (by decide), ?_⟩⟩⟩, fun w => absurd (nI_le (Nat.le_refl _) (by omega)) w⟩
        · cases hp : pLead col.2.2 (getV S.1 v) b with
          | true => rw [hp] at z; exact absurd z (by decide)
          | false =>
            rw [hp, if_neg (by decide), Nat.add_zero] at this
            rw [hp, if_neg (by decide)] at ha
            exact this _ _ (by omega) ha
        · cases hp : pLead col.2.2 (getV S.1 v) b with
          | false => rw [hp] at z; exact absurd rfl z
          | true =>
            rw [hp, if_pos rfl] at this
            rw [hp, if_pos rfl, if_neg n, nI_1] at ha
            exact this _ _ (by omega) ha
        · cases hp : pLead col.2.2 (getV S.1 v) b with
          | false => rw [hp] at z; exact absurd rfl z
          | true =>
            rw [hp, if_pos rfl, if_pos e] at ha
            exact h1 b ha
      | succ t iht =>
        intro b hb
        refine s_X8_grouped_25 (by omega) ?_
        have eb := rowAt_get (l := getV S.1 v) (p := b) (by omega)
        have hrb := okv.2 _ (List.mem_of_getElem? eb)
        have := iht (b + 1) (by omega)
        rw [unlV_s] at this
        rw [nI_vw, nI_vw, nI_clamp (show 56 + 40 * v + a < 2 ^ 31 by omega), nI_clamp (show 56 + 40 * v + b < 2 ^ 31 by omega), g2 a _ ea, g2 b _ eb, nI_1 b]
        refine ⟨fun w => absurd w (nI_ge (by omega) (by omega)), fun _ => ⟨fun z => ?_, fun z => ⟨vp_in_nI (by omega) (by decide), vp_in_nI (by omega) (by decide), ?_⟩⟩⟩
        · cases hu : unlV col.2.2 (getV S.1 v) a b with
          | true => rw [hu] at z; exact absurd z (by decide)
          | false => rw [hu] at this; exact this
        · cases hu : unlV col.2.2 (getV S.1 v) a b with
          | false => rw [hu] at z; exact absurd rfl z
          | true =>
            rw [hu] at this
            refine m_areSame hd hM hcol hcol hra hrb ?_
            by_cases e : col.2.2 (rowAt (getV S.1 v) a) = col.2.2 (rowAt (getV S.1 v) b)
            · rw [if_pos e]
              refine ⟨fun _ => ?_, fun w => absurd w (by decide)⟩
              simpa [e] using this
            · rw [if_neg e]
              refine ⟨fun w => absurd rfl w, fun _ => ?_⟩
              have e2 : ¬ col.2.2 (rowAt (getV S.1 v) b) = col.2.2 (rowAt (getV S.1 v) a) := fun w => e w.symm
              simpa [e2] using this
    exact inner a 0 (by omega)
theorem m_grouped {d v k : Nat} {i : Int32} {col : aCol} {S : aS} {μ : mmMem} {K : Int32 → mmMem → Prop} (hd : 4 ≤ d) (hv : v < 2) (hM : MS μ S) (hcol : S.1.2.1[k]? = some col) (h1 : ∀ a, nthP (pLead col.2.2 (getV S.1 v)) i (getV S.1 v).length 0 0 = some a → K (nI (rowAt (getV S.1 v) a)) μ) (h2 : nthP (pLead col.2.2 (getV S.1 v)) i (getV S.1 v).length 0 0 = none → K (-1 - nI (cnt (pLead col.2.2 (getV S.1 v)) (getV S.1 v).length)) μ) : mmCI d M_X8_grouped false 3 [.ref 160, .int (nI v), .int (nI k), .int i] μ K := by
  refine u_X8_grouped (by omega) ?_
  exact m_groupedE (S := S) (by omega) hv hM hcol h1 h2 _ 0 _ _ (Nat.zero_add _) rfl
theorem nthP_m1 {p : Nat → Bool} : ∀ (j k c : Nat), c + j < 2 ^ 31 → nthP p (-1) j k (nI c) = none
  | 0, _, _, _ => rfl
  | j + 1, k, c, h => by
    unfold nthP
    have n : ¬ nI c = -1 := fun e => by
      have := nI_toInt (n := c) (by omega)
      rw [e] at this
      have e1 : (-1 : Int32).toInt = -1 := rfl
      omega
    rw [if_neg n, nI_1, nthP_m1 j (k + 1) (c + 1) (by omega), nthP_m1 j (k + 1) c (by omega)]
    split <;> rfl
theorem neg_cnt : ∀ n, n < 41 → ¬ (0 : Int32) ≤ -1 - nI n ∧ -1 - (-1 - nI n) = nI n := by decide +kernel
theorem m_groupE {d v k a : Nat} {i w x5 : Int32} {col : aCol} {S : aS} {μ : mmMem} {P : Option Value → mmMem → Prop} (hd : 3 ≤ d) (hv : v < 2) (hM : MS μ S) (hcol : S.1.2.1[k]? = some col) (ha : a < (getV S.1 v).length) (h : P (some (.int (if w = 0 then nI (rowAt (getV S.1 v) a) else nI (cnt (pSame col.2.2 (getV S.1 v) a) (getV S.1 v).length)))) μ) : ∀ (j p : Nat), p + j = (getV S.1 v).length → mmEnds d M_X8_group 72 [.ref 160, .int (nI v), .int (nI k), .int i, .int w, .int x5, .int (nI (rowAt (getV S.1 v) a)), .int (nI (cnt (pSame col.2.2 (getV S.1 v) a) p)), .int (nI p)] [] μ P := by
  have okv := hM.2.1.vw v
  have hln := okv.len
  have h40 := hM.2.1.1
  obtain ⟨g1, g2⟩ := hM.1.vw hv
  have ea := rowAt_get (l := getV S.1 v) (p := a) ha
  have hra := okv.2 _ (List.mem_of_getElem? ea)
  intro j
  induction j with
  | zero =>
    intro p hj
    refine s_X8_group_72 (by omega) ?_
    have e : p = (getV S.1 v).length := by omega
    rw [nI_4, nI_clamp (by omega), g1, e]
    refine ⟨vp_in_nI (by omega) (by decide), fun _ => ⟨fun n => ?_, fun e => ?_⟩, fun w => absurd (nI_le (Nat.le_refl _) (by omega)) w⟩
    · rw [if_neg n] at h; exact h
    · rw [if_pos e] at h; exact h
  | succ j ih =>
    intro p hj
    refine s_X8_group_72 (by omega) ?_
    have ep := rowAt_get (l := getV S.1 v) (p := p) (by omega)
    have hrp := okv.2 _ (List.mem_of_getElem? ep)
    have := ih (p + 1) (by omega)
    rw [cnt_s] at this
    rw [nI_4, nI_clamp (show 4 + v < 2 ^ 31 by omega), g1, nI_vw, nI_clamp (show 56 + 40 * v + p < 2 ^ 31 by omega), g2 p _ ep, nI_1 p, nI_1, Int32.add_zero]
    refine ⟨vp_in_nI (by omega) (by decide), fun w => absurd w (nI_ge (by omega) (by omega)), fun _ => ⟨vp_in_nI (by omega) (by decide), ?_⟩⟩
    refine m_areSame hd hM hcol hcol hrp hra ?_
    by_cases e : col.2.2 (rowAt (getV S.1 v) p) = col.2.2 (rowAt (getV S.1 v) a)
    · rw [if_pos e]
      rw [if_pos (by simp [pSame, e])] at this
      exact ⟨fun w => absurd w (by decide), fun _ => this⟩
    · rw [if_neg e]
      rw [if_neg (by simp [pSame]; exact fun w => e w.symm)] at this
      exact ⟨fun _ => this, fun w => absurd rfl w⟩
theorem m_group {d : Nat} {v c i w : Int32} {S : aS} {μ : mmMem} {K : Int32 → mmMem → Prop} (hd : 5 ≤ d) (hM : MS μ S) (h : ∀ ν, MS ν (sp_group v c i w S).2 → loE μ ν → K (sp_group v c i w S).1 ν) : mmCI d M_X8_group false 4 [.ref 160, .int v, .int c, .int i, .int w] μ K := by
  refine u_X8_group (by omega) ?_
  refine m_isView (by omega) ?_
  unfold sp_group at h
  by_cases nv : noView v
  · rw [if_pos nv] at h ⊢
    exact ⟨fun w => absurd rfl w, fun _ => h μ hM (loE.refl _)⟩
  · rw [if_neg nv] at h ⊢
    refine ⟨fun _ => ?_, fun w => absurd w (by decide)⟩
    obtain ⟨v, hv, rfl⟩ := view_of nv
    rw [nI_clamp (by omega)] at h
    refine m_amiss (by omega) hM (fun ν hν hh => ?_)
    refine ⟨fun q => ?_, fun q => ?_⟩
    · obtain ⟨k, col, hk, rfl, hcol, hg⟩ := cref_0 q
      rw [withC_ok hk q hcol] at h
      rw [q] at hν
      have hν : MS ν S := hν
      have okv := hν.2.1.vw v
      have hln := okv.len
      have h40 := hν.2.1.1
      have hc := cnt_le (pLead col.2.2 (getV S.1 v)) (getV S.1 v).length
      obtain ⟨n1, n2⟩ := neg_cnt (cnt (pLead col.2.2 (getV S.1 v)) (getV S.1 v).length) (by omega)
      refine m_grouped (by omega) hv hν hcol (fun a ho => ?_) (fun ho => ?_)
      · obtain ⟨a1, -, a2⟩ := nthP_some ho
        rw [Nat.zero_add] at a2
        have ni : ¬ i = -1 := fun e => by
          have := nthP_m1 (p := pLead col.2.2 (getV S.1 v)) (getV S.1 v).length 0 0 (by omega)
          rw [e] at ho
          have ho : nthP (pLead col.2.2 (getV S.1 v)) (-1) (getV S.1 v).length 0 (nI 0) = some a := ho
          rw [this] at ho
          cases ho
        rw [if_neg ni, ho] at h
        dsimp only at h
        have hra := okv.2 _ (List.mem_of_getElem? (rowAt_get (l := getV S.1 v) (p := a) a2))
        refine ⟨fun _ => ?_, fun w => absurd (nI_pos' (by omega)) w⟩
        refine m_isInI (a := 0) (b := 1) (by omega) rfl rfl ?_
        have go : ∀ ans : Int32, K ans ν → ans = (if w = 0 then nI (rowAt (getV S.1 v) a) else nI (cnt (pSame col.2.2 (getV S.1 v) a) (getV S.1 v).length)) → ∀ x5, mmEnds (d - 1) M_X8_group 72 [.ref 160, .int (nI v), .int (nI k), .int i, .int w, .int x5, .int (nI (rowAt (getV S.1 v) a)), .int (0 : Int32), .int (0 : Int32)] [] ν (mmPI K) := fun ans hk ea x5 => by
          subst ea
          exact m_groupE (S := S) (P := mmPI K) (by omega) hv hν hcol a2 hk (getV S.1 v).length 0 (Nat.zero_add _)
        by_cases w0 : w = 0
        · rw [if_pos w0] at h
          rw [if_pos (by rw [w0]; decide)]
          exact ⟨fun _ => go _ (h ν hν hh) (by rw [if_pos w0]) _, fun z => absurd z (by decide)⟩
        · rw [if_neg w0] at h
          by_cases w1 : w = 1
          · rw [if_pos w1] at h
            rw [if_pos (by rw [w1]; decide)]
            exact ⟨fun _ => go _ (h ν hν hh) (by rw [if_neg w0]) _, fun z => absurd z (by decide)⟩
          · rw [if_neg w1] at h
            have nn : ¬ (¬ w < 0 ∧ ¬ (1 : Int32) < w) := fun z => by
              obtain ⟨z1, z2⟩ := z
              rw [Int32.lt_iff_toInt_lt] at z1 z2
              have i32 : ∀ j : Int32, w.toInt = j.toInt → w = j := fun j q => Int32.toInt_inj.mp q
              have a0 : (0 : Int32).toInt = 0 := rfl
              have a1 : (1 : Int32).toInt = 1 := rfl
              have : w.toInt = 0 ∨ w.toInt = 1 := by omega
              rcases this with y | y
              · exact w0 (i32 0 y)
              · exact w1 (i32 1 y)
            rw [if_neg nn]
            exact ⟨fun z => absurd rfl z, fun _ => h ν hν hh⟩
      · refine ⟨fun w => absurd w n1, fun _ => ⟨fun ni => ?_, fun ei => ?_⟩⟩
        · rw [if_neg ni, ho] at h
          exact h ν hν hh
        · rw [if_pos ei] at h
          rw [n2]
          exact h ν hν hh
    · rw [withC_no q] at h
      exact h ν hν hh
