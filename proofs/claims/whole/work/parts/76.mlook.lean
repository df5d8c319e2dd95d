/-! ===== the model: how many are looked at ===== -/
theorem m_many {d : Nat} {v : Int64} {p : Nat → Bool} {μ : mmMem} {K : Int32 → mmMem → Prop} (hd : 1 ≤ d) (hb : bsI v p) (h : K (nI (cnt p 40)) μ) : mmCI d M_X8_many true 1 [.long v] μ K := by
  refine u_X8_many hd ?_
  obtain ⟨x, h1, rfl, h3⟩ := hb
  have e : cnt p 40 = pcn 40 x := by rw [pcn_cnt]; exact (cnt_eq (fun i hi => h3 i hi)).symm
  rw [e] at h
  have loop : ∀ (m y n : Nat), y ≤ m → y < 2 ^ 40 → n + pcn 40 y = pcn 40 x → mmEnds (d - 1) M_X8_many 4 [.long (Int64.ofNat x), .retAddr 7, .int (nI n), .long (Int64.ofNat y), .retAddr 7] [] μ (mmPI K) := by
    intro m
    induction m with
    | zero =>
      intro y n hm hy he
      refine s_X8_many_4 (by omega) ?_
      have y0 : y = 0 := by omega
      subst y0
      have z : pcn 40 0 = 0 := by decide
      rw [z, Nat.add_zero] at he
      rw [he]
      exact ⟨fun _ => h, fun w => absurd rfl w⟩
    | succ m ih =>
      intro y n hm hy he
      refine s_X8_many_4 (by omega) ?_
      rw [lg0, i64_0 hy]
      refine ⟨fun y0 => ?_, fun ny => ?_⟩
      · subst y0
        have z : pcn 40 0 = 0 := by decide
        rw [z, Nat.add_zero] at he
        rw [he]
        exact h
      · have hp : 0 < y := Nat.pos_of_ne_zero ny
        have hl := low_lt hp
        rw [i64_pre hp, i64_and, nI_1]
        exact ih _ (n + 1) (by omega) (by omega) (by have := pcn_low 40 y hp hy; omega)
  exact loop x x 0 (Nat.le_refl _) h1 (Nat.zero_add _)
def setsM (μ : mmMem) (T : aT) (l : List Nat) : Prop := bsI (μ.2.1 168 6) (inL l) ∧ ∀ f, f < T.2.2.2.2.2.length → bsI (μ.2.1 168 f) (fun r => decide (r < T.1) && passI T r f)
theorem inL_app (a : List Nat) (b r : Nat) : inL (a ++ [b]) r = (inL a r || decide (r = b)) := by
  unfold inL
  rw [List.contains_eq_any_beq, List.contains_eq_any_beq, List.any_append]
  by_cases e : r = b <;> simp [e]
theorem passI_at {T : aT} {r f : Nat} {q : aFil} (hq : T.2.2.2.2.2[f]? = some q) : passI T r f = aPass T q r := by unfold passI; rw [hq]
theorem m_lyR {d f : Nat} {x1 : Int32} {q : aFil} {S : aS} {P : Option Value → mmMem → Prop} (hd : 7 ≤ d) (hf : f < 6) (hq : S.1.2.2.2.2.2[f]? = some q) (μ0 : mmMem) (hM : MS μ0 S) (h : ∀ ν, scM μ0 ν → (∀ g, g ≠ f → ν.2.1 168 g = μ0.2.1 168 g) → bsI (ν.2.1 168 f) (fun r => decide (r < S.1.1) && passI S.1 r f) → ∀ x3, mmEnds d M_X8_laysSets 48 [.ref 160, .int x1, .int (nI (f + 1)), .int x3] [] ν P) : ∀ (j r : Nat) (μ : mmMem), r + j = S.1.1 → scM μ0 μ → (∀ g, g ≠ f → μ.2.1 168 g = μ0.2.1 168 g) → bsI (μ.2.1 168 f) (fun i => decide (i < r) && passI S.1 i f) → mmEnds d M_X8_laysSets 67 [.ref 160, .int x1, .int (nI f), .int (nI r)] [] μ P := by
  have h40 := hM.2.1.1
  intro j
  induction j with
  | zero =>
    intro r μ hj hs hg hb
    refine s_X8_laysSets_67 (by omega) ?_
    have e : r = S.1.1 := by omega
    subst e
    rw [(hM.sc hs).1.1.1, nI_1 f]
    exact ⟨fun _ => h μ hs hg hb _, fun w => absurd (nI_le (Nat.le_refl _) (by omega)) w⟩
  | succ j ih =>
    intro r μ hj hs hg hb
    refine s_X8_laysSets_67 (by omega) ?_
    have hM1 := hM.sc hs
    rw [hM1.1.1.1, nI_clamp (show f < 2 ^ 31 by omega), nI_1 r]
    refine ⟨fun w => absurd w (nI_ge (by omega) (by omega)), fun _ => ⟨vp_in_nI (by omega) (by decide), ?_⟩⟩
    refine m_passes hd hM1.prd hM1.2.1 hq (by omega) ?_
    have go : ∀ x : Int64, bsI x (fun i => decide (i < r + 1) && passI S.1 i f) → mmEnds d M_X8_laysSets 67 [.ref 160, .int x1, .int (nI f), .int (nI (r + 1))] [] (sJ μ 168 f x) P := fun x hx => by
      refine ih (r + 1) _ (by omega) (hs.trans (scM_sJ _ _ _ _ (by decide) (by decide))) (fun g ng => ?_) (by rw [sJ_at, if_pos rfl]; exact hx)
      rw [sJ_at, if_neg ng]; exact hg g ng
    cases ha : aPass S.1 q r with
    | true =>
      refine ⟨fun w => absurd w (by decide), fun _ => go _ ((hb.row (a := r) (by omega)).congr fun i hi => ?_)⟩
      by_cases e : i = r
      · subst e
        rw [passI_at hq, ha]
        simp
      · have : decide (i < r + 1) = decide (i < r) := decide_eq_decide.mpr ⟨fun w => by omega, fun w => by omega⟩
        rw [this]
        simp [e]
    | false =>
      refine ⟨fun _ => go _ ?_, fun w => absurd rfl w⟩
      rw [Int64.or_zero]
      refine hb.congr fun i hi => ?_
      by_cases e : i = r
      · subst e
        rw [passI_at hq, ha]
        simp
      · have : decide (i < r + 1) = decide (i < r) := decide_eq_decide.mpr ⟨fun w => by omega, fun w => by omega⟩
        rw [this]
theorem m_lyF {d : Nat} {x1 : Int32} {l : List Nat} {S : aS} {P : Option Value → mmMem → Prop} (hd : 7 ≤ d) (μ0 : mmMem) (hM : MS μ0 S) (h6 : bsI (μ0.2.1 168 6) (inL l)) (h : ∀ ν, scM μ0 ν → setsM ν S.1 l → P none ν) : ∀ (j f : Nat) (μ : mmMem) (v3 : Value), f + j = S.1.2.2.2.2.2.length → scM μ0 μ → μ.2.1 168 6 = μ0.2.1 168 6 → (∀ g, g < f → bsI (μ.2.1 168 g) (fun r => decide (r < S.1.1) && passI S.1 r g)) → mmEnds d M_X8_laysSets 48 [.ref 160, .int x1, .int (nI f), v3] [] μ P := by
  have l8 := hM.2.1.2.2.2.2.2.2.2.1
  intro j
  induction j with
  | zero =>
    intro f μ v3 hj hs e6 hg
    refine s_X8_laysSets_48 (by omega) ?_
    have e : f = S.1.2.2.2.2.2.length := by omega
    subst e
    rw [(hM.sc hs).1.1.2.2.2]
    exact ⟨fun _ => h μ hs ⟨by rw [e6]; exact h6, hg⟩, fun w => absurd (nI_le (Nat.le_refl _) (by omega)) w⟩
  | succ j ih =>
    intro f μ v3 hj hs e6 hg
    refine s_X8_laysSets_48 (by omega) ?_
    obtain ⟨q, hq⟩ : ∃ q, S.1.2.2.2.2.2[f]? = some q := ⟨_, List.getElem?_eq_getElem (by omega)⟩
    rw [(hM.sc hs).1.1.2.2.2, nI_clamp (show f < 2 ^ 31 by omega)]
    refine ⟨fun w => absurd w (nI_ge (by omega) (by omega)), fun _ => ⟨vp_in_nI (by omega) (by decide), ?_⟩⟩
    have s1 : scM μ (sJ μ 168 f 0) := scM_sJ _ _ _ _ (by decide) (by decide)
    have z : ∀ g, g ≠ f → (sJ μ 168 f 0).2.1 168 g = μ.2.1 168 g := fun g ng => by rw [sJ_at, if_neg ng]
    refine m_lyR hd (by omega) hq (sJ μ 168 f 0) ((hM.sc hs).sc s1) (fun ν u g1 g2 x3 => ?_) S.1.1 0 _ (Nat.zero_add _) (scM.refl _) (fun g _ => rfl) ?_
    · refine ih (f + 1) ν _ (by omega) ((hs.trans s1).trans u) (by rw [g1 6 (by omega), z 6 (by omega)]; exact e6) (fun g hg2 => ?_)
      by_cases e : g = f
      · rw [e]; exact g2
      · rw [g1 g e, z g e]
        exact hg g (by omega)
    · rw [sJ_at, if_pos rfl]
      exact bsI.zero.congr (fun i _ => by simp)
theorem m_lays {d v : Nat} {S : aS} {μ : mmMem} {K : mmMem → Prop} (hd : 8 ≤ d) (hv : v < 2) (hM : MS μ S) (h : ∀ ν, scM μ ν → setsM ν S.1 (getV S.1 v) → K ν) : mmC0 d M_X8_laysSets false 1 [.ref 160, .int (nI v)] μ K := by
  refine u_X8_laysSets (by omega) ?_
  have okv := hM.2.1.vw v
  have hln := okv.len
  have h40 := hM.2.1.1
  have loop : ∀ (j i : Nat) (μ1 : mmMem) (v3 : Value), i + j = (getV S.1 v).length → scM μ μ1 → bsI (μ1.2.1 168 6) (inL ((getV S.1 v).take i)) → mmEnds (d - 1) M_X8_laysSets 10 [.ref 160, .int (nI v), .int (nI i), v3] [] μ1 (mmP0 K) := by
    intro j
    induction j with
    | zero =>
      intro i μ1 v3 hj hs hb
      refine s_X8_laysSets_10 (by omega) ?_
      have hM1 := hM.sc hs
      obtain ⟨g1, g2⟩ := hM1.1.vw hv
      rw [nI_4, nI_clamp (by omega), g1]
      rw [List.take_of_length_le (by omega)] at hb
      refine ⟨vp_in_nI (by omega) (by decide), fun _ => ?_, fun w => absurd (nI_le (by omega) (by omega)) w⟩
      exact m_lyF (S := S) (by omega) μ1 hM1 hb (fun ν u sm => h ν (hs.trans u) sm) S.1.2.2.2.2.2.length 0 μ1 _ (Nat.zero_add _) (scM.refl _) rfl (fun g hg => absurd hg (Nat.not_lt_zero _))
    | succ j ih =>
      intro i μ1 v3 hj hs hb
      refine s_X8_laysSets_10 (by omega) ?_
      have hM1 := hM.sc hs
      obtain ⟨g1, g2⟩ := hM1.1.vw hv
      obtain ⟨r, hr⟩ : ∃ r, (getV S.1 v)[i]? = some r := ⟨_, List.getElem?_eq_getElem (by omega)⟩
      have hrr := okv.2 r (List.mem_of_getElem? hr)
      rw [nI_4, nI_clamp (show 4 + v < 2 ^ 31 by omega), g1, nI_vw, nI_clamp (show 56 + 40 * v + i < 2 ^ 31 by omega), g2 i r hr, nI_1 i]
      refine ⟨vp_in_nI (by omega) (by decide), fun w => absurd w (nI_ge (by omega) (by omega)), fun _ => ⟨vp_in_nI (by omega) (by decide), ?_⟩⟩
      refine ih (i + 1) _ _ (by omega) (hs.trans (scM_sJ _ _ _ _ (by decide) (by decide))) ?_
      rw [sJ_at, if_pos rfl, List.take_add_one, hr]
      exact (hb.row (a := r) (by omega)).congr fun x _ => (inL_app _ _ _).symm
  exact loop (getV S.1 v).length 0 _ _ (Nat.zero_add _) (scM_sJ _ _ _ _ (by decide) (by decide)) (by rw [sJ_at, if_pos rfl]; exact bsI.zero.congr fun _ _ => rfl)
theorem take_stood (T : aT) (r : Nat) : ∀ (l : List aFil) (f : Nat), f ≤ l.length → ((l.take f).all fun q => aPass T q r) = decide (f ≤ stood T l r)
  | _, 0, _ => by simp
  | [], f + 1, h => absurd h (Nat.not_succ_le_zero _)
  | q :: t, f + 1, h => by
    have ih := take_stood T r t f (Nat.le_of_succ_le_succ h)
    unfold stood
    rw [List.take_succ_cons, List.all_cons, ih]
    cases hp : aPass T q r with
    | true =>
      rw [Bool.true_and, if_pos rfl]
      exact decide_eq_decide.mpr ⟨fun w => by omega, fun w => by omega⟩
    | false =>
      rw [Bool.false_and, if_neg (by decide)]
      exact (decide_eq_false (by omega)).symm
def lkN (T : aT) (l : List Nat) : Nat → Nat
  | 0 => 0
  | f + 1 => lkN T l f + (l.filter fun r => allF T r f).length
theorem lkN_sum (T : aT) (l : List Nat) : ∀ f, f ≤ T.2.2.2.2.2.length → lkN T l f = (l.map fun r => min f (stood T T.2.2.2.2.2 r + 1)).sum
  | 0, _ => by
    show 0 = _
    induction l with
    | nil => rfl
    | cons a t ih => simp only [List.map_cons, List.sum_cons]; omega
  | f + 1, h => by
    have ih := lkN_sum T l f (by omega)
    show lkN T l f + _ = _
    rw [ih]
    clear ih
    induction l with
    | nil => rfl
    | cons a t ih =>
      have ea : allF T a f = decide (f ≤ stood T T.2.2.2.2.2 a) := take_stood T a _ f (by omega)
      simp only [List.map_cons, List.sum_cons]
      by_cases q : f ≤ stood T T.2.2.2.2.2 a
      · rw [List.filter_cons_of_pos (by rw [ea]; exact decide_eq_true q), List.length_cons]
        omega
      · rw [List.filter_cons_of_neg (by rw [ea, decide_eq_false q]; decide)]
        omega
theorem lkN_end (T : aT) (l : List Nat) : lkN T l T.2.2.2.2.2.length = (l.map (look1 T)).sum := by
  rw [lkN_sum T l _ (Nat.le_refl _)]
  congr 1
  refine List.map_congr_left fun r _ => ?_
  have h1 := stood_le T T.2.2.2.2.2 r
  unfold look1
  split <;> omega
theorem m_lookedE {d v : Nat} {S : aS} {μ : mmMem} {P : Option Value → mmMem → Prop} (hd : 1 ≤ d) (hM : MS μ S) (hs : setsM μ S.1 (getV S.1 v)) (h : P (some (.int (nI ((getV S.1 v).map (look1 S.1)).sum))) μ) : ∀ (j f : Nat) (x : Int64), f + j = S.1.2.2.2.2.2.length → bsI x (fun r => inL (getV S.1 v) r && allF S.1 r f) → mmEnds d M_X8_looked 28 [.ref 160, .int (nI v), .long x, .retAddr 7, .int (nI (lkN S.1 (getV S.1 v) f)), .int (nI f)] [] μ P := by
  have l8 := hM.2.1.2.2.2.2.2.2.2.1
  have okv := hM.2.1.vw v
  have h40 := hM.2.1.1
  intro j
  induction j with
  | zero =>
    intro f x hj hb
    refine s_X8_looked_28 (by omega) ?_
    have e : f = S.1.2.2.2.2.2.length := by omega
    subst e
    rw [hM.1.1.2.2.2, lkN_end]
    exact ⟨fun _ => h, fun w => absurd (nI_le (Nat.le_refl _) (by omega)) w⟩
  | succ j ih =>
    intro f x hj hb
    refine s_X8_looked_28 (by omega) ?_
    obtain ⟨q, hq⟩ : ∃ q, S.1.2.2.2.2.2[f]? = some q := ⟨_, List.getElem?_eq_getElem (by omega)⟩
    rw [hM.1.1.2.2.2]
    refine ⟨fun w => absurd w (nI_ge (by omega) (by omega)), fun _ => ?_⟩
    refine m_many hd hb ?_
    rw [cnt_filter (fun r => allF S.1 r f) okv.1 (fun r hr => by have := okv.2 r hr; omega), nI_clamp (show f < 2 ^ 31 by omega), nI_add, nI_1 f]
    refine ⟨vp_in_nI (by omega) (by decide), ?_⟩
    refine ih (f + 1) _ (by omega) ((hb.and (hs.2 f (by omega))).congr fun r hr => ?_)
    rw [allF_s hq, passI_at hq]
    cases hi : inL (getV S.1 v) r with
    | false => simp
    | true =>
      have hm : r ∈ getV S.1 v := by unfold inL at hi; exact List.contains_iff_mem.mp hi
      have := okv.2 r hm
      simp [this]
theorem m_looked {d : Nat} {v : Int32} {S : aS} {μ : mmMem} {K : Int32 → mmMem → Prop} (hd : 9 ≤ d) (hM : MS μ S) (h : ∀ ν, MS ν (sp_looked v S).2 → loE μ ν → K (sp_looked v S).1 ν) : mmCI d M_X8_looked false 1 [.ref 160, .int v] μ K := by
  refine u_X8_looked (by omega) ?_
  refine m_isView (by omega) ?_
  unfold sp_looked at h
  by_cases nv : noView v
  · rw [if_pos nv] at h ⊢
    exact ⟨fun w => absurd rfl w, fun _ => h μ hM (loE.refl _)⟩
  · rw [if_neg nv] at h ⊢
    refine ⟨fun _ => ?_, fun w => absurd w (by decide)⟩
    obtain ⟨v, hv, rfl⟩ := view_of nv
    rw [nI_clamp (by omega)] at h
    refine m_lays (by omega) hv hM (fun ν u sm => ?_)
    have hM1 := hM.sc u
    exact m_lookedE (S := S) (by omega) hM1 sm (h ν hM1 u.lo) S.1.2.2.2.2.2.length 0 _ (Nat.zero_add _) (sm.1.congr fun r _ => by simp [allF])
