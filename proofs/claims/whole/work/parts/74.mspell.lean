/-! ===== the model: a column's text ===== -/
def spM (μ : mmMem) (l : List Int32) : Prop := μ.1 160 18 = nI l.length ∧ ∀ i x, l[i]? = some x → μ.1 172 i = x
def adM (μ : mmMem) (n : Nat) (x : Int32) : mmMem := sI (sI μ 172 n x) 160 18 (nI (n + 1))
theorem adM_sc (μ : mmMem) (n : Nat) (x : Int32) : scM μ (adM μ n x) := (scM_sI _ _ _ _ (by decide) (by decide)).trans (scM_own _ _ _ (by decide) (by decide))
theorem adM_18 (μ : mmMem) (n : Nat) (x : Int32) : (adM μ n x).1 160 18 = nI (n + 1) := by unfold adM; rw [sI_at, if_pos rfl]
theorem spM.add {μ : mmMem} {l : List Int32} (x : Int32) (hs : spM μ l) : spM (adM μ l.length x) (l ++ [x]) := by
  refine ⟨by rw [adM_18, List.length_append]; rfl, fun i y hy => ?_⟩
  have e : (adM μ l.length x).1 172 i = if i = l.length then x else μ.1 172 i := by
    unfold adM
    rw [sI_1 _ _ _ _ _ (by decide), sI_at]
  rw [e]
  by_cases q : i = l.length
  · subst q
    rw [List.getElem?_append_right (Nat.le_refl _), Nat.sub_self] at hy
    rw [if_pos rfl]
    exact (Option.some.inj hy)
  · have hlt := lt_of_get hy
    rw [List.length_append] at hlt
    have hlt : i < l.length + 1 := hlt
    rw [List.getElem?_append_left (by omega)] at hy
    rw [if_neg q]
    exact hs.2 i y hy
theorem m_nmD {d k : Nat} {v : Int64} {P : Option Value → mmMem → Prop} (hd : 1 ≤ d) : ∀ (j : Nat) (l : List Int32) (μ : mmMem) (v7 v8 : Value), j < 19 → l.length + j + 1 ≤ 1000 → spM μ l → (∀ ν, spM ν (l ++ (ds v j).reverse) → scM μ ν → P none ν) → mmEnds d M_X8_writesNumber 38 [.ref 160, .long v, .retAddr 7, .long (pw k), .retAddr 7, .long (pw j), .retAddr 7, v7, v8] [] μ P := by
  intro j
  induction j with
  | zero =>
    intro l μ v7 v8 hj hl hs h
    refine s_X8_writesNumber_38 (by omega) ?_
    obtain ⟨-, p1, p2⟩ := pw_ok 0 (by decide)
    obtain ⟨f1, f2⟩ := fig_d _ (fig_in (v / pw 0))
    have ed : dig (dvk 0 v) = dig (v / pw 0) := by rw [dvk_p (by decide)]
    have h2 : ∀ x : Int32, dig (v / pw 0) = x → P none (adM μ l.length x) := fun x e => by
      refine h _ ?_ (adM_sc _ _ _)
      have : (ds v 0).reverse = [x] := by
        show [dig (dvk 0 v)] = [x]
        rw [ed, e]
      rw [this]
      exact hs.add x
    rw [hs.1, nI_clamp (by omega), nI_1]
    have stop : ∀ (x : Int64) (v7 v8 : Value) (ν : mmMem), P none ν → mmEnds d M_X8_writesNumber 38 [.ref 160, .long v, .retAddr 7, .long (pw k), .retAddr 7, .long (pw 0 / 10), .retAddr 7, v7, v8] [] ν P := fun x v7 v8 ν hp => s_X8_writesNumber_38 (by omega) ⟨fun _ => hp, fun w => absurd (by decide) w⟩
    refine ⟨fun w => absurd w p2, fun _ => ⟨p1, fun w => ⟨vp_in_nI (by omega) (by decide), stop 0 _ _ _ (h2 _ (f1 w))⟩, fun w => ⟨vp_in_nI (by omega) (by decide), stop 0 _ _ _ (h2 _ (f2 w))⟩⟩⟩
  | succ j ih =>
    intro l μ v7 v8 hj hl hs h
    refine s_X8_writesNumber_38 (by omega) ?_
    obtain ⟨-, p1, p2⟩ := pw_ok (j + 1) hj
    obtain ⟨f1, f2⟩ := fig_d _ (fig_in (v / pw (j + 1)))
    have ed : dig (dvk (j + 1) v) = dig (v / pw (j + 1)) := by rw [dvk_p hj]
    have h2 : ∀ (x : Int32) (v7 v8 : Value), dig (v / pw (j + 1)) = x → mmEnds d M_X8_writesNumber 38 [.ref 160, .long v, .retAddr 7, .long (pw k), .retAddr 7, .long (pw j), .retAddr 7, v7, v8] [] (adM μ l.length x) P := fun x v7 v8 e => by
      refine ih (l ++ [x]) _ v7 v8 (by omega) (by rw [List.length_append]; simp; omega) (hs.add x) (fun ν s u => h ν ?_ ((adM_sc _ _ _).trans u))
      rw [ds_s, List.reverse_append, ed, e]
      rw [List.append_assoc] at s
      exact s
    rw [hs.1, nI_clamp (by omega), nI_1, pw_d j (by omega)]
    exact ⟨fun w => absurd w p2, fun _ => ⟨p1, fun w => ⟨vp_in_nI (by omega) (by decide), h2 _ _ _ (f1 w)⟩, fun w => ⟨vp_in_nI (by omega) (by decide), h2 _ _ _ (f2 w)⟩⟩⟩
theorem m_nmB {d : Nat} {v : Int64} {P : Option Value → mmMem → Prop} (μ : mmMem) (h : ∀ k, k < 19 → (∀ i, i < k → dvk (i + 1) v ≠ 0) → dvk (k + 1) v = 0 → ∀ v7 v8, mmEnds d M_X8_writesNumber 38 [.ref 160, .long v, .retAddr 7, .long (pw k), .retAddr 7, .long (pw k), .retAddr 7, v7, v8] [] μ P) : ∀ (j k : Nat) (v5 v6 v7 v8 : Value), k + j = 18 → (∀ i, i < k → dvk (i + 1) v ≠ 0) → mmEnds d M_X8_writesNumber 14 [.ref 160, .long v, .retAddr 7, .long (pw k), .retAddr 7, v5, v6, v7, v8] [] μ P := by
  intro j
  induction j with
  | zero =>
    intro k v5 v6 v7 v8 hk hi
    refine s_X8_writesNumber_14 (by omega) ?_
    have ek : k = 18 := by omega
    rw [dvk_p (by omega), ← dvk_s, lg0]
    have z : dvk (k + 1) v = 0 := by rw [ek]; exact dvk_19 v
    exact ⟨(pw_ok k (by omega)).2.1, fun _ => h k (by omega) hi z _ _, fun n => absurd z n⟩
  | succ j ih =>
    intro k v5 v6 v7 v8 hk hi
    refine s_X8_writesNumber_14 (by omega) ?_
    rw [dvk_p (by omega), ← dvk_s, lg0]
    refine ⟨(pw_ok k (by omega)).2.1, fun z => h k (by omega) hi z _ _, fun n => ?_⟩
    exact ih (k + 1) _ _ _ _ (by omega) (fun i hi2 => by
      by_cases e : i = k
      · rw [e]; exact n
      · exact hi i (by omega))
theorem m_num {d : Nat} {v : Int64} {l : List Int32} {μ : mmMem} {K : mmMem → Prop} (hd : 2 ≤ d) (hl : l.length + 21 ≤ 1000) (hs : spM μ l) (h : ∀ ν, spM ν (l ++ numS v) → scM μ ν → K ν) : mmC0 d M_X8_writesNumber false 1 [.ref 160, .long v] μ K := by
  refine u_X8_writesNumber (by omega) ?_
  unfold numS at h
  have go : ∀ (m : List Int32) (μ1 : mmMem), l.length ≤ m.length → m.length ≤ l.length + 1 → spM μ1 m → scM μ μ1 → (∀ ν, spM ν (m ++ (digs 20 true v).reverse) → scM μ ν → K ν) → ∀ v5 v6 v7 v8, mmEnds (d - 1) M_X8_writesNumber 14 [.ref 160, .long v, .retAddr 7, .long (pw 0), .retAddr 7, v5, v6, v7, v8] [] μ1 (mmP0 K) := fun m μ1 hm0 hm s1 u1 hk v5 v6 v7 v8 => by
    refine m_nmB μ1 (fun k hk19 hi hz v7 v8 => ?_) 18 0 _ _ _ _ rfl (fun i hi => absurd hi (Nat.not_lt_zero _))
    refine m_nmD (by omega) k m μ1 v7 v8 hk19 (by omega) s1 (fun ν s u => hk ν ?_ (u1.trans u))
    rw [digs_ds k 20 true v (by omega) (Or.inl rfl) hi hz]
    exact s
  rw [hs.1, nI_clamp (by omega), nI_1]
  refine ⟨fun w => ?_, fun w => ⟨vp_in_nI (by omega) (by decide), ?_⟩⟩
  · rw [if_pos w, List.nil_append] at h
    exact go l μ (Nat.le_refl _) (by omega) hs (scM.refl _) h _ _ _ _
  · rw [if_neg w] at h
    refine go (l ++ [45]) (adM μ l.length 45) (by rw [List.length_append]; simp) (by rw [List.length_append]; simp) (hs.add 45) (adM_sc _ _ _) (fun ν s u => h ν ?_ u) _ _ _ _
    rw [List.append_assoc] at s
    exact s
theorem m_cellN {d : Nat} {x : aC} {l : List Int32} {μ : mmMem} {K : mmMem → Prop} (hd : 2 ≤ d) (ok : okC x) (hl : l.length + 21 ≤ 1000) (hs : spM μ l) (h : ∀ ν, spM ν (l ++ numS (numOf x)) → scM μ ν → K ν) : (¬ x.1 = (6 : Int32) → (¬ x.1 = (7 : Int32) → mmC0 d M_X8_writesNumber false 1 [.ref 160, .long x.2] μ fun ν21 => K ν21) ∧ (x.1 = (7 : Int32) → mmCD d M_X8_doubleOf true 1 [.long x.2] μ fun y24 ν23 => (vf_n64 (FP.dmul y24 (4616189618054758400 : UInt64))) ∧ (mmC0 d M_X8_writesNumber false 1 [.ref 160, .long (FP.d2l (FP.dmul y24 (4616189618054758400 : UInt64)))] ν23 fun ν27 => K ν27))) ∧ (x.1 = (6 : Int32) → mmCF d M_X8_floatOf true 1 [.long x.2] μ fun y31 ν30 => (vf_n32 (FP.fmul y31 (1082130432 : UInt32))) ∧ (mmC0 d M_X8_writesNumber false 1 [.ref 160, .long (FP.f2l (FP.fmul y31 (1082130432 : UInt32)))] ν30 fun ν34 => K ν34)) := by
  have okv := ok.val
  refine ⟨fun n6 => ⟨fun n7 => ?_, fun e7 => ?_⟩, fun e6 => ?_⟩
  · have q : ¬ (x.1 = 6 ∨ x.1 = 7) := by rintro (w | w); exact n6 w; exact n7 w
    have e2 : numOf x = x.2 := if_neg q
    rw [e2] at h
    exact m_num hd hl hs h
  · have ev : aVal x = bD x.2 := by unfold aVal; rw [if_neg (by rw [e7]; decide), if_pos e7]
    have en : numOf x = FP.d2l (FP.dmul (aVal x) (4616189618054758400 : UInt64)) := if_pos (Or.inr e7)
    have m4 := f_mul4 okv
    rw [ev] at m4 en okv
    rw [en] at h
    exact m_doubleOf hd okv ⟨m4, m_num hd hl hs h⟩
  · have okf : ofF (bF x.2) = x.2 ∧ okF (bF x.2) := by
      obtain ⟨s, n⟩ := x
      have e6 : s = 6 := e6
      subst e6
      simpa [okC] using ok
    have ev : aVal x = FP.f2d (bF x.2) := by unfold aVal; rw [if_pos e6]
    have en : numOf x = FP.d2l (FP.dmul (aVal x) (4616189618054758400 : UInt64)) := if_pos (Or.inl e6)
    rw [en, ev, f_f2dC okf.2, ← f_x4 okf.2] at h
    exact m_floatOf hd okf.2 ⟨f_n32' (f_x4n okf.2).2, m_num hd hl hs h⟩
theorem m_cell {d : Nat} {kd : Int32} {x : aC} {l : List Int32} {μ : mmMem} {K : mmMem → Prop} (hS : strOK) (hd : 7 ≤ d) (ok : okC x) (hl : l.length + 23 ≤ 1000) (hs : spM μ l) (h : ∀ ν, spM ν (l ++ itemS kd x) → scM μ ν → K ν) : mmC0 d M_X8_writesCell false 3 [.ref 160, .int kd, .int x.1, .long x.2] μ K := by
  refine u_X8_writesCell (by omega) ?_
  have ap : ∀ (m : List Int32) (a : Int32) (b : List Int32), m ++ [a] ++ b = m ++ (a :: b) := fun m a b => by rw [List.append_assoc]; rfl
  unfold itemS at h
  refine ⟨fun n1 => ⟨fun n8 => ⟨fun n9 => ?_, fun e9 => ?_⟩, fun e8 => ?_⟩, fun e1 => ?_⟩
  · rw [if_neg n1, if_neg n8, if_neg n9, List.nil_append] at h
    exact m_cellN (by omega) ok (by omega) hs h
  · rw [if_neg n1, if_neg n8, if_pos e9] at h
    obtain ⟨k, k8, ek⟩ := ok.kind n1 n8
    rw [ek, nI_clamp (by omega)] at h
    have s1 := hs.add (ltr k)
    have cn := m_cellN (d := d - 1) (K := K) (by omega) ok (l := l ++ [ltr k]) (by rw [List.length_append]; simp; omega) s1 (fun ν s u => h ν (by rw [ap] at s; exact s) ((adM_sc _ _ _).trans u))
    have cAt : mmCI (d - 1) M_J0_charAt_5068e false 1 [.retAddr 0, .int x.1] μ fun y ν => ν = μ ∧ y = ltr k := by
      rw [ek]
      exact hS.2 _ k _ _ (by omega) (by omega) ⟨rfl, rfl⟩
    refine mmCI.mono cAt (fun y ν w => ?_)
    obtain ⟨rfl, rfl⟩ := w
    rw [hs.1, nI_clamp (by omega), nI_1]
    exact ⟨vp_in_nI (by omega) (by decide), cn⟩
  · rw [if_neg n1, if_pos e8] at h
    have hw : 1 ≤ x.2 ∧ x.2 ≤ 702 := by
      obtain ⟨s, n⟩ := x
      have e8 : s = 8 := e8
      subst e8
      simpa [okC] using ok
    obtain ⟨w1, w2, w3⟩ := wd_all hw.1 hw.2
    unfold wordS at h
    refine ⟨fun n9 => ⟨fun g27 => ?_, fun l27 => ?_⟩, fun e9 => ?_⟩
    · rw [if_neg n9, List.nil_append, if_neg (w1.mp g27)] at h
      obtain ⟨w4, w5⟩ := w3 g27
      rw [hs.1, nI_clamp (by omega), nI_1, nI_clamp (by omega), nI_1, w4, w5]
      have s1 := hs.add (((97 : Int64) + (x.2 - 27) / 26).toInt32)
      have s2 := s1.add (((97 : Int64) + ((x.2 - 27) - (x.2 - 27) / 26 * 26)).toInt32)
      rw [ap] at s2
      have el : (l ++ [((97 : Int64) + (x.2 - 27) / 26).toInt32]).length = l.length + 1 := by rw [List.length_append]; rfl
      rw [el] at s2
      exact ⟨vp_in_nI (by omega) (by decide), vp_in_nI (by omega) (by decide), h _ s2 ((adM_sc _ _ _).trans (adM_sc _ _ _))⟩
    · rw [if_neg n9, List.nil_append, if_pos (Classical.not_not.mp fun z => l27 (w1.mpr z))] at h
      rw [hs.1, nI_clamp (by omega), nI_1, w2]
      exact ⟨vp_in_nI (by omega) (by decide), h _ (hs.add _) (adM_sc _ _ _)⟩
    · rw [if_pos e9] at h
      have s0 := hs.add 39
      have el0 : (l ++ [(39 : Int32)]).length = l.length + 1 := by rw [List.length_append]; rfl
      rw [hs.1, nI_clamp (by omega), nI_1 l.length, nI_clamp (by omega), nI_1 (l.length + 1), nI_clamp (by omega), nI_1 (l.length + 1 + 1)]
      refine ⟨vp_in_nI (by omega) (by decide), fun g27 => ?_, fun l27 => ?_⟩
      · rw [if_neg (w1.mp g27)] at h
        obtain ⟨w4, w5⟩ := w3 g27
        rw [w4, w5]
        have s1 := s0.add (((97 : Int64) + (x.2 - 27) / 26).toInt32)
        have s2 := s1.add (((97 : Int64) + ((x.2 - 27) - (x.2 - 27) / 26 * 26)).toInt32)
        have el : (l ++ [(39 : Int32)] ++ [((97 : Int64) + (x.2 - 27) / 26).toInt32]).length = l.length + 1 + 1 := by rw [List.length_append, List.length_append]; rfl
        rw [el0, el, ap, ap] at s2
        exact ⟨vp_in_nI (by omega) (by decide), vp_in_nI (by omega) (by decide), h _ s2 (((adM_sc _ _ _).trans (adM_sc _ _ _)).trans (adM_sc _ _ _))⟩
      · rw [if_pos (Classical.not_not.mp fun z => l27 (w1.mpr z))] at h
        rw [w2]
        have s1 := s0.add ((((97 : Int64) + x.2) - 1).toInt32)
        rw [el0, ap] at s1
        exact ⟨vp_in_nI (by omega) (by decide), h _ s1 ((adM_sc _ _ _).trans (adM_sc _ _ _))⟩
  · rw [if_pos e1] at h
    rw [hs.1, nI_clamp (by omega), nI_1]
    exact ⟨vp_in_nI (by omega) (by decide), h _ (hs.add 95) (adM_sc _ _ _)⟩
theorem m_spE {d k : Nat} {i x3 : Int32} {S : aS} {col : aCol} {P : Option Value → mmMem → Prop} (hS : strOK) (hd : 7 ≤ d) (hcol : S.1.2.1[k]? = some col) (μ0 : mmMem) (h : ∀ ν, MS ν S → scM μ0 ν → P (some (.int (if i < 0 ∨ ¬ i < nI (spellS col S.1.1).length then -5 else (spellS col S.1.1).getD i.toNatClampNeg 0))) ν) : ∀ (j r : Nat) (μ : mmMem), r + j = S.1.1 → MS μ S → scM μ0 μ → spM μ ([ltr col.1.toNatClampNeg, 40] ++ itemsS col.1 col.2.2 r) → mmEnds d M_X8_spelled 41 [.ref 160, .int (nI k), .int i, .int x3, .int (nI r)] [] μ P := by
  intro j
  induction j with
  | zero =>
    intro r μ hj hM hsc hs
    have h40 := hM.2.1.1
    have e : r = S.1.1 := by omega
    subst e
    have hln := itemsS_len col.1 col.2.2 S.1.1
    obtain ⟨L, hL⟩ : ∃ L, L = ([ltr col.1.toNatClampNeg, 40] ++ itemsS col.1 col.2.2 S.1.1).length := ⟨_, rfl⟩
    have hL2 : L ≤ 922 := by rw [hL, List.length_append]; simp; omega
    have h18 : μ.1 160 18 = nI L := by rw [hs.1, ← hL]
    have s1 : spM (adM μ L 41) (spellS col S.1.1) := by
      have := hs.add 41
      rw [← hL] at this
      exact this
    have hl2 : (spellS col S.1.1).length = L + 1 := by
      unfold spellS
      rw [List.length_append, ← hL]
      rfl
    have es : nI (L + 1) - 1 = nI L := nI_pred _
    have u1 : scM μ (adM μ L 41) := adM_sc _ _ _
    have M1 := hM.sc u1
    have h2 := h _ M1 (hsc.trans u1)
    rw [hl2] at h2
    refine s_X8_spelled_41 (by omega) ?_
    rw [hM.1.1.1, h18, nI_clamp (show L < 2 ^ 31 by omega), nI_1 L, es]
    refine ⟨fun _ => ⟨vp_in_nI (by omega) (by decide), ?_⟩, fun w => absurd (nI_le (Nat.le_refl _) (by omega)) w⟩
    refine m_isInI (a := 0) (b := nI L) (by omega) rfl rfl ?_
    by_cases q : ¬ i < 0 ∧ ¬ nI L < i
    · rw [if_pos q]
      obtain ⟨m, hm, rfl⟩ := nI_of q.1
      have hmL : m ≤ L := Nat.not_lt.mp fun w => q.2 ((nI_ltI (by omega) hm).mpr w)
      refine ⟨fun w => absurd w (by decide), fun _ => ?_⟩
      rw [if_neg (by rintro (z | z); exact q.1 z; exact z ((nI_ltI hm (by omega)).mpr (by omega))), nI_clamp hm] at h2
      have hx : (spellS col S.1.1)[m]? = some ((spellS col S.1.1).getD m 0) := by
        rw [List.getD_eq_getElem?_getD, List.getElem?_eq_getElem (by omega)]; rfl
      have g := s1.2 m _ hx
      unfold adM at g
      rw [nI_clamp hm, g]
      exact ⟨vp_in_nI (by omega) (by decide), h2⟩
    · rw [if_neg q]
      have q2 : i < 0 ∨ ¬ i < nI (L + 1) := by
        by_cases z : i < 0
        · exact Or.inl z
        · right
          intro w
          obtain ⟨m, hm, rfl⟩ := nI_of z
          have := (nI_ltI hm (by omega)).mp w
          exact q ⟨z, fun w2 => by have := (nI_ltI (by omega) hm).mp w2; omega⟩
      rw [if_pos q2] at h2
      exact ⟨fun _ => h2, fun w => absurd rfl w⟩
  | succ j ih =>
    intro r μ hj hM hsc hs
    have h40 := hM.2.1.1
    have h12 := hM.2.1.2.1
    have lk := lt_of_get hcol
    have hln := itemsS_len col.1 col.2.2 r
    have hL : ([ltr col.1.toNatClampNeg, 40] ++ itemsS col.1 col.2.2 r).length ≤ 2 + 23 * r := by rw [List.length_append]; simp; omega
    obtain ⟨g1, g2, g3⟩ := hM.1.2.1 k col hcol
    obtain ⟨z1, z2⟩ := g3 r (by omega)
    have oc := hM.2.1.2.2.1 col (List.mem_of_getElem? hcol)
    have okx := (oc.2.2 r (by omega)).1
    have e6 : (6 : Int32) + nI k = nI (6 + k) := nI_addr 6 k
    refine s_X8_spelled_41 (by omega) ?_
    rw [hM.1.1.1, hs.1, e6, nI_plc, nI_136, nI_clamp (show 6 + k < 2 ^ 31 by omega), nI_clamp (show 136 + (40 * k + r) < 2 ^ 31 by omega), nI_clamp (show 40 * k + r < 2 ^ 31 by omega), nI_clamp (show ([ltr col.1.toNatClampNeg, 40] ++ itemsS col.1 col.2.2 r).length < 2 ^ 31 by omega), g1, z1, z2, nI_1 r, nI_1 ([ltr col.1.toNatClampNeg, 40] ++ itemsS col.1 col.2.2 r).length]
    have v1 : vp_in (nI (6 + k)) 616 := vp_in_nI (by omega) (by decide)
    have v2 : vp_in (nI (136 + (40 * k + r))) 616 := vp_in_nI (by omega) (by decide)
    have v3 : vp_in (nI (40 * k + r)) 486 := vp_in_nI (by omega) (by decide)
    refine ⟨fun w => absurd w (nI_ge (by omega) (by omega)), fun _ => ⟨fun w => ⟨v1, v2, v3, ?_⟩, fun w => ⟨vp_in_nI (by omega) (by decide), v1, v2, v3, ?_⟩⟩⟩
    · have r0 : r = 0 := Nat.le_zero.mp ((nI_leI (b := 0) (by omega) (by decide)).mp w)
      refine m_cell hS hd okx (by omega) hs (fun ν s u => ih (r + 1) ν (by omega) (hM.sc u) (hsc.trans u) ?_)
      have e : itemsS col.1 col.2.2 (r + 1) = itemsS col.1 col.2.2 r ++ itemS col.1 (col.2.2 r) := by
        show itemsS col.1 col.2.2 r ++ ((if r = 0 then [] else [44]) ++ itemS col.1 (col.2.2 r)) = _
        rw [if_pos r0]; rfl
      rw [e, ← List.append_assoc]
      exact s
    · have r0 : ¬ r = 0 := fun e => w (by rw [e]; decide)
      have u1 : scM μ (adM μ ([ltr col.1.toNatClampNeg, 40] ++ itemsS col.1 col.2.2 r).length 44) := adM_sc _ _ _
      refine m_cell hS hd okx (l := ([ltr col.1.toNatClampNeg, 40] ++ itemsS col.1 col.2.2 r) ++ [44]) (by rw [List.length_append]; simp only [List.length_singleton]; omega) (hs.add 44) (fun ν s u => ih (r + 1) ν (by omega) ((hM.sc u1).sc u) ((hsc.trans u1).trans u) ?_)
      have e : itemsS col.1 col.2.2 (r + 1) = itemsS col.1 col.2.2 r ++ ([44] ++ itemS col.1 (col.2.2 r)) := by
        show itemsS col.1 col.2.2 r ++ ((if r = 0 then [] else [44]) ++ itemS col.1 (col.2.2 r)) = _
        rw [if_neg r0]
      rw [e, ← List.append_assoc, ← List.append_assoc]
      exact s
theorem m_spelled {d : Nat} {c i : Int32} {S : aS} {μ : mmMem} {K : Int32 → mmMem → Prop} (hS : strOK) (hd : 8 ≤ d) (hM : MS μ S) (h : ∀ ν, MS ν (sp_spelled c i S).2 → loE μ ν → K (sp_spelled c i S).1 ν) : mmCI d M_X8_spelled false 2 [.ref 160, .int c, .int i] μ K := by
  refine u_X8_spelled (by omega) ?_
  refine m_amiss (by omega) hM (fun ν hν hh => ?_)
  unfold sp_spelled at h
  refine ⟨fun q => ?_, fun q => ?_⟩
  · obtain ⟨k, col, hk, rfl, hcol, hg⟩ := cref_0 q
    rw [withC_ok hk q hcol] at h
    rw [q] at hν
    have hν : MS ν S := hν
    obtain ⟨g1, g2, g3⟩ := hν.1.2.1 k col hcol
    have okc := hν.2.1.2.2.1 col (List.mem_of_getElem? hcol)
    have e6 : (6 : Int32) + nI k = nI (6 + k) := nI_addr 6 k
    obtain ⟨n, hn, en⟩ : ∃ n, n < 11 ∧ col.1 = nI n := by
      obtain ⟨n, hn, en⟩ := nI_of (x := col.1) (fun w => by
        rw [Int32.lt_iff_toInt_lt] at w
        exact absurd okc.1 (Int.not_le.mpr w))
      refine ⟨n, ?_, en⟩
      have l11 : col.1 < (11 : Int32) := by
        rw [Int32.lt_iff_toInt_lt]
        have e11 : (11 : Int32).toInt = 11 := rfl
        have := okc.2.1
        omega
      rw [en] at l11
      exact (nI_ltI hn (by decide : (11 : Nat) < 2 ^ 31)).mp l11
    rw [e6, nI_clamp (show 6 + k < 2 ^ 31 by omega), g1]
    refine ⟨vp_in_nI (by omega) (by decide), ?_⟩
    have u0 : scM ν (sI ν 160 18 0) := scM_own _ _ _ (by decide) (by decide)
    have hs0 : spM (sI ν 160 18 0) [] := ⟨by rw [sI_at, if_pos rfl]; rfl, fun i x hx => by cases hx⟩
    have s1 := (hs0.add (ltr n)).add 40
    have cAt : mmCI (d - 1) M_J0_charAt_5068e false 1 [.retAddr 0, .int col.1] (sI ν 160 18 0) fun y ξ => ξ = sI ν 160 18 0 ∧ y = ltr n := by
      rw [en]
      exact hS.2 _ n _ _ (by omega) hn ⟨rfl, rfl⟩
    refine mmCI.mono cAt (fun y ξ w => ?_)
    obtain ⟨rfl, rfl⟩ := w
    have z18 : (sI ν 160 18 0).1 160 18 = nI 0 := by rw [sI_at, if_pos rfl]; rfl
    rw [z18, nI_clamp (by decide), nI_1 0, nI_clamp (by decide), nI_1 (0 + 1)]
    have u2 : scM ν (adM (adM (sI ν 160 18 0) 0 (ltr n)) (0 + 1) 40) := (u0.trans (adM_sc _ _ _)).trans (adM_sc _ _ _)
    refine ⟨vp_in_nI (by decide) (by decide), vp_in_nI (by decide) (by decide), ?_⟩
    refine m_spE (S := S) hS (by omega) hcol ν (fun ν2 m2 l2 => h ν2 m2 (hh.trans l2.lo)) S.1.1 0 _ (Nat.zero_add _) (hν.sc u2) u2 ?_
    rw [en, nI_clamp (by omega)]
    exact s1
  · rw [withC_no q] at h
    exact h ν hν hh
