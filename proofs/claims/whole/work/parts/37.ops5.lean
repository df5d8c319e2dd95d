/-! ===== the class: views, keys, filters ===== -/
def getV (T : aT) (v : Nat) : List Nat := if v = 0 then T.2.2.1 else T.2.2.2.1
def setV (T : aT) (v : Nat) (l : List Nat) : aT := if v = 0 then (T.1, T.2.1, l, T.2.2.2) else (T.1, T.2.1, T.2.2.1, l, T.2.2.2.2)
abbrev noView (v : Int32) : Prop := v < 0 ∨ 2 ≤ v
theorem view_of {v : Int32} (h : ¬ noView v) : ∃ k, k < 2 ∧ v = nI k := by
  have h1 : ¬ v < 0 := fun w => h (Or.inl w)
  have h2 : ¬ 2 ≤ v := fun w => h (Or.inr w)
  obtain ⟨k, hk, rfl⟩ := nI_of h1
  exact ⟨k, Nat.not_le.mp fun w => h2 ((nI_leI (a := 2) (by decide) hk).mpr w), rfl⟩
theorem tabC.vw {μ : mmMem} {T : aT} (h : tabC μ 1 T) {v : Nat} (hv : v < 2) : vwC μ (55 + 2 * v) (getV T v) := by
  have : v = 0 ∨ v = 1 := by omega
  rcases this with rfl | rfl
  · exact h.2.2.1.1
  · exact h.2.2.1.2
theorem okT.vw {T : aT} (h : okT T) (v : Nat) : okV T.1 (getV T v) := by
  unfold getV
  split
  · exact h.2.2.2.1
  · exact h.2.2.2.2.1
theorem tabC.setV {μ ν : mmMem} {T : aT} {v : Nat} {l : List Nat} (h : tabC μ 1 T) (ok : okT T) (hv : v < 2) (f : ∀ q, q ≠ 55 + 2 * v → q ≠ 56 + 2 * v → q < 71 → eq3 μ ν q) (hl : vwC ν (55 + 2 * v) l) : tabC ν 1 (setV T v l) := by
  obtain ⟨⟨h1, h2, h3, h4⟩, h5, ⟨h6, h7⟩, h8, h9⟩ := h
  have e0 := (f 1 (by omega) (by omega) (by omega)).1
  have hcl := ok.2.1
  have hfl := ok.2.2.2.2.2.2.2.1
  have cols : ∀ c col, T.2.1[c]? = some col → colC ν (1 + 6 + 4 * c) T.1 col := fun c col hc => by
    have := lt_of_get hc
    exact (h5 c col hc).fr (f _ (by omega) (by omega) (by omega)) (f _ (by omega) (by omega) (by omega)) (f _ (by omega) (by omega) (by omega)) (f _ (by omega) (by omega) (by omega))
  have keys : ∀ k q, T.2.2.2.2.1[k]? = some q → ν.1 (1 + 3) k = nI q.1 ∧ ν.1 (1 + 4) k = if q.2 = true then 1 else 0 := fun k q hk => by
    rw [(f (1 + 3) (by omega) (by omega) (by omega)).1, (f (1 + 4) (by omega) (by omega) (by omega)).1]
    exact h8 k q hk
  have fils : ∀ i q, T.2.2.2.2.2[i]? = some q → ν.1 (1 + 58 + 2 * i) 0 = nI q.1 ∧ ν.1 (1 + 58 + 2 * i) 1 = q.2.1 ∧ clC ν (1 + 59 + 2 * i) q.2.2 := fun i q hi => by
    have := lt_of_get hi
    obtain ⟨g1, g2, g3⟩ := h9 i q hi
    have e1 := (f (1 + 58 + 2 * i) (by omega) (by omega) (by omega)).1
    exact ⟨by rw [e1]; exact g1, by rw [e1]; exact g2, g3.fr (f _ (by omega) (by omega) (by omega))⟩
  have : v = 0 ∨ v = 1 := by omega
  rcases this with rfl | rfl
  · exact ⟨⟨by rw [e0]; exact h1, by rw [e0]; exact h2, by rw [e0]; exact h3, by rw [e0]; exact h4⟩, cols, ⟨hl, h7.fr (f _ (by omega) (by omega) (by omega)) (f _ (by omega) (by omega) (by omega))⟩, keys, fils⟩
  · exact ⟨⟨by rw [e0]; exact h1, by rw [e0]; exact h2, by rw [e0]; exact h3, by rw [e0]; exact h4⟩, cols, ⟨h6.fr (f _ (by omega) (by omega) (by omega)) (f _ (by omega) (by omega) (by omega)), hl⟩, keys, fils⟩
theorem okT.setV {T : aT} {v : Nat} {l : List Nat} (ok : okT T) (hl : okV T.1 l) : okT (setV T v l) := by
  obtain ⟨h1, h2, h3, h4, h5, h6, h7, h8, h9⟩ := ok
  unfold Jvm.Pilot.CColumnCastsLaw_law_r9684_3c8344.setV
  split
  · exact ⟨h1, h2, h3, hl, h5, h6, h7, h8, h9⟩
  · exact ⟨h1, h2, h3, h4, hl, h6, h7, h8, h9⟩
theorem CS.setV {μ ν : mmMem} {S : aS} {v : Nat} {l : List Nat} (h : CS μ S) (hv : v < 2) (f : ∀ q, q ≠ 55 + 2 * v → q ≠ 56 + 2 * v → (q < 141 ∨ q = 142) → eq3 μ ν q) (e2 : ν.1 141 0 = μ.1 141 0) (hl : vwC ν (55 + 2 * v) l) (okl : okV S.1.1 l) : CS ν (sT S (setV S.1 v l)) :=
  h.tab (h.1.setV h.2.1 hv (fun q h1 h2 h3 => f q h1 h2 (by omega)) hl) (h.2.1.setV okl) (fun q h1 h2 => f q (by omega) (by omega) h2) e2
def sp_view (v : Int32) (S : aS) : Int32 × aS := if noView v then (-1, S) else (nI S.1.1, sT S (setV S.1 v.toNatClampNeg (List.range' 0 S.1.1)))
theorem c_view {d : Nat} {v : Int32} {S : aS} {μ : mmMem} {K : Int32 → mmMem → Prop} (hd : 4 ≤ d) (hC : CS μ S) (h : ∀ ν, CS ν (sp_view v S).2 → hiE μ ν → K (sp_view v S).1 ν) : mmCI d M_X7_view false 1 [.ref 0, .int v] μ K := by
  refine u_X7_view (by omega) ?_
  have bad : noView v → K (-1) μ := fun w => by
    unfold sp_view at h
    rw [if_pos w] at h
    exact h μ hC (hiE.refl _)
  refine ⟨fun a => bad (Or.inl a), fun a => ⟨fun b => bad (Or.inr b), fun b => ?_⟩⟩
  have nv : ¬ noView v := by rintro (w | w); exact a w; exact b w
  have e : sp_view v S = _ := if_neg nv
  rw [e] at h
  obtain ⟨k, hk, rfl⟩ := view_of nv
  rw [nI_clamp (by omega)] at h ⊢
  rw [hC.1.1.1]
  refine c_showAll (by omega) (kvw k hk).1 hC.2.1.1 (hC.1.vw hk) (fun ν f g => ?_)
  rw [(f.1 1 (by omega) (by omega)).1, hC.1.1.1]
  refine h ν (hC.setV hk (fun q h1 h2 _ => f.1 q h1 (by omega)) (by rw [(f.1 141 (by omega) (by omega)).1]) g ⟨List.nodup_range', fun r hr => ?_⟩) (fun q hq => f.1 q (by omega) (by omega))
  have := List.mem_range'_1.mp hr
  omega
def sp_viewed (v i : Int32) (S : aS) : Int32 × aS := if noView v then (-1, S) else if i = -1 then (nI (getV S.1 v.toNatClampNeg).length, S) else if i < 0 ∨ ¬ i < nI (getV S.1 v.toNatClampNeg).length then (-1, S) else (nI ((getV S.1 v.toNatClampNeg).getD i.toNatClampNeg 0), S)
theorem c_viewed {d : Nat} {v i : Int32} {S : aS} {μ : mmMem} {K : Int32 → mmMem → Prop} (hd : 3 ≤ d) (hC : CS μ S) (h : ∀ ν, CS ν (sp_viewed v i S).2 → hiE μ ν → K (sp_viewed v i S).1 ν) : mmCI d M_X7_viewed false 2 [.ref 0, .int v, .int i] μ K := by
  refine u_X7_viewed (by omega) ?_
  unfold sp_viewed at h
  have bad : noView v → K (-1) μ := fun w => by
    rw [if_pos w] at h
    exact h μ hC (hiE.refl _)
  refine ⟨fun a => bad (Or.inl a), fun a => ⟨fun b => bad (Or.inr b), fun b => ?_⟩⟩
  have nv : ¬ noView v := by rintro (w | w); exact a w; exact b w
  rw [if_neg nv] at h
  obtain ⟨k, hk, rfl⟩ := view_of nv
  rw [nI_clamp (by omega)] at h ⊢
  have hv := hC.1.vw hk
  have hln := (hC.2.1.vw k).len
  have h40 := hC.2.1.1
  rw [hv.1]
  refine ⟨fun n1 => ?_, fun e1 => ?_⟩
  · rw [if_neg n1] at h
    refine ⟨fun l => ?_, fun l => ⟨fun l2 => ?_, fun l2 => ?_⟩⟩
    · rw [if_pos (Or.inl l)] at h; exact h μ hC (hiE.refl _)
    · rw [if_neg (by rintro (w | w); exact l w; exact w l2)] at h
      obtain ⟨j, hj, rfl⟩ := nI_of l
      have hlt : j < (getV S.1 k).length := (nI_ltI hj (by omega)).mp l2
      rw [nI_clamp hj] at h ⊢
      refine ⟨vp_in_nI (by omega) (by decide), ?_⟩
      obtain ⟨r, hr⟩ : ∃ r, (getV S.1 k)[j]? = some r := ⟨_, List.getElem?_eq_getElem hlt⟩
      have e2 := hv.2 j r hr
      have e3 : (getV S.1 k).getD j 0 = r := by rw [List.getD_eq_getElem?_getD, hr]; rfl
      rw [e3] at h
      rw [e2]
      exact h μ hC (hiE.refl _)
    · rw [if_pos (Or.inr l2)] at h; exact h μ hC (hiE.refl _)
  · rw [if_pos e1] at h
    exact h μ hC (hiE.refl _)
theorem c_keepThoseE {d a : Nat} {p : Nat → Bool} {l : List Nat} {P : Option Value → mmMem → Prop} (ha : mmKD a = 6) (ha2 : a + 1 < 156) (hll : l.length ≤ 40) : ∀ (j i s : Nat) (μ : mmMem) (k : List Nat), l.length - i = j → i ≤ l.length → vwF μ a l i s k → k = (l.take i).filter p → (∀ i r, l[i]? = some r → μ.1 156 i = if p r = true then 1 else 0) → (∀ ν, vwUpd μ ν a → vwC ν a (l.filter p) → P none ν) → mmEnds d M_X6_keepThose 4 [.ref a, .ref 156, .int (nI s), .int (nI i)] [] μ P := by
  intro j
  induction j with
  | zero =>
    intro i s μ k hj hi hv hk hs h
    refine s_X6_keepThose_4 (by omega) ha kd_156 ?_
    rw [hv.1]
    refine ⟨fun _ => ?_, fun q => absurd (nI_le (by omega) (by omega)) q⟩
    have e : i = l.length := by omega
    rw [e, List.take_length] at hk
    have := hv.done
    rw [hk] at this
    exact h _ (vwUpd.len μ a _) this
  | succ j ih =>
    intro i s μ k hj hi hv hk hs h
    refine s_X6_keepThose_4 (by omega) ha kd_156 ?_
    have hil : i < l.length := by omega
    obtain ⟨r, hr⟩ : ∃ r, l[i]? = some r := ⟨l[i], List.getElem?_eq_getElem hil⟩
    have ht : l.take (i + 1) = l.take i ++ [r] := by rw [List.take_add_one, hr]; rfl
    have hsi := hv.2.2.1
    rw [hv.1, nI_clamp (by omega), hs i r hr, nI_1, nI_1]
    refine ⟨fun q => absurd q (nI_ge (by omega) (by omega)), fun _ => ⟨vp_l ln_156 (vp_in_nI (by omega) (by decide)), fun q => ?_, fun q => ⟨vp_in_nI (by omega) (by decide), vp_in_nI (by omega) (by decide), ?_⟩⟩⟩
    · have hp : p r = false := by
        cases hh : p r with
        | true => rw [hh] at q; exact absurd q (by decide)
        | false => rfl
      refine ih (i + 1) s μ k (by omega) (by omega) hv.skip ?_ hs h
      rw [ht, List.filter_append, ← hk, List.filter_cons_of_neg (by simp [hp])]
      simp
    · have hp : p r = true := by
        cases hh : p r with
        | true => rfl
        | false => rw [hh] at q; exact absurd rfl q
      rw [nI_clamp (by omega), hv.2.2.2.2 i r (Nat.le_refl _) hr]
      refine ih (i + 1) (s + 1) _ (k ++ [r]) (by omega) (by omega) (hv.keep hr) ?_ (fun i2 r2 h2 => ?_) (fun ν h1 h2 => h ν ((vwUpd.put μ a _ _).trans h1) h2)
      · rw [ht, List.filter_append, ← hk, List.filter_cons_of_pos (by simp [hp])]
        simp
      · have : (156 : Nat) ≠ a + 1 := by omega
        rw [← hs i2 r2 h2]
        simp [sI, this]
theorem c_keepThose {d a : Nat} {p : Nat → Bool} {l : List Nat} {μ : mmMem} {K : mmMem → Prop} (hd : 1 ≤ d) (ha : mmKD a = 6) (ha2 : a + 1 < 156) (hll : l.length ≤ 40) (hv : vwC μ a l) (hs : ∀ i r, l[i]? = some r → μ.1 156 i = if p r = true then 1 else 0) (h : ∀ ν, vwUpd μ ν a → vwC ν a (l.filter p) → K ν) : mmC0 d M_X6_keepThose false 1 [.ref a, .ref 156] μ K := by
  refine u_X6_keepThose hd ha kd_156 ?_
  exact c_keepThoseE ha ha2 hll _ 0 0 μ [] rfl (Nat.zero_le _) (vwF.start hv) (by simp) hs (fun ν h1 h2 => h ν h1 h2)
def filC (μ : mmMem) (q : Nat) (f : aFil) : Prop := μ.1 q 0 = nI f.1 ∧ μ.1 q 1 = f.2.1 ∧ clC μ (q + 1) f.2.2
theorem filC.fr {μ ν : mmMem} {q : Nat} {f : aFil} (h : filC μ q f) (e0 : eq3 μ ν q) (e1 : eq3 μ ν (q + 1)) : filC ν q f := by
  obtain ⟨h1, h2, h3⟩ := h
  exact ⟨by rw [e0.1]; exact h1, by rw [e0.1]; exact h2, h3.fr e1⟩
def aPass (T : aT) (f : aFil) (r : Nat) : Bool := match T.2.1[f.1]? with
  | some col => !col.2.1 && aStands f.2.1 (col.2.2 r) f.2.2
  | none => false
theorem c_passes {d q r : Nat} {f : aFil} {S : aS} {μ : mmMem} {K : Int32 → mmMem → Prop} (hd : 5 ≤ d) (kq : mmKD q = 2) (hq : q ≠ 152) (hq2 : q + 1 ≠ 152) (hC : CS μ S) (hf : filC μ q f) (okf : okFil S.1.2.1.length f) (hr : r < S.1.1) (h : ∀ ν, (∀ z, z ≠ 152 → eq3 μ ν z) → K (if aPass S.1 f r = true then 1 else 0) ν) : mmCI d M_X7_passes false 2 [.ref 0, .ref q, .int (nI r)] μ K := by
  refine u_X7_passes (by omega) kq ?_
  obtain ⟨f1, f2, f3⟩ := hf
  have hl := hC.2.1.2.1
  have h40 := hC.2.1.1
  have hlt := okf.1
  obtain ⟨col, hcol⟩ : ∃ col, S.1.2.1[f.1]? = some col := ⟨_, List.getElem?_eq_getElem hlt⟩
  have hcc := hC.colC hcol
  have e : aPass S.1 f r = (!col.2.1 && aStands f.2.1 (col.2.2 r) f.2.2) := by unfold aPass; rw [hcol]
  rw [e] at h
  rw [f1, nI_clamp (by omega), hcc.2.1]
  refine ⟨vp_in_nI (by omega) (by decide), fun w => ?_, fun w => ?_⟩
  · have hg : col.2.1 = false := by
      cases hh : col.2.1 with
      | true => rw [hh] at w; exact absurd w (by decide)
      | false => rfl
    rw [hg] at h
    refine c_load (by omega) (kcol f.1 (by omega)).1 kd_152 hcc hr h40 ?_
    rw [setC_1 _ _ _ _ hq, f2]
    refine c_stands (by omega) kd_152 (kf_2_2 kq) (setC_cl _ _ _) (f3.set hq2) ((hC.okCol hcol).2.2 r hr).1 okf.2.2 okf.2.1 ?_
    refine ⟨by split <;> simp, ?_⟩
    have := h (setC μ 152 (col.2.2 r)) (fun z hz => ⟨setC_1 _ _ _ _ hz, setC_2 _ _ _ _ hz, setC_3 _ _ _ _ hz⟩)
    simpa using this
  · have hg : col.2.1 = true := by
      cases hh : col.2.1 with
      | true => rfl
      | false => rw [hh] at w; exact absurd rfl w
    rw [hg] at h
    exact h μ (fun z _ => eq3.rfl')
abbrev isTst (t k : Int32) (v : Int64) : Prop := ¬ t < 0 ∧ t ≤ 5 ∧ (if k = 10 then isWrd v else ¬ k < 0 ∧ ¬ 7 < k)
def tCell (k : Int32) (v : Int64) : aC := if k = 10 then (8, v) else (k, aMade k v)
theorem tCell_ok {t k : Int32} {v : Int64} (h : isTst t k v) : okC (tCell k v) ∧ (0 ≤ t.toInt ∧ t.toInt ≤ 5) := by
  obtain ⟨h1, h2, h3⟩ := h
  refine ⟨?_, ?_⟩
  · unfold tCell
    by_cases e : k = 10
    · rw [if_pos e] at h3 ⊢
      have := isWrd_ok h3
      simp [okC, this]
    · rw [if_neg e] at h3 ⊢
      exact ok_made (isB_i h3.1 (Int32.not_lt.mp h3.2)) v
  · rw [Int32.lt_iff_toInt_lt] at h1
    rw [Int32.le_iff_toInt_le] at h2
    exact ⟨Int.not_lt.mp h1, h2⟩
theorem c_isTest {d : Nat} {t k : Int32} {v : Int64} {μ : mmMem} {K : Int32 → mmMem → Prop} (hd : 2 ≤ d) (h : K (if isTst t k v then 1 else 0) μ) : mmCI d M_X7_isTest true 3 [.int t, .int k, .long v] μ K := by
  refine u_X7_isTest hd ?_
  have f : ¬ isTst t k v → K 0 μ := fun e => by rw [if_neg e] at h; exact h
  have g : isTst t k v → K 1 μ := fun e => by rw [if_pos e] at h; exact h
  refine ⟨fun a => f fun w => w.1 a, fun a => ⟨fun b => ⟨fun n => ⟨fun c => f fun w => ?_, fun c => ⟨fun e => f fun w => ?_, fun e => g ⟨a, b, ?_⟩⟩⟩, fun n => ⟨fun c => f fun w => ?_, fun c => ⟨fun e => f fun w => ?_, fun e => g ⟨a, b, ?_⟩⟩⟩⟩, fun b => f fun w => b w.2.1⟩⟩
  · have := w.2.2; rw [if_neg n] at this; exact this.1 c
  · have := w.2.2; rw [if_neg n] at this; exact this.2 e
  · rw [if_neg n]; exact ⟨c, e⟩
  · have := w.2.2; rw [if_pos n] at this; exact this.1 c
  · have := w.2.2; rw [if_pos n] at this; exact this.2 e
  · rw [if_pos n]; exact ⟨c, e⟩
theorem c_fset {d q k : Nat} {t kd : Int32} {v : Int64} {μ : mmMem} {K : mmMem → Prop} (hd : 4 ≤ d) (kq : mmKD q = 2) (hw : isTst t kd v) (h : ∀ ν, filC ν q (k, t, tCell kd v) → (∀ z, z ≠ q → z ≠ q + 1 → eq3 μ ν z) → K ν) : mmC0 d M_X2_set false 4 [.ref q, .int (nI k), .int t, .int kd, .long v] μ K := by
  refine u_X2_set (by omega) kq ?_
  have kq1 := kf_2_2 kq
  have e0 : ∀ z, z ≠ q → eq3 μ (sI (sI μ q 0 (nI k)) q 1 t) z := fun z hz => by simp [eq3, sI, hz]
  have fin : ∀ x, K (setC (sI (sI μ q 0 (nI k)) q 1 t) (q + 1) x) ↔ K (setC (sI (sI μ q 0 (nI k)) q 1 t) (q + 1) x) := fun _ => Iff.rfl
  have go : K (setC (sI (sI μ q 0 (nI k)) q 1 t) (q + 1) (tCell kd v)) := by
    refine h _ ⟨?_, ?_, setC_cl _ _ _⟩ (fun z h1 h2 => ?_)
    · rw [setC_1 _ _ _ _ (by omega)]; simp [sI, upd]
    · rw [setC_1 _ _ _ _ (by omega)]; simp [sI, upd]
    · exact (e0 z h1).trans ⟨setC_1 _ _ _ _ h2, setC_2 _ _ _ _ h2, setC_3 _ _ _ _ h2⟩
  refine ⟨fun n => ?_, fun n => ?_⟩
  · have h3 := hw.2.2
    rw [if_neg n] at h3
    have e : tCell kd v = (kd, aMade kd v) := if_neg n
    rw [e] at go
    exact c_make (by omega) kq1 (isB_i h3.1 (Int32.not_lt.mp h3.2)) go
  · have e : tCell kd v = (8, v) := if_pos n
    rw [e] at go
    have z : FP.dconst0 = 0 := rfl
    simpa [setC, enK, enN, enR, z] using go
