/-! ===== the class: views, keys, filters ===== -/
def getV (T : aT) (v : Nat) : List Nat := if v = 0 then T.2.2.1 else T.2.2.2.1
def setV (T : aT) (v : Nat) (l : List Nat) : aT := if v = 0 then (T.1, T.2.1, l, T.2.2.2) else (T.1, T.2.1, T.2.2.1, l, T.2.2.2.2)
abbrev noView (v : Int32) : Prop := v < 0 ∨ 2 ≤ v
theorem view_of {v : Int32} (h : ¬ noView v) : ∃ k, k < 2 ∧ v = nI k := by
  have h1 : ¬ v < 0 := fun w => h (Or.inl w)
  have h2 : ¬ 2 ≤ v := fun w => h (Or.inr w)
  obtain ⟨k, hk, rfl⟩ := nI_of h1
  exact ⟨k, Nat.not_le.mp fun w => h2 ((nI_leI (a := 2) (by decide) hk).mpr w), rfl⟩
theorem tabC.vw {μ : mmMem} {T : aT} (h : tabC μ 1 T) {v : Nat} (hv : v < 2) : vwC μ (55 + 2 * v) (getV T v) := by
  have : v = 0 ∨ v = 1 := by omega
  rcases this with rfl | rfl
  · exact h.2.2.1.1
  · exact h.2.2.1.2
theorem okT.vw {T : aT} (h : okT T) (v : Nat) : okV T.1 (getV T v) := by
  unfold getV
  split
  · exact h.2.2.2.1
  · exact h.2.2.2.2.1
theorem tabC.setV {μ ν : mmMem} {T : aT} {v : Nat} {l : List Nat} (h : tabC μ 1 T) (ok : okT T) (hv : v < 2) (f : ∀ q, q ≠ 55 + 2 * v → q ≠ 56 + 2 * v → q < 71 → eq3 μ ν q) (hl : vwC ν (55 + 2 * v) l) : tabC ν 1 (setV T v l) := by
  obtain ⟨⟨h1, h2, h3, h4⟩, h5, ⟨h6, h7⟩, h8, h9⟩ := h
  have e0 := (f 1 (by omega) (by omega) (by omega)).1
  have hcl := ok.2.1
  have hfl := ok.2.2.2.2.2.2.2.1
  have cols : ∀ c col, T.2.1[c]? = some col → colC ν (1 + 6 + 4 * c) T.1 col := fun c col hc => by
    have := lt_of_get hc
    exact (h5 c col hc).fr (f _ (by omega) (by omega) (by omega)) (f _ (by omega) (by omega) (by omega)) (f _ (by omega) (by omega) (by omega)) (f _ (by omega) (by omega) (by omega))
  have keys : ∀ k q, T.2.2.2.2.1[k]? = some q → ν.1 (1 + 3) k = nI q.1 ∧ ν.1 (1 + 4) k = if q.2 = true then 1 else 0 := fun k q hk => by
    rw [(f (1 + 3) (by omega) (by omega) (by omega)).1, (f (1 + 4) (by omega) (by omega) (by omega)).1]
    exact h8 k q hk
  have fils : ∀ i q, T.2.2.2.2.2[i]? = some q → ν.1 (1 + 58 + 2 * i) 0 = nI q.1 ∧ ν.1 (1 + 58 + 2 * i) 1 = q.2.1 ∧ clC ν (1 + 59 + 2 * i) q.2.2 := fun i q hi => by
    have := lt_of_get hi
    obtain ⟨g1, g2, g3⟩ := h9 i q hi
    have e1 := (f (1 + 58 + 2 * i) (by omega) (by omega) (by omega)).1
    exact ⟨by rw [e1]; exact g1, by rw [e1]; exact g2, g3.fr (f _ (by omega) (by omega) (by omega))⟩
  have : v = 0 ∨ v = 1 := by omega
  rcases this with rfl | rfl
  · exact ⟨⟨by rw [e0]; exact h1, by rw [e0]; exact h2, by rw [e0]; exact h3, by rw [e0]; exact h4⟩, cols, ⟨hl, h7.fr (f _ (by omega) (by omega) (by omega)) (f _ (by omega) (by omega) (by omega))⟩, keys, fils⟩
  · exact ⟨⟨by rw [e0]; exact h1, by rw [e0]; exact h2, by rw [e0]; exact h3, by rw [e0]; exact h4⟩, cols, ⟨h6.fr (f _ (by omega) (by omega) (by omega)) (f _ (by omega) (by omega) (by omega)), hl⟩, keys, fils⟩
theorem okT.setV {T : aT} {v : Nat} {l : List Nat} (ok : okT T) (hl : okV T.1 l) : okT (setV T v l) := by
  obtain ⟨h1, h2, h3, h4, h5, h6, h7, h8, h9⟩ := ok
  unfold Jvm.Pilot.CColumnCastsLaw_law_r4198_211b93.setV
  split
  · exact ⟨h1, h2, h3, hl, h5, h6, h7, h8, h9⟩
  · exact ⟨h1, h2, h3, h4, hl, h6, h7, h8, h9⟩
theorem CS.setV {μ ν : mmMem} {S : aS} {v : Nat} {l : List Nat} (h : CS μ S) (hv : v < 2) (f : ∀ q, q ≠ 55 + 2 * v → q ≠ 56 + 2 * v → (q < 141 ∨ q = 142) → eq3 μ ν q) (e2 : ν.1 141 0 = μ.1 141 0) (hl : vwC ν (55 + 2 * v) l) (okl : okV S.1.1 l) : CS ν (sT S (setV S.1 v l)) :=
  h.tab (h.1.setV h.2.1 hv (fun q h1 h2 h3 => f q h1 h2 (by omega)) hl) (h.2.1.setV okl) (fun q h1 h2 => f q (by omega) (by omega) h2) e2
def sp_view (v : Int32) (S : aS) : Int32 × aS := if noView v then (-1, S) else (nI S.1.1, sT S (setV S.1 v.toNatClampNeg (List.range' 0 S.1.1)))
theorem c_view {d : Nat} {v : Int32} {S : aS} {μ : mmMem} {K : Int32 → mmMem → Prop} (hd : 4 ≤ d) (hC : CS μ S) (h : ∀ ν, CS ν (sp_view v S).2 → hiE μ ν → K (sp_view v S).1 ν) : mmCI d M_X7_view false 1 [.ref 0, .int v] μ K := by
  refine u_X7_view (by omega) ?_
  have bad : noView v → K (-1) μ := fun w => by
    unfold sp_view at h
    rw [if_pos w] at h
    exact h μ hC (hiE.refl _)
  refine ⟨fun a => bad (Or.inl a), fun a => ⟨fun b => bad (Or.inr b), fun b => ?_⟩⟩
  have nv : ¬ noView v := by rintro (w | w); exact a w; exact b w
  have e : sp_view v S = _ := if_neg nv
  rw [e] at h
  obtain ⟨k, hk, rfl⟩ := view_of nv
  rw [nI_clamp (by omega)] at h ⊢
  rw [hC.1.1.1]
  refine c_showAll (by omega) (kvw k hk).1 hC.2.1.1 (hC.1.vw hk) (fun ν f g => ?_)
  rw [(f.1 1 (by omega) (by omega)).1, hC.1.1.1]
  refine h ν (hC.setV hk (fun q h1 h2 _ => f.1 q h1 (by omega)) (by rw [(f.1 141 (by omega) (by omega)).1]) g ⟨List.nodup_range', fun r hr => ?_⟩) (fun q hq => f.1 q (by omega) (by omega))
  have := List.mem_range'_1.mp hr
  omega
def sp_viewed (v i : Int32) (S : aS) : Int32 × aS := if noView v then (-1, S) else if i = -1 then (nI (getV S.1 v.toNatClampNeg).length, S) else if i < 0 ∨ ¬ i < nI (getV S.1 v.toNatClampNeg).length then (-1, S) else (nI ((getV S.1 v.toNatClampNeg).getD i.toNatClampNeg 0), S)
theorem c_viewed {d : Nat} {v i : Int32} {S : aS} {μ : mmMem} {K : Int32 → mmMem → Prop} (hd : 3 ≤ d) (hC : CS μ S) (h : ∀ ν, CS ν (sp_viewed v i S).2 → hiE μ ν → K (sp_viewed v i S).1 ν) : mmCI d M_X7_viewed false 2 [.ref 0, .int v, .int i] μ K := by
  refine u_X7_viewed (by omega) ?_
  unfold sp_viewed at h
  have bad : noView v → K (-1) μ := fun w => by
    rw [if_pos w] at h
    exact h μ hC (hiE.refl _)
  refine ⟨fun a => bad (Or.inl a), fun a => ⟨fun b => bad (Or.inr b), fun b => ?_⟩⟩
  have nv : ¬ noView v := by rintro (w | w); exact a w; exact b w
  rw [if_neg nv] at h
  obtain ⟨k, hk, rfl⟩ := view_of nv
  rw [nI_clamp (by omega)] at h ⊢
  have hv := hC.1.vw hk
  have hln := (hC.2.1.vw k).len
  have h40 := hC.2.1.1
  rw [hv.1]
  refine ⟨fun n1 => ?_, fun e1 => ?_⟩
  · rw [if_neg n1] at h
    refine ⟨fun l => ?_, fun l => ⟨fun l2 => ?_, fun l2 => ?_⟩⟩
    · rw [if_pos (Or.inl l)] at h; exact h μ hC (hiE.refl _)
    · rw [if_neg (by rintro (w | w); exact l w; exact w l2)] at h
      obtain ⟨j, hj, rfl⟩ := nI_of l
      have hlt : j < (getV S.1 k).length := (nI_ltI hj (by omega)).mp l2
      rw [nI_clamp hj] at h ⊢
      refine ⟨vp_in_nI (by omega) (by decide), ?_⟩
      obtain ⟨r, hr⟩ : ∃ r, (getV S.1 k)[j]? = some r := ⟨_, List.getElem?_eq_getElem hlt⟩
      have e2 := hv.2 j r hr
      have e3 : (getV S.1 k).getD j 0 = r := by rw [List.getD_eq_getElem?_getD, hr]; rfl
      rw [e3] at h
      rw [e2]
      exact h μ hC (hiE.refl _)
    · rw [if_pos (Or.inr l2)] at h; exact h μ hC (hiE.refl _)
  · rw [if_pos e1] at h
    exact h μ hC (hiE.refl _)
def filC (μ : mmMem) (q : Nat) (f : aFil) : Prop := μ.1 q 0 = nI f.1 ∧ μ.1 q 1 = f.2.1 ∧ clC μ (q + 1) f.2.2
theorem filC.fr {μ ν : mmMem} {q : Nat} {f : aFil} (h : filC μ q f) (e0 : eq3 μ ν q) (e1 : eq3 μ ν (q + 1)) : filC ν q f := by
  obtain ⟨h1, h2, h3⟩ := h
  exact ⟨by rw [e0.1]; exact h1, by rw [e0.1]; exact h2, h3.fr e1⟩
