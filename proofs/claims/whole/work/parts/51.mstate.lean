/-! ===== how the model holds the state ===== -/
def tabM (a : Nat → Int32) (b : Nat → Int64) (T : aT) : Prop :=
  (a 0 = nI T.1 ∧ a 1 = nI T.2.1.length ∧ a 2 = nI T.2.2.2.2.1.length ∧ a 3 = nI T.2.2.2.2.2.length) ∧
  (∀ c col, T.2.1[c]? = some col → a (6 + c) = col.1 ∧ a (18 + c) = (if col.2.1 = true then 1 else 0) ∧ ∀ r, r < T.1 → a (136 + (40 * c + r)) = (col.2.2 r).1 ∧ b (40 * c + r) = (col.2.2 r).2) ∧
  ((a 4 = nI T.2.2.1.length ∧ ∀ i r, T.2.2.1[i]? = some r → a (56 + i) = nI r) ∧ (a 5 = nI T.2.2.2.1.length ∧ ∀ i r, T.2.2.2.1[i]? = some r → a (96 + i) = nI r)) ∧
  (∀ k q, T.2.2.2.2.1[k]? = some q → a (30 + 2 * k) = nI q.1 ∧ a (31 + 2 * k) = if q.2 = true then 1 else 0) ∧
  ∀ f q, T.2.2.2.2.2[f]? = some q → a (38 + 3 * f) = nI q.1 ∧ a (39 + 3 * f) = q.2.1 ∧ isTst q.2.1 (a (40 + 3 * f)) (b (480 + f)) ∧ tCell (a (40 + 3 * f)) (b (480 + f)) = q.2.2
def imgM (μ : mmMem) (o : Option aT) : Prop := match o with
  | none => μ.1 160 4 = 0
  | some T => μ.1 160 4 = 1 ∧ tabM (μ.1 163) (μ.2.1 164) T ∧ okT T
def txtM (μ : mmMem) (l : List Int32) : Prop := μ.1 160 14 = nI l.length ∧ ∀ i x, l[i]? = some x → μ.1 171 i = x
def MS (μ : mmMem) (S : aS) : Prop := tabM (μ.1 161) (μ.2.1 162) S.1 ∧ okT S.1 ∧ imgM μ S.2.1 ∧ μ.2.1 160 5 = S.2.2.1 ∧ (μ.1 165 0 = S.2.2.2.1.1 ∧ μ.1 165 1 = S.2.2.2.1.2.1 ∧ μ.1 165 2 = S.2.2.2.1.2.2) ∧ txtM μ S.2.2.2.2 ∧ okX S.2.2.2.2
theorem imgM.fr {μ ν : mmMem} {o : Option aT} (h : imgM μ o) (e0 : ν.1 160 4 = μ.1 160 4) (e1 : ν.1 163 = μ.1 163) (e2 : ν.2.1 164 = μ.2.1 164) : imgM ν o := by
  cases o with
  | none => exact e0.trans h
  | some T =>
    obtain ⟨h1, h2, h3⟩ := h
    refine ⟨e0.trans h1, ?_, h3⟩
    rw [e1, e2]; exact h2
/-- the table alone has changed -/
theorem MS.tab {μ ν : mmMem} {S : aS} {T : aT} (h : MS μ S) (hT : tabM (ν.1 161) (ν.2.1 162) T) (okt : okT T) (e : ∀ q, q ≠ 161 → q ≠ 162 → eq3 μ ν q) : MS ν (sT S T) := by
  obtain ⟨h1, h2, h3, h4, h5, h6, h7⟩ := h
  have e0 := e 160 (by decide) (by decide)
  have e5 := e 165 (by decide) (by decide)
  refine ⟨hT, okt, h3.fr (by rw [e0.1]) (e 163 (by decide) (by decide)).1 (e 164 (by decide) (by decide)).2.1, by rw [e0.2.1]; exact h4, by rw [e5.1]; exact h5, ⟨by rw [e0.1]; exact h6.1, fun i x hx => by rw [(e 171 (by decide) (by decide)).1]; exact h6.2 i x hx⟩, h7⟩
theorem loE_sI (μ : mmMem) (p i : Nat) (x : Int32) (hp : 160 ≤ p) : loE μ (sI μ p i x) := fun q hq => by
  have : q ≠ p := by omega
  simp [eq3, sI, this]
theorem loE_sJ (μ : mmMem) (p i : Nat) (x : Int64) (hp : 160 ≤ p) : loE μ (sJ μ p i x) := fun q hq => by
  have : q ≠ p := by omega
  simp [eq3, sJ, this]
theorem sI_at (μ : mmMem) (p i j : Nat) (x : Int32) : (sI μ p i x).1 p j = if j = i then x else μ.1 p j := by simp [sI, upd]
theorem sI_1 (μ : mmMem) (p q i : Nat) (x : Int32) (h : q ≠ p) : (sI μ p i x).1 q = μ.1 q := by simp [sI, h]
theorem sI_2 (μ : mmMem) (p i : Nat) (x : Int32) : (sI μ p i x).2 = μ.2 := rfl
theorem nI_addr (c k : Nat) : nI c + nI k = nI (c + k) := nI_add c k
theorem m_refuses {d : Nat} {code : Int32} {S : aS} {μ : mmMem} {K : Int32 → mmMem → Prop} (hd : 1 ≤ d) (hc : code = -21 ∨ code = -22 ∨ code = -23) (hM : MS μ S) (h : ∀ ν, MS ν (rfs S code) → loE μ ν → K code ν) : mmCI d M_X8_refuses false 1 [.ref 160, .int code] μ K := by
  refine u_X8_refuses hd ?_
  obtain ⟨h1, h2, h3, h4, ⟨h5, h6, h7⟩, h8, h9⟩ := hM
  have fin : ∀ (k : Nat) (x : Int32), (∀ ν : mmMem, ν = sI μ 165 k x → (ν.1 165 0 = (rfs S code).2.2.2.1.1 ∧ ν.1 165 1 = (rfs S code).2.2.2.1.2.1 ∧ ν.1 165 2 = (rfs S code).2.2.2.1.2.2)) → K code (sI μ 165 k x) := fun k x hx => by
    refine h _ ⟨?_, h2, h3.fr (by rw [sI_1 _ _ _ _ _ (by decide)]) (sI_1 _ _ _ _ _ (by decide)) rfl, h4, hx _ rfl, ⟨?_, fun i y hy => ?_⟩, h9⟩ (loE_sI _ _ _ _ (by decide))
    · rw [sI_1 _ _ _ _ _ (by decide), sI_2]; exact h1
    · rw [sI_1 _ _ _ _ _ (by decide)]; exact h8.1
    · rw [sI_1 _ _ _ _ _ (by decide)]; exact h8.2 i y hy
  rcases hc with rfl | rfl | rfl
  · have ez : (-21 : Int32) - -21 = nI 0 := by decide
    rw [ez, nI_clamp (by decide)]
    refine ⟨vp_in_nI (by decide) (by decide), fin 0 _ fun ν e => ?_⟩
    rw [e, sI_at, sI_at, sI_at]
    exact ⟨by rw [if_pos rfl, h5]; rfl, by rw [if_neg (by decide), h6]; rfl, by rw [if_neg (by decide), h7]; rfl⟩
  · have ez : (-21 : Int32) - -22 = nI 1 := by decide
    rw [ez, nI_clamp (by decide)]
    refine ⟨vp_in_nI (by decide) (by decide), fin 1 _ fun ν e => ?_⟩
    rw [e, sI_at, sI_at, sI_at]
    exact ⟨by rw [if_neg (by decide), h5]; rfl, by rw [if_pos rfl, h6]; rfl, by rw [if_neg (by decide), h7]; rfl⟩
  · have ez : (-21 : Int32) - -23 = nI 2 := by decide
    rw [ez, nI_clamp (by decide)]
    refine ⟨vp_in_nI (by decide) (by decide), fin 2 _ fun ν e => ?_⟩
    rw [e, sI_at, sI_at, sI_at]
    exact ⟨by rw [if_neg (by decide), h5]; rfl, by rw [if_neg (by decide), h6]; rfl, by rw [if_pos rfl, h7]; rfl⟩
theorem m_amiss {d : Nat} {c : Int32} {S : aS} {μ : mmMem} {K : Int32 → mmMem → Prop} (hd : 2 ≤ d) (hM : MS μ S) (h : ∀ ν, MS ν (rfs S (cref S.1 c)) → loE μ ν → K (cref S.1 c) ν) : mmCI d M_X8_amiss false 1 [.ref 160, .int c] μ K := by
  refine u_X8_amiss (by omega) ?_
  refine m_isInI (a := 0) (b := 11) (by omega) rfl rfl ?_
  have ok := hM.2.1
  by_cases q : ¬ c < 0 ∧ ¬ (11 : Int32) < c
  · rw [if_pos q]
    refine ⟨fun _ => ?_, fun w => absurd w (by decide)⟩
    obtain ⟨q1, q2⟩ := q
    obtain ⟨k, hk, rfl⟩ := nI_of q1
    have hk12 : k < 12 := Nat.lt_succ_of_le (Nat.not_lt.mp fun w => q2 ((nI_ltI (by decide : (11 : Nat) < 2 ^ 31) hk).mpr w))
    have e : cref S.1 (nI k) = match S.1.2.1[k]? with | none => -23 | some col => if col.2.1 = true then -22 else 0 := by
      unfold cref
      rw [if_neg (by rintro (w | w); exact q1 w; exact w ((nI_ltI hk (by decide : (12 : Nat) < 2 ^ 31)).mpr hk12)), nI_clamp hk]
      rfl
    rw [hM.1.1.2.1]
    have hl := ok.2.1
    have e18 : (18 : Int32) + nI k = nI (18 + k) := nI_addr 18 k
    rw [e18, nI_clamp (by omega)]
    refine ⟨fun q3 => ?_, fun q3 => ?_⟩
    · rw [nI_ltI hk (by omega)] at q3
      obtain ⟨col, hcol⟩ : ∃ col, S.1.2.1[k]? = some col := ⟨_, List.getElem?_eq_getElem q3⟩
      rw [hcol] at e
      dsimp only at e
      have hcc := (hM.1.2.1 k col hcol).2.1
      rw [hcc]
      refine ⟨vp_in_nI (by omega) (by decide), ?_⟩
      cases hg : col.2.1 with
      | true =>
        rw [hg, if_pos rfl] at e
        rw [e] at h
        exact ⟨fun w => absurd rfl w, fun _ => m_refuses (by omega) (Or.inr (Or.inl rfl)) hM h⟩
      | false =>
        rw [hg, if_neg (by decide)] at e
        rw [e] at h
        exact ⟨fun _ => h μ hM (loE.refl _), fun w => absurd w (by decide)⟩
    · rw [nI_ltI hk (by omega)] at q3
      rw [List.getElem?_eq_none (by omega)] at e
      dsimp only at e
      rw [e] at h
      exact m_refuses (by omega) (Or.inr (Or.inr rfl)) hM h
  · rw [if_neg q]
    have e : cref S.1 c = -1 := by
      refine if_pos ?_
      by_cases w : c < 0
      · exact Or.inl w
      · right
        intro w2
        apply q
        refine ⟨w, ?_⟩
        rw [Int32.lt_iff_toInt_lt] at w2 ⊢
        have e1 : (12 : Int32).toInt = 12 := rfl
        have e2 : (11 : Int32).toInt = 11 := rfl
        omega
    rw [e] at h
    exact ⟨fun w => absurd rfl w, fun _ => h μ hM (loE.refl _)⟩
theorem m_kindOf {d : Nat} {c : Int32} {S : aS} {μ : mmMem} {K : Int32 → mmMem → Prop} (hd : 3 ≤ d) (hM : MS μ S) (h : ∀ ν, MS ν (sp_kindOf c S).2 → loE μ ν → K (sp_kindOf c S).1 ν) : mmCI d M_X8_kindOf false 1 [.ref 160, .int c] μ K := by
  refine u_X8_kindOf (by omega) ?_
  refine m_amiss (by omega) hM (fun ν hν hh => ?_)
  refine ⟨fun q => ?_, fun q => ?_⟩
  · obtain ⟨k, col, hk, rfl, hcol, hg⟩ := cref_0 q
    have e : sp_kindOf (nI k) S = (col.1, S) := withC_ok hk q hcol
    rw [e] at h
    rw [q] at hν
    have hν : MS ν S := hν
    have e6 : (6 : Int32) + nI k = nI (6 + k) := nI_addr 6 k
    rw [e6, nI_clamp (by omega), (hν.1.2.1 k col hcol).1]
    exact ⟨vp_in_nI (by omega) (by decide), h ν hν hh⟩
  · have e : sp_kindOf c S = (cref S.1 c, rfs S (cref S.1 c)) := withC_no q
    rw [e] at h
    exact h ν hν hh
theorem m_got {d : Nat} {S : aS} {μ : mmMem} {K : Int64 → mmMem → Prop} (hd : 1 ≤ d) (hM : MS μ S) (h : K S.2.2.1 μ) : mmCJ d M_X8_got false 0 [.ref 160] μ K := by
  refine u_X8_got hd ?_
  rw [hM.2.2.2.1]
  exact h
/-- one column's record changes -/
theorem tabM.put {a a' : Nat → Int32} {b b' : Nat → Int64} {T : aT} {k : Nat} {c : aCol} (h : tabM a b T) (ok : okT T) (hk : k < T.2.1.length) (ea : ∀ j, j ≠ 6 + k → j ≠ 18 + k → (j < 136 + 40 * k ∨ 176 + 40 * k ≤ j) → a' j = a j) (eb : ∀ j, (j < 40 * k ∨ 40 + 40 * k ≤ j) → b' j = b j) (hc : a' (6 + k) = c.1 ∧ a' (18 + k) = (if c.2.1 = true then 1 else 0) ∧ ∀ r, r < T.1 → a' (136 + (40 * k + r)) = (c.2.2 r).1 ∧ b' (40 * k + r) = (c.2.2 r).2) : tabM a' b' (T.1, T.2.1.set k c, T.2.2) := by
  obtain ⟨⟨h1, h2, h3, h4⟩, h5, ⟨⟨h6, h7⟩, h8, h9⟩, h10, h11⟩ := h
  have l1 := ok.1
  have l2 := ok.2.1
  have l4 := ok.2.2.2.1.len
  have l5 := ok.2.2.2.2.1.len
  have l6 := ok.2.2.2.2.2.1
  have l8 := ok.2.2.2.2.2.2.2.1
  refine ⟨⟨by rw [ea 0 (by omega) (by omega) (by omega)]; exact h1, by rw [ea 1 (by omega) (by omega) (by omega)]; simpa using h2, by rw [ea 2 (by omega) (by omega) (by omega)]; exact h3, by rw [ea 3 (by omega) (by omega) (by omega)]; exact h4⟩, fun i col hi => ?_, ⟨⟨by rw [ea 4 (by omega) (by omega) (by omega)]; exact h6, fun i r hr => ?_⟩, by rw [ea 5 (by omega) (by omega) (by omega)]; exact h8, fun i r hr => ?_⟩, fun i q hi => ?_, fun i q hi => ?_⟩
  · have hi : (T.2.1.set k c)[i]? = some col := hi
    have hil := lt_of_get hi
    rw [List.length_set] at hil
    by_cases e : i = k
    · subst e
      rw [List.getElem?_set_self hk] at hi
      cases hi
      exact hc
    · rw [List.getElem?_set_ne (Ne.symm e)] at hi
      obtain ⟨g1, g2, g3⟩ := h5 i col hi
      refine ⟨by rw [ea _ (by omega) (by omega) (by omega)]; exact g1, by rw [ea _ (by omega) (by omega) (by omega)]; exact g2, fun r hr => ?_⟩
      have hr : r < T.1 := hr
      rw [ea _ (by omega) (by omega) (by omega), eb _ (by omega)]
      exact g3 r hr
  · have := lt_of_get hr
    have : T.2.2.1.length ≤ T.1 := l4
    have hr : T.2.2.1[i]? = some r := hr
    have hl : i < T.2.2.1.length := lt_of_get hr
    rw [ea _ (by omega) (by omega) (by omega)]
    exact h7 i r hr
  · have hr : T.2.2.2.1[i]? = some r := hr
    have hl : i < T.2.2.2.1.length := lt_of_get hr
    rw [ea _ (by omega) (by omega) (by omega)]
    exact h9 i r hr
  · have hi : T.2.2.2.2.1[i]? = some q := hi
    have hl : i < T.2.2.2.2.1.length := lt_of_get hi
    rw [ea _ (by omega) (by omega) (by omega), ea _ (by omega) (by omega) (by omega)]
    exact h10 i q hi
  · have hi : T.2.2.2.2.2[i]? = some q := hi
    have hl : i < T.2.2.2.2.2.length := lt_of_get hi
    rw [ea _ (by omega) (by omega) (by omega), ea _ (by omega) (by omega) (by omega), ea _ (by omega) (by omega) (by omega), eb _ (by omega)]
    exact h11 i q hi
theorem okT.put {T : aT} {k : Nat} {c : aCol} (ok : okT T) (hc : okCol T.1 c) : okT (T.1, T.2.1.set k c, T.2.2) := by
  obtain ⟨h1, h2, h3, h4, h5, h6, h7, h8, h9⟩ := ok
  refine ⟨h1, by simpa using h2, fun x hx => ?_, h4, h5, h6, fun q hq => by simpa using h7 q hq, h8, fun f hf => ?_⟩
  · rcases List.mem_or_eq_of_mem_set hx with w | w
    · exact h3 x w
    · rw [w]; exact hc
  · obtain ⟨g1, g2⟩ := h9 f hf
    exact ⟨by simpa using g1, g2⟩
theorem m_drop {d : Nat} {c : Int32} {S : aS} {μ : mmMem} {K : Int32 → mmMem → Prop} (hd : 3 ≤ d) (hM : MS μ S) (h : ∀ ν, MS ν (sp_drop c S).2 → loE μ ν → K (sp_drop c S).1 ν) : mmCI d M_X8_drop false 1 [.ref 160, .int c] μ K := by
  refine u_X8_drop (by omega) ?_
  refine m_amiss (by omega) hM (fun ν hν hh => ?_)
  refine ⟨fun q => ?_, fun q => ?_⟩
  · obtain ⟨k, col, hk, rfl, hcol, hg⟩ := cref_0 q
    have e : sp_drop (nI k) S = (col.1, putCol S k (col.1, true, col.2.2)) := withC_ok hk q hcol
    rw [e] at h
    rw [q] at hν
    have hν : MS ν S := hν
    have e6 : (6 : Int32) + nI k = nI (6 + k) := nI_addr 6 k
    have e18 : (18 : Int32) + nI k = nI (18 + k) := nI_addr 18 k
    obtain ⟨g1, g2, g3⟩ := hν.1.2.1 k col hcol
    rw [e6, e18, nI_clamp (by omega), nI_clamp (by omega), sI_at, if_neg (by omega), g1]
    refine ⟨vp_in_nI (by omega) (by decide), vp_in_nI (by omega) (by decide), ?_⟩
    have hlt := lt_of_get hcol
    have h12 := hν.2.1.2.1
    have h40 := hν.2.1.1
    have hoc := hν.2.1.2.2.1 col (List.mem_of_getElem? hcol)
    refine h _ (hν.tab (tabM.put hν.1 hν.2.1 hlt (fun j _ h2 _ => by rw [sI_at, if_neg h2]) (fun j _ => rfl) ⟨by rw [sI_at, if_neg (by omega)]; exact g1, by rw [sI_at, if_pos rfl]; rfl, fun r hr => ⟨by rw [sI_at, if_neg (by omega)]; exact (g3 r hr).1, (g3 r hr).2⟩⟩) (hν.2.1.put ⟨hoc.1, hoc.2.1, hoc.2.2⟩) (fun q h1 h2 => by simp [eq3, sI, h1])) (hh.trans (loE_sI _ _ _ _ (by decide)))
  · have e : sp_drop c S = (cref S.1 c, rfs S (cref S.1 c)) := withC_no q
    rw [e] at h
    exact h ν hν hh
