/-! ===== the model: puts, renews, column, count, feed ===== -/
def putM (μ : mmMem) (k r : Nat) (x : aC) : mmMem := sJ (sI μ 161 (136 + (40 * k + r)) x.1) 162 (40 * k + r) x.2
theorem putM_1 (μ : mmMem) (k r j : Nat) (x : aC) : (putM μ k r x).1 161 j = if j = 136 + (40 * k + r) then x.1 else μ.1 161 j := by simp [putM, sI, sJ, upd]
theorem putM_2 (μ : mmMem) (k r j : Nat) (x : aC) : (putM μ k r x).2.1 162 j = if j = 40 * k + r then x.2 else μ.2.1 162 j := by simp [putM, sI, sJ, vp_updL]
theorem putM_e (μ : mmMem) (k r : Nat) (x : aC) (q : Nat) (h1 : q ≠ 161) (h2 : q ≠ 162) : eq3 μ (putM μ k r x) q := by simp [eq3, putM, sI, sJ, h1, h2]
theorem nI_mul (a b : Nat) : nI a * nI b = nI (a * b) := (Int32.ofNat_mul a b).symm
theorem nI_plc (k r : Nat) : (40 : Int32) * nI k + nI r = nI (40 * k + r) := by
  have : (40 : Int32) * nI k = nI (40 * k) := nI_mul 40 k
  rw [this, nI_add]
theorem nI_136 (n : Nat) : (136 : Int32) + nI n = nI (136 + n) := nI_add 136 n
theorem m_puts {d k r : Nat} {s : Int32} {n : Int64} {μ : mmMem} {K : mmMem → Prop} (hd : 2 ≤ d) (hk : k < 12) (hr : r < 40) (h : K (putM μ k r (s, if s = -1 then 0 else n))) : mmC0 d M_X8_puts false 4 [.ref 160, .int (nI k), .int (nI r), .int s, .long n] μ K := by
  refine u_X8_puts hd ?_
  rw [nI_plc, nI_136, nI_clamp (by omega), nI_clamp (by omega)]
  refine ⟨vp_in_nI (by omega) (by decide), fun w => ⟨vp_in_nI (by omega) (by decide), ?_⟩, fun w => ⟨vp_in_nI (by omega) (by decide), ?_⟩⟩
  · rw [if_neg w] at h; exact h
  · rw [if_pos w] at h; exact h
theorem newC_m {kd : Int32} (h : 0 ≤ kd.toInt ∧ kd.toInt ≤ 10) : ((8 : Int32) ≤ kd → newC kd = (-1, 0)) ∧ (¬ (8 : Int32) ≤ kd → newC kd = (kd, 0) ∧ kd ≠ -1) := by
  refine ⟨fun w => if_neg (fun q => ?_), fun w => ⟨if_pos ?_, fun e => ?_⟩⟩
  · rw [Int32.le_iff_toInt_le] at w q
    have e8 : (8 : Int32).toInt = 8 := rfl
    have e7 : (7 : Int32).toInt = 7 := rfl
    omega
  · rw [Int32.le_iff_toInt_le] at w ⊢
    have e8 : (8 : Int32).toInt = 8 := rfl
    have e7 : (7 : Int32).toInt = 7 := rfl
    omega
  · rw [e] at h
    exact absurd h.1 (by decide)
theorem m_renews {d k r : Nat} {kd : Int32} {μ : mmMem} {K : mmMem → Prop} (hd : 3 ≤ d) (hk : k < 12) (hr : r < 40) (h0 : μ.1 161 (6 + k) = kd) (hkd : 0 ≤ kd.toInt ∧ kd.toInt ≤ 10) (h : K (putM μ k r (newC kd))) : mmC0 d M_X8_renews false 2 [.ref 160, .int (nI k), .int (nI r)] μ K := by
  refine u_X8_renews (by omega) ?_
  have e6 : (6 : Int32) + nI k = nI (6 + k) := nI_addr 6 k
  rw [e6, nI_clamp (by omega), h0]
  obtain ⟨n1, n2⟩ := newC_m hkd
  refine ⟨vp_in_nI (by omega) (by decide), fun w => ?_, fun w => ?_⟩
  · rw [n1 w] at h
    exact m_puts (by omega) hk hr (by rw [if_pos rfl]; exact h)
  · rw [(n2 w).1] at h
    exact m_puts (by omega) hk hr (by rw [if_neg (n2 w).2]; exact h)
/-- rows p .. of one column are new -/
def newR (μ ν : mmMem) (k m n : Nat) (kd : Int32) : Prop := (∀ q, q ≠ 161 → q ≠ 162 → eq3 μ ν q) ∧ (∀ j, ν.1 161 j = if 136 + (40 * k + m) ≤ j ∧ j < 136 + (40 * k + n) then (newC kd).1 else μ.1 161 j) ∧ ∀ j, ν.2.1 162 j = if 40 * k + m ≤ j ∧ j < 40 * k + n then (newC kd).2 else μ.2.1 162 j
theorem newR.refl (μ : mmMem) (k m : Nat) (kd : Int32) : newR μ μ k m m kd := ⟨fun _ _ _ => eq3.rfl', fun j => by rw [if_neg (by omega)], fun j => by rw [if_neg (by omega)]⟩
theorem newR.step {μ ν : mmMem} {k m n : Nat} {kd : Int32} (h : newR μ ν k m n kd) (hmn : m ≤ n) : newR μ (putM ν k n (newC kd)) k m (n + 1) kd := by
  obtain ⟨h1, h2, h3⟩ := h
  refine ⟨fun q a b => (h1 q a b).trans (putM_e _ _ _ _ _ a b), fun j => ?_, fun j => ?_⟩
  · rw [putM_1, h2]
    by_cases e : j = 136 + (40 * k + n)
    · rw [if_pos e, if_pos (by omega)]
    · rw [if_neg e]
      by_cases e2 : 136 + (40 * k + m) ≤ j ∧ j < 136 + (40 * k + n)
      · rw [if_pos e2, if_pos (by omega)]
      · rw [if_neg e2, if_neg (by omega)]
  · rw [putM_2, h3]
    by_cases e : j = 40 * k + n
    · rw [if_pos e, if_pos (by omega)]
    · rw [if_neg e]
      by_cases e2 : 40 * k + m ≤ j ∧ j < 40 * k + n
      · rw [if_pos e2, if_pos (by omega)]
      · rw [if_neg e2, if_neg (by omega)]
theorem m_comesE {d k n : Nat} {kd x1 : Int32} {P : Option Value → mmMem → Prop} (hd : 3 ≤ d) (hk : k < 12) (hn : n ≤ 40) (hkd : 0 ≤ kd.toInt ∧ kd.toInt ≤ 10) (μ0 : mmMem) (h6 : μ0.1 161 (6 + k) = kd) (h0 : μ0.1 161 0 = nI n) (h : ∀ ν, newR μ0 ν k 0 n kd → P (some (.int (nI k))) ν) : ∀ (j r : Nat) (μ : mmMem), n - r = j → r ≤ n → newR μ0 μ k 0 r kd → mmEnds d M_X8_comes 39 [.ref 160, .int x1, .int (nI k), .int (nI r)] [] μ P := by
  intro j
  induction j with
  | zero =>
    intro r μ hj hr hu
    refine s_X8_comes_39 (by omega) ?_
    rw [hu.2.1 0, if_neg (by omega), h0]
    have e : r = n := by omega
    subst e
    exact ⟨fun _ => h μ hu, fun w => absurd (nI_le (by omega) (by omega)) w⟩
  | succ j ih =>
    intro r μ hj hr hu
    refine s_X8_comes_39 (by omega) ?_
    rw [hu.2.1 0, if_neg (by omega), h0, nI_1]
    refine ⟨fun w => absurd w (nI_ge (by omega) (by omega)), fun _ => ?_⟩
    refine m_renews hd hk (by omega) (by rw [hu.2.1, if_neg (by omega)]; exact h6) hkd ?_
    exact ih (r + 1) _ (by omega) (by omega) (hu.step (Nat.zero_le _))
theorem tabM.addc {a a' : Nat → Int32} {b b' : Nat → Int64} {T : aT} {c : aCol} (h : tabM a b T) (ok : okT T) (hl : T.2.1.length < 12) (ea : ∀ j, j ≠ 1 → j ≠ 6 + T.2.1.length → j ≠ 18 + T.2.1.length → (j < 136 + 40 * T.2.1.length ∨ 176 + 40 * T.2.1.length ≤ j) → a' j = a j) (eb : ∀ j, (j < 40 * T.2.1.length ∨ 40 + 40 * T.2.1.length ≤ j) → b' j = b j) (e1 : a' 1 = nI (T.2.1.length + 1)) (hc : a' (6 + T.2.1.length) = c.1 ∧ a' (18 + T.2.1.length) = (if c.2.1 = true then 1 else 0) ∧ ∀ r, r < T.1 → a' (136 + (40 * T.2.1.length + r)) = (c.2.2 r).1 ∧ b' (40 * T.2.1.length + r) = (c.2.2 r).2) : tabM a' b' (addT T c) := by
  obtain ⟨⟨h1, h2, h3, h4⟩, h5, ⟨⟨h6, h7⟩, h8, h9⟩, h10, h11⟩ := h
  have l1 := ok.1
  have l4 := ok.2.2.2.1.len
  have l5 := ok.2.2.2.2.1.len
  have l6 := ok.2.2.2.2.2.1
  have l8 := ok.2.2.2.2.2.2.2.1
  refine ⟨⟨by rw [ea 0 (by omega) (by omega) (by omega) (by omega)]; exact h1, by rw [e1]; simp [addT], by rw [ea 2 (by omega) (by omega) (by omega) (by omega)]; exact h3, by rw [ea 3 (by omega) (by omega) (by omega) (by omega)]; exact h4⟩, fun i col hi => ?_, ⟨⟨by rw [ea 4 (by omega) (by omega) (by omega) (by omega)]; exact h6, fun i r hr => ?_⟩, by rw [ea 5 (by omega) (by omega) (by omega) (by omega)]; exact h8, fun i r hr => ?_⟩, fun i q hi => ?_, fun i q hi => ?_⟩
  · have hi : (T.2.1 ++ [c])[i]? = some col := hi
    by_cases hlt : i < T.2.1.length
    · rw [List.getElem?_append_left hlt] at hi
      obtain ⟨g1, g2, g3⟩ := h5 i col hi
      refine ⟨by rw [ea _ (by omega) (by omega) (by omega) (by omega)]; exact g1, by rw [ea _ (by omega) (by omega) (by omega) (by omega)]; exact g2, fun r hr => ?_⟩
      have hr : r < T.1 := hr
      rw [ea _ (by omega) (by omega) (by omega) (by omega), eb _ (by omega)]
      exact g3 r hr
    · have h10 := lt_of_get hi
      simp at h10
      have : i = T.2.1.length := by omega
      subst this
      rw [List.getElem?_concat_length] at hi
      cases hi
      exact hc
  · have hr : T.2.2.1[i]? = some r := hr
    have hl : i < T.2.2.1.length := lt_of_get hr
    rw [ea _ (by omega) (by omega) (by omega) (by omega)]
    exact h7 i r hr
  · have hr : T.2.2.2.1[i]? = some r := hr
    have hl : i < T.2.2.2.1.length := lt_of_get hr
    rw [ea _ (by omega) (by omega) (by omega) (by omega)]
    exact h9 i r hr
  · have hi : T.2.2.2.2.1[i]? = some q := hi
    have hl : i < T.2.2.2.2.1.length := lt_of_get hi
    rw [ea _ (by omega) (by omega) (by omega) (by omega), ea _ (by omega) (by omega) (by omega) (by omega)]
    exact h10 i q hi
  · have hi : T.2.2.2.2.2[i]? = some q := hi
    have hl : i < T.2.2.2.2.2.length := lt_of_get hi
    rw [ea _ (by omega) (by omega) (by omega) (by omega), ea _ (by omega) (by omega) (by omega) (by omega), ea _ (by omega) (by omega) (by omega) (by omega), eb _ (by omega)]
    exact h11 i q hi
theorem m_comes {d : Nat} {kd : Int32} {S : aS} {μ : mmMem} {K : Int32 → mmMem → Prop} (hd : 4 ≤ d) (hM : MS μ S) (hl : S.1.2.1.length < 12) (hkd : 0 ≤ kd.toInt ∧ kd.toInt ≤ 10) (h : ∀ ν, MS ν (sT S (addT S.1 (kd, false, fun _ => newC kd))) → loE μ ν → K (nI S.1.2.1.length) ν) : mmCI d M_X8_comes false 1 [.ref 160, .int kd] μ K := by
  refine u_X8_comes (by omega) ?_
  have h12 := hM.2.1.2.1
  have h40 := hM.2.1.1
  rw [hM.1.1.2.1]
  have e6 : (6 : Int32) + nI S.1.2.1.length = nI (6 + S.1.2.1.length) := nI_addr 6 _
  have e18 : (18 : Int32) + nI S.1.2.1.length = nI (18 + S.1.2.1.length) := nI_addr 18 _
  rw [e6, e18, nI_clamp (by omega), nI_clamp (by omega), nI_1]
  refine ⟨vp_in_nI (by omega) (by decide), vp_in_nI (by omega) (by decide), ?_⟩
  have at0 : ∀ j, (sI (sI (sI μ 161 1 (nI (S.1.2.1.length + 1))) 161 (6 + S.1.2.1.length) kd) 161 (18 + S.1.2.1.length) 0).1 161 j = if j = 18 + S.1.2.1.length then 0 else if j = 6 + S.1.2.1.length then kd else if j = 1 then nI (S.1.2.1.length + 1) else μ.1 161 j := fun j => by rw [sI_at, sI_at, sI_at]
  refine m_comesE (n := S.1.1) (kd := kd) (by omega) hl h40 hkd _ (by rw [at0, if_neg (by omega), if_pos rfl]) (by rw [at0, if_neg (by omega), if_neg (by omega), if_neg (by omega)]; exact hM.1.1.1) (fun ν hν => ?_) _ 0 _ rfl (Nat.zero_le _) (newR.refl _ _ _ _)
  obtain ⟨g1, g2, g3⟩ := hν
  have f : ∀ q, q ≠ 161 → q ≠ 162 → eq3 μ ν q := fun q a b => (show eq3 μ _ q by simp [eq3, sI, a]).trans (g1 q a b)
  refine h ν (hM.tab (hM.1.addc hM.2.1 hl (fun j a1 a2 a3 a4 => ?_) (fun j a1 => ?_) ?_ ⟨?_, ?_, fun r hr => ⟨?_, ?_⟩⟩) (addT_ok hM.2.1 hl ⟨hkd.1, hkd.2, fun r _ => newC_ok hkd⟩) f) (fun q hq => f q (by omega) (by omega))
  · rw [g2, if_neg (by omega), at0, if_neg a3, if_neg a2, if_neg a1]
  · rw [g3, if_neg (by omega)]; rfl
  · rw [g2, if_neg (by omega), at0, if_neg (by omega), if_neg (by omega), if_pos rfl]
  · rw [g2, if_neg (by omega), at0, if_neg (by omega), if_pos rfl]
  · rw [g2, if_neg (by omega), at0, if_pos rfl]; rfl
  · rw [g2, if_pos (by omega)]
  · rw [g3, if_pos (by omega)]
theorem lt_i32 {a b : Int32} {x y : Int} (ha : a.toInt = x) (hb : b.toInt = y) : a < b ↔ x < y := by rw [Int32.lt_iff_toInt_lt, ha, hb]
theorem m_column {d : Nat} {k : Int32} {S : aS} {μ : mmMem} {K : Int32 → mmMem → Prop} (hd : 5 ≤ d) (hM : MS μ S) (h : ∀ ν, MS ν (sp_column k S).2 → loE μ ν → K (sp_column k S).1 ν) : mmCI d M_X8_column false 1 [.ref 160, .int k] μ K := by
  refine u_X8_column (by omega) ?_
  refine m_isInI (a := 0) (b := 10) (by omega) rfl rfl ?_
  unfold sp_column at h
  by_cases q : ¬ k < 0 ∧ ¬ (10 : Int32) < k
  · rw [if_pos q]
    have hk := i32_of q.1 q.2
    refine ⟨fun _ => ?_, fun w => absurd w (by decide)⟩
    rw [if_neg (by rintro (w | w); exact q.1 w; exact q.2 w)] at h
    have h12 := hM.2.1.2.1
    rw [hM.1.1.2.1]
    refine ⟨fun n => ?_, fun e => ?_⟩
    · have hlt : S.1.2.1.length < 12 := Nat.lt_of_le_of_ne h12 (fun e => n (by rw [e]; rfl))
      rw [if_pos hlt] at h
      exact m_comes (by omega) hM hlt hk h
    · have hlt : ¬ S.1.2.1.length < 12 := fun w => by
        have := (nI_eq (b := 12) (by omega) (by decide)).mp e
        omega
      rw [if_neg hlt] at h
      exact h μ hM (loE.refl _)
  · rw [if_neg q]
    have w : k < 0 ∨ 10 < k := by
      by_cases w : k < 0
      · exact Or.inl w
      · exact Or.inr (Classical.not_not.mp fun w2 => q ⟨w, w2⟩)
    rw [if_pos w] at h
    exact ⟨fun e => absurd rfl e, fun _ => h μ hM (loE.refl _)⟩
