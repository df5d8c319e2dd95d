/-! ===== the model: keys ===== -/
theorem tabM.setK {a a' : Nat → Int32} {b : Nat → Int64} {T : aT} {ks : List (Nat × Bool)} (h : tabM a b T) (ok : okT T) (ea : ∀ j, j ≠ 2 → (j < 30 ∨ 38 ≤ j) → a' j = a j) (el : a' 2 = nI ks.length) (en : ∀ k q, ks[k]? = some q → a' (30 + 2 * k) = nI q.1 ∧ a' (31 + 2 * k) = if q.2 = true then 1 else 0) : tabM a' b (setK T ks) := by
  obtain ⟨⟨h1, h2, h3, h4⟩, h5, ⟨⟨h6, h7⟩, h8, h9⟩, h10, h11⟩ := h
  have l2 := ok.2.1
  refine ⟨⟨by rw [ea 0 (by omega) (by omega)]; exact h1, by rw [ea 1 (by omega) (by omega)]; exact h2, el, by rw [ea 3 (by omega) (by omega)]; exact h4⟩, fun c col hc => ?_, ⟨⟨by rw [ea 4 (by omega) (by omega)]; exact h6, fun i r hr => ?_⟩, by rw [ea 5 (by omega) (by omega)]; exact h8, fun i r hr => ?_⟩, en, fun f q hf => ?_⟩
  · have := lt_of_get hc
    have l2 : T.2.1.length ≤ 12 := l2
    have hc : T.2.1[c]? = some col := hc
    have := lt_of_get hc
    obtain ⟨g1, g2, g3⟩ := h5 c col hc
    refine ⟨by rw [ea _ (by omega) (by omega)]; exact g1, by rw [ea _ (by omega) (by omega)]; exact g2, fun r hr => ?_⟩
    rw [ea _ (by omega) (by omega)]
    exact g3 r hr
  · rw [ea _ (by omega) (by omega)]
    exact h7 i r hr
  · rw [ea _ (by omega) (by omega)]
    exact h9 i r hr
  · rw [ea _ (by omega) (by omega), ea _ (by omega) (by omega), ea _ (by omega) (by omega)]
    exact h11 f q hf
theorem okT.setK {T : aT} {ks : List (Nat × Bool)} (ok : okT T) (hl : ks.length ≤ 4) (hk : ∀ k ∈ ks, k.1 < T.2.1.length) : okT (setK T ks) := by
  obtain ⟨h1, h2, h3, h4, h5, h6, h7, h8, h9⟩ := ok
  exact ⟨h1, h2, h3, h4, h5, hl, hk, h8, h9⟩
theorem nI_30 (n : Nat) : (30 : Int32) + (2 : Int32) * nI n = nI (30 + 2 * n) := by
  have e1 : (2 : Int32) * nI n = nI (2 * n) := nI_mul 2 n
  rw [e1]
  exact nI_add 30 (2 * n)
theorem m_key {d : Nat} {c : Int32} {b : Bool} {S : aS} {μ : mmMem} {K : Int32 → mmMem → Prop} (hd : 3 ≤ d) (hM : MS μ S) (h : ∀ ν, MS ν (sp_key c b S).2 → loE μ ν → K (sp_key c b S).1 ν) : mmCI d M_X8_key false 2 [.ref 160, .int c, .int (if b = true then 1 else 0)] μ K := by
  refine u_X8_key (by omega) ?_
  unfold sp_key at h
  refine ⟨fun n => ?_, fun e => ?_⟩
  · rw [if_neg n] at h
    refine m_amiss (by omega) hM (fun ν hν hh => ?_)
    refine ⟨fun q => ?_, fun q => ?_⟩
    · obtain ⟨k, col, hk, rfl, hcol, hg⟩ := cref_0 q
      rw [withC_ok hk q hcol] at h
      rw [q] at hν
      have hν : MS ν S := hν
      have l4 := hν.2.1.2.2.2.2.2.1
      have h2 := hν.1.1.2.2.1
      rw [h2]
      refine ⟨fun n4 => ?_, fun e4 => ?_⟩
      · have hlt : S.1.2.2.2.2.1.length < 4 := Nat.lt_of_le_of_ne l4 (fun e => n4 (by rw [e]; rfl))
        rw [if_pos hlt] at h
        have a1 : ∀ x, (sI ν 161 (30 + 2 * S.1.2.2.2.2.1.length) x).1 161 2 = nI S.1.2.2.2.2.1.length := fun x => by rw [sI_at, if_neg (by omega)]; exact h2
        have a2 : ∀ x y, (sI (sI ν 161 (30 + 2 * S.1.2.2.2.2.1.length) x) 161 (30 + 2 * S.1.2.2.2.2.1.length + 1) y).1 161 2 = nI S.1.2.2.2.2.1.length := fun x y => by rw [sI_at, if_neg (by omega)]; exact a1 x
        have fin : ∀ y : Int32, y = (if b = true then 1 else 0) → K (nI (S.1.2.2.2.2.1.length + 1)) (sI (sI (sI ν 161 (30 + 2 * S.1.2.2.2.2.1.length) (nI k)) 161 (30 + 2 * S.1.2.2.2.2.1.length + 1) y) 161 2 (nI (S.1.2.2.2.2.1.length + 1))) := fun y ey => by
          have at3 : ∀ j, (sI (sI (sI ν 161 (30 + 2 * S.1.2.2.2.2.1.length) (nI k)) 161 (30 + 2 * S.1.2.2.2.2.1.length + 1) y) 161 2 (nI (S.1.2.2.2.2.1.length + 1))).1 161 j = if j = 2 then nI (S.1.2.2.2.2.1.length + 1) else if j = 30 + 2 * S.1.2.2.2.2.1.length + 1 then y else if j = 30 + 2 * S.1.2.2.2.2.1.length then nI k else ν.1 161 j := fun j => by rw [sI_at, sI_at, sI_at]
          refine h _ (hν.tab (hν.1.setK hν.2.1 (fun j j1 j2 => by rw [at3, if_neg j1, if_neg (by omega), if_neg (by omega)]) (by rw [at3, if_pos rfl, List.length_append]; rfl) (fun i q2 hi => ?_)) (hν.2.1.setK (by rw [List.length_append]; exact hlt) (fun q2 hq => ?_)) (fun q a _ => by simp [eq3, sI, a])) (hh.trans (((loE_sI _ _ _ _ (by decide)).trans (loE_sI _ _ _ _ (by decide))).trans (loE_sI _ _ _ _ (by decide))))
          · by_cases il : i < S.1.2.2.2.2.1.length
            · rw [List.getElem?_append_left il] at hi
              rw [at3, at3, if_neg (by omega), if_neg (by omega), if_neg (by omega), if_neg (by omega), if_neg (by omega), if_neg (by omega)]
              exact hν.1.2.2.2.1 i q2 hi
            · have := lt_of_get hi
              simp at this
              have : i = S.1.2.2.2.2.1.length := by omega
              subst this
              rw [List.getElem?_concat_length] at hi
              cases hi
              rw [at3, at3, if_neg (by omega), if_neg (by omega), if_pos rfl, if_neg (by omega), if_pos (by omega), ey]
              exact ⟨rfl, rfl⟩
          · rcases List.mem_append.mp hq with w | w
            · exact hν.2.1.2.2.2.2.2.2.1 q2 w
            · rw [List.mem_singleton.mp w]
              exact lt_of_get hcol
        rw [nI_30, nI_clamp (by omega), a1, nI_30, nI_1 (30 + 2 * S.1.2.2.2.2.1.length), nI_clamp (by omega), a2, a2, nI_1]
        refine ⟨vp_in_nI (by omega) (by decide), fun z => ⟨vp_in_nI (by omega) (by decide), fin 0 z.symm⟩, fun z => ⟨vp_in_nI (by omega) (by decide), fin 1 ?_⟩⟩
        cases b with
        | true => rfl
        | false => exact absurd rfl z
      · have hlt : ¬ S.1.2.2.2.2.1.length < 4 := fun w => by
          have := (nI_eq (b := 4) (by omega) (by decide)).mp e4
          omega
        rw [if_neg hlt] at h
        exact h ν hν hh
    · rw [withC_no q] at h
      exact h ν hν hh
  · rw [if_pos e] at h
    refine h _ (hM.tab (hM.1.setK hM.2.1 (fun j j1 j2 => by rw [sI_at, if_neg j1]) (by rw [sI_at, if_pos rfl]; rfl) (fun i q2 hi => by cases hi)) (hM.2.1.setK (by decide) (fun q2 hq => by cases hq)) (fun q a _ => by simp [eq3, sI, a])) (loE_sI _ _ _ _ (by decide))
