/-! ===== the class: kept, keyed, filtered ===== -/
theorem nar01 (b : Bool) : vp_nar .boolean (if b = true then (1 : Int32) else 0) = if b = true then 1 else 0 := by cases b <;> decide
theorem okV.filter {n : Nat} {l : List Nat} (h : okV n l) (p : Nat → Bool) : okV n (l.filter p) := ⟨h.1.filter _, fun r hr => h.2 r (List.mem_filter.mp hr).1⟩
def setK (T : aT) (ks : List (Nat × Bool)) : aT := (T.1, T.2.1, T.2.2.1, T.2.2.2.1, ks, T.2.2.2.2.2)
def sp_key (c : Int32) (b : Bool) (S : aS) : Int32 × aS := if c = -1 then (0, sT S (setK S.1 [])) else withC S c fun k _ => if S.1.2.2.2.2.1.length < 4 then (nI (S.1.2.2.2.2.1.length + 1), sT S (setK S.1 (S.1.2.2.2.2.1 ++ [(k, b)]))) else (-4, S)
theorem c_key {d : Nat} {c : Int32} {b : Bool} {S : aS} {μ : mmMem} {K : Int32 → mmMem → Prop} (hd : 4 ≤ d) (hC : CS μ S) (h : ∀ ν, CS ν (sp_key c b S).2 → hiE μ ν → K (sp_key c b S).1 ν) : mmCI d M_X7_key false 2 [.ref 0, .int c, .int (if b = true then 1 else 0)] μ K := by
  refine u_X7_key (by omega) ?_
  unfold sp_key at h
  have fr1 : ∀ i x, (∀ q, q ≠ 1 → eq3 μ (sI μ 1 i x) q) := fun i x q hq => by simp [eq3, sI, hq]
  refine ⟨fun n => ?_, fun n => ?_⟩
  · rw [if_neg n] at h
    refine c_columnRefusal (by omega) hC (fun ν hν hh => ?_)
    refine ⟨fun q => ?_, fun q => ?_⟩
    · obtain ⟨k, col, hk, rfl, hcol, hg⟩ := cref_0 q
      rw [withC_ok hk q hcol] at h
      rw [q] at hν
      replace hν : CS ν S := hν
      obtain ⟨⟨h1, h2, h3, h4⟩, h5, ⟨h6, h7⟩, h8, h9⟩ := hν.1
      have hkl := hC.2.1.2.2.2.2.2.1
      rw [h3]
      refine ⟨fun l => ?_, fun l => ?_⟩
      · have hlt : S.1.2.2.2.2.1.length < 4 := (nI_ltI (by omega) (by decide : (4 : Nat) < 2 ^ 31)).mp l
        rw [if_pos hlt] at h
        refine u_X4_addKey (by omega) kd_1 ?_
        have e1 : ∀ x, (sI ν (1 + 3) S.1.2.2.2.2.1.length x).1 1 2 = nI S.1.2.2.2.2.1.length := fun x => by
          have : (1 : Nat) ≠ 1 + 3 := by decide
          simp [sI, h3]
        have e2 : ∀ x y, (sI (sI ν (1 + 3) S.1.2.2.2.2.1.length x) (1 + 4) S.1.2.2.2.2.1.length y).1 1 2 = nI S.1.2.2.2.2.1.length := fun x y => by
          simp [sI, h3]
        rw [h3, nI_clamp (by omega), e1, nI_clamp (by omega), e2, nI_1, nar01]
        refine ⟨vp_in_nI hlt (by decide), vp_in_nI hlt (by decide), ?_⟩
        have g : ∀ q, q ≠ 1 → q ≠ 4 → q ≠ 5 → eq3 ν (sI (sI (sI ν (1 + 3) S.1.2.2.2.2.1.length (nI k)) (1 + 4) S.1.2.2.2.2.1.length (if b = true then 1 else 0)) 1 2 (nI (S.1.2.2.2.2.1.length + 1))) q := fun q q1 q2 q3 => by simp [eq3, sI, q1, q2, q3]
        have ev : (sI (sI (sI ν (1 + 3) S.1.2.2.2.2.1.length (nI k)) (1 + 4) S.1.2.2.2.2.1.length (if b = true then 1 else 0)) 1 2 (nI (S.1.2.2.2.2.1.length + 1))).1 1 2 = nI (S.1.2.2.2.2.1.length + 1) := by simp [sI, upd]
        rw [ev]
        refine h _ (hν.tab ⟨⟨?_, ?_, ?_, ?_⟩, fun i c2 hi => ?_, ⟨h6.fr (g _ (by decide) (by decide) (by decide)) (g _ (by decide) (by decide) (by decide)), h7.fr (g _ (by decide) (by decide) (by decide)) (g _ (by decide) (by decide) (by decide))⟩, fun i q2 hi => ?_, fun i q2 hi => ?_⟩ ?_ (fun q h1 h2 => g q (by omega) (by omega) (by omega)) (by rw [(g 141 (by decide) (by decide) (by decide)).1])) (hh.trans fun q hq => g q (by omega) (by omega) (by omega))
        · simp [sI, upd, h1, setK]
        · simp [sI, upd, h2, setK]
        · rw [ev]; simp [setK]
        · simp [sI, upd, h4, setK]
        · have hi2 : S.1.2.1[i]? = some c2 := hi
          have := lt_of_get hi2
          have := hC.2.1.2.1
          exact (h5 i c2 hi2).fr (g _ (by omega) (by omega) (by omega)) (g _ (by omega) (by omega) (by omega)) (g _ (by omega) (by omega) (by omega)) (g _ (by omega) (by omega) (by omega))
        · have hi2 : (S.1.2.2.2.2.1 ++ [(k, b)])[i]? = some q2 := hi
          by_cases il : i < S.1.2.2.2.2.1.length
          · rw [List.getElem?_append_left il] at hi2
            obtain ⟨w1, w2⟩ := h8 i q2 hi2
            have ne : i ≠ S.1.2.2.2.2.1.length := by omega
            have w1' : ν.1 4 i = nI q2.1 := w1
            have w2' : ν.1 5 i = if q2.2 = true then 1 else 0 := w2
            constructor
            · simp [sI, upd, ne, w1']
            · simp [sI, upd, ne, w2']
          · have := lt_of_get hi2
            simp at this
            have : i = S.1.2.2.2.2.1.length := by omega
            subst this
            rw [List.getElem?_concat_length] at hi2
            cases hi2
            constructor
            · simp [sI, upd]
            · simp [sI, upd]
        · have hi2 : S.1.2.2.2.2.2[i]? = some q2 := hi
          obtain ⟨w1, w2, w3⟩ := h9 i q2 hi2
          have e9 := (g (1 + 58 + 2 * i) (by omega) (by omega) (by omega)).1
          exact ⟨by rw [e9]; exact w1, by rw [e9]; exact w2, w3.fr (g _ (by omega) (by omega) (by omega))⟩
        · obtain ⟨o1, o2, o3, o4, o5, o6, o7, o8, o9⟩ := hC.2.1
          refine ⟨o1, o2, o3, o4, o5, by simp [setK]; omega, fun z hz => ?_, o8, o9⟩
          rcases List.mem_append.mp hz with w | w
          · exact o7 z w
          · rw [List.mem_singleton.mp w]; exact lt_of_get hcol
      · have hlt : ¬ S.1.2.2.2.2.1.length < 4 := fun w => l ((nI_ltI (by omega) (by decide : (4 : Nat) < 2 ^ 31)).mpr w)
        rw [if_neg hlt] at h
        exact h ν hν hh
    · rw [withC_no q] at h
      exact h ν hν hh
  · rw [if_pos n] at h
    have g := fr1 2 0
    obtain ⟨⟨h1, h2, h3, h4⟩, h5, ⟨h6, h7⟩, h8, h9⟩ := hC.1
    refine h _ (hC.tab ⟨⟨?_, ?_, ?_, ?_⟩, fun i c2 hi => ?_, ⟨h6.fr (g _ (by decide)) (g _ (by decide)), h7.fr (g _ (by decide)) (g _ (by decide))⟩, fun i q2 hi => ?_, fun i q2 hi => ?_⟩ ?_ (fun q h1 h2 => g q (by omega)) (by rw [(g 141 (by decide)).1])) (fun q hq => g q (by omega))
    · simp [sI, upd, h1, setK]
    · simp [sI, upd, h2, setK]
    · simp [sI, upd, setK]; rfl
    · simp [sI, upd, h4, setK]
    · exact (h5 i c2 hi).fr (g _ (by omega)) (g _ (by omega)) (g _ (by omega)) (g _ (by omega))
    · simp [setK] at hi
    · obtain ⟨w1, w2, w3⟩ := h9 i q2 hi
      have e9 := (g (1 + 58 + 2 * i) (by omega)).1
      exact ⟨by rw [e9]; exact w1, by rw [e9]; exact w2, w3.fr (g _ (by omega))⟩
    · obtain ⟨o1, o2, o3, o4, o5, o6, o7, o8, o9⟩ := hC.2.1
      exact ⟨o1, o2, o3, o4, o5, by simp [setK], fun z hz => by simp [setK] at hz, o8, o9⟩
