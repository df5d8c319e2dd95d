/-! ===== the class: columns come and go ===== -/
theorem CS.tab {μ ν : mmMem} {S : aS} {T : aT} (h : CS μ S) (hT : tabC ν 1 T) (okt : okT T) (e : ∀ q, (q < 1 ∨ 71 ≤ q) → (q < 141 ∨ q = 142) → eq3 μ ν q) (e2 : ν.1 141 0 = μ.1 141 0) : CS ν (sT S T) := by
  obtain ⟨h1, h2, h3, h4, ⟨h5, h6, h7⟩, h8, h9⟩ := h
  have e0 := e 0 (by omega) (by omega)
  exact ⟨hT, okt, h3.fr (by rw [e0.1]) (fun q _ _ => e q (by omega) (by omega)), by rw [e0.2.1]; exact h4, ⟨by rw [e0.1]; exact h5, by rw [e0.1]; exact h6, by rw [e0.1]; exact h7⟩, ⟨e2.trans h8.1, fun i x hx => by rw [(e 142 (by omega) (by omega)).1]; exact h8.2 i x hx⟩, h9⟩
theorem tabC.setCol {μ ν : mmMem} {T : aT} {k : Nat} {c : aCol} (h : tabC μ 1 T) (ok : okT T) (hk : k < T.2.1.length) (f : ∀ q, (q < 7 + 4 * k ∨ 11 + 4 * k ≤ q) → q < 71 → eq3 μ ν q) (hc : colC ν (7 + 4 * k) T.1 c) : tabC ν 1 (T.1, T.2.1.set k c, T.2.2) := by
  obtain ⟨⟨h1, h2, h3, h4⟩, h5, ⟨h6, h7⟩, h8, h9⟩ := h
  have hl := ok.2.1
  have e0 := (f 1 (by omega) (by omega)).1
  refine ⟨⟨by rw [e0]; exact h1, by rw [e0]; simpa using h2, by rw [e0]; exact h3, by rw [e0]; exact h4⟩, fun i col hi => ?_, ⟨h6.fr (f _ (by omega) (by omega)) (f _ (by omega) (by omega)), h7.fr (f _ (by omega) (by omega)) (f _ (by omega) (by omega))⟩, fun i q hi => ?_, fun i q hi => ?_⟩
  · dsimp only at hi
    rw [List.getElem?_set] at hi
    by_cases hki : k = i
    · subst hki
      rw [if_pos rfl, if_pos hk] at hi
      cases hi
      rw [show 1 + 6 + 4 * k = 7 + 4 * k by omega]
      exact hc
    · rw [if_neg hki] at hi
      have := lt_of_get hi
      exact (h5 i col hi).fr (f _ (by omega) (by omega)) (f _ (by omega) (by omega)) (f _ (by omega) (by omega)) (f _ (by omega) (by omega))
  · rw [(f (1 + 3) (by omega) (by omega)).1, (f (1 + 4) (by omega) (by omega)).1]
    exact h8 i q hi
  · have : i < T.2.2.2.2.2.length := lt_of_get hi
    have := ok.2.2.2.2.2.2.2.1
    obtain ⟨g1, g2, g3⟩ := h9 i q hi
    have e1 := (f (1 + 58 + 2 * i) (by omega) (by omega)).1
    exact ⟨by rw [e1]; exact g1, by rw [e1]; exact g2, g3.fr (f _ (by omega) (by omega))⟩
theorem okT.setCol {T : aT} {k : Nat} {c : aCol} (ok : okT T) (hc : okCol T.1 c) : okT (T.1, T.2.1.set k c, T.2.2) := by
  obtain ⟨h1, h2, h3, h4, h5, h6, h7, h8, h9⟩ := ok
  refine ⟨h1, by simpa using h2, fun x hx => ?_, h4, h5, h6, by simpa using h7, h8, by simpa using h9⟩
  rcases List.mem_or_eq_of_mem_set hx with q | q
  · exact h3 x q
  · rw [q]; exact hc
theorem CS.putCol {μ ν : mmMem} {S : aS} {k : Nat} {c : aCol} (h : CS μ S) (hk : k < S.1.2.1.length) (f : ∀ q, (q < 7 + 4 * k ∨ 11 + 4 * k ≤ q) → (q < 141 ∨ q = 142) → eq3 μ ν q) (e2 : ν.1 141 0 = μ.1 141 0) (hc : colC ν (7 + 4 * k) S.1.1 c) (okc : okCol S.1.1 c) : CS ν (putCol S k c) := by
  have hl := h.2.1.2.1
  exact h.tab (h.1.setCol h.2.1 hk (fun q h1 h2 => f q h1 (by omega)) hc) (h.2.1.setCol okc) (fun q h1 h2 => f q (by omega) h2) e2
theorem CS.colC {μ : mmMem} {S : aS} {k : Nat} {c : aCol} (h : CS μ S) (hk : S.1.2.1[k]? = some c) : colC μ (7 + 4 * k) S.1.1 c := by
  have := h.1.2.1 k c hk
  rwa [show 1 + 6 + 4 * k = 7 + 4 * k by omega] at this
theorem CS.okCol {μ : mmMem} {S : aS} {k : Nat} {c : aCol} (h : CS μ S) (hk : S.1.2.1[k]? = some c) : okCol S.1.1 c := h.2.1.2.2.1 c (List.mem_of_getElem? hk)
theorem c_begin {d a n : Nat} {kd : Int32} {μ : mmMem} {K : mmMem → Prop} (hd : 2 ≤ d) (ha : mmKD a = 1) (hk : 0 ≤ kd.toInt ∧ kd.toInt ≤ 10) (hn : n ≤ 40) (h : ∀ ν, colC ν a n (kd, false, fun _ => newC kd) → (∀ q, q < a ∨ a + 4 ≤ q → eq3 μ ν q) → K ν) : mmC0 d M_X1_begin false 2 [.ref a, .int kd, .int (nI n)] μ K := by
  refine u_X1_begin (by omega) ha ?_
  refine c_renew (m := 0) (kd := kd) (by omega) ha hk (by omega) hn (by simp [sI, upd]) (fun ν hν => ?_)
  have e0 : ∀ q, q ≠ a → eq3 μ (sI (sI μ a 0 kd) a 1 0) q := fun q hq => by simp [eq3, sI, hq]
  obtain ⟨f1, f2, f3⟩ := hν
  refine h ν ⟨?_, ?_, fun r hr => ?_⟩ (fun q hq => (e0 q (by omega)).trans (f1 q (by omega) (by omega) (by omega)))
  · rw [(f1 a (by omega) (by omega) (by omega)).1]; simp [sI, upd]
  · rw [(f1 a (by omega) (by omega) (by omega)).1]; simp [sI, upd]
  · obtain ⟨g1, g2, g3⟩ := f3 r
    rw [g1, g2, g3]
    dsimp only
    rw [if_pos ⟨Nat.zero_le _, hr⟩]
    exact ⟨rfl, rfl, rfl⟩
theorem addT_ok {T : aT} {c : aCol} (ok : okT T) (hl : T.2.1.length < 12) (hc : okCol T.1 c) : okT (addT T c) := by
  obtain ⟨h1, h2, h3, h4, h5, h6, h7, h8, h9⟩ := ok
  refine ⟨h1, by simp [addT]; omega, fun x hx => ?_, h4, h5, h6, fun k hk => ?_, h8, fun f hf => ?_⟩
  · rcases List.mem_append.mp hx with q | q
    · exact h3 x q
    · rw [List.mem_singleton.mp q]; exact hc
  · have := h7 k hk
    simp [addT]; omega
  · obtain ⟨g1, g2⟩ := h9 f hf
    exact ⟨by simp [addT]; omega, g2⟩
theorem tabC.add {μ ν : mmMem} {T : aT} {c : aCol} (h : tabC μ 1 T) (ok : okT T) (hl : T.2.1.length < 12) (f : ∀ q, q ≠ 1 → (q < 7 + 4 * T.2.1.length ∨ 11 + 4 * T.2.1.length ≤ q) → q < 71 → eq3 μ ν q) (e : ν.1 1 1 = nI (T.2.1.length + 1) ∧ ν.1 1 0 = μ.1 1 0 ∧ ν.1 1 2 = μ.1 1 2 ∧ ν.1 1 3 = μ.1 1 3) (hc : colC ν (7 + 4 * T.2.1.length) T.1 c) : tabC ν 1 (addT T c) := by
  obtain ⟨⟨h1, h2, h3, h4⟩, h5, ⟨h6, h7⟩, h8, h9⟩ := h
  refine ⟨⟨by rw [e.2.1]; exact h1, by rw [e.1]; simp [addT], by rw [e.2.2.1]; exact h3, by rw [e.2.2.2]; exact h4⟩, fun i col hi => ?_, ⟨h6.fr (f _ (by omega) (by omega) (by omega)) (f _ (by omega) (by omega) (by omega)), h7.fr (f _ (by omega) (by omega) (by omega)) (f _ (by omega) (by omega) (by omega))⟩, fun i q hi => ?_, fun i q hi => ?_⟩
  · have hi' : (T.2.1 ++ [c])[i]? = some col := hi
    rw [show 1 + 6 + 4 * i = 7 + 4 * i by omega]
    by_cases hlt : i < T.2.1.length
    · rw [List.getElem?_append_left hlt] at hi'
      have := h5 i col hi'
      rw [show 1 + 6 + 4 * i = 7 + 4 * i by omega] at this
      exact this.fr (f _ (by omega) (by omega) (by omega)) (f _ (by omega) (by omega) (by omega)) (f _ (by omega) (by omega) (by omega)) (f _ (by omega) (by omega) (by omega))
    · have h10 := lt_of_get hi'
      simp at h10
      have : i = T.2.1.length := by omega
      subst this
      rw [List.getElem?_concat_length] at hi'
      cases hi'
      exact hc
  · rw [(f (1 + 3) (by omega) (by omega) (by omega)).1, (f (1 + 4) (by omega) (by omega) (by omega)).1]
    exact h8 i q hi
  · have : i < T.2.2.2.2.2.length := lt_of_get hi
    have := ok.2.2.2.2.2.2.2.1
    obtain ⟨g1, g2, g3⟩ := h9 i q hi
    have e1 := (f (1 + 58 + 2 * i) (by omega) (by omega) (by omega)).1
    exact ⟨by rw [e1]; exact g1, by rw [e1]; exact g2, g3.fr (f _ (by omega) (by omega) (by omega))⟩
theorem i32_of {k : Int32} (h1 : ¬ k < 0) (h2 : ¬ 10 < k) : 0 ≤ k.toInt ∧ k.toInt ≤ 10 := by
  rw [Int32.lt_iff_toInt_lt] at h1 h2
  exact ⟨Int.not_lt.mp h1, Int.not_lt.mp h2⟩
theorem c_column {d : Nat} {k : Int32} {S : aS} {μ : mmMem} {K : Int32 → mmMem → Prop} (hd : 4 ≤ d) (hC : CS μ S) (h : ∀ ν, CS ν (sp_column k S).2 → hiE μ ν → K (sp_column k S).1 ν) : mmCI d M_X7_column false 1 [.ref 0, .int k] μ K := by
  refine u_X7_column (by omega) ?_
  refine ⟨fun q => ?_, fun q => ⟨fun q2 => ?_, fun q2 => ?_⟩⟩
  · have e : sp_column k S = (-2, S) := if_pos (Or.inl q)
    rw [e] at h
    exact h μ hC (hiE.refl _)
  · have e : sp_column k S = (-2, S) := if_pos (Or.inr q2)
    rw [e] at h
    exact h μ hC (hiE.refl _)
  · have hk := i32_of q q2
    have hl := hC.2.1.2.1
    rw [hC.1.1.2.1, hC.1.1.1, nI_1]
    refine ⟨fun q3 => ?_, fun q3 => ?_⟩
    · have hlt : S.1.2.1.length < 12 := (nI_ltI (by omega) (by decide : (12 : Nat) < 2 ^ 31)).mp q3
      have e : sp_column k S = (nI S.1.2.1.length, sT S (addT S.1 (k, false, fun _ => newC k))) := by
        unfold sp_column
        rw [if_neg (by rintro (w | w); exact q w; exact q2 w), if_pos hlt]
      rw [e] at h
      have e1 : nI (S.1.2.1.length + 1) - 1 = nI S.1.2.1.length := nI_pred _
      rw [e1, nI_clamp (by omega)]
      refine ⟨vp_in_nI hlt (by decide), ?_⟩
      refine c_begin (by omega) (kcol _ hlt).1 hk hC.2.1.1 (fun ν hν f => ?_)
      have g0 : ∀ q, q ≠ 1 → eq3 μ (sI μ 1 1 (nI (S.1.2.1.length + 1))) q := fun q hq => by simp [eq3, sI, hq]
      have g : ∀ q, q ≠ 1 → (q < 7 + 4 * S.1.2.1.length ∨ 11 + 4 * S.1.2.1.length ≤ q) → eq3 μ ν q := fun q h1 h2 => (g0 q h1).trans (f q (by omega))
      have e2 : ν.1 1 = (sI μ 1 1 (nI (S.1.2.1.length + 1))).1 1 := (f 1 (by omega)).1
      have e3 : ν.1 1 1 = nI (S.1.2.1.length + 1) := by rw [e2]; simp [sI, upd]
      rw [e3, e1]
      have okc : okCol S.1.1 (k, false, fun _ => newC k) := ⟨hk.1, hk.2, fun r _ => newC_ok hk⟩
      refine h ν (hC.tab (hC.1.add hC.2.1 hlt (fun q h1 h2 _ => g q h1 h2) ⟨e3, by rw [e2]; simp [sI, upd], by rw [e2]; simp [sI, upd], by rw [e2]; simp [sI, upd]⟩ hν) (addT_ok hC.2.1 hlt okc) (fun q h1 h2 => g q (by omega) (by omega)) (by rw [(g 141 (by omega) (by omega)).1])) (fun q hq => g q (by omega) (by omega))
    · have hlt : ¬ S.1.2.1.length < 12 := fun w => q3 ((nI_ltI (by omega) (by decide : (12 : Nat) < 2 ^ 31)).mpr w)
      have e : sp_column k S = (-4, S) := by
        unfold sp_column
        rw [if_neg (by rintro (w | w); exact q w; exact q2 w), if_neg hlt]
      rw [e] at h
      exact h μ hC (hiE.refl _)
theorem c_drop {d : Nat} {c : Int32} {S : aS} {μ : mmMem} {K : Int32 → mmMem → Prop} (hd : 3 ≤ d) (hC : CS μ S) (h : ∀ ν, CS ν (sp_drop c S).2 → hiE μ ν → K (sp_drop c S).1 ν) : mmCI d M_X7_drop false 1 [.ref 0, .int c] μ K := by
  refine u_X7_drop (by omega) ?_
  refine c_columnRefusal (by omega) hC (fun ν hν hh => ?_)
  refine ⟨fun q => ?_, fun q => ?_⟩
  · obtain ⟨k, col, hk, rfl, hcol, hg⟩ := cref_0 q
    have e : sp_drop (nI k) S = (col.1, putCol S k (col.1, true, col.2.2)) := withC_ok hk q hcol
    rw [e] at h
    rw [q] at hν
    rw [nI_clamp (by omega)]
    refine ⟨vp_in_nI hk (by decide), ?_⟩
    have hcc := CS.colC (S := S) hν hcol
    have hoc := CS.okCol (S := S) hν hcol
    have e1 : (sI ν (7 + 4 * k) 1 1).1 (7 + 4 * k) 0 = col.1 := by simp [sI, upd, hcc.1]
    rw [e1]
    have g : ∀ q, q ≠ 7 + 4 * k → eq3 ν (sI ν (7 + 4 * k) 1 1) q := fun q hq => by simp [eq3, sI, hq]
    have hlt := lt_of_get hcol
    refine h _ (CS.putCol (S := S) hν hlt (fun q h1 _ => g q (by omega)) (by rw [(g 141 (by omega)).1]) ⟨e1, by simp [sI, upd], fun r hr => ?_⟩ ⟨hoc.1, hoc.2.1, hoc.2.2⟩) (hh.trans fun q hq => g q (by omega))
    rw [(g _ (by omega)).1, (g _ (by omega)).2.1, (g _ (by omega)).2.2]
    exact hcc.2.2 r hr
  · have e : sp_drop c S = (cref S.1 c, rfs S (cref S.1 c)) := withC_no q
    rw [e] at h
    exact h ν hν hh
theorem c_kindOf {d : Nat} {c : Int32} {S : aS} {μ : mmMem} {K : Int32 → mmMem → Prop} (hd : 3 ≤ d) (hC : CS μ S) (h : ∀ ν, CS ν (sp_kindOf c S).2 → hiE μ ν → K (sp_kindOf c S).1 ν) : mmCI d M_X7_kindOf false 1 [.ref 0, .int c] μ K := by
  refine u_X7_kindOf (by omega) ?_
  refine c_columnRefusal (by omega) hC (fun ν hν hh => ?_)
  refine ⟨fun q => ?_, fun q => ?_⟩
  · obtain ⟨k, col, hk, rfl, hcol, hg⟩ := cref_0 q
    have e : sp_kindOf (nI k) S = (col.1, S) := withC_ok hk q hcol
    rw [e] at h
    rw [q] at hν
    rw [nI_clamp (by omega)]
    refine ⟨vp_in_nI hk (by decide), ?_⟩
    rw [(CS.colC (S := S) hν hcol).1]
    exact h ν hν hh
  · have e : sp_kindOf c S = (cref S.1 c, rfs S (cref S.1 c)) := withC_no q
    rw [e] at h
    exact h ν hν hh
theorem c_got {d : Nat} {S : aS} {μ : mmMem} {K : Int64 → mmMem → Prop} (hd : 1 ≤ d) (hC : CS μ S) (h : K S.2.2.1 μ) : mmCJ d M_X7_got false 0 [.ref 0] μ K := by
  refine u_X7_got hd ?_
  rw [hC.2.2.2.1]
  exact h
