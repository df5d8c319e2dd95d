/-! ===== the model: image, undo, count, feed, view ===== -/
theorem tabM.cg {a a' : Nat → Int32} {b b' : Nat → Int64} {T : aT} (h : tabM a b T) (ok : okT T) (ea : ∀ j, j < 616 → a' j = a j) (eb : ∀ j, j < 486 → b' j = b j) : tabM a' b' T := by
  obtain ⟨⟨h1, h2, h3, h4⟩, h5, ⟨⟨h6, h7⟩, h8, h9⟩, h10, h11⟩ := h
  have l1 := ok.1
  have l2 := ok.2.1
  have l4 := ok.2.2.2.1.len
  have l5 := ok.2.2.2.2.1.len
  have l6 := ok.2.2.2.2.2.1
  have l8 := ok.2.2.2.2.2.2.2.1
  refine ⟨⟨by rw [ea 0 (by omega)]; exact h1, by rw [ea 1 (by omega)]; exact h2, by rw [ea 2 (by omega)]; exact h3, by rw [ea 3 (by omega)]; exact h4⟩, fun i col hi => ?_, ⟨⟨by rw [ea 4 (by omega)]; exact h6, fun i r hr => ?_⟩, by rw [ea 5 (by omega)]; exact h8, fun i r hr => ?_⟩, fun i q hi => ?_, fun i q hi => ?_⟩
  · have hil := lt_of_get hi
    obtain ⟨g1, g2, g3⟩ := h5 i col hi
    refine ⟨by rw [ea _ (by omega)]; exact g1, by rw [ea _ (by omega)]; exact g2, fun r hr => ?_⟩
    rw [ea _ (by omega), eb _ (by omega)]
    exact g3 r hr
  · have := lt_of_get hr
    rw [ea _ (by omega)]
    exact h7 i r hr
  · have := lt_of_get hr
    rw [ea _ (by omega)]
    exact h9 i r hr
  · have := lt_of_get hi
    rw [ea _ (by omega), ea _ (by omega)]
    exact h10 i q hi
  · have := lt_of_get hi
    rw [ea _ (by omega), ea _ (by omega), ea _ (by omega), eb _ (by omega)]
    exact h11 i q hi
theorem sJ_at (μ : mmMem) (p i j : Nat) (x : Int64) : (sJ μ p i x).2.1 p j = if j = i then x else μ.2.1 p j := by simp [sJ, vp_updL]
theorem m_imageE2 {d : Nat} {P : Option Value → mmMem → Prop} (μ0 : mmMem) (h : ∀ ν, (∀ q, q ≠ 164 → eq3 μ0 ν q) → (∀ j, j < 486 → ν.2.1 164 j = μ0.2.1 162 j) → P (some (.int (μ0.1 161 0))) ν) : ∀ (n i : Nat) (μ : mmMem), i + n = 486 → (∀ q, q ≠ 164 → eq3 μ0 μ q) → (∀ j, j < i → μ.2.1 164 j = μ0.2.1 162 j) → mmEnds d M_X8_image 34 [.ref 160, .int (nI i)] [] μ P := by
  intro n
  induction n with
  | zero =>
    intro i μ hi hf hc
    refine s_X8_image_34 (by omega) ?_
    rw [(hf 161 (by decide)).1]
    exact ⟨fun _ => h μ hf (fun j hj => hc j (by omega)), fun w => absurd (nI_le (a := 486) (by omega) (by omega)) w⟩
  | succ n ih =>
    intro i μ hi hf hc
    refine s_X8_image_34 (by omega) ?_
    rw [nI_clamp (by omega), nI_1, (hf 162 (by decide)).2.1]
    refine ⟨fun w => absurd w (nI_ge (b := 486) (by omega) (by omega)), fun _ => ⟨vp_in_nI (by omega) (by decide), ?_⟩⟩
    refine ih (i + 1) _ (by omega) (fun q hq => (hf q hq).trans (by simp [eq3, sJ, hq])) (fun j hj => ?_)
    rw [sJ_at]
    by_cases e : j = i
    · rw [if_pos e, e]
    · rw [if_neg e]; exact hc j (by omega)
theorem m_imageE1 {d : Nat} {P : Option Value → mmMem → Prop} (μ0 : mmMem) (h : ∀ ν, (∀ q, q ≠ 163 → q ≠ 164 → eq3 μ0 ν q) → (∀ j, j < 616 → ν.1 163 j = μ0.1 161 j) → (∀ j, j < 486 → ν.2.1 164 j = μ0.2.1 162 j) → P (some (.int (μ0.1 161 0))) ν) : ∀ (n i : Nat) (μ : mmMem), i + n = 616 → (∀ q, q ≠ 163 → eq3 μ0 μ q) → (∀ j, j < i → μ.1 163 j = μ0.1 161 j) → mmEnds d M_X8_image 7 [.ref 160, .int (nI i)] [] μ P := by
  intro n
  induction n with
  | zero =>
    intro i μ hi hf hc
    refine s_X8_image_7 (by omega) ?_
    refine ⟨fun _ => ?_, fun w => absurd (nI_le (a := 616) (by omega) (by omega)) w⟩
    refine m_imageE2 μ (fun ν g1 g2 => ?_) 486 0 μ rfl (fun _ _ => eq3.rfl') (fun j hj => absurd hj (Nat.not_lt_zero _))
    have := h ν (fun q a b => (hf q a).trans (g1 q b)) (fun j hj => by rw [(g1 163 (by decide)).1]; exact hc j (by omega)) (fun j hj => by rw [g2 j hj, (hf 162 (by decide)).2.1])
    rw [(hf 161 (by decide)).1]
    exact this
  | succ n ih =>
    intro i μ hi hf hc
    refine s_X8_image_7 (by omega) ?_
    rw [nI_clamp (by omega), nI_1, (hf 161 (by decide)).1]
    refine ⟨fun w => absurd w (nI_ge (b := 616) (by omega) (by omega)), fun _ => ⟨vp_in_nI (by omega) (by decide), ?_⟩⟩
    refine ih (i + 1) _ (by omega) (fun q hq => (hf q hq).trans (by simp [eq3, sI, hq])) (fun j hj => ?_)
    rw [sI_at]
    by_cases e : j = i
    · rw [if_pos e, e]
    · rw [if_neg e]; exact hc j (by omega)
theorem m_image {d : Nat} {S : aS} {μ : mmMem} {K : Int32 → mmMem → Prop} (hd : 1 ≤ d) (hM : MS μ S) (h : ∀ ν, MS ν (sp_image S).2 → loE μ ν → K (sp_image S).1 ν) : mmCI d M_X8_image false 0 [.ref 160] μ K := by
  refine u_X8_image hd ?_
  refine m_imageE1 (sI μ 160 4 1) (fun ν f g1 g2 => ?_) 616 0 _ rfl (fun _ _ => eq3.rfl') (fun j hj => absurd hj (Nat.not_lt_zero _))
  have f0 : ∀ q, q ≠ 160 → q ≠ 163 → q ≠ 164 → eq3 μ ν q := fun q a b c => (show eq3 μ (sI μ 160 4 1) q by simp [eq3, sI, a]).trans (f q b c)
  have a160 : ν.1 160 = (sI μ 160 4 1).1 160 := (f 160 (by decide) (by decide)).1
  have b160 : ν.2.1 160 = μ.2.1 160 := (f 160 (by decide) (by decide)).2.1
  obtain ⟨h1, h2, h3, h4, h5, h6, h7⟩ := hM
  have e0 : (sI μ 160 4 1).1 161 0 = nI S.1.1 := by rw [sI_1 _ _ _ _ _ (by decide)]; exact h1.1.1
  rw [e0]
  refine h ν ⟨?_, h2, ⟨by rw [a160, sI_at, if_pos rfl], h1.cg h2 (fun j hj => by rw [g1 j hj, sI_1 _ _ _ _ _ (by decide)]) (fun j hj => by rw [g2 j hj]; rfl), h2⟩, by rw [b160]; exact h4, by rw [(f0 165 (by decide) (by decide) (by decide)).1]; exact h5, ⟨by rw [a160, sI_at, if_neg (by decide)]; exact h6.1, fun i x hx => by rw [(f0 171 (by decide) (by decide) (by decide)).1]; exact h6.2 i x hx⟩, h7⟩ (fun q hq => f0 q (by omega) (by omega) (by omega))
  rw [(f0 161 (by decide) (by decide) (by decide)).1, (f0 162 (by decide) (by decide) (by decide)).2.1]
  exact h1
theorem m_undoE2 {d : Nat} {P : Option Value → mmMem → Prop} (μ0 : mmMem) (h : ∀ ν, (∀ q, q ≠ 162 → eq3 μ0 ν q) → (∀ j, j < 486 → ν.2.1 162 j = μ0.2.1 164 j) → P (some (.int (μ0.1 161 0))) ν) : ∀ (n i : Nat) (μ : mmMem), i + n = 486 → (∀ q, q ≠ 162 → eq3 μ0 μ q) → (∀ j, j < i → μ.2.1 162 j = μ0.2.1 164 j) → mmEnds d M_X8_undo 39 [.ref 160, .int (nI i)] [] μ P := by
  intro n
  induction n with
  | zero =>
    intro i μ hi hf hc
    refine s_X8_undo_39 (by omega) ?_
    rw [(hf 161 (by decide)).1]
    exact ⟨fun _ => h μ hf (fun j hj => hc j (by omega)), fun w => absurd (nI_le (a := 486) (by omega) (by omega)) w⟩
  | succ n ih =>
    intro i μ hi hf hc
    refine s_X8_undo_39 (by omega) ?_
    rw [nI_clamp (by omega), nI_1, (hf 164 (by decide)).2.1]
    refine ⟨fun w => absurd w (nI_ge (b := 486) (by omega) (by omega)), fun _ => ⟨vp_in_nI (by omega) (by decide), ?_⟩⟩
    refine ih (i + 1) _ (by omega) (fun q hq => (hf q hq).trans (by simp [eq3, sJ, hq])) (fun j hj => ?_)
    rw [sJ_at]
    by_cases e : j = i
    · rw [if_pos e, e]
    · rw [if_neg e]; exact hc j (by omega)
theorem m_undoE1 {d : Nat} {P : Option Value → mmMem → Prop} (μ0 : mmMem) (h : ∀ ν, (∀ q, q ≠ 161 → q ≠ 162 → eq3 μ0 ν q) → (∀ j, j < 616 → ν.1 161 j = μ0.1 163 j) → (∀ j, j < 486 → ν.2.1 162 j = μ0.2.1 164 j) → P (some (.int (μ0.1 163 0))) ν) : ∀ (n i : Nat) (μ : mmMem), i + n = 616 → (∀ q, q ≠ 161 → eq3 μ0 μ q) → (∀ j, j < i → μ.1 161 j = μ0.1 163 j) → mmEnds d M_X8_undo 12 [.ref 160, .int (nI i)] [] μ P := by
  intro n
  induction n with
  | zero =>
    intro i μ hi hf hc
    refine s_X8_undo_12 (by omega) ?_
    refine ⟨fun _ => ?_, fun w => absurd (nI_le (a := 616) (by omega) (by omega)) w⟩
    refine m_undoE2 μ (fun ν g1 g2 => ?_) 486 0 μ rfl (fun _ _ => eq3.rfl') (fun j hj => absurd hj (Nat.not_lt_zero _))
    have := h ν (fun q a b => (hf q a).trans (g1 q b)) (fun j hj => by rw [(g1 161 (by decide)).1]; exact hc j (by omega)) (fun j hj => by rw [g2 j hj, (hf 164 (by decide)).2.1])
    rw [hc 0 (by omega)]
    exact this
  | succ n ih =>
    intro i μ hi hf hc
    refine s_X8_undo_12 (by omega) ?_
    rw [nI_clamp (by omega), nI_1, (hf 163 (by decide)).1]
    refine ⟨fun w => absurd w (nI_ge (b := 616) (by omega) (by omega)), fun _ => ⟨vp_in_nI (by omega) (by decide), ?_⟩⟩
    refine ih (i + 1) _ (by omega) (fun q hq => (hf q hq).trans (by simp [eq3, sI, hq])) (fun j hj => ?_)
    rw [sI_at]
    by_cases e : j = i
    · rw [if_pos e, e]
    · rw [if_neg e]; exact hc j (by omega)
theorem m_undo {d : Nat} {S : aS} {μ : mmMem} {K : Int32 → mmMem → Prop} (hd : 1 ≤ d) (hM : MS μ S) (h : ∀ ν, MS ν (sp_undo S).2 → loE μ ν → K (sp_undo S).1 ν) : mmCI d M_X8_undo false 0 [.ref 160] μ K := by
  refine u_X8_undo hd ?_
  unfold sp_undo at h
  obtain ⟨h1, h2, h3, h4⟩ := hM
  cases hi : S.2.1 with
  | none =>
    rw [hi] at h h3
    have e : μ.1 160 4 = 0 := h3
    exact ⟨fun w => absurd e w, fun _ => h μ ⟨h1, h2, by rw [hi]; exact h3, h4⟩ (loE.refl _)⟩
  | some T =>
    rw [hi] at h h3
    obtain ⟨k1, k2, k3⟩ := h3
    refine ⟨fun _ => ?_, fun w => by rw [k1] at w; exact absurd w (by decide)⟩
    refine m_undoE1 μ (fun ν f g1 g2 => ?_) 616 0 _ rfl (fun _ _ => eq3.rfl') (fun j hj => absurd hj (Nat.not_lt_zero _))
    rw [k2.1.1]
    have hM : MS μ S := ⟨h1, h2, by rw [hi]; exact ⟨k1, k2, k3⟩, h4⟩
    exact h ν (hM.tab (k2.cg k3 g1 g2) k3 f) (fun q hq => f q (by omega) (by omega))
theorem m_count {d : Nat} {w : Int32} {S : aS} {μ : mmMem} {K : Int32 → mmMem → Prop} (hd : 2 ≤ d) (hM : MS μ S) (h : K (sp_count w S).1 μ) : mmCI d M_X8_count false 1 [.ref 160, .int w] μ K := by
  refine u_X8_count (by omega) ?_
  unfold sp_count at h
  dsimp only at h
  obtain ⟨⟨⟨t0, t1, t2, t3⟩, -⟩, -, -, -, ⟨b0, b1, b2⟩, ⟨x0, -⟩, -⟩ := hM
  have i32 : ∀ j : Int32, w.toInt = j.toInt → w = j := fun j q => Int32.toInt_inj.mp q
  refine m_isInI (a := 4) (b := 6) (by omega) rfl rfl ?_
  by_cases q : ¬ w < 4 ∧ ¬ (6 : Int32) < w
  · rw [if_pos q]
    refine ⟨fun e => absurd e (by decide), fun _ => ?_⟩
    have : w = 4 ∨ w = 5 ∨ w = 6 := by
      obtain ⟨q1, q2⟩ := q
      rw [Int32.lt_iff_toInt_lt] at q1 q2
      have e4 : (4 : Int32).toInt = 4 := rfl
      have e6 : (6 : Int32).toInt = 6 := rfl
      have : w.toInt = 4 ∨ w.toInt = 5 ∨ w.toInt = 6 := by omega
      rcases this with z | z | z
      · exact Or.inl (i32 4 z)
      · exact Or.inr (Or.inl (i32 5 z))
      · exact Or.inr (Or.inr (i32 6 z))
    rcases this with rfl | rfl | rfl
    · have e : (4 : Int32) - 4 = nI 0 := by decide
      rw [e, nI_clamp (by decide), b0]
      exact ⟨vp_in_nI (by decide) (by decide), h⟩
    · have e : (5 : Int32) - 4 = nI 1 := by decide
      rw [e, nI_clamp (by decide), b1]
      exact ⟨vp_in_nI (by decide) (by decide), h⟩
    · have e : (6 : Int32) - 4 = nI 2 := by decide
      rw [e, nI_clamp (by decide), b2]
      exact ⟨vp_in_nI (by decide) (by decide), h⟩
  · rw [if_neg q]
    refine ⟨fun _ => ?_, fun e => absurd rfl e⟩
    refine m_isInI (a := 0) (b := 3) (by omega) rfl rfl ?_
    have n4 : ¬ w = 4 := fun e => q (by rw [e]; decide)
    have n5 : ¬ w = 5 := fun e => q (by rw [e]; decide)
    have n6 : ¬ w = 6 := fun e => q (by rw [e]; decide)
    by_cases q2 : ¬ w < 0 ∧ ¬ (3 : Int32) < w
    · rw [if_pos q2]
      refine ⟨fun e => absurd e (by decide), fun _ => ?_⟩
      have : w = 0 ∨ w = 1 ∨ w = 2 ∨ w = 3 := by
        obtain ⟨q1, q3⟩ := q2
        rw [Int32.lt_iff_toInt_lt] at q1 q3
        have e4 : (0 : Int32).toInt = 0 := rfl
        have e6 : (3 : Int32).toInt = 3 := rfl
        have : w.toInt = 0 ∨ w.toInt = 1 ∨ w.toInt = 2 ∨ w.toInt = 3 := by omega
        rcases this with z | z | z | z
        · exact Or.inl (i32 0 z)
        · exact Or.inr (Or.inl (i32 1 z))
        · exact Or.inr (Or.inr (Or.inl (i32 2 z)))
        · exact Or.inr (Or.inr (Or.inr (i32 3 z)))
      rcases this with rfl | rfl | rfl | rfl
      · have e : (0 : Int32) = nI 0 := rfl
        rw [e, nI_clamp (by decide), t0]
        exact ⟨vp_in_nI (by decide) (by decide), h⟩
      · have e : (1 : Int32) = nI 1 := rfl
        rw [e, nI_clamp (by decide), t1]
        exact ⟨vp_in_nI (by decide) (by decide), h⟩
      · have e : (2 : Int32) = nI 2 := rfl
        rw [e, nI_clamp (by decide), t2]
        exact ⟨vp_in_nI (by decide) (by decide), h⟩
      · have e : (3 : Int32) = nI 3 := rfl
        rw [e, nI_clamp (by decide), t3]
        exact ⟨vp_in_nI (by decide) (by decide), h⟩
    · rw [if_neg q2]
      have n0 : ¬ w = 0 := fun e => q2 (by rw [e]; decide)
      have n1 : ¬ w = 1 := fun e => q2 (by rw [e]; decide)
      have n2 : ¬ w = 2 := fun e => q2 (by rw [e]; decide)
      have n3 : ¬ w = 3 := fun e => q2 (by rw [e]; decide)
      rw [if_neg n0, if_neg n1, if_neg n2, if_neg n3, if_neg n4, if_neg n5, if_neg n6] at h
      refine ⟨fun _ => ⟨fun n7 => ?_, fun e7 => ?_⟩, fun e => absurd rfl e⟩
      · rw [if_neg n7] at h; exact h
      · rw [if_pos e7] at h
        rw [x0]; exact h
theorem m_feed {d : Nat} {x : Int32} {S : aS} {μ : mmMem} {K : Int32 → mmMem → Prop} (hd : 2 ≤ d) (hM : MS μ S) (h : ∀ ν, MS ν (sp_feed x S).2 → loE μ ν → K (sp_feed x S).1 ν) : mmCI d M_X8_feed false 1 [.ref 160, .int x] μ K := by
  refine u_X8_feed (by omega) ?_
  unfold sp_feed at h
  refine m_isInI (a := 0) (b := 127) (by omega) rfl rfl ?_
  by_cases q : ¬ x < 0 ∧ ¬ (127 : Int32) < x
  · rw [if_pos q]
    rw [if_neg (by rintro (w | w); exact q.1 w; exact w (Int32.not_lt.mp q.2))] at h
    refine ⟨fun _ => ?_, fun e => absurd e (by decide)⟩
    obtain ⟨h1, h2, h3, h4, h5, h6, h7⟩ := hM
    have hl := h7.1
    rw [h6.1]
    refine ⟨fun n => ?_, fun e => ?_⟩
    · have hlt : S.2.2.2.2.length < 100 := Nat.lt_of_le_of_ne hl (fun e => n (by rw [e]; rfl))
      rw [if_pos hlt] at h
      rw [nI_clamp (by omega), nI_1]
      refine ⟨vp_in_nI hlt (by decide), ?_⟩
      refine h _ ⟨h1, h2, h3.fr (by rw [sI_at, if_neg (by decide)]; rfl) rfl rfl, h4, h5, ⟨by rw [sI_at, if_pos rfl]; simp [sTx], fun i y hy => ?_⟩, ?_⟩ ((loE_sI _ _ _ _ (by decide)).trans (loE_sI _ _ _ _ (by decide)))
      · have hy : (S.2.2.2.2 ++ [x])[i]? = some y := hy
        rw [sI_1 _ _ _ _ _ (by decide), sI_at]
        by_cases e : i = S.2.2.2.2.length
        · subst e
          rw [List.getElem?_concat_length] at hy
          cases hy
          rw [if_pos rfl]
        · have hlt2 := lt_of_get hy
          rw [List.length_append] at hlt2
          have hlt2 : i < S.2.2.2.2.length + 1 := hlt2
          rw [List.getElem?_append_left (by omega)] at hy
          rw [if_neg e]
          exact h6.2 i y hy
      · refine ⟨?_, fun y hy => ?_⟩
        · show (S.2.2.2.2 ++ [x]).length ≤ 100
          rw [List.length_append]
          exact hlt
        · have hy : y ∈ S.2.2.2.2 ++ [x] := hy
          rcases List.mem_append.mp hy with w | w
          · exact h7.2 y w
          · rw [List.mem_singleton.mp w]
            obtain ⟨q1, q2⟩ := q
            rw [Int32.lt_iff_toInt_lt] at q1 q2
            exact ⟨Int.not_lt.mp q1, Int.not_lt.mp q2⟩
    · have hlt : ¬ S.2.2.2.2.length < 100 := fun w => by
        have := (nI_eq (b := 100) (by omega) (by decide)).mp e
        omega
      rw [if_neg hlt] at h
      exact h μ ⟨h1, h2, h3, h4, h5, h6, h7⟩ (loE.refl _)
  · rw [if_neg q]
    have w : x < 0 ∨ ¬ x ≤ 127 := by
      by_cases w : x < 0
      · exact Or.inl w
      · exact Or.inr fun w2 => q ⟨w, Int32.not_lt.mpr w2⟩
    rw [if_pos w] at h
    exact ⟨fun e => absurd rfl e, fun _ => h μ hM (loE.refl _)⟩
