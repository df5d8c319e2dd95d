/-! ===== the model: rows compared ===== -/
theorem m_areSame {d k r l q : Nat} {x y : aCol} {S : aS} {μ : mmMem} {K : Int32 → mmMem → Prop} (hd : 3 ≤ d) (hM : MS μ S) (hx : S.1.2.1[k]? = some x) (hy : S.1.2.1[l]? = some y) (hr : r < S.1.1) (hq : q < S.1.1) (h : K (if x.2.2 r = y.2.2 q then 1 else 0) μ) : mmCI d M_X8_areSame false 4 [.ref 160, .int (nI k), .int (nI r), .int (nI l), .int (nI q)] μ K := by
  refine u_X8_areSame hd ?_
  have h40 := hM.2.1.1
  have h12 := hM.2.1.2.1
  have lk := lt_of_get hx
  have ll := lt_of_get hy
  obtain ⟨-, -, x3⟩ := hM.1.2.1 k x hx
  obtain ⟨-, -, y3⟩ := hM.1.2.1 l y hy
  obtain ⟨x4, x5⟩ := x3 r hr
  obtain ⟨y4, y5⟩ := y3 q hq
  rw [nI_plc, nI_plc, nI_136, nI_136, nI_clamp (show 136 + (40 * k + r) < 2 ^ 31 by omega), nI_clamp (show 136 + (40 * l + q) < 2 ^ 31 by omega), nI_clamp (show 40 * k + r < 2 ^ 31 by omega), nI_clamp (show 40 * l + q < 2 ^ 31 by omega), x4, y4, x5, y5]
  refine ⟨vp_in_nI (by omega) (by decide), vp_in_nI (by omega) (by decide), fun n => ?_, fun e => ⟨vp_in_nI (by omega) (by decide), vp_in_nI (by omega) (by decide), fun n => ?_, fun e2 => ?_⟩⟩
  · rw [if_neg (fun w => n (by rw [w]))] at h; exact h
  · rw [if_neg (fun w => n (by rw [w]; exact (lg_e _ _).mpr rfl))] at h; exact h
  · rw [if_pos (Prod.ext e ((lg_e _ _).mp e2))] at h; exact h
theorem m_differsE {d r q : Nat} {S : aS} {μ : mmMem} {P : Option Value → mmMem → Prop} (hd : 3 ≤ d) (hM : MS μ S) (hr : r < S.1.1) (hq : q < S.1.1) (ans : Int32) (h : P (some (.int ans)) μ) : ∀ (j c : Nat), c + j = 12 → ans = difAt r q (S.1.2.1.drop c) c → mmEnds d M_X8_differs 25 [.ref 160, .int (nI r), .int (nI q), .int (nI c)] [] μ P := by
  have h12 := hM.2.1.2.1
  intro j
  induction j with
  | zero =>
    intro c hj ha
    refine s_X8_differs_25 (by omega) ?_
    rw [List.drop_of_length_le (by omega)] at ha
    have ha : ans = -5 := ha
    subst ha
    exact ⟨fun _ => h, fun w => absurd (nI_le (a := 12) (by omega) (by omega)) w⟩
  | succ j ih =>
    intro c hj ha
    refine s_X8_differs_25 (by omega) ?_
    rw [hM.1.1.2.1, nI_1, nI_leI (by omega) (by omega)]
    refine ⟨fun w => absurd w (nI_ge (b := 12) (by omega) (by omega)), fun _ => ⟨fun w => ?_, fun w => ?_⟩⟩
    · rw [List.drop_of_length_le (by omega)] at ha
      refine ih (c + 1) (by omega) ?_
      rw [List.drop_of_length_le (by omega)]
      exact ha
    · obtain ⟨col, hcol⟩ : ∃ col, S.1.2.1[c]? = some col := ⟨_, List.getElem?_eq_getElem (by omega)⟩
      obtain ⟨-, g2, -⟩ := hM.1.2.1 c col hcol
      have e18 : (18 : Int32) + nI c = nI (18 + c) := nI_addr 18 c
      rw [drop_get hcol] at ha
      unfold difAt at ha
      rw [e18, nI_clamp (by omega), g2]
      refine ⟨vp_in_nI (by omega) (by decide), fun w => ?_, fun w => ?_⟩
      · have hg : col.2.1 = true := by
          cases hh : col.2.1 with
          | true => rfl
          | false => rw [hh] at w; exact absurd rfl w
        rw [if_neg (fun e => by rw [hg] at e; exact absurd e.1 (by decide))] at ha
        exact ih (c + 1) (by omega) ha
      · have hg : col.2.1 = false := by
          cases hh : col.2.1 with
          | true => rw [hh] at w; exact absurd w (by decide)
          | false => rfl
        refine m_areSame hd hM hcol hcol hr hq ?_
        by_cases e : col.2.2 r = col.2.2 q
        · rw [if_pos e]
          rw [if_neg (fun w => w.2 e)] at ha
          exact ⟨fun _ => ih (c + 1) (by omega) ha, fun w => absurd w (by decide)⟩
        · rw [if_neg e]
          rw [if_pos ⟨hg, e⟩] at ha
          subst ha
          exact ⟨fun w => absurd rfl w, fun _ => h⟩
theorem m_differs {d : Nat} {r q : Int32} {S : aS} {μ : mmMem} {K : Int32 → mmMem → Prop} (hd : 4 ≤ d) (hM : MS μ S) (h : ∀ ν, MS ν (sp_differs r q S).2 → loE μ ν → K (sp_differs r q S).1 ν) : mmCI d M_X8_differs false 2 [.ref 160, .int r, .int q] μ K := by
  refine u_X8_differs (by omega) ?_
  unfold sp_differs at h
  refine m_isRow (by omega) hM ?_
  by_cases z1 : noRow S.1 r
  · rw [if_pos (Or.inl z1)] at h
    rw [if_pos z1]
    exact ⟨fun _ => m_refuses (by omega) (Or.inl rfl) hM h, fun w => absurd rfl w⟩
  · rw [if_neg z1]
    refine ⟨fun w => absurd w (by decide), fun _ => ?_⟩
    refine m_isRow (by omega) hM ?_
    by_cases z2 : noRow S.1 q
    · rw [if_pos (Or.inr z2)] at h
      rw [if_pos z2]
      exact ⟨fun w => absurd rfl w, fun _ => m_refuses (by omega) (Or.inl rfl) hM h⟩
    · rw [if_neg (by rintro (w | w); exact z1 w; exact z2 w)] at h
      rw [if_neg z2]
      refine ⟨fun _ => ?_, fun w => absurd w (by decide)⟩
      have h40 := hM.2.1.1
      obtain ⟨i, hi, rfl⟩ := row_of hM.2.1 z1
      obtain ⟨j, hj, rfl⟩ := row_of hM.2.1 z2
      rw [nI_clamp (by omega), nI_clamp (by omega)] at h
      exact m_differsE (S := S) (by omega) hM hi hj _ (h μ hM (loE.refl _)) 12 0 rfl rfl
