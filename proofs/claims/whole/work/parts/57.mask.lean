/-! ===== the model: ask ===== -/
theorem MS.got {μ : mmMem} {S : aS} (h : MS μ S) (v : Int64) : MS (sJ μ 160 5 v) (sGot S v) := by
  obtain ⟨h1, h2, h3, h4, h5, h6, h7⟩ := h
  refine ⟨?_, h2, h3.fr rfl rfl (by simp [sJ]), by rw [sJ_at, if_pos rfl]; rfl, h5, h6, h7⟩
  have : (sJ μ 160 5 v).2.1 162 = μ.2.1 162 := by simp [sJ]
  rw [this]
  exact h1
theorem m_ask {d : Nat} {c r a : Int32} {S : aS} {μ : mmMem} {K : Int32 → mmMem → Prop} (hd : 5 ≤ d) (hM : MS μ S) (h : ∀ ν, MS ν (sp_ask c r a S).2 → loE μ ν → K (sp_ask c r a S).1 ν) : mmCI d M_X8_ask false 3 [.ref 160, .int c, .int r, .int a] μ K := by
  refine u_X8_ask (by omega) ?_
  refine m_amiss (by omega) hM (fun ν hν hh => ?_)
  unfold sp_ask at h
  refine ⟨fun q => ?_, fun q => ?_⟩
  · obtain ⟨k, col, hk, rfl, hcol, hg⟩ := cref_0 q
    rw [withC_ok hk q hcol] at h
    rw [q] at hν
    have hν : MS ν S := hν
    obtain ⟨t1, t2, t3⟩ := hν.1.2.1 k col hcol
    have hoc := hν.2.1.2.2.1 col (List.mem_of_getElem? hcol)
    have h40 := hν.2.1.1
    have e6 : (6 : Int32) + nI k = nI (6 + k) := nI_addr 6 k
    refine m_isInI (a := 0) (b := 8) (by omega) rfl rfl ?_
    by_cases w : ¬ a < 0 ∧ ¬ (8 : Int32) < a
    · rw [if_pos w]
      rw [if_neg (by rintro (z | z); exact w.1 z; exact w.2 z)] at h
      refine ⟨fun _ => ⟨fun l8 => ?_, fun l8 => ?_⟩, fun z => absurd z (by decide)⟩
      · have e8 : a = 8 := by
          apply Int32.toInt_inj.mp
          have := w.2
          rw [Int32.lt_iff_toInt_lt] at this
          rw [Int32.le_iff_toInt_le] at l8
          omega
        refine m_isRow (by omega) hν ?_
        by_cases hr : noRow S.1 r
        · rw [if_pos hr]
          have ea : aref S.1 col.1 r a = -21 := by
            unfold aref
            rw [if_neg (fun z => z.1 e8), if_pos hr]
          rw [ea, if_neg (by decide)] at h
          exact ⟨fun z => absurd rfl z, fun _ => m_refuses (by omega) (Or.inl rfl) hν (fun ν2 m2 l2 => h ν2 m2 (hh.trans l2))⟩
        · rw [if_neg hr]
          have ea : aref S.1 col.1 r a = 0 := by
            unfold aref
            rw [if_neg (fun z => z.1 e8), if_neg hr, if_pos (Or.inl e8)]
          rw [ea, if_pos rfl, if_pos e8] at h
          obtain ⟨i, hi, rfl⟩ := row_of hν.2.1 hr
          obtain ⟨g1, g2⟩ := t3 i hi
          rw [nI_clamp (by omega)] at h
          refine ⟨fun _ => ?_, fun z => absurd z (by decide)⟩
          rw [nI_plc, nI_136, nI_clamp (by omega), nI_clamp (by omega), g1, g2]
          have fin := h _ (hν.got (col.2.2 i).2) (hh.trans (loE_sJ _ _ _ _ (by decide)))
          unfold enK at fin
          refine ⟨vp_in_nI (by omega) (by decide), vp_in_nI (by omega) (by decide), fun n1 => ⟨fun n8 => ?_, fun y8 => ?_⟩, fun y1 => ?_⟩
          · rw [if_neg n8] at fin; exact fin
          · rw [if_pos y8] at fin; exact fin
          · rw [if_neg (by rw [y1]; decide), y1] at fin; exact fin
      · have n8 : ¬ a = 8 := fun e => l8 (by rw [e]; decide)
        have a7 : a ≤ 7 := by
          rw [Int32.le_iff_toInt_le] at l8 ⊢
          have e8 : (8 : Int32).toInt = 8 := rfl
          have e7 : (7 : Int32).toInt = 7 := rfl
          omega
        have ba : isB a := isB_i w.1 a7
        rw [e6, nI_clamp (by omega), t1]
        have e78 : col.1 < 8 ↔ ¬ (7 : Int32) < col.1 := by
          rw [Int32.lt_iff_toInt_lt, Int32.lt_iff_toInt_lt]
          have e8 : (8 : Int32).toInt = 8 := rfl
          have e7 : (7 : Int32).toInt = 7 := rfl
          omega
        refine ⟨vp_in_nI (by omega) (by decide), fun k8 => ?_, fun k8 => ?_⟩
        · have k7 := e78.mp k8
          refine m_isRow (by omega) hν ?_
          by_cases hr : noRow S.1 r
          · rw [if_pos hr]
            have ea : aref S.1 col.1 r a = -21 := by
              unfold aref
              rw [if_neg (fun z => k7 z.2), if_pos hr]
            rw [ea, if_neg (by decide)] at h
            exact ⟨fun z => absurd rfl z, fun _ => m_refuses (by omega) (Or.inl rfl) hν (fun ν2 m2 l2 => h ν2 m2 (hh.trans l2))⟩
          · rw [if_neg hr]
            obtain ⟨i, hi, rfl⟩ := row_of hν.2.1 hr
            obtain ⟨g1, g2⟩ := t3 i hi
            obtain ⟨okx, fit⟩ := hoc.2.2 i hi
            obtain ⟨fx, bx⟩ := fit.box hoc.1 (Int32.not_lt.mp k7)
            refine ⟨fun _ => ?_, fun z => absurd z (by decide)⟩
            rw [nI_plc, nI_136, nI_clamp (by omega), nI_clamp (by omega), g1]
            refine ⟨vp_in_nI (by omega) (by decide), ?_⟩
            rw [t1]
            refine m_widens (by omega) bx ba ?_
            cases hw : aWid col.1 a with
            | true =>
              have ea : aref S.1 col.1 (nI i) a = 0 := by
                unfold aref
                rw [if_neg (fun z => k7 z.2), if_neg hr, if_pos (Or.inr hw)]
              rw [ea, if_pos rfl, if_neg n8, nI_clamp (by omega)] at h
              refine ⟨fun _ => ⟨vp_in_nI (by omega) (by decide), ?_⟩, fun z => absurd z (by decide)⟩
              rw [g2]
              refine m_castOf (by omega) okx (by rw [fx]; exact bx) ba ?_
              exact h _ (hν.got _) (hh.trans (loE_sJ _ _ _ _ (by decide)))
            | false =>
              have ea : aref S.1 col.1 (nI i) a = -22 := by
                unfold aref
                rw [if_neg (fun z => k7 z.2), if_neg hr, if_neg (by rintro (z | z); exact n8 z; rw [hw] at z; cases z)]
              rw [ea, if_neg (by decide)] at h
              exact ⟨fun z => absurd rfl z, fun _ => m_refuses (by omega) (Or.inr (Or.inl rfl)) hν (fun ν2 m2 l2 => h ν2 m2 (hh.trans l2))⟩
        · have k7 : (7 : Int32) < col.1 := Classical.not_not.mp fun z => k8 (e78.mpr z)
          have ea : aref S.1 col.1 r a = -22 := by
            unfold aref
            rw [if_pos ⟨n8, k7⟩]
          rw [ea, if_neg (by decide)] at h
          exact m_refuses (by omega) (Or.inr (Or.inl rfl)) hν (fun ν2 m2 l2 => h ν2 m2 (hh.trans l2))
    · rw [if_neg w]
      have w2 : a < 0 ∨ 8 < a := by
        by_cases z : a < 0
        · exact Or.inl z
        · exact Or.inr (Classical.not_not.mp fun z2 => w ⟨z, z2⟩)
      rw [if_pos w2] at h
      exact ⟨fun z => absurd rfl z, fun _ => h ν hν hh⟩
  · rw [withC_no q] at h
    exact h ν hν hh
