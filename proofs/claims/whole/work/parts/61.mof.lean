/-! ===== the model: how many of a column are so ===== -/
def unlU (col : aCol) (r q : Nat) : Bool := (List.range q).all fun i => !(col.2.2 r == col.2.2 i)
theorem unlU_s (col : aCol) (r q : Nat) : unlU col r (q + 1) = (unlU col r q && !(col.2.2 r == col.2.2 q)) := by
  unfold unlU
  rw [List.range_succ, List.all_append]
  simp
theorem m_ofI {d k r n : Nat} {w x3 : Int32} {col : aCol} {S : aS} {μ : mmMem} {P : Option Value → mmMem → Prop} (b : Bool) (hb : (w = 0 → b = pEmp col r) ∧ (w = 1 → b = pUnl col r) ∧ (¬ w = 0 → ¬ w = 1 → b = pNot col r)) (hd : 6 ≤ d) (hM : MS μ S) (hcol : S.1.2.1[k]? = some col) (hr : r < S.1.1) (h : ∀ v6 v7, mmEnds d M_X8_of 33 [.ref 160, .int (nI k), .int w, .int x3, .int (nI (n + if b = true then 1 else 0)), .int (nI (r + 1)), v6, v7] [] μ P) : ∀ (j q : Nat), q + j = r → mmEnds d M_X8_of 50 [.ref 160, .int (nI k), .int w, .int x3, .int (nI n), .int (nI r), .int (if unlU col r q = true then 1 else 0), .int (nI q)] [] μ P := by
  have h40 := hM.2.1.1
  have h12 := hM.2.1.2.1
  have lk := lt_of_get hcol
  have y1 : b = true → ∀ v6 v7, mmEnds d M_X8_of 33 [.ref 160, .int (nI k), .int w, .int x3, .int (nI n + 1), .int (nI r + 1), v6, v7] [] μ P := fun e v6 v7 => by
    have := h v6 v7
    rw [if_pos e] at this
    rw [nI_1, nI_1]; exact this
  have y0 : ¬ b = true → ∀ v6 v7, mmEnds d M_X8_of 33 [.ref 160, .int (nI k), .int w, .int x3, .int (nI n + 0), .int (nI r + 1), v6, v7] [] μ P := fun e v6 v7 => by
    have := h v6 v7
    rw [if_neg e] at this
    rw [Int32.add_zero, nI_1]; exact this
  intro j
  induction j with
  | zero =>
    intro q hj
    refine s_X8_of_50 (by omega) ?_
    have e : q = r := by omega
    subst e
    have eu : unlU col q q = pUnl col q := rfl
    refine ⟨fun _ => ⟨fun n0 => ⟨fun n1 => ⟨fun z => ?_, fun z => ?_⟩, fun e1 => ⟨fun z => ?_, fun z => ?_⟩⟩, fun e0 => ?_⟩, fun w => absurd (nI_le (by omega) (by omega)) w⟩
    · have q0 : q = 0 := Nat.le_zero.mp ((nI_leI (b := 0) (by omega) (by decide)).mp z)
      refine y0 (fun e => ?_) _ _
      rw [hb.2.2 n0 n1] at e
      unfold pNot at e
      rw [q0] at e
      simp at e
    · have q0 : 0 < q := Nat.pos_of_ne_zero fun e => z (by rw [e]; decide)
      have e1 : nI q - 1 = nI (q - 1) := nI_subN (a := q) (b := 1) q0 (by omega)
      rw [e1]
      refine m_rankedAt (by omega) hM hcol hr (by omega) ?_
      refine ⟨fun y => ?_, fun y => ?_⟩
      · refine y0 (fun e => ?_) _ _
        rw [hb.2.2 n0 n1] at e
        unfold pNot at e
        simp [y] at e
      · refine y1 ?_ _ _
        rw [hb.2.2 n0 n1]
        unfold pNot
        simp [y, q0]
    · refine y0 (fun e => ?_) _ _
      rw [hb.2.1 e1, ← eu] at e
      rw [if_pos e] at z
      exact absurd z (by decide)
    · refine y1 ?_ _ _
      rw [hb.2.1 e1, ← eu]
      refine Classical.byContradiction fun e => ?_
      rw [if_neg e] at z
      exact z rfl
    · obtain ⟨-, -, x3⟩ := hM.1.2.1 k col hcol
      obtain ⟨x4, x5⟩ := x3 q hr
      rw [nI_plc, nI_136, nI_clamp (by omega), x4]
      refine ⟨vp_in_nI (by omega) (by decide), fun y => ?_, fun y => ?_⟩
      · refine y0 (fun e => ?_) _ _
        rw [hb.1 e0] at e
        unfold pEmp at e
        exact y (by simpa using e)
      · refine y1 ?_ _ _
        rw [hb.1 e0]
        unfold pEmp
        simpa using y
  | succ j ih =>
    intro q hj
    refine s_X8_of_50 (by omega) ?_
    have := ih (q + 1) (by omega)
    rw [unlU_s] at this
    rw [nI_1 q]
    refine ⟨fun w => absurd w (nI_ge (by omega) (by omega)), fun _ => ⟨fun z => ?_, fun z => ?_⟩⟩
    · cases hu : unlU col r q with
      | true => rw [hu, if_pos rfl] at z; exact absurd z (by decide)
      | false =>
        rw [hu] at this
        exact this
    · cases hu : unlU col r q with
      | false => rw [hu, if_neg (by decide)] at z; exact absurd rfl z
      | true =>
        rw [hu] at this
        refine m_areSame (by omega) hM hcol hcol hr (by omega) ?_
        by_cases e : col.2.2 r = col.2.2 q
        · rw [if_pos e]
          refine ⟨fun _ => ?_, fun w => absurd w (by decide)⟩
          simpa [e] using this
        · rw [if_neg e]
          refine ⟨fun w => absurd rfl w, fun _ => ?_⟩
          simpa [e] using this
