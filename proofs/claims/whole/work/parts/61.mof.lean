/-! ===== the model: how many of a column are so ===== -/
def unlU (col : aCol) (r q : Nat) : Bool := (List.range q).all fun i => !(col.2.2 r == col.2.2 i)
theorem unlU_s (col : aCol) (r q : Nat) : unlU col r (q + 1) = (unlU col r q && !(col.2.2 r == col.2.2 q)) := by
  unfold unlU
  rw [List.range_succ, List.all_append]
  simp
theorem m_ofI {d k r n : Nat} {w x3 : Int32} {col : aCol} {S : aS} {μ : mmMem} {P : Option Value → mmMem → Prop} (b : Bool) (hb : (w = 0 → b = pEmp col r) ∧ (w = 1 → b = pUnl col r) ∧ (¬ w = 0 → ¬ w = 1 → b = pNot col r)) (hd : 6 ≤ d) (hM : MS μ S) (hcol : S.1.2.1[k]? = some col) (hr : r < S.1.1) (h : ∀ v6 v7, mmEnds d M_X8_of 33 [.ref 160, .int (nI k), .int w, .int x3, .int (nI (n + if b = true then 1 else 0)), .int (nI (r + 1)), v6, v7] [] μ P) : ∀ (j q : Nat), q + j = r → mmEnds d M_X8_of 50 [.ref 160, .int (nI k), .int w, .int x3, .int (nI n), .int (nI r), .int (if unlU col r q = true then 1 else 0), .int (nI q)] [] μ P := by
  have h40 := hM.2.1.1
  have h12 := hM.2.1.2.1
  have lk := lt_of_get hcol
  have y1 : b = true → ∀ v6 v7, mmEnds d M_X8_of 33 [.ref 160, .int (nI k), .int w, .int x3, .int (nI n + 1), .int (nI r + 1), v6, v7] [] μ P := fun e v6 v7 => by
    have := h v6 v7
    rw [if_pos e] at this
    rw [nI_1, nI_1]; exact this
  have y0 : ¬ b = true → ∀ v6 v7, mmEnds d M_X8_of 33 [.ref 160, .int (nI k), .int w, .int x3, .int (nI n + 0), .int (nI r + 1), v6, v7] [] μ P := fun e v6 v7 => by
    have := h v6 v7
    rw [if_neg e] at this
    rw [Int32.add_zero, nI_1]; exact this
  intro j
  induction j with
  | zero =>
    intro q hj
    refine s_X8_of_50 (by omega) ?_
    have e : q = r := by omega
    subst e
    have eu : unlU col q q = pUnl col q := rfl
    refine ⟨fun _ => ⟨fun n0 => ⟨fun n1 => ⟨fun z => ?_, fun z => ?_⟩, fun e1 => ⟨fun z => ?_, fun z => ?_⟩⟩, fun e0 => ?_⟩, fun w => absurd (nI_le (by omega) (by omega)) w⟩
    · have q0 : q = 0 := Nat.le_zero.mp ((nI_leI (b := 0) (by omega) (by decide)).mp z)
      refine y0 (fun e => ?_) _ _
      rw [hb.2.2 n0 n1] at e
      unfold pNot at e
      rw [q0] at e
      simp at e
    · have q0 : 0 < q := Nat.pos_of_ne_zero fun e => z (by rw [e]; decide)
      have e1 : nI q - 1 = nI (q - 1) := nI_subN (a := q) (b := 1) q0 (by omega)
      rw [e1]
      refine m_rankedAt (by omega) hM hcol hr (by omega) ?_
      refine ⟨fun y => ?_, fun y => ?_⟩
      · refine y0 (fun e => ?_) _ _
        rw [hb.2.2 n0 n1] at e
        unfold pNot at e
        simp [y] at e
      · refine y1 ?_ _ _
        rw [hb.2.2 n0 n1]
        unfold pNot
        simp [y, q0]
    · refine y0 (fun e => ?_) _ _
      rw [hb.2.1 e1, ← eu] at e
      rw [if_pos e] at z
      exact absurd z (by decide)
    · refine y1 ?_ _ _
      rw [hb.2.1 e1, ← eu]
      refine Classical.byContradiction fun e => ?_
      rw [if_neg e] at z
      exact z rfl
    · obtain ⟨-, -, x3⟩ := hM.1.2.1 k col hcol
      obtain ⟨x4, x5⟩ := x3 q hr
      rw [nI_plc, nI_136, nI_clamp (by omega), x4]
      refine ⟨vp_in_nI (by omega) (by decide), fun y => ?_, fun y => ?_⟩
      · refine y0 (fun e => ?_) _ _
        rw [hb.1 e0] at e
        unfold pEmp at e
        exact y (by simpa using e)
      · refine y1 ?_ _ _
        rw [hb.1 e0]
        unfold pEmp
        simpa using y
  | succ j ih =>
    intro q hj
    refine s_X8_of_50 (by omega) ?_
    have := ih (q + 1) (by omega)
    rw [unlU_s] at this
    rw [nI_1 q]
    refine ⟨fun w => absurd w (nI_ge (by omega) (by omega)), fun _ => ⟨fun z => ?_, fun z => ?_⟩⟩
    · cases hu : unlU col r q with
      | true => rw [hu, if_pos rfl] at z; exact absurd z (by decide)
      | false =>
        rw [hu] at this
        exact this
    · cases hu : unlU col r q with
      | false => rw [hu, if_neg (by decide)] at z; exact absurd rfl z
      | true =>
        rw [hu] at this
        refine m_areSame (by omega) hM hcol hcol hr (by omega) ?_
        by_cases e : col.2.2 r = col.2.2 q
        · rw [if_pos e]
          refine ⟨fun _ => ?_, fun w => absurd w (by decide)⟩
          simpa [e] using this
        · rw [if_neg e]
          refine ⟨fun w => absurd rfl w, fun _ => ?_⟩
          simpa [e] using this
theorem m_ofE {d k : Nat} {w x3 : Int32} {col : aCol} {S : aS} {μ : mmMem} {P : Option Value → mmMem → Prop} (p : Nat → Bool) (hp : (w = 0 → p = pEmp col) ∧ (w = 1 → p = pUnl col) ∧ (¬ w = 0 → ¬ w = 1 → p = pNot col)) (hd : 6 ≤ d) (hM : MS μ S) (hcol : S.1.2.1[k]? = some col) (h : P (some (.int (nI (cnt p S.1.1)))) μ) : ∀ (j r : Nat) (v6 v7 : Value), S.1.1 - r = j → r ≤ S.1.1 → mmEnds d M_X8_of 33 [.ref 160, .int (nI k), .int w, .int x3, .int (nI (cnt p r)), .int (nI r), v6, v7] [] μ P := by
  have h40 := hM.2.1.1
  intro j
  induction j with
  | zero =>
    intro r v6 v7 hj hr
    refine s_X8_of_33 (by omega) ?_
    rw [hM.1.1.1]
    have e : r = S.1.1 := by omega
    subst e
    exact ⟨fun _ => h, fun w => absurd (nI_le (by omega) (by omega)) w⟩
  | succ j ih =>
    intro r v6 v7 hj hr
    refine s_X8_of_33 (by omega) ?_
    rw [hM.1.1.1]
    refine ⟨fun w => absurd w (nI_ge (by omega) (by omega)), fun _ => ?_⟩
    refine m_ofI (n := cnt p r) (p r) ⟨fun e => by rw [hp.1 e], fun e => by rw [hp.2.1 e], fun e1 e2 => by rw [hp.2.2 e1 e2]⟩ hd hM hcol (by omega) (fun v6 v7 => ?_) r 0 (by omega)
    rw [← cnt_s]
    exact ih (r + 1) v6 v7 (by omega) (by omega)
theorem m_of {d : Nat} {c w : Int32} {S : aS} {μ : mmMem} {K : Int32 → mmMem → Prop} (hd : 7 ≤ d) (hM : MS μ S) (h : ∀ ν, MS ν (sp_of c w S).2 → loE μ ν → K (sp_of c w S).1 ν) : mmCI d M_X8_of false 2 [.ref 160, .int c, .int w] μ K := by
  refine u_X8_of (by omega) ?_
  refine m_amiss (by omega) hM (fun ν hν hh => ?_)
  unfold sp_of at h
  refine ⟨fun q => ?_, fun q => ?_⟩
  · obtain ⟨k, col, hk, rfl, hcol, hg⟩ := cref_0 q
    rw [withC_ok hk q hcol] at h
    rw [q] at hν
    have hν : MS ν S := hν
    refine m_isInI (a := 0) (b := 2) (by omega) rfl rfl ?_
    have go : ∀ (p : Nat → Bool), ((w = 0 → p = pEmp col) ∧ (w = 1 → p = pUnl col) ∧ (¬ w = 0 → ¬ w = 1 → p = pNot col)) → K (nI (cnt p S.1.1)) ν → ∀ x3 v6 v7, mmEnds (d - 1) M_X8_of 33 [.ref 160, .int (nI k), .int w, .int x3, .int 0, .int 0, v6, v7] [] ν (mmPI K) := fun p hp hk x3 v6 v7 => m_ofE p hp (by omega) hν hcol hk S.1.1 0 v6 v7 (by omega) (Nat.zero_le _)
    by_cases e0 : w = 0
    · rw [if_pos e0] at h
      rw [if_pos (by rw [e0]; decide)]
      exact ⟨fun _ => go (pEmp col) ⟨fun _ => rfl, fun e => by rw [e0] at e; exact absurd e (by decide), fun e => absurd e0 e⟩ (h ν hν hh) _ _ _, fun z => absurd z (by decide)⟩
    · rw [if_neg e0] at h
      by_cases e1 : w = 1
      · rw [if_pos e1] at h
        rw [if_pos (by rw [e1]; decide)]
        exact ⟨fun _ => go (pUnl col) ⟨fun e => absurd e e0, fun _ => rfl, fun _ e => absurd e1 e⟩ (h ν hν hh) _ _ _, fun z => absurd z (by decide)⟩
      · rw [if_neg e1] at h
        by_cases e2 : w = 2
        · rw [if_pos e2] at h
          rw [if_pos (by rw [e2]; decide)]
          exact ⟨fun _ => go (pNot col) ⟨fun e => absurd e e0, fun e => absurd e e1, fun _ _ => rfl⟩ (h ν hν hh) _ _ _, fun z => absurd z (by decide)⟩
        · rw [if_neg e2] at h
          have nn : ¬ (¬ w < 0 ∧ ¬ (2 : Int32) < w) := fun z => by
            obtain ⟨z1, z2⟩ := z
            rw [Int32.lt_iff_toInt_lt] at z1 z2
            have i32 : ∀ j : Int32, w.toInt = j.toInt → w = j := fun j q => Int32.toInt_inj.mp q
            have a0 : (0 : Int32).toInt = 0 := rfl
            have a2 : (2 : Int32).toInt = 2 := rfl
            have : w.toInt = 0 ∨ w.toInt = 1 ∨ w.toInt = 2 := by omega
            rcases this with y | y | y
            · exact e0 (i32 0 y)
            · exact e1 (i32 1 y)
            · exact e2 (i32 2 y)
          rw [if_neg nn]
          exact ⟨fun z => absurd rfl z, fun _ => h ν hν hh⟩
  · rw [withC_no q] at h
    exact h ν hν hh
