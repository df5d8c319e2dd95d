/-! ===== the class: differs, of ===== -/
def difAt (r q : Nat) : List aCol → Nat → Int32
  | [], _ => -5
  | c :: t, i => if c.2.1 = false ∧ ¬ c.2.2 r = c.2.2 q then nI i else difAt r q t (i + 1)
def sp_differs (r q : Int32) (S : aS) : Int32 × aS := if noRow S.1 r ∨ noRow S.1 q then (-21, rfs S (-21)) else (difAt r.toNatClampNeg q.toNatClampNeg S.1.2.1 0, S)
theorem drop_get {α : Type} {l : List α} {i : Nat} {x : α} (h : l[i]? = some x) : l.drop i = x :: l.drop (i + 1) := by
  have hl := lt_of_get h
  rw [List.drop_eq_getElem_cons hl]
  congr 1
  exact (List.getElem?_eq_some_iff.mp h).2
theorem c_differsE {d r q : Nat} {S : aS} {P : Option Value → mmMem → Prop} (hd : 2 ≤ d) (hr : r < S.1.1) (hq : q < S.1.1) (ans : Int32) : ∀ (j c : Nat) (μ : mmMem), S.1.2.1.length - c = j → c ≤ S.1.2.1.length → CS μ S → ans = difAt r q (S.1.2.1.drop c) c → (∀ ν, scr μ ν → P (some (.int ans)) ν) → mmEnds d M_X7_differs 25 [.ref 0, .int (nI r), .int (nI q), .int (nI c)] [] μ P := by
  intro j
  induction j with
  | zero =>
    intro c μ hj hc hC ha h
    have hl := hC.2.1.2.1
    refine s_X7_differs_25 (by omega) ?_
    rw [hC.1.1.2.1]
    rw [List.drop_of_length_le (by omega)] at ha
    subst ha
    exact ⟨fun _ => h μ (scr.refl μ), fun w => absurd (nI_le (by omega) (by omega)) w⟩
  | succ j ih =>
    intro c μ hj hc hC ha h
    have hl := hC.2.1.2.1
    have hr40 := hC.2.1.1
    refine s_X7_differs_25 (by omega) ?_
    obtain ⟨col, hcol⟩ : ∃ col, S.1.2.1[c]? = some col := ⟨_, List.getElem?_eq_getElem (by omega)⟩
    have hcc := hC.colC hcol
    rw [drop_get hcol] at ha
    unfold difAt at ha
    rw [hC.1.1.2.1, nI_clamp (by omega), hcc.2.1, nI_1]
    refine ⟨fun w => absurd w (nI_ge (by omega) (by omega)), fun _ => ⟨vp_in_nI (by omega) (by decide), fun w => ?_, fun w => ?_⟩⟩
    · have hg : col.2.1 = true := by
        cases hh : col.2.1 with
        | true => rfl
        | false => rw [hh] at w; exact absurd rfl w
      rw [if_neg (fun e => by rw [hg] at e; exact absurd e.1 (by decide))] at ha
      exact ih (c + 1) μ (by omega) (by omega) hC ha h
    · have hg : col.2.1 = false := by
        cases hh : col.2.1 with
        | true => rw [hh] at w; exact absurd w (by decide)
        | false => rfl
      refine c_sameRows (by omega) (kcol c (by omega)).1 (by omega) hcc (hC.okCol hcol) hr40 hr hq (fun ν s1 _ => ?_)
      by_cases e : col.2.2 r = col.2.2 q
      · rw [if_pos e]
        rw [if_neg (fun w => w.2 e)] at ha
        exact ⟨fun _ => ih (c + 1) ν (by omega) (by omega) (hC.scr s1) ha (fun ν2 s2 => h ν2 (s1.trans s2)), fun w => absurd w (by decide)⟩
      · rw [if_neg e]
        rw [if_pos ⟨hg, e⟩] at ha
        subst ha
        exact ⟨fun w => absurd rfl w, fun _ => h ν s1⟩
theorem c_differs {d : Nat} {r q : Int32} {S : aS} {μ : mmMem} {K : Int32 → mmMem → Prop} (hd : 4 ≤ d) (hC : CS μ S) (h : ∀ ν, CS ν (sp_differs r q S).2 → hiE μ ν → K (sp_differs r q S).1 ν) : mmCI d M_X7_differs false 2 [.ref 0, .int r, .int q] μ K := by
  refine u_X7_differs (by omega) ?_
  rw [hC.1.1.1]
  have hrow := hC.2.1.1
  have bad : (noRow S.1 r ∨ noRow S.1 q) → mmCI (d - 1) M_X7_refused false 1 [.ref 0, .int (-21)] μ K := fun w => by
    unfold sp_differs at h
    rw [if_pos w] at h
    exact c_refused (by omega) hC (fun ν2 h2 g2 => h ν2 h2 g2)
  refine rows2 bad fun n1 n2 => ?_
  have e : sp_differs r q S = _ := if_neg (by rintro (w | w); exact n1 w; exact n2 w)
  rw [e] at h
  obtain ⟨i, hi, rfl⟩ := row_of hC.2.1 n1
  obtain ⟨j, hj, rfl⟩ := row_of hC.2.1 n2
  rw [nI_clamp (by omega), nI_clamp (by omega)] at h
  exact c_differsE (S := S) (by omega) hi hj _ _ 0 μ rfl (Nat.zero_le _) hC rfl (fun ν s => h ν (hC.scr s) s.hi)
/-- how many below n -/
def cnt (p : Nat → Bool) (n : Nat) : Nat := ((List.range n).filter p).length
theorem cnt_0 (p : Nat → Bool) : cnt p 0 = 0 := rfl
theorem cnt_s (p : Nat → Bool) (n : Nat) : cnt p (n + 1) = cnt p n + (if p n = true then 1 else 0) := by
  unfold cnt
  rw [List.range_succ, List.filter_append, List.length_append]
  congr 1
  cases h : p n <;> simp [h]
