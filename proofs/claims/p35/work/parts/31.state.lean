/-! ===== the abstract state and how the class holds it ===== -/
abbrev aT : Type := Nat × List aCol × List Nat × List Nat × List (Nat × Bool) × List aFil
abbrev aS : Type := aT × Option aT × Int64 × (Int32 × Int32 × Int32) × List Int32
def fitK (k : Int32) (x : aC) : Prop := (k ≤ 7 → x.1 = k) ∧ (k = 8 → x.1 = -1 ∨ x.1 = 4) ∧ (k = 10 → x.1 = -1 ∨ x.1 = 8)
def okCol (n : Nat) (c : aCol) : Prop := 0 ≤ c.1.toInt ∧ c.1.toInt ≤ 10 ∧ ∀ r, r < n → okC (c.2.2 r) ∧ fitK c.1 (c.2.2 r)
def okV (n : Nat) (l : List Nat) : Prop := l.Nodup ∧ ∀ r ∈ l, r < n
def okFil (m : Nat) (f : aFil) : Prop := f.1 < m ∧ (0 ≤ f.2.1.toInt ∧ f.2.1.toInt ≤ 5) ∧ okC f.2.2
def okT (T : aT) : Prop := T.1 ≤ 40 ∧ T.2.1.length ≤ 12 ∧ (∀ c ∈ T.2.1, okCol T.1 c) ∧ okV T.1 T.2.2.1 ∧ okV T.1 T.2.2.2.1 ∧ T.2.2.2.2.1.length ≤ 4 ∧ (∀ k ∈ T.2.2.2.2.1, k.1 < T.2.1.length) ∧ T.2.2.2.2.2.length ≤ 6 ∧ ∀ f ∈ T.2.2.2.2.2, okFil T.2.1.length f
theorem nodup_le : ∀ (n : Nat) (l : List Nat), l.Nodup → (∀ r ∈ l, r < n) → l.length ≤ n := by
  intro n
  induction n with
  | zero =>
    intro l _ h
    cases l with
    | nil => exact Nat.le_refl _
    | cons a t => exact absurd (h a List.mem_cons_self) (Nat.not_lt_zero _)
  | succ n ih =>
    intro l hn h
    have h1 : (l.erase n).length ≤ n := ih _ (hn.erase n) (fun r hr => by
      have h2 := (List.Nodup.mem_erase_iff hn).mp hr
      have h3 := h r h2.2
      have h4 : r ≠ n := h2.1
      omega)
    by_cases hm : n ∈ l
    · rw [List.length_erase_of_mem hm] at h1
      omega
    · rw [List.erase_of_not_mem hm] at h1
      omega
theorem okV.len {n : Nat} {l : List Nat} (h : okV n l) : l.length ≤ n := nodup_le n l h.1 h.2
/-- the table at b (1: the table; 71: the image) -/
def tabC (μ : mmMem) (b : Nat) (T : aT) : Prop :=
  (μ.1 b 0 = nI T.1 ∧ μ.1 b 1 = nI T.2.1.length ∧ μ.1 b 2 = nI T.2.2.2.2.1.length ∧ μ.1 b 3 = nI T.2.2.2.2.2.length) ∧
  (∀ c col, T.2.1[c]? = some col → colC μ (b + 6 + 4 * c) T.1 col) ∧ (vwC μ (b + 54) T.2.2.1 ∧ vwC μ (b + 56) T.2.2.2.1) ∧
  (∀ k q, T.2.2.2.2.1[k]? = some q → μ.1 (b + 3) k = nI q.1 ∧ μ.1 (b + 4) k = if q.2 = true then 1 else 0) ∧
  ∀ f q, T.2.2.2.2.2[f]? = some q → μ.1 (b + 58 + 2 * f) 0 = nI q.1 ∧ μ.1 (b + 58 + 2 * f) 1 = q.2.1 ∧ clC μ (b + 59 + 2 * f) q.2.2
theorem colC.fr {μ ν : mmMem} {a n : Nat} {c : aCol} (h : colC μ a n c) (e0 : eq3 μ ν a) (e1 : eq3 μ ν (a + 1)) (e2 : eq3 μ ν (a + 2)) (e3 : eq3 μ ν (a + 3)) : colC ν a n c := by
  obtain ⟨h1, h2, h3⟩ := h
  refine ⟨by rw [e0.1]; exact h1, by rw [e0.1]; exact h2, fun r hr => ?_⟩
  rw [e1.1, e2.2.1, e3.2.2]
  exact h3 r hr
theorem vwC.fr {μ ν : mmMem} {a : Nat} {l : List Nat} (h : vwC μ a l) (e0 : eq3 μ ν a) (e1 : eq3 μ ν (a + 1)) : vwC ν a l := by
  obtain ⟨h1, h2⟩ := h
  exact ⟨by rw [e0.1]; exact h1, fun i r hr => by rw [e1.1]; exact h2 i r hr⟩
theorem clC.fr {μ ν : mmMem} {p : Nat} {x : aC} (h : clC μ p x) (e : eq3 μ ν p) : clC ν p x := by
  obtain ⟨h1, h2, h3⟩ := h
  exact ⟨by rw [e.1]; exact h1, by rw [e.2.1]; exact h2, by rw [e.2.2]; exact h3⟩
theorem lt_of_get {α : Type} {l : List α} {i : Nat} {x : α} (h : l[i]? = some x) : i < l.length := (List.getElem?_eq_some_iff.mp h).1
theorem tabC.fr {μ ν : mmMem} {b : Nat} {T : aT} (h : tabC μ b T) (ok : okT T) (e : ∀ q, b ≤ q → q < b + 70 → eq3 μ ν q) : tabC ν b T := by
  obtain ⟨⟨h1, h2, h3, h4⟩, h5, ⟨h6, h7⟩, h8, h9⟩ := h
  have e0 := (e b (Nat.le_refl _) (by omega)).1
  refine ⟨⟨by rw [e0]; exact h1, by rw [e0]; exact h2, by rw [e0]; exact h3, by rw [e0]; exact h4⟩, fun c col hc => ?_, ⟨h6.fr (e _ (by omega) (by omega)) (e _ (by omega) (by omega)), h7.fr (e _ (by omega) (by omega)) (e _ (by omega) (by omega))⟩, fun k q hk => ?_, fun f q hf => ?_⟩
  · have := lt_of_get hc
    have := ok.2.1
    exact (h5 c col hc).fr (e _ (by omega) (by omega)) (e _ (by omega) (by omega)) (e _ (by omega) (by omega)) (e _ (by omega) (by omega))
  · rw [(e (b + 3) (by omega) (by omega)).1, (e (b + 4) (by omega) (by omega)).1]
    exact h8 k q hk
  · have := lt_of_get hf
    have := ok.2.2.2.2.2.2.2.1
    obtain ⟨g1, g2, g3⟩ := h9 f q hf
    have e1 := (e (b + 58 + 2 * f) (by omega) (by omega)).1
    exact ⟨by rw [e1]; exact g1, by rw [e1]; exact g2, g3.fr (e _ (by omega) (by omega))⟩
def txtC (μ : mmMem) (l : List Int32) : Prop := μ.1 141 0 = nI l.length ∧ ∀ i x, l[i]? = some x → μ.1 142 i = x
def okX (l : List Int32) : Prop := l.length ≤ 100 ∧ ∀ x ∈ l, 0 ≤ x.toInt ∧ x.toInt ≤ 127
def imgC (μ : mmMem) (o : Option aT) : Prop := match o with
  | none => μ.1 0 2 = 0
  | some T => μ.1 0 2 = 1 ∧ tabC μ 71 T ∧ okT T
/-- the class holds the state -/
def CS (μ : mmMem) (S : aS) : Prop := tabC μ 1 S.1 ∧ okT S.1 ∧ imgC μ S.2.1 ∧ μ.2.1 0 15 = S.2.2.1 ∧ (μ.1 0 16 = S.2.2.2.1.1 ∧ μ.1 0 17 = S.2.2.2.1.2.1 ∧ μ.1 0 18 = S.2.2.2.1.2.2) ∧ txtC μ S.2.2.2.2 ∧ okX S.2.2.2.2
/-- only the class's own slates differ -/
def scr (μ ν : mmMem) : Prop := (∀ q, q < 141 ∨ q = 142 ∨ 160 ≤ q → eq3 μ ν q) ∧ ν.1 141 0 = μ.1 141 0
def hiE (μ ν : mmMem) : Prop := ∀ q, 160 ≤ q → eq3 μ ν q
def loE (μ ν : mmMem) : Prop := ∀ q, q < 160 → eq3 μ ν q
theorem scr.refl (μ : mmMem) : scr μ μ := ⟨fun _ _ => eq3.rfl', rfl⟩
theorem scr.trans {μ ν ξ : mmMem} (h : scr μ ν) (h2 : scr ν ξ) : scr μ ξ := ⟨fun q hq => (h.1 q hq).trans (h2.1 q hq), h2.2.trans h.2⟩
theorem scr.hi {μ ν : mmMem} (h : scr μ ν) : hiE μ ν := fun q hq => h.1 q (Or.inr (Or.inr hq))
theorem hiE.refl (μ : mmMem) : hiE μ μ := fun _ _ => eq3.rfl'
theorem hiE.trans {μ ν ξ : mmMem} (h : hiE μ ν) (h2 : hiE ν ξ) : hiE μ ξ := fun q hq => (h q hq).trans (h2 q hq)
theorem loE.refl (μ : mmMem) : loE μ μ := fun _ _ => eq3.rfl'
theorem loE.trans {μ ν ξ : mmMem} (h : loE μ ν) (h2 : loE ν ξ) : loE μ ξ := fun q hq => (h q hq).trans (h2 q hq)
theorem setC_scr (μ : mmMem) (p : Nat) (x : aC) (h : 143 ≤ p) (h2 : p < 160) : scr μ (setC μ p x) := by
  refine ⟨fun q hq => ?_, ?_⟩
  · have : q ≠ p := by omega
    exact ⟨setC_1 _ _ _ _ this, setC_2 _ _ _ _ this, setC_3 _ _ _ _ this⟩
  · rw [setC_1 _ _ _ _ (by omega)]
theorem imgC.fr {μ ν : mmMem} {o : Option aT} (h : imgC μ o) (e0 : ν.1 0 2 = μ.1 0 2) (e : ∀ q, 71 ≤ q → q < 141 → eq3 μ ν q) : imgC ν o := by
  cases o with
  | none => exact e0.trans h
  | some T => exact ⟨e0.trans h.1, h.2.1.fr h.2.2 (fun q h1 h2 => e q h1 (by omega)), h.2.2⟩
theorem CS.fr {μ ν : mmMem} {S : aS} (h : CS μ S) (e : ∀ q, q < 141 ∨ q = 142 → eq3 μ ν q) (e2 : ν.1 141 0 = μ.1 141 0) : CS ν S := by
  obtain ⟨h1, h2, h3, h4, ⟨h5, h6, h7⟩, h8, h9⟩ := h
  have e0 := e 0 (by omega)
  refine ⟨h1.fr h2 (fun q _ _ => e q (by omega)), h2, h3.fr (by rw [e0.1]) (fun q _ _ => e q (by omega)), by rw [e0.2.1]; exact h4, ⟨by rw [e0.1]; exact h5, by rw [e0.1]; exact h6, by rw [e0.1]; exact h7⟩, ⟨e2.trans h8.1, fun i x hx => by rw [(e 142 (by omega)).1]; exact h8.2 i x hx⟩, h9⟩
theorem CS.scr {μ ν : mmMem} {S : aS} (h : CS μ S) (e : scr μ ν) : CS ν S := h.fr (fun q hq => e.1 q (by omega)) e.2
/-- what is refused is counted -/
def cntf (c : Int32 × Int32 × Int32) (code : Int32) : Int32 × Int32 × Int32 := if code = -21 then (c.1 + 1, c.2.1, c.2.2) else if code = -22 then (c.1, c.2.1 + 1, c.2.2) else if code = -23 then (c.1, c.2.1, c.2.2 + 1) else c
def rfs (S : aS) (code : Int32) : aS := (S.1, S.2.1, S.2.2.1, cntf S.2.2.2.1 code, S.2.2.2.2)
/-- the class's own object alone has changed, in a slot of ints -/
theorem CS.own {μ : mmMem} {S : aS} (h : CS μ S) (i : Nat) (x : Int32) (hi : i ≠ 2) : tabC (sI μ 0 i x) 1 S.1 ∧ okT S.1 ∧ imgC (sI μ 0 i x) S.2.1 ∧ (sI μ 0 i x).2.1 0 15 = S.2.2.1 ∧ txtC (sI μ 0 i x) S.2.2.2.2 ∧ okX S.2.2.2.2 := by
  obtain ⟨h1, h2, h3, h4, -, h8, h9⟩ := h
  have e : ∀ q, q ≠ 0 → eq3 μ (sI μ 0 i x) q := fun q hq => by simp [eq3, sI, hq]
  refine ⟨h1.fr h2 (fun q _ _ => e q (by omega)), h2, h3.fr (by simp [sI, upd, Ne.symm hi]) (fun q _ _ => e q (by omega)), h4, ⟨by rw [(e 141 (by omega)).1]; exact h8.1, fun j y hy => by rw [(e 142 (by omega)).1]; exact h8.2 j y hy⟩, h9⟩
theorem hiE_own (μ : mmMem) (i : Nat) (x : Int32) : hiE μ (sI μ 0 i x) := fun q hq => by
  have : q ≠ 0 := by omega
  simp [eq3, sI, this]
theorem c_refused {d : Nat} {code : Int32} {S : aS} {μ : mmMem} {K : Int32 → mmMem → Prop} (hd : 1 ≤ d) (hC : CS μ S) (h : ∀ ν, CS ν (rfs S code) → hiE μ ν → K code ν) : mmCI d M_X7_refused false 1 [.ref 0, .int code] μ K := by
  refine u_X7_refused hd ?_
  have h5 := hC.2.2.2.2.1
  refine ⟨fun n1 => ⟨fun n2 => ⟨fun n3 => ?_, fun n3 => ?_⟩, fun n2 => ?_⟩, fun n1 => ?_⟩
  · have e : rfs S code = S := by unfold rfs cntf; rw [if_neg n1, if_neg n2, if_neg n3]
    exact h μ (by rw [e]; exact hC) (hiE.refl _)
  · refine h _ ?_ (hiE_own _ _ _)
    obtain ⟨a1, a2, a3, a4, a5, a6⟩ := hC.own 18 (μ.1 0 18 + 1) (by decide)
    refine ⟨a1, a2, a3, a4, ?_, a5, a6⟩
    rw [n3]
    exact ⟨h5.1, h5.2.1, by rw [h5.2.2]; rfl⟩
  · refine h _ ?_ (hiE_own _ _ _)
    obtain ⟨a1, a2, a3, a4, a5, a6⟩ := hC.own 17 (μ.1 0 17 + 1) (by decide)
    refine ⟨a1, a2, a3, a4, ?_, a5, a6⟩
    rw [n2]
    exact ⟨h5.1, by rw [h5.2.1]; rfl, h5.2.2⟩
  · refine h _ ?_ (hiE_own _ _ _)
    obtain ⟨a1, a2, a3, a4, a5, a6⟩ := hC.own 16 (μ.1 0 16 + 1) (by decide)
    refine ⟨a1, a2, a3, a4, ?_, a5, a6⟩
    rw [n1]
    exact ⟨by rw [h5.1]; rfl, h5.2.1, h5.2.2⟩
/-- what stands against a column -/
def cref (T : aT) (c : Int32) : Int32 := if c < 0 ∨ ¬ c < 12 then -1 else match T.2.1[c.toNatClampNeg]? with
  | none => -23
  | some col => if col.2.1 = true then -22 else 0
theorem c_columnRefusal {d : Nat} {c : Int32} {S : aS} {μ : mmMem} {K : Int32 → mmMem → Prop} (hd : 2 ≤ d) (hC : CS μ S) (h : ∀ ν, CS ν (rfs S (cref S.1 c)) → hiE μ ν → K (cref S.1 c) ν) : mmCI d M_X7_columnRefusal false 1 [.ref 0, .int c] μ K := by
  refine u_X7_columnRefusal (by omega) ?_
  have ok := hC.2.1
  refine ⟨fun q => ?_, fun q => ⟨fun q2 => ?_, fun q2 => ?_⟩⟩
  · have e : cref S.1 c = -1 := if_pos (Or.inl q)
    rw [e] at h
    exact h μ hC (hiE.refl _)
  · obtain ⟨k, hk, rfl⟩ := nI_of q
    have e : cref S.1 (nI k) = match S.1.2.1[k]? with | none => -23 | some col => if col.2.1 = true then -22 else 0 := by
      unfold cref
      rw [if_neg (by rintro (w | w); exact q w; exact w q2), nI_clamp hk]
    rw [hC.1.1.2.1]
    have hl := ok.2.1
    refine ⟨fun q3 => ?_, fun q3 => ?_⟩
    · rw [nI_ltI hk (by omega)] at q3
      obtain ⟨col, hcol⟩ : ∃ col, S.1.2.1[k]? = some col := ⟨_, List.getElem?_eq_getElem q3⟩
      rw [hcol] at e
      dsimp only at e
      have hcc := (hC.1.2.1 k col hcol).2.1
      rw [show 1 + 6 + 4 * k = 7 + 4 * k by omega] at hcc
      rw [nI_clamp hk, hcc]
      cases hg : col.2.1 with
      | true =>
        rw [hg, if_pos rfl] at e
        rw [e] at h
        refine ⟨fun w => absurd w (by decide), fun _ => ?_⟩
        exact c_refused (by omega) hC h
      | false =>
        rw [hg, if_neg (by decide)] at e
        rw [e] at h
        exact ⟨fun _ => h μ hC (hiE.refl _), fun w => absurd rfl w⟩
    · rw [nI_ltI hk (by omega)] at q3
      rw [List.getElem?_eq_none (by omega)] at e
      dsimp only at e
      rw [e] at h
      exact c_refused (by omega) hC h
  · have e : cref S.1 c = -1 := if_pos (Or.inr q2)
    rw [e] at h
    exact h μ hC (hiE.refl _)
theorem cref_0 {T : aT} {c : Int32} (h : cref T c = 0) : ∃ k col, k < 12 ∧ c = nI k ∧ T.2.1[k]? = some col ∧ col.2.1 = false := by
  unfold cref at h
  split at h
  · exact absurd h (by decide)
  · rename_i q
    have q1 : ¬ c < 0 := fun w => q (Or.inl w)
    have q2 : c < 12 := Classical.not_not.mp fun w => q (Or.inr w)
    obtain ⟨k, hk, rfl⟩ := nI_of q1
    rw [nI_clamp hk] at h
    split at h
    · exact absurd h (by decide)
    · rename_i col hcol
      refine ⟨k, col, ?_, rfl, hcol, ?_⟩
      · exact (nI_ltI hk (by decide : (12 : Nat) < 2 ^ 31)).mp q2
      · cases hg : col.2.1 with
        | false => rfl
        | true => rw [hg] at h; exact absurd h (by decide)
