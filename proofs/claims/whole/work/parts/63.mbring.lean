/-! ===== the model: brought ===== -/
theorem m_amiss2 {d : Nat} {c e : Int32} {S : aS} {μ : mmMem} {A B : Int32 → mmMem → Prop} (hd : 2 ≤ d) (hM : MS μ S) (hA : ∀ ν, ¬ cref2 S.1 c e = 0 → MS ν (rfs S (cref2 S.1 c e)) → loE μ ν → A (cref2 S.1 c e) ν) (hB : ∀ ν, cref2 S.1 c e = 0 → MS ν S → loE μ ν → B 0 ν) : mmCI d M_X8_amiss false 1 [.ref 160, .int c] μ fun y2 ν1 => (¬ y2 = (0 : Int32) → A y2 ν1) ∧ (y2 = (0 : Int32) → mmCI d M_X8_amiss false 1 [.ref 160, .int e] ν1 fun y9 ν8 => (y9 = (0 : Int32) → B y9 ν8) ∧ (¬ y9 = (0 : Int32) → A y9 ν8)) := by
  refine m_amiss hd hM (fun ν hν hh => ?_)
  unfold cref2 at hA hB
  refine ⟨fun q => ?_, fun q => ?_⟩
  · rw [if_neg q] at hA
    exact hA ν q hν hh
  · rw [if_pos q] at hA hB
    rw [q] at hν
    have hν : MS ν S := hν
    refine m_amiss hd hν (fun ν2 h2 g2 => ⟨fun q2 => ?_, fun q2 => hA ν2 q2 h2 (hh.trans g2)⟩)
    rw [q2] at h2 ⊢
    exact hB ν2 q2 h2 (hh.trans g2)
/-- only the model's own slates differ -/
def scM (μ ν : mmMem) : Prop := (∀ q, q < 160 ∨ (161 ≤ q ∧ q ≤ 165) ∨ q = 171 → eq3 μ ν q) ∧ ν.1 160 4 = μ.1 160 4 ∧ ν.1 160 14 = μ.1 160 14 ∧ ν.2.1 160 5 = μ.2.1 160 5
theorem scM.refl (μ : mmMem) : scM μ μ := ⟨fun _ _ => eq3.rfl', rfl, rfl, rfl⟩
theorem scM.trans {μ ν ξ : mmMem} (h : scM μ ν) (h2 : scM ν ξ) : scM μ ξ := ⟨fun q hq => (h.1 q hq).trans (h2.1 q hq), h2.2.1.trans h.2.1, h2.2.2.1.trans h.2.2.1, h2.2.2.2.trans h.2.2.2⟩
theorem scM.lo {μ ν : mmMem} (h : scM μ ν) : loE μ ν := fun q hq => h.1 q (Or.inl hq)
theorem scM_sI (μ : mmMem) (p i : Nat) (x : Int32) (h : 166 ≤ p) (h2 : p ≠ 171) : scM μ (sI μ p i x) := by
  have a : 160 ≠ p := by omega
  refine ⟨fun q hq => ?_, by simp [sI, a], by simp [sI, a], by simp [sI]⟩
  have : q ≠ p := by omega
  simp [eq3, sI, this]
theorem scM_sJ (μ : mmMem) (p i : Nat) (x : Int64) (h : 166 ≤ p) (h2 : p ≠ 171) : scM μ (sJ μ p i x) := by
  have a : 160 ≠ p := by omega
  refine ⟨fun q hq => ?_, by simp [sJ], by simp [sJ], by simp [sJ, a]⟩
  have : q ≠ p := by omega
  simp [eq3, sJ, this]
theorem scM_own (μ : mmMem) (i : Nat) (x : Int32) (h : i ≠ 4) (h2 : i ≠ 14) : scM μ (sI μ 160 i x) := by
  refine ⟨fun q hq => ?_, by rw [sI_at, if_neg (Ne.symm h)], by rw [sI_at, if_neg (Ne.symm h2)], rfl⟩
  have : q ≠ 160 := by omega
  simp [eq3, sI, this]
theorem MS.sc {μ ν : mmMem} {S : aS} (h : MS μ S) (e : scM μ ν) : MS ν S := by
  obtain ⟨h1, h2, h3, h4, h5, h6, h7⟩ := h
  obtain ⟨e1, e2, e3, e4⟩ := e
  have q1 := e1 161 (by omega)
  have q2 := e1 162 (by omega)
  have q5 := e1 165 (by omega)
  refine ⟨by rw [q1.1, q2.2.1]; exact h1, h2, h3.fr e2 (e1 163 (by omega)).1 (e1 164 (by omega)).2.1, e4.trans h4, by rw [q5.1]; exact h5, ⟨e3.trans h6.1, fun i x hx => by rw [(e1 171 (by omega)).1]; exact h6.2 i x hx⟩, h7⟩
/-- rows m .. of one column are as g tells -/
def rowR (μ ν : mmMem) (k m n : Nat) (g : Nat → aC) : Prop := (∀ q, q ≠ 161 → q ≠ 162 → eq3 μ ν q) ∧ (∀ j, ν.1 161 j = if 136 + (40 * k + m) ≤ j ∧ j < 136 + (40 * k + n) then (g (j - (136 + 40 * k))).1 else μ.1 161 j) ∧ ∀ j, ν.2.1 162 j = if 40 * k + m ≤ j ∧ j < 40 * k + n then (g (j - 40 * k)).2 else μ.2.1 162 j
theorem rowR.refl (μ : mmMem) (k m : Nat) (g : Nat → aC) : rowR μ μ k m m g := ⟨fun _ _ _ => eq3.rfl', fun j => by rw [if_neg (by omega)], fun j => by rw [if_neg (by omega)]⟩
theorem rowR.step {μ ν : mmMem} {k m n : Nat} {g : Nat → aC} (h : rowR μ ν k m n g) (hmn : m ≤ n) : rowR μ (putM ν k n (g n)) k m (n + 1) g := by
  obtain ⟨h1, h2, h3⟩ := h
  refine ⟨fun q a b => (h1 q a b).trans (putM_e _ _ _ _ _ a b), fun j => ?_, fun j => ?_⟩
  · rw [putM_1, h2]
    by_cases e : j = 136 + (40 * k + n)
    · rw [if_pos e, if_pos (by omega), show j - (136 + 40 * k) = n by omega]
    · rw [if_neg e]
      by_cases e2 : 136 + (40 * k + m) ≤ j ∧ j < 136 + (40 * k + n)
      · rw [if_pos e2, if_pos (by omega)]
      · rw [if_neg e2, if_neg (by omega)]
  · rw [putM_2, h3]
    by_cases e : j = 40 * k + n
    · rw [if_pos e, if_pos (by omega), show j - 40 * k = n by omega]
    · rw [if_neg e]
      by_cases e2 : 40 * k + m ≤ j ∧ j < 40 * k + n
      · rw [if_pos e2, if_pos (by omega)]
      · rw [if_neg e2, if_neg (by omega)]
theorem MS.rowR {μ ν : mmMem} {S : aS} {k m n : Nat} {g : Nat → aC} {col : aCol} (hM : MS μ S) (hcol : S.1.2.1[k]? = some col) (hn : n ≤ 40) (h : rowR μ ν k m n g) (oc : okCol S.1.1 (col.1, col.2.1, fun r => if m ≤ r ∧ r < n then g r else col.2.2 r)) : MS ν (putCol S k (col.1, col.2.1, fun r => if m ≤ r ∧ r < n then g r else col.2.2 r)) := by
  obtain ⟨h1, h2, h3⟩ := h
  obtain ⟨g1, g2, g3⟩ := hM.1.2.1 k col hcol
  have h40 := hM.2.1.1
  have h12 := hM.2.1.2.1
  have lk := lt_of_get hcol
  refine hM.tab (hM.1.put hM.2.1 lk (fun j a b e => by rw [h2, if_neg (by omega)]) (fun j e => by rw [h3, if_neg (by omega)]) ⟨by rw [h2, if_neg (by omega)]; exact g1, by rw [h2, if_neg (by omega)]; exact g2, fun r hr => ?_⟩) (hM.2.1.put oc) h1
  have hr : r < S.1.1 := hr
  obtain ⟨z1, z2⟩ := g3 r hr
  show _ = (if m ≤ r ∧ r < n then g r else col.2.2 r).1 ∧ _ = (if m ≤ r ∧ r < n then g r else col.2.2 r).2
  rw [h2, h3]
  by_cases q : m ≤ r ∧ r < n
  · rw [if_pos q, if_pos (by omega), if_pos (by omega), show 136 + (40 * k + r) - (136 + 40 * k) = r by omega, show 40 * k + r - 40 * k = r by omega]
    exact ⟨rfl, rfl⟩
  · rw [if_neg q, if_neg (by omega), if_neg (by omega)]
    exact ⟨z1, z2⟩
theorem m_bringE2 {d l j n : Nat} {x1 x2 x6 : Int32} {g : Nat → aC} {P : Option Value → mmMem → Prop} (hd : 2 ≤ d) (hl : l < 12) (hj : j + n ≤ 40) (μ0 : mmMem) (hg : ∀ z, z < n → μ0.1 166 z = (g (j + z)).1 ∧ μ0.2.1 167 z = (g (j + z)).2 ∧ okC (g (j + z))) (h : ∀ ν, rowR μ0 ν l j (j + n) g → P (some (.int (nI n))) ν) : ∀ (t z : Nat) (μ : mmMem), z + t = n → rowR μ0 μ l j (j + z) g → mmEnds d M_X8_bring 151 [.ref 160, .int x1, .int x2, .int (nI l), .int (nI j), .int (nI n), .int x6, .int (nI z)] [] μ P := by
  intro t
  induction t with
  | zero =>
    intro z μ hz hr
    refine s_X8_bring_151 (by omega) ?_
    have e : z = n := by omega
    subst e
    exact ⟨fun _ => h μ hr, fun w => absurd (nI_le (by omega) (by omega)) w⟩
  | succ t ih =>
    intro z μ hz hr
    refine s_X8_bring_151 (by omega) ?_
    obtain ⟨g1, g2, g3⟩ := hg z (by omega)
    rw [nI_clamp (by omega), (hr.1 166 (by decide) (by decide)).1, (hr.1 167 (by decide) (by decide)).2.1, g1, g2, nI_add, nI_1 z]
    refine ⟨fun w => absurd w (nI_ge (by omega) (by omega)), fun _ => ⟨vp_in_nI (by omega) (by decide), ?_⟩⟩
    refine m_puts hd hl (by omega) ?_
    rw [g3.e]
    exact ih (z + 1) _ (by omega) (hr.step (by omega))
theorem m_bringE1 {d k l i j n : Nat} {x6 : Int32} {g : Nat → aC} {x : aCol} {S : aS} {P : Option Value → mmMem → Prop} (hd : 2 ≤ d) (hx : S.1.2.1[k]? = some x) (hi : i + n ≤ S.1.1) (μ0 : mmMem) (hM : MS μ0 S) (h : ∀ ν, scM μ0 ν → (∀ z, z < n → ν.1 166 z = (x.2.2 (i + z)).1 ∧ ν.2.1 167 z = (x.2.2 (i + z)).2) → mmEnds d M_X8_bring 151 [.ref 160, .int (nI k), .int (nI i), .int (nI l), .int (nI j), .int (nI n), .int x6, .int (0 : Int32)] [] ν P) : ∀ (t z : Nat) (μ : mmMem), z + t = n → scM μ0 μ → (∀ y, y < z → μ.1 166 y = (x.2.2 (i + y)).1 ∧ μ.2.1 167 y = (x.2.2 (i + y)).2) → mmEnds d M_X8_bring 103 [.ref 160, .int (nI k), .int (nI i), .int (nI l), .int (nI j), .int (nI n), .int x6, .int (nI z)] [] μ P := by
  have h40 := hM.2.1.1
  have h12 := hM.2.1.2.1
  have lk := lt_of_get hx
  intro t
  induction t with
  | zero =>
    intro z μ hz hs hg
    refine s_X8_bring_103 (by omega) ?_
    have e : z = n := by omega
    subst e
    exact ⟨fun _ => h μ hs hg, fun w => absurd (nI_le (by omega) (by omega)) w⟩
  | succ t ih =>
    intro z μ hz hs hg
    refine s_X8_bring_103 (by omega) ?_
    obtain ⟨-, -, c3⟩ := (hM.sc hs).1.2.1 k x hx
    obtain ⟨z1, z2⟩ := c3 (i + z) (by omega)
    rw [nI_add i z, nI_plc, nI_136, nI_clamp (show z < 2 ^ 31 by omega), nI_clamp (show 136 + (40 * k + (i + z)) < 2 ^ 31 by omega), nI_clamp (show 40 * k + (i + z) < 2 ^ 31 by omega), z1, z2, nI_1 z]
    refine ⟨fun w => absurd w (nI_ge (by omega) (by omega)), fun _ => ⟨vp_in_nI (by omega) (by decide), vp_in_nI (by omega) (by decide), vp_in_nI (by omega) (by decide), ?_⟩⟩
    refine ih (z + 1) _ (by omega) ((hs.trans (scM_sI _ _ _ _ (by decide) (by decide))).trans (scM_sJ _ _ _ _ (by decide) (by decide))) (fun y hy => ?_)
    rw [sJ_1, sI_at, sJ_at, sI_21]
    by_cases e : y = z
    · rw [if_pos e, if_pos e, e]; exact ⟨rfl, rfl⟩
    · rw [if_neg e, if_neg e]; exact hg y (by omega)
theorem nI_subI {a b : Nat} (ha : a < 2 ^ 31) (hb : b < 2 ^ 31) : (nI a - nI b).toInt = (a : Int) - (b : Int) := by
  rw [Int32.toInt_sub, nI_toInt ha, nI_toInt hb, Int.bmod_eq_of_le (by omega) (by omega)]
theorem noS_iff {T : aT} {i m : Nat} (h40 : T.1 ≤ 40) (hi : i < 2 ^ 31) (hm : m < 2 ^ 31) : noStretch T (nI i) (nI m) ↔ T.1 < i + m := by
  unfold noStretch
  rw [nI_ltI (by omega) hi, Int32.lt_iff_toInt_lt (x := nI T.1 - nI i), nI_subI (by omega) hi, nI_toInt hm]
  constructor
  · rintro (w | w | w | w)
    · exact absurd w (nI_pos hi)
    · exact absurd w (nI_pos hm)
    · omega
    · omega
  · intro w
    by_cases q : T.1 < i
    · exact Or.inr (Or.inr (Or.inl q))
    · exact Or.inr (Or.inr (Or.inr (by omega)))
theorem m_bring {d : Nat} {c i e j n : Int32} {S : aS} {μ : mmMem} {K : Int32 → mmMem → Prop} (hd : 3 ≤ d) (hM : MS μ S) (h : ∀ ν, MS ν (sp_bring c i e j n S).2 → loE μ ν → K (sp_bring c i e j n S).1 ν) : mmCI d M_X8_bring false 5 [.ref 160, .int c, .int i, .int e, .int j, .int n] μ K := by
  refine u_X8_bring (by omega) ?_
  unfold sp_bring at h
  refine m_amiss2 (by omega) hM (fun ν q hν hh => ?_) (fun ν q hν hh => ?_)
  · rw [withC2_no q] at h
    exact h ν hν hh
  · obtain ⟨q1, q2⟩ := cref2_0 q
    obtain ⟨k, x, hk, rfl, hx, -⟩ := cref_0 q1
    obtain ⟨l, y, hl, rfl, hy, -⟩ := cref_0 q2
    rw [withC2_ok hk hl q hx hy] at h
    obtain ⟨x1, -, x3⟩ := hν.1.2.1 k x hx
    obtain ⟨y1, -, y3⟩ := hν.1.2.1 l y hy
    have h40 := hν.2.1.1
    have ocx := hν.2.1.2.2.1 x (List.mem_of_getElem? hx)
    have ocy := hν.2.1.2.2.1 y (List.mem_of_getElem? hy)
    have e6 : ∀ k : Nat, (6 : Int32) + nI k = nI (6 + k) := fun k => nI_addr 6 k
    rw [e6, e6, nI_clamp (show 6 + k < 2 ^ 31 by omega), nI_clamp (show 6 + l < 2 ^ 31 by omega), x1, y1, hν.1.1.1]
    refine ⟨vp_in_nI (by omega) (by decide), vp_in_nI (by omega) (by decide), fun ek => ?_, fun nk => ?_⟩
    · rw [if_neg (fun w => w ek)] at h
      have bad : (noStretch S.1 i n ∨ noStretch S.1 j n) → mmCI (d - 1) M_X8_refuses false 1 [.ref 160, .int (-21)] ν K := fun w => by
        rw [if_pos w] at h
        exact m_refuses (by omega) (Or.inl rfl) hν (fun ν2 m2 l2 => h ν2 m2 (hh.trans l2))
      refine ⟨fun a => bad (Or.inl (Or.inr (Or.inl a))), fun a => ⟨fun b => bad (Or.inl (Or.inl b)), fun b => ⟨fun c => bad (Or.inr (Or.inl c)), fun c => ?_⟩⟩⟩
      obtain ⟨m, hm, rfl⟩ := nI_of a
      obtain ⟨i, hi, rfl⟩ := nI_of b
      obtain ⟨j, hj, rfl⟩ := nI_of c
      have s1 := noS_iff (T := S.1) h40 hi hm
      have s2 := noS_iff (T := S.1) h40 hj hm
      refine ⟨fun w => bad (Or.inl (s1.mpr ?_)), fun w => ⟨fun w2 => ?_, fun w2 => bad (Or.inr (s2.mpr ?_))⟩⟩
      · rw [Int32.lt_iff_toInt_lt, nI_subI (by omega) hm, nI_toInt hi] at w
        omega
      · rw [Int32.lt_iff_toInt_lt, nI_subI (by omega) hm, nI_toInt hi] at w
        rw [Int32.le_iff_toInt_le, nI_subI (by omega) hm, nI_toInt hj] at w2
        have n1 : ¬ noStretch S.1 (nI i) (nI m) := fun z => by have := s1.mp z; omega
        have n2 : ¬ noStretch S.1 (nI j) (nI m) := fun z => by have := s2.mp z; omega
        rw [if_neg (by rintro (z | z); exact n1 z; exact n2 z), nI_clamp hi, nI_clamp hj, nI_clamp hm] at h
        refine m_bringE1 (g := fun r => x.2.2 (i + (r - j))) (by omega) hx (by omega) ν hν (fun ν2 s2 g2 => ?_) m 0 ν (by omega) (scM.refl _) (fun z hz => absurd hz (Nat.not_lt_zero _))
        have hν2 := hν.sc s2
        refine m_bringE2 (g := fun r => x.2.2 (i + (r - j))) (by omega) hl (by omega) ν2 (fun z hz => ?_) (fun ν3 r3 => ?_) m 0 ν2 (by omega) (rowR.refl _ _ _ _)
        · obtain ⟨g3, g4⟩ := g2 z hz
          show _ = (x.2.2 (i + (j + z - j))).1 ∧ _ = (x.2.2 (i + (j + z - j))).2 ∧ okC (x.2.2 (i + (j + z - j)))
          rw [Nat.add_sub_cancel_left]
          exact ⟨g3, g4, (ocx.2.2 _ (by omega)).1⟩
        · exact h ν3 (hν2.rowR hy (by omega) r3 (takeC_ok ocy ocx ek (by omega))) ((hh.trans s2.lo).trans fun q hq => r3.1 q (by omega) (by omega))
      · rw [Int32.le_iff_toInt_le, nI_subI (by omega) hm, nI_toInt hj] at w2
        omega
    · rw [if_pos nk] at h
      exact m_refuses (by omega) (Or.inr (Or.inl rfl)) hν (fun ν2 m2 l2 => h ν2 m2 (hh.trans l2))
