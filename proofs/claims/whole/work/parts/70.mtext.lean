/-! ===== the model: texts are read ===== -/
def okP (μ : mmMem) (S : aS) (p : Nat) : Prop := MS μ S ∧ μ.1 160 15 = nI p ∧ μ.1 160 16 = -1 ∧ p ≤ S.2.2.2.2.length
def flP (μ : mmMem) (S : aS) (e : Nat) : Prop := MS μ S ∧ μ.1 160 16 = nI e ∧ e ≤ 200
/-- the buffers too are as they were -/
def prU (μ ν : mmMem) : Prop := scM μ ν ∧ ν.1 166 = μ.1 166 ∧ ν.2.1 167 = μ.2.1 167
theorem prU.refl (μ : mmMem) : prU μ μ := ⟨scM.refl μ, rfl, rfl⟩
theorem prU.trans {μ ν ξ : mmMem} (h : prU μ ν) (h2 : prU ν ξ) : prU μ ξ := ⟨h.1.trans h2.1, h2.2.1.trans h.2.1, h2.2.2.trans h.2.2⟩
theorem prU_own (μ : mmMem) (i : Nat) (x : Int32) (h : i ≠ 4) (h2 : i ≠ 14) : prU μ (sI μ 160 i x) := ⟨scM_own μ i x h h2, sI_1 _ _ _ _ _ (by decide), rfl⟩
theorem okP.len {μ : mmMem} {S : aS} {p : Nat} (h : okP μ S p) : S.2.2.2.2.length ≤ 100 := h.1.2.2.2.2.2.2.1
theorem okP.at {μ : mmMem} {S : aS} {p q : Nat} (h : okP μ S p) (hq : q ≤ S.2.2.2.2.length) : okP (sI μ 160 15 (nI q)) S q := ⟨h.1.sc (scM_own _ _ _ (by decide) (by decide)), by rw [sI_at, if_pos rfl], by rw [sI_at, if_neg (by decide)]; exact h.2.2.1, hq⟩
theorem m_here {d p : Nat} {S : aS} {μ : mmMem} {K : Int32 → mmMem → Prop} (hd : 1 ≤ d) (hM : MS μ S) (hp : μ.1 160 15 = nI p) (hl : p ≤ 200) (h : K (chA S.2.2.2.2 p) μ) : mmCI d M_X8_here false 0 [.ref 160] μ K := by
  refine u_X8_here hd ?_
  obtain ⟨t1, t2⟩ := hM.2.2.2.2.2.1
  have h100 : S.2.2.2.2.length ≤ 100 := hM.2.2.2.2.2.2.1
  unfold chA at h
  rw [List.getD_eq_getElem?_getD] at h
  rw [t1, hp, nI_clamp (by omega)]
  refine ⟨fun w => ?_, fun w => ?_⟩
  · have : S.2.2.2.2.length ≤ p := (nI_leI (by omega) (by omega)).mp w
    rw [List.getElem?_eq_none this] at h
    exact h
  · have hlt : p < S.2.2.2.2.length := Nat.not_le.mp fun q => w ((nI_leI (by omega) (by omega)).mpr q)
    obtain ⟨x, hx⟩ : ∃ x, S.2.2.2.2[p]? = some x := ⟨_, List.getElem?_eq_getElem hlt⟩
    rw [hx] at h
    refine ⟨vp_in_nI (by omega) (by decide), ?_⟩
    rw [t2 p x hx]
    exact h
theorem okP.here {d p : Nat} {S : aS} {μ : mmMem} {K : Int32 → mmMem → Prop} (hd : 1 ≤ d) (hP : okP μ S p) (h : K (chA S.2.2.2.2 p) μ) : mmCI d M_X8_here false 0 [.ref 160] μ K := m_here hd hP.1 hP.2.1 (by have := hP.len; have := hP.2.2.2; omega) h
theorem m_takes {d p : Nat} {c : Int32} {S : aS} {μ : mmMem} {K : Int32 → mmMem → Prop} (hd : 2 ≤ d) (hc : c ≠ -1) (hP : okP μ S p) (h1 : chA S.2.2.2.2 p = c → ∀ ν, okP ν S (p + 1) → prU μ ν → K 1 ν) (h0 : ¬ chA S.2.2.2.2 p = c → ∀ ν, okP ν S p → prU μ ν → K 0 ν) : mmCI d M_X8_takes false 1 [.ref 160, .int c] μ K := by
  refine u_X8_takes (by omega) ?_
  obtain ⟨hM, ha, hf, hl⟩ := hP
  rw [hf]
  refine ⟨fun w => absurd w (by decide), fun _ => ?_⟩
  refine okP.here (S := S) (p := p) (by omega) ⟨hM, ha, hf, hl⟩ ?_
  rw [ha, Int32.add_zero, nI_1]
  have P0 : okP μ S p := ⟨hM, ha, hf, hl⟩
  refine ⟨fun n => h0 n _ (P0.at hl) (prU_own _ _ _ (by decide) (by decide)), fun e => h1 e _ (P0.at ?_) (prU_own _ _ _ (by decide) (by decide))⟩
  exact chA_lt e hc hl
theorem m_takesF {d e : Nat} {c : Int32} {S : aS} {μ : mmMem} {K : Int32 → mmMem → Prop} (hd : 1 ≤ d) (hP : flP μ S e) (h : ∀ ν, flP ν S e → prU μ ν → K 0 ν) : mmCI d M_X8_takes false 1 [.ref 160, .int c] μ K := by
  refine u_X8_takes hd ?_
  obtain ⟨hM, hf, he⟩ := hP
  rw [hf]
  have u := prU_own μ 15 (μ.1 160 15 + 0) (by decide) (by decide)
  exact ⟨fun _ => h _ ⟨hM.sc u.1, by rw [sI_at, if_neg (by decide)]; exact hf, he⟩ u, fun w => absurd (nI_le (a := 0) (Nat.zero_le _) (by omega)) w⟩
theorem m_fails {d p : Nat} {S : aS} {μ : mmMem} {K : mmMem → Prop} (hd : 1 ≤ d) (hP : okP μ S p) (h : ∀ ν, flP ν S p → prU μ ν → K ν) : mmC0 d M_X8_fails false 0 [.ref 160] μ K := by
  refine u_X8_fails hd ?_
  have h100 := hP.len
  obtain ⟨hM, ha, hf, hl⟩ := hP
  have u := prU_own μ 16 (μ.1 160 15) (by decide) (by decide)
  rw [hf]
  refine ⟨fun w => absurd w (by decide), fun _ => h _ ⟨hM.sc u.1, by rw [sI_at, if_pos rfl]; exact ha, by omega⟩ u⟩
theorem m_failsF {d e : Nat} {S : aS} {μ : mmMem} {K : mmMem → Prop} (hd : 1 ≤ d) (hP : flP μ S e) (h : ∀ ν, flP ν S e → prU μ ν → K ν) : mmC0 d M_X8_fails false 0 [.ref 160] μ K := by
  refine u_X8_fails hd ?_
  obtain ⟨hM, hf, he⟩ := hP
  have u := prU_own μ 16 (nI e) (by decide) (by decide)
  rw [hf]
  exact ⟨fun _ => h _ ⟨hM.sc u.1, by rw [sI_at, if_pos rfl], he⟩ u, fun w => absurd (nI_le (a := 0) (Nat.zero_le _) (by omega)) w⟩
/-! words -/
theorem w97c : ∀ k, k < 26 → ∀ m, m < 26 → ((((27 : Int32) + ((26 : Int32) * (nI (97 + k) - (97 : Int32)))) + nI (97 + m)) - (97 : Int32)).toInt64 = (nI (97 + k) - 97 + 1).toInt64 * 26 + (nI (97 + m) - 97 + 1).toInt64 := by decide +kernel
theorem m_word {d p : Nat} {S : aS} {μ : mmMem} {K : Int64 → mmMem → Prop} (hd : 2 ≤ d) (hP : okP μ S p) (hT : (pW S.2.2.2.2 p).1 = true → ∀ ν, okP ν S (pW S.2.2.2.2 p).2.1 → prU μ ν → K (pW S.2.2.2.2 p).2.2.2 ν) (hF : (pW S.2.2.2.2 p).1 = false → ∀ ν, flP ν S p → prU μ ν → K 1 ν) : mmCJ d M_X8_word false 0 [.ref 160] μ K := by
  refine u_X8_word (by omega) ?_
  have h100 := hP.len
  have hp := hP.2.2.2
  rw [hP.2.1]
  refine s_X8_word_5 (by omega) ?_
  have ez : nI p - nI p = 0 := by rw [Int32.sub_self]
  rw [hP.2.1, hP.2.2.1, ez]
  refine ⟨fun w => absurd w (by decide), fun _ => ⟨fun w => absurd w (by decide), fun _ => ?_⟩⟩
  refine hP.here (by omega) ?_
  refine m_isInI (a := 97) (b := 122) (by omega) rfl rfl ?_
  by_cases a : isLt (chA S.2.2.2.2 p)
  · rw [if_pos a]
    refine ⟨fun w => absurd w (by decide), fun _ => ?_⟩
    have hlt := isLt_lt a hp
    rw [hP.2.1, nI_1]
    have P1 := hP.at (q := p + 1) hlt
    have U1 : prU μ (sI μ 160 15 (nI (p + 1))) := prU_own _ _ _ (by decide) (by decide)
    generalize sI μ 160 15 (nI (p + 1)) = μ1 at P1 U1 ⊢
    obtain ⟨t1, t2⟩ := P1.1.2.2.2.2.2.1
    have g0 : μ1.1 171 p = chA S.2.2.2.2 p := by
      obtain ⟨x, hx⟩ : ∃ x, S.2.2.2.2[p]? = some x := ⟨_, List.getElem?_eq_getElem hlt⟩
      rw [t2 p x hx]
      unfold chA
      rw [List.getD_eq_getElem?_getD, hx]
      rfl
    have e1 : nI (p + 1) - nI p = 1 := by
      rw [nI_subN (by omega) (by omega), show p + 1 - p = 1 by omega]; rfl
    obtain ⟨k, hk, ek⟩ := isLt_nI a
    refine s_X8_word_5 (by omega) ?_
    rw [P1.2.1, P1.2.2.1, e1, nI_1 p, nI_clamp (show p < 2 ^ 31 by omega), nI_clamp (show p + 1 < 2 ^ 31 by omega), g0]
    refine ⟨fun w => absurd w (by decide), fun _ => ⟨fun w => absurd w (by decide), fun _ => ?_⟩⟩
    refine P1.here (by omega) ?_
    refine m_isInI (a := 97) (b := 122) (by omega) rfl rfl ?_
    by_cases b : isLt (chA S.2.2.2.2 (p + 1))
    · have ew : pW S.2.2.2.2 p = (true, p + 2, (8, (chA S.2.2.2.2 p - 97 + 1).toInt64 * 26 + (chA S.2.2.2.2 (p + 1) - 97 + 1).toInt64)) := by unfold pW; rw [if_pos a, if_pos b]
      rw [ew] at hT
      rw [if_pos b]
      refine ⟨fun w => absurd w (by decide), fun _ => ?_⟩
      have hlt2 := isLt_lt b P1.2.2.2
      rw [P1.2.1, nI_1]
      have P2 := P1.at (q := p + 1 + 1) hlt2
      have U2 : prU μ1 (sI μ1 160 15 (nI (p + 1 + 1))) := prU_own _ _ _ (by decide) (by decide)
      generalize sI μ1 160 15 (nI (p + 1 + 1)) = μ2 at P2 U2 ⊢
      obtain ⟨t3, t4⟩ := P2.1.2.2.2.2.2.1
      have ga : μ2.1 171 p = chA S.2.2.2.2 p := by
        obtain ⟨x, hx⟩ : ∃ x, S.2.2.2.2[p]? = some x := ⟨_, List.getElem?_eq_getElem hlt⟩
        rw [t4 p x hx]
        unfold chA
        rw [List.getD_eq_getElem?_getD, hx]
        rfl
      have gb : μ2.1 171 (p + 1) = chA S.2.2.2.2 (p + 1) := by
        obtain ⟨x, hx⟩ : ∃ x, S.2.2.2.2[p + 1]? = some x := ⟨_, List.getElem?_eq_getElem hlt2⟩
        rw [t4 (p + 1) x hx]
        unfold chA
        rw [List.getD_eq_getElem?_getD, hx]
        rfl
      have e2 : nI (p + 1 + 1) - nI p = 2 := by
        rw [nI_subN (by omega) (by omega), show p + 1 + 1 - p = 2 by omega]; rfl
      have n2 : ¬ nI (p + 1 + 1) = nI p := fun w => by have := (nI_eq (by omega) (by omega)).mp w; omega
      obtain ⟨m, hm, em⟩ := isLt_nI b
      refine s_X8_word_5 (by omega) ?_
      rw [P2.2.1, P2.2.2.1, e2, nI_1 p, nI_clamp (show p < 2 ^ 31 by omega), nI_clamp (show p + 1 < 2 ^ 31 by omega), ga, gb]
      refine ⟨fun w => absurd w (by decide), fun _ => ⟨fun _ => ⟨fun _ => ⟨vp_in_nI (by omega) (by decide), fun _ => ⟨vp_in_nI (by omega) (by decide), ?_⟩, fun w => absurd w (by decide)⟩, fun w => absurd w n2⟩, fun w => absurd (by decide) w⟩⟩
      have := hT rfl μ2 P2 (U1.trans U2)
      dsimp only at this
      rw [ek, em] at this ⊢
      rw [w97c k hk m hm]
      exact this
    · have ew : pW S.2.2.2.2 p = (true, p + 1, (8, (chA S.2.2.2.2 p - 97 + 1).toInt64)) := by unfold pW; rw [if_pos a, if_neg b]
      rw [ew] at hT
      rw [if_neg b]
      have n1 : ¬ nI (p + 1) = nI p := fun w => by have := (nI_eq (by omega) (by omega)).mp w; omega
      rw [P1.2.1, e1, g0]
      refine ⟨fun _ => ⟨fun _ => ⟨vp_in_nI (by omega) (by decide), fun w => absurd rfl w, fun _ => hT rfl μ1 P1 U1⟩, fun w => absurd w n1⟩, fun w => absurd rfl w⟩
  · have ew : pW S.2.2.2.2 p = (false, p, (-1, 0)) := by unfold pW; rw [if_neg a]
    rw [ew] at hF
    rw [if_neg a, hP.2.1]
    refine ⟨fun _ => ⟨fun w => absurd rfl w, fun _ => ?_⟩, fun w => absurd rfl w⟩
    exact m_fails (by omega) hP (fun ν f u => hF rfl ν f u)
/-! numbers -/
theorem dg_val {c : Int32} {v : Int64} (h : isDg c) : (((10 : Int64) * v) + c.toInt64) - (48 : Int64) = v * 10 + (c - 48).toInt64 := by
  obtain ⟨h1, h2⟩ := h
  have e : (c - 48).toInt64 = c.toInt64 - 48 := by
    have : ∀ k, k < 10 → (nI (48 + k) - 48).toInt64 = (nI (48 + k)).toInt64 - 48 := by decide +kernel
    have h3 : ¬ c < 0 := fun w => h1 (by
      rw [Int32.lt_iff_toInt_lt] at w ⊢
      have a0 : (0 : Int32).toInt = 0 := rfl
      have a4 : (48 : Int32).toInt = 48 := rfl
      omega)
    obtain ⟨n, hn, rfl⟩ := nI_of h3
    have b1 : 48 ≤ n := Nat.not_lt.mp fun w => h1 ((nI_ltI hn (by decide : (48 : Nat) < 2 ^ 31)).mpr w)
    have b2 : n ≤ 57 := Nat.not_lt.mp fun w => h2 ((nI_ltI (by decide : (57 : Nat) < 2 ^ 31) hn).mpr w)
    have := this (n - 48) (by omega)
    rw [show 48 + (n - 48) = n by omega] at this
    exact this
  rw [e, Int64.mul_comm, Int64.sub_eq_add_neg, Int64.sub_eq_add_neg, Int64.add_assoc]
theorem pDig_t {l : List Int32} : ∀ {n p t : Nat} {v : Int64}, t ≤ (pDig l n p t v).2.1 ∧ (pDig l n p t v).1 + t = p + (pDig l n p t v).2.1
  | 0, p, t, v => ⟨Nat.le_refl _, rfl⟩
  | n + 1, p, t, v => by
    unfold pDig
    split
    · have := pDig_t (l := l) (n := n) (p := p + 1) (t := t + 1) (v := v * 10 + (chA l p - 48).toInt64)
      exact ⟨by omega, by omega⟩
    · exact ⟨Nat.le_refl _, rfl⟩
theorem m_numE {d q : Nat} {g : Int32} {S : aS} {K : Int64 → mmMem → Prop} (hd : 1 ≤ d) (hg : g = 0 ∨ g = 1) (hq : q ≤ 200) (μ0 : mmMem) (R : Nat × Nat × Int64) (hT : 0 < R.2.1 → ∀ ν, okP ν S R.1 → prU μ0 ν → K (if g = 1 then -R.2.2 else R.2.2) ν) (hF : R.2.1 = 0 → ∀ ν v, flP ν S R.1 → prU μ0 ν → K v ν) : ∀ (n p t : Nat) (v : Int64) (μ : mmMem), t + n = 6 → p = q + t → okP μ S p → prU μ0 μ → R = pDig S.2.2.2.2 n p t v → mmEnds d M_X8_number 14 [.ref 160, .int g, .int (nI q), .long v, .retAddr 7] [] μ (mmPJ K) := by
  have stop : ∀ (p t : Nat) (v : Int64) (μ : mmMem), p = q + t → t ≤ 6 → okP μ S p → prU μ0 μ → R = (p, t, v) → (¬ nI p = nI q → (g = (0 : Int32) → K v μ) ∧ (¬ g = (0 : Int32) → K (-v) μ)) ∧ (nI p = nI q → mmC0 d M_X8_fails false 0 [.ref 160] μ fun ν => (g = (0 : Int32) → K v ν) ∧ (¬ g = (0 : Int32) → K (-v) ν)) := fun p t v μ ep h6 hP hu e => by
    subst e
    refine ⟨fun n => ?_, fun w => ?_⟩
    · have ht : 0 < t := Nat.pos_of_ne_zero fun z => n (by rw [ep, z]; rfl)
      have := hT ht μ hP hu
      refine ⟨fun g0 => ?_, fun g0 => ?_⟩
      · rw [if_neg (by rw [g0]; decide)] at this; exact this
      · rw [if_pos (hg.resolve_left g0)] at this; exact this
    · have ht : t = 0 := by
        have := (nI_eq (by omega) (by omega)).mp w
        omega
      exact m_fails hd hP (fun ν f u => ⟨fun _ => hF ht ν _ f (hu.trans u), fun _ => hF ht ν _ f (hu.trans u)⟩)
  intro n
  induction n with
  | zero =>
    intro p t v μ ht ep hP hu e
    refine s_X8_number_14 (by omega) ?_
    have es : nI p - nI q = 6 := by rw [nI_subN (by omega) (by omega), show p - q = 6 by omega]; rfl
    rw [hP.2.1, hP.2.2.1, es]
    exact ⟨fun w => absurd w (by decide), fun _ => ⟨fun _ => stop p t v μ ep (by omega) hP hu e, fun w => absurd (by decide) w⟩⟩
  | succ n ih =>
    intro p t v μ ht ep hP hu e
    refine s_X8_number_14 (by omega) ?_
    have es : nI p - nI q = nI t := by rw [nI_subN (by omega) (by omega), show p - q = t by omega]
    rw [hP.2.1, hP.2.2.1, es]
    refine ⟨fun w => absurd w (by decide), fun _ => ⟨fun w => absurd w (nI_ge (b := 6) (by omega) (by decide)), fun _ => ?_⟩⟩
    refine hP.here hd ?_
    refine m_isInI (a := 48) (b := 57) hd rfl rfl ?_
    unfold pDig at e
    by_cases a : isDg (chA S.2.2.2.2 p)
    · rw [if_pos a] at e ⊢
      refine ⟨fun w => absurd w (by decide), fun _ => ?_⟩
      refine hP.here hd ?_
      have hlt := isDg_lt a hP.2.2.2
      rw [hP.2.1, nI_1, dg_val a]
      exact ih (p + 1) (t + 1) _ _ (by omega) (by omega) (hP.at hlt) (hu.trans (prU_own _ _ _ (by decide) (by decide))) e
    · rw [if_neg a] at e ⊢
      rw [hP.2.1]
      exact ⟨fun _ => stop p t v μ ep (by omega) hP hu e, fun w => absurd rfl w⟩
theorem m_number {d p : Nat} {b : Int32} {S : aS} {μ : mmMem} {K : Int64 → mmMem → Prop} (hd : 3 ≤ d) (hP : okP μ S p) (hT : (pBox S.2.2.2.2 b p).1 = true → ∀ ν v, okP ν S (pBox S.2.2.2.2 b p).2.1 → prU μ ν → (pBox S.2.2.2.2 b p).2.2 = (b, aMade b v) → K v ν) (hF : (pBox S.2.2.2.2 b p).1 = false → ∀ ν v, flP ν S (pBox S.2.2.2.2 b p).2.1 → prU μ ν → K v ν) : mmCJ d M_X8_number false 0 [.ref 160] μ K := by
  refine u_X8_number (by omega) ?_
  have h100 := hP.len
  have hp := hP.2.2.2
  have go : ∀ (g : Int32) (q : Nat) (ν : mmMem), (g = 0 ∨ g = 1) → q = (if chA S.2.2.2.2 p = 45 then p + 1 else p) → (g = 1 ↔ chA S.2.2.2.2 p = 45) → okP ν S q → prU μ ν → mmEnds (d - 1) M_X8_number 14 [.ref 160, .int g, .int (nI q), .long (0 : Int64), .retAddr 7] [] ν (mmPJ K) := fun g q ν hg hq hgs hPν u => by
    have hql := hPν.2.2.2
    refine m_numE (by omega) hg (by omega) ν (pDig S.2.2.2.2 6 q 0 0) (fun ht ν2 p2 u2 => ?_) (fun ht ν2 v f2 u2 => ?_) 6 q 0 0 ν rfl rfl hPν (prU.refl _) rfl
    · refine hT ?_ ν2 _ ?_ (u.trans u2) ?_
      · unfold pBox
        rw [← hq]
        exact decide_eq_true ht
      · unfold pBox
        rw [← hq]
        exact p2
      · unfold pBox
        rw [← hq]
        by_cases s : chA S.2.2.2.2 p = 45
        · rw [if_pos s, if_pos (hgs.mpr s)]
        · rw [if_neg s, if_neg (fun w => s (hgs.mp w))]
    · refine hF ?_ ν2 v ?_ (u.trans u2)
      · unfold pBox
        rw [← hq]
        exact decide_eq_false (by omega)
      · unfold pBox
        rw [← hq]
        exact f2
  refine m_takes (by omega) (by decide) hP (fun e ν hν u => ?_) (fun n ν hν u => ?_)
  · rw [hν.2.1]
    exact go 1 (p + 1) ν (Or.inr rfl) (by rw [if_pos e]) ⟨fun _ => e, fun _ => rfl⟩ hν u
  · rw [hν.2.1]
    exact go 0 p ν (Or.inl rfl) (by rw [if_neg n]) ⟨fun w => absurd w (by decide), fun w => absurd w n⟩ hν u
