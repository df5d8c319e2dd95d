/-! ===== the model: a column is read ===== -/
theorem MS.clr {μ : mmMem} {S : aS} (h : MS μ S) : MS (sI μ 160 14 0) (sTx S []) := by
  obtain ⟨h1, h2, h3, h4, h5, h6, h7⟩ := h
  refine ⟨?_, h2, h3.fr (by rw [sI_at, if_neg (by decide)]) (sI_1 _ _ _ _ _ (by decide)) rfl, h4, ?_, ⟨by rw [sI_at, if_pos rfl]; rfl, fun i x hx => by cases hx⟩, ⟨by simp [sTx], fun x hx => by cases hx⟩⟩
  · rw [sI_1 _ _ _ _ _ (by decide)]; exact h1
  · rw [sI_1 _ _ _ _ _ (by decide)]; exact h5
theorem m_comesF {d : Nat} {kd : Int32} {S : aS} {μ : mmMem} {K : Int32 → mmMem → Prop} (hd : 4 ≤ d) (hM : MS μ S) (hl : S.1.2.1.length < 12) (hkd : 0 ≤ kd.toInt ∧ kd.toInt ≤ 10) (h : ∀ ν, MS ν (sT S (addT S.1 (kd, false, fun _ => newC kd))) → (∀ q, q ≠ 161 → q ≠ 162 → eq3 μ ν q) → K (nI S.1.2.1.length) ν) : mmCI d M_X8_comes false 1 [.ref 160, .int kd] μ K := by
  refine u_X8_comes (by omega) ?_
  have h12 := hM.2.1.2.1
  have h40 := hM.2.1.1
  rw [hM.1.1.2.1]
  have e6 : (6 : Int32) + nI S.1.2.1.length = nI (6 + S.1.2.1.length) := nI_addr 6 _
  have e18 : (18 : Int32) + nI S.1.2.1.length = nI (18 + S.1.2.1.length) := nI_addr 18 _
  rw [e6, e18, nI_clamp (by omega), nI_clamp (by omega), nI_1]
  refine ⟨vp_in_nI (by omega) (by decide), vp_in_nI (by omega) (by decide), ?_⟩
  have at0 : ∀ j, (sI (sI (sI μ 161 1 (nI (S.1.2.1.length + 1))) 161 (6 + S.1.2.1.length) kd) 161 (18 + S.1.2.1.length) 0).1 161 j = if j = 18 + S.1.2.1.length then 0 else if j = 6 + S.1.2.1.length then kd else if j = 1 then nI (S.1.2.1.length + 1) else μ.1 161 j := fun j => by rw [sI_at, sI_at, sI_at]
  refine m_comesE (n := S.1.1) (kd := kd) (by omega) hl h40 hkd _ (by rw [at0, if_neg (by omega), if_pos rfl]) (by rw [at0, if_neg (by omega), if_neg (by omega), if_neg (by omega)]; exact hM.1.1.1) (fun ν hν => ?_) _ 0 _ rfl (Nat.zero_le _) (newR.refl _ _ _ _)
  obtain ⟨g1, g2, g3⟩ := hν
  have f : ∀ q, q ≠ 161 → q ≠ 162 → eq3 μ ν q := fun q a b => (show eq3 μ _ q by simp [eq3, sI, a]).trans (g1 q a b)
  refine h ν (hM.tab (hM.1.addc hM.2.1 hl (fun j a1 a2 a3 a4 => ?_) (fun j a1 => ?_) ?_ ⟨?_, ?_, fun r hr => ⟨?_, ?_⟩⟩) (addT_ok hM.2.1 hl ⟨hkd.1, hkd.2, fun r _ => newC_ok hkd⟩) f) f
  · rw [g2, if_neg (by omega), at0, if_neg a3, if_neg a2, if_neg a1]
  · rw [g3, if_neg (by omega)]; rfl
  · rw [g2, if_neg (by omega), at0, if_neg (by omega), if_neg (by omega), if_pos rfl]
  · rw [g2, if_neg (by omega), at0, if_neg (by omega), if_pos rfl]
  · rw [g2, if_neg (by omega), at0, if_pos rfl]; rfl
  · rw [g2, if_pos (by omega)]
  · rw [g3, if_pos (by omega)]
theorem m_rdP {d k n : Nat} {x1 x3 : Int32} {g : Nat → aC} {P : Option Value → mmMem → Prop} (hd : 2 ≤ d) (hk : k < 12) (hn : n ≤ 40) (μ0 : mmMem) (hg : ∀ z, z < n → μ0.1 166 z = (g z).1 ∧ μ0.2.1 167 z = (g z).2 ∧ okC (g z)) (h : ∀ ν, rowR μ0 ν k 0 n g → P (some (.int (nI k))) ν) : ∀ (t z : Nat) (μ : mmMem), z + t = n → rowR μ0 μ k 0 z g → mmEnds d M_X8_read 231 [.ref 160, .int x1, .int (nI n), .int x3, .int (nI k), .int (nI z)] [] μ P := by
  intro t
  induction t with
  | zero =>
    intro z μ hz hr
    refine s_X8_read_231 (by omega) ?_
    have e : z = n := by omega
    subst e
    exact ⟨fun _ => h μ hr, fun w => absurd (nI_le (by omega) (by omega)) w⟩
  | succ t ih =>
    intro z μ hz hr
    refine s_X8_read_231 (by omega) ?_
    obtain ⟨g1, g2, g3⟩ := hg z (by omega)
    rw [nI_clamp (by omega), (hr.1 166 (by decide) (by decide)).1, (hr.1 167 (by decide) (by decide)).2.1, g1, g2, nI_1 z]
    refine ⟨fun w => absurd w (nI_ge (by omega) (by omega)), fun _ => ⟨vp_in_nI (by omega) (by decide), ?_⟩⟩
    refine m_puts (by omega) hk (by omega) ?_
    rw [g3.e]
    exact ih (z + 1) _ (by omega) (hr.step (by omega))
/-- the buffers hold the first n cells of a column that is else new -/
def bufC (μ : mmMem) (kd : Int32) (n : Nat) (c : aCol) : Prop := c.1 = kd ∧ c.2.1 = false ∧ (∀ z, z < n → μ.1 166 z = (c.2.2 z).1 ∧ μ.2.1 167 z = (c.2.2 z).2) ∧ ∀ z, n ≤ z → c.2.2 z = newC kd
theorem bufC.pr {μ ν : mmMem} {kd : Int32} {n : Nat} {c : aCol} (h : bufC μ kd n c) (u : prU μ ν) : bufC ν kd n c := ⟨h.1, h.2.1, fun z hz => by rw [u.2.1, u.2.2]; exact h.2.2.1 z hz, h.2.2.2⟩
theorem m_rdF {d e : Nat} {x1 x2 : Int32} {c : aCol} {S : aS} {K : Int32 → mmMem → Prop} {μ0 μ : mmMem} (hd : 3 ≤ d) (h : ∀ ν, MS ν (sp_read S).2 → loE μ0 ν → K (sp_read S).1 ν) (hR : pParse S.2.2.2.2 S.1.1 = (false, e, c)) (hP : flP μ S e) (hs : scM μ0 μ) (v4 v5 : Value) : mmEnds d M_X8_read 87 [.ref 160, .int x1, .int x2, .int (0 : Int32), v4, v5] [] μ (mmPI K) := by
  refine s_X8_read_87 (by omega) ?_
  unfold sp_read at h
  rw [hR, if_neg (show ¬ (false = true) by decide)] at h
  refine ⟨fun _ => ?_, fun w => absurd rfl w⟩
  refine m_takesF (by omega) hP (fun ν P1 u1 => ?_)
  refine ⟨fun w => absurd rfl w, fun _ => ?_⟩
  refine m_failsF (by omega) P1 (fun ν2 P2 u2 => ?_)
  rw [P2.2.1]
  refine ⟨fun _ => ?_, fun w => absurd (nI_le (a := 0) (Nat.zero_le _) (by have := hP.2.2; omega)) w⟩
  exact h _ P2.1.clr ((((hs.trans u1.1).trans u2.1).lo).trans (loE_sI _ _ _ _ (by decide)))
theorem m_rdT {d n p k : Nat} {c : aCol} {S : aS} {K : Int32 → mmMem → Prop} {μ0 μ : mmMem} (hd : 5 ≤ d) (h : ∀ ν, MS ν (sp_read S).2 → loE μ0 ν → K (sp_read S).1 ν) (hk : k < 11) (hn : n ≤ S.1.1) (hR : pParse S.2.2.2.2 S.1.1 = pEnd S.2.2.2.2 (true, p, c)) (hP : okP μ S p) (hb : bufC μ (nI k) n c) (hs : scM μ0 μ) (v4 v5 : Value) : mmEnds d M_X8_read 87 [.ref 160, .int (nI k), .int (nI n), .int (0 : Int32), v4, v5] [] μ (mmPI K) := by
  have okp := pParse_ok (l := S.2.2.2.2) (n := S.1.1)
  unfold sp_read at h
  rw [hR] at okp h
  have h100 := hP.len
  have h40 := hP.1.2.1.1
  have h12 := hP.1.2.1.2.1
  refine s_X8_read_87 (by omega) ?_
  refine ⟨fun _ => ?_, fun w => absurd rfl w⟩
  unfold pEnd at h okp
  rw [if_pos rfl] at h okp
  refine m_takes (by omega) (by decide) hP (fun e ν P1 u1 => ?_) (fun ne ν P1 u1 => ?_)
  · rw [if_pos e] at h okp
    have hp1 := P1.2.2.2
    refine ⟨fun _ => ?_, fun w => absurd w (by decide)⟩
    obtain ⟨t1, t2⟩ := P1.1.2.2.2.2.2.1
    rw [P1.2.2.1, t1, P1.2.1]
    refine ⟨fun w => absurd w (by decide), fun _ => ⟨fun le => ?_, fun gt => ?_⟩⟩
    · have el : p + 1 = S.2.2.2.2.length := by
        have := (nI_leI (by omega) (by omega)).mp le
        omega
      rw [decide_eq_true el, if_pos rfl] at h
      have M1 := P1.1.clr
      have e1 : (sI ν 160 14 0).1 161 1 = ν.1 161 1 := by rw [sI_1 _ _ _ _ _ (by decide)]
      have lo1 : loE μ0 (sI ν 160 14 0) := ((hs.trans u1.1).lo).trans (loE_sI _ _ _ _ (by decide))
      rw [P1.1.1.1.2.1]
      refine ⟨fun n12 => ?_, fun e12 => ?_⟩
      · have hlt : S.1.2.1.length < 12 := Nat.lt_of_le_of_ne h12 (fun e => n12 (by rw [e]; rfl))
        rw [if_pos hlt] at h
        refine m_comesF (S := sTx S []) (by omega) M1 hlt (nI_k10 k hk) (fun ν2 M2 f2 => ?_)
        have b1 := hb.pr u1
        have M2 : MS ν2 (sT (sTx S []) (addT (sTx S []).1 (pNew k))) := M2
        have hcol : (sT (sTx S []) (addT (sTx S []).1 (pNew k))).1.2.1[S.1.2.1.length]? = some (pNew k) := List.getElem?_concat_length
        obtain ⟨k1, k2, k3, k4⟩ := b1
        have ec : (((pNew k).1, (pNew k).2.1, fun r => if 0 ≤ r ∧ r < n then c.2.2 r else (pNew k).2.2 r) : aCol) = c := by
          refine Prod.ext k1.symm (Prod.ext k2.symm ?_)
          funext r
          by_cases z : r < n
          · exact if_pos ⟨Nat.zero_le _, z⟩
          · exact (if_neg (fun w => z w.2)).trans (k4 r (by omega)).symm
        have lo2 : ∀ q, q < 160 → eq3 (sI ν 160 14 0) ν2 q := fun q hq => f2 q (by omega) (by omega)
        refine m_rdP (g := c.2.2) (by omega) hlt (by omega) ν2 (fun z hz => ?_) (fun ν3 r3 => ?_) n 0 ν2 (Nat.zero_add _) (rowR.refl _ _ _ _)
        · obtain ⟨q1, q2⟩ := k3 z hz
          rw [(f2 166 (by decide) (by decide)).1, (f2 167 (by decide) (by decide)).2.1, sI_1 _ _ _ _ _ (by decide), sI_21]
          exact ⟨q1, q2, (okp.2.2 z (by omega)).1⟩
        · have M3 := M2.rowR hcol (by omega) r3 (by rw [ec]; exact okp)
          rw [ec] at M3
          have es : putCol (sT (sTx S []) (addT (sTx S []).1 (pNew k))) S.1.2.1.length c = sTx (sT S (addT S.1 c)) [] := by
            have : (S.1.2.1 ++ [pNew k]).set S.1.2.1.length c = S.1.2.1 ++ [c] := by
              rw [List.set_append_right _ _ (Nat.le_refl _), Nat.sub_self]
              rfl
            show sT (sT (sTx S []) (addT (sTx S []).1 (pNew k))) (S.1.1, (S.1.2.1 ++ [pNew k]).set S.1.2.1.length c, S.1.2.2) = _
            rw [this]
            rfl
          rw [es] at M3
          exact h ν3 M3 (lo1.trans (fun q hq => (lo2 q hq).trans (r3.1 q (by omega) (by omega))))
      · have hlt : ¬ S.1.2.1.length < 12 := fun w => by
          have := (nI_eq (b := 12) (by omega) (by decide)).mp e12
          omega
        rw [if_neg hlt] at h
        exact h _ M1 lo1
    · have nl : ¬ p + 1 = S.2.2.2.2.length := fun w => gt (by rw [w]; exact nI_le (Nat.le_refl _) (by omega))
      rw [decide_eq_false nl, if_neg (show ¬ (false = true) by decide)] at h
      refine m_fails (by omega) P1 (fun ν2 P2 u2 => ?_)
      rw [P2.2.1]
      refine ⟨fun w => absurd w (nI_pos (by omega)), fun _ => ?_⟩
      exact h _ P2.1.clr ((((hs.trans u1.1).trans u2.1).lo).trans (loE_sI _ _ _ _ (by decide)))
  · rw [if_neg ne, if_neg (show ¬ (false = true) by decide)] at h
    have hp1 := P1.2.2.2
    refine ⟨fun w => absurd rfl w, fun _ => ?_⟩
    refine m_fails (by omega) P1 (fun ν2 P2 u2 => ?_)
    rw [P2.2.1]
    refine ⟨fun _ => ?_, fun w => absurd (nI_le (a := 0) (Nat.zero_le _) (by omega)) w⟩
    exact h _ P2.1.clr ((((hs.trans u1.1).trans u2.1).lo).trans (loE_sI _ _ _ _ (by decide)))
theorem m_readE {d k : Nat} {S : aS} {K : Int32 → mmMem → Prop} (hX : ixOK) (hd : 9 ≤ d) (μ0 : mmMem) (h : ∀ ν, MS ν (sp_read S).2 → loE μ0 ν → K (sp_read S).1 ν) (hk : k < 11) : ∀ (j r p : Nat) (c : aCol) (μ : mmMem) (v4 v5 : Value), r + j = S.1.1 → okP μ S p → bufC μ (nI k) r c → pParse S.2.2.2.2 S.1.1 = pEnd S.2.2.2.2 (pItems S.2.2.2.2 (nI k) j r p c) → scM μ0 μ → mmEnds d M_X8_read 87 [.ref 160, .int (nI k), .int (nI r), .int (1 : Int32), v4, v5] [] μ (mmPI K) := by
  have pf : ∀ e c, pEnd S.2.2.2.2 (false, e, c) = (false, e, c) := fun e c => by unfold pEnd; exact if_neg (show ¬ (false = true) by decide)
  intro j
  induction j with
  | zero =>
    intro r p c μ v4 v5 hj hP hb hR hs
    have h40 := hP.1.2.1.1
    have hp1 := hP.2.2.2
    have h100 := hP.len
    refine s_X8_read_87 (by omega) ?_
    have er : r = S.1.1 := by omega
    refine ⟨fun w => absurd w (by decide), fun _ => ?_⟩
    rw [hP.1.1.1.1, er]
    refine ⟨fun w => absurd rfl w, fun _ => ?_⟩
    refine m_fails (by omega) hP (fun ν P1 u1 => ?_)
    rw [P1.2.1]
    refine ⟨fun _ => ?_, fun w => absurd (nI_le (a := 0) (Nat.zero_le _) (by omega)) w⟩
    have hR : pParse S.2.2.2.2 S.1.1 = pEnd S.2.2.2.2 (false, p, c) := hR
    rw [pf] at hR
    exact m_rdF (by omega) h hR P1 (hs.trans u1.1) _ _
  | succ j ih =>
    intro r p c μ v4 v5 hj hP hb hR hs
    have h40 := hP.1.2.1.1
    have h100 := hP.len
    refine s_X8_read_87 (by omega) ?_
    refine ⟨fun w => absurd w (by decide), fun _ => ?_⟩
    rw [hP.1.1.1.1]
    refine ⟨fun _ => ?_, fun w => ?_⟩
    · rw [nI_1 r]
      refine m_item hX hd (by omega) (nI_k10 k hk) hP ⟨fun t ν P1 b1 g1 g2 => ?_, fun t ν P1 b1 => ?_⟩
      · have eP : pItems S.2.2.2.2 (nI k) (j + 1) r p c = if (pItem S.2.2.2.2 (nI k) p).1 = true then (if j = 0 then (true, (pItem S.2.2.2.2 (nI k) p).2.1, setRow c r (pItem S.2.2.2.2 (nI k) p).2.2) else if chA S.2.2.2.2 (pItem S.2.2.2.2 (nI k) p).2.1 = 44 then pItems S.2.2.2.2 (nI k) j (r + 1) ((pItem S.2.2.2.2 (nI k) p).2.1 + 1) (setRow c r (pItem S.2.2.2.2 (nI k) p).2.2) else (true, (pItem S.2.2.2.2 (nI k) p).2.1, setRow c r (pItem S.2.2.2.2 (nI k) p).2.2)) else (false, (pItem S.2.2.2.2 (nI k) p).2.1, c) := rfl
        rw [eP, if_pos t] at hR
        generalize hI : pItem S.2.2.2.2 (nI k) p = R at t P1 g1 g2 hR
        obtain ⟨R1, p', x⟩ := R
        dsimp only at t P1 g1 g2 hR
        have nb : bufC ν (nI k) (r + 1) (setRow c r x) := by
          refine ⟨hb.1, hb.2.1, fun z hz => ?_, fun z hz => ?_⟩
          · show ν.1 166 z = (if z = r then x else c.2.2 z).1 ∧ ν.2.1 167 z = (if z = r then x else c.2.2 z).2
            by_cases e : z = r
            · rw [if_pos e, e]; exact ⟨g1, g2⟩
            · rw [if_neg e, (b1.2 z e).1, (b1.2 z e).2]
              exact hb.2.2.1 z (by omega)
          · show (if z = r then x else c.2.2 z) = _
            rw [if_neg (by omega)]
            exact hb.2.2.2 z (by omega)
        have hs1 := hs.trans b1.1
        dsimp only
        rw [P1.2.2.1, P1.1.1.1.1]
        refine ⟨fun w => absurd w (by decide), fun _ => ⟨fun le => ?_, fun gt => ?_⟩⟩
        · have ej : j = 0 := by
            have := (nI_leI (by omega) (by omega)).mp le
            omega
          rw [if_pos ej] at hR
          exact m_rdT (by omega) h hk (by omega) hR P1 nb hs1 _ _
        · have ej : ¬ j = 0 := fun e => gt (nI_le (by omega) (by omega))
          rw [if_neg ej] at hR
          refine m_takes (by omega) (by decide) P1 (fun e ν2 P2 u2 => ?_) (fun ne ν2 P2 u2 => ?_)
          · rw [if_pos e] at hR
            refine ⟨fun w => absurd w (by decide), fun _ => ?_⟩
            exact ih (r + 1) (p' + 1) (setRow c r x) ν2 _ _ (by omega) P2 (nb.pr u2) hR (hs1.trans u2.1)
          · rw [if_neg ne] at hR
            refine ⟨fun _ => ?_, fun w => absurd rfl w⟩
            exact m_rdT (by omega) h hk (by omega) hR P2 (nb.pr u2) (hs1.trans u2.1) _ _
      · have eP : pItems S.2.2.2.2 (nI k) (j + 1) r p c = (false, (pItem S.2.2.2.2 (nI k) p).2.1, c) := by
          show (if (pItem S.2.2.2.2 (nI k) p).1 = true then _ else _) = _
          rw [if_neg (by rw [t]; decide)]
        rw [eP, pf] at hR
        dsimp only
        rw [P1.2.1]
        refine ⟨fun _ => ?_, fun w => absurd (nI_le (a := 0) (Nat.zero_le _) (by have := P1.2.2; omega)) w⟩
        exact m_rdF (by omega) h hR P1 (hs.trans b1.1) _ _
    · exfalso
      have := (nI_eq (by omega) (by omega)).mp w
      omega
theorem m_read {d : Nat} {S : aS} {μ : mmMem} {K : Int32 → mmMem → Prop} (hX : ixOK) (hd : 10 ≤ d) (hM : MS μ S) (h : ∀ ν, MS ν (sp_read S).2 → loE μ ν → K (sp_read S).1 ν) : mmCI d M_X8_read false 0 [.ref 160] μ K := by
  refine u_X8_read (by omega) ?_
  have okx := hM.2.2.2.2.2.2
  have s0 : scM μ (sI (sI μ 160 15 0) 160 16 (-1)) := (scM_own _ _ _ (by decide) (by decide)).trans (scM_own _ _ _ (by decide) (by decide))
  have P0 : okP (sI (sI μ 160 15 0) 160 16 (-1)) S 0 := ⟨hM.sc s0, by rw [sI_at, if_neg (by decide), sI_at, if_pos rfl]; rfl, by rw [sI_at, if_pos rfl], Nat.zero_le _⟩
  generalize sI (sI μ 160 15 0) 160 16 (-1) = μ1 at s0 P0 ⊢
  have okx := hM.2.2.2.2.2.2
  have none_ : pKind S.2.2.2.2 0 11 0 = none → pParse S.2.2.2.2 S.1.1 = (false, 0, pNew 0) := fun e => by unfold pParse; rw [e]
  refine P0.here (by omega) ?_
  rcases chA_cases okx 0 with ec | ec
  · refine ⟨fun w => absurd w (by rw [ec]; decide), fun _ => ?_⟩
    have hR := none_ (pKind_neg ec 11 0 (by decide))
    refine m_fails (by omega) P0 (fun ν P1 u1 => ?_)
    have u := prU_own ν 15 (ν.1 160 15 + 1) (by decide) (by decide)
    have P2 : flP (sI ν 160 15 (ν.1 160 15 + 1)) S 0 := ⟨P1.1.sc u.1, by rw [sI_at, if_neg (by decide)]; exact P1.2.1, P1.2.2⟩
    refine m_takesF (by omega) P2 (fun ν3 P3 u3 => ⟨fun w => absurd rfl w, fun _ => ?_⟩)
    refine m_failsF (by omega) P3 (fun ν4 P4 u4 => ?_)
    rw [P4.2.1]
    exact ⟨fun _ => m_rdF (by omega) h hR P4 ((((s0.trans u1.1).trans u.1).trans u3.1).trans u4.1) _ _, fun w => absurd (by decide) w⟩
  · refine ⟨fun _ => ?_, fun w => absurd (Int32.le_iff_toInt_le.mpr (show (0 : Int32).toInt ≤ _ from ec.1)) w⟩
    refine P0.here (by omega) ?_
    refine m_ix hX (by omega) ec ?_
    cases ho : pKind S.2.2.2.2 0 11 0 with
    | none =>
      have hR := none_ ho
      rw [show leadAns none = -1 from rfl]
      refine ⟨fun w => absurd w (by decide), fun _ => ?_⟩
      refine m_fails (by omega) P0 (fun ν P1 u1 => ?_)
      have u := prU_own ν 15 (ν.1 160 15 + 1) (by decide) (by decide)
      have P2 : flP (sI ν 160 15 (ν.1 160 15 + 1)) S 0 := ⟨P1.1.sc u.1, by rw [sI_at, if_neg (by decide)]; exact P1.2.1, P1.2.2⟩
      refine m_takesF (by omega) P2 (fun ν3 P3 u3 => ⟨fun w => absurd rfl w, fun _ => ?_⟩)
      refine m_failsF (by omega) P3 (fun ν4 P4 u4 => ?_)
      rw [P4.2.1]
      exact ⟨fun _ => m_rdF (by omega) h hR P4 ((((s0.trans u1.1).trans u.1).trans u3.1).trans u4.1) _ _, fun w => absurd (by decide) w⟩
    | some k =>
      have hk := pKind_lt ho
      rw [Nat.zero_add] at hk
      rw [show leadAns (some k) = nI k from rfl]
      refine ⟨fun _ => ?_, fun w => absurd (nI_le (a := 0) (Nat.zero_le _) (by omega)) w⟩
      have hlt : 0 < S.2.2.2.2.length := chA_lt (x := chA S.2.2.2.2 0) rfl (fun e => by rw [e] at ec; exact absurd ec.1 (by decide)) (Nat.zero_le _)
      rw [P0.2.1, nI_1 0]
      have P1 := P0.at (q := 0 + 1) hlt
      have u1 : prU μ1 (sI μ1 160 15 (nI (0 + 1))) := prU_own _ _ _ (by decide) (by decide)
      have hp : pParse S.2.2.2.2 S.1.1 = if chA S.2.2.2.2 1 = 40 then pEnd S.2.2.2.2 (pTake S.2.2.2.2 (nI k) S.1.1 2 (pNew k)) else (false, 1, pNew 0) := by unfold pParse; rw [ho]
      have nb : ∀ ν : mmMem, bufC ν (nI k) 0 (pNew k) := fun ν => ⟨rfl, rfl, fun z hz => absurd hz (Nat.not_lt_zero _), fun z _ => rfl⟩
      refine m_takes (by omega) (by decide) P1 (fun e ν P2 u2 => ?_) (fun ne ν P2 u2 => ?_)
      · have e : chA S.2.2.2.2 1 = 40 := e
        rw [if_pos e] at hp
        unfold pTake at hp
        refine ⟨fun _ => ?_, fun w => absurd w (by decide)⟩
        rw [P2.2.2.1]
        refine ⟨fun w => absurd w (by decide), fun _ => ?_⟩
        refine P2.here (by omega) ?_
        have hs := (s0.trans u1.1).trans u2.1
        refine ⟨fun e2 => ?_, fun n2 => ?_⟩
        · have e2 : chA S.2.2.2.2 2 = 41 := e2
          rw [if_pos e2] at hp
          exact m_rdT (n := 0) (by omega) h hk (Nat.zero_le _) hp P2 (nb _) hs _ _
        · have n2 : ¬ chA S.2.2.2.2 2 = 41 := n2
          rw [if_neg n2] at hp
          exact m_readE hX (by omega) μ h hk S.1.1 0 2 (pNew k) ν _ _ (Nat.zero_add _) P2 (nb _) hp hs
      · have ne : ¬ chA S.2.2.2.2 1 = 40 := ne
        rw [if_neg ne] at hp
        refine ⟨fun w => absurd rfl w, fun _ => ?_⟩
        refine m_fails (by omega) P2 (fun ν2 P3 u3 => ?_)
        rw [P3.2.1]
        exact ⟨fun _ => m_rdF (by omega) h hp P3 (((s0.trans u1.1).trans u2.1).trans u3.1) _ _, fun w => absurd (by decide) w⟩
