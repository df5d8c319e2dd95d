/-! ===== the model: items of texts ===== -/
def ixO (x : Int32) : Int32 := leadAns (pKind [x] 0 11 0)
def ixOK : Prop := ∀ (d : Nat) (μ : mmMem) (K : Int32 → mmMem → Prop) (x : Int32), 8 ≤ d → (0 ≤ x.toInt ∧ x.toInt ≤ 127) → K (ixO x) μ → mmCI d M_J0_indexOf_0f7a4 false 1 [.retAddr 0, .int x] μ K
theorem pKind_x (l : List Int32) (p : Nat) : ∀ n i, pKind l p n i = pKind [chA l p] 0 n i
  | 0, _ => rfl
  | n + 1, i => by
    unfold pKind
    rw [pKind_x l p n (i + 1)]
    rfl
theorem pKind_s (l : List Int32) (p n i : Nat) : pKind l p (n + 1) i = if chA l p = ltr i then some i else pKind l p n (i + 1) := rfl
theorem pKind_add (l : List Int32) (p m : Nat) : ∀ n i, pKind l p (n + m) i = match pKind l p n i with
    | some b => some b
    | none => pKind l p m (i + n)
  | 0, i => by rw [Nat.zero_add]; rfl
  | n + 1, i => by
    rw [show n + 1 + m = (n + m) + 1 by omega, pKind_s l p (n + m) i, pKind_s l p n i]
    split
    · rfl
    · rw [pKind_add l p m n (i + 1), show i + 1 + n = i + (n + 1) by omega]
theorem pKind_ge {l : List Int32} {p : Nat} : ∀ {n i k : Nat}, pKind l p n i = some k → i ≤ k
  | 0, _, _, h => by cases h
  | n + 1, i, k, h => by
    unfold pKind at h
    split at h
    · cases h; exact Nat.le_refl _
    · have := pKind_ge h; omega
theorem pKind_neg {l : List Int32} {p : Nat} (h : chA l p = -1) : ∀ n i, n + i ≤ 11 → pKind l p n i = none
  | 0, _, _ => rfl
  | n + 1, i, hi => by
    unfold pKind
    rw [if_neg (fun e => ltr_ok i (by omega) (by rw [← e, h])), pKind_neg h n (i + 1) (by omega)]
theorem chA_cases {l : List Int32} (h : okX l) (p : Nat) : chA l p = -1 ∨ (0 ≤ (chA l p).toInt ∧ (chA l p).toInt ≤ 127) := by
  unfold chA
  rw [List.getD_eq_getElem?_getD]
  cases hx : l[p]? with
  | none => exact Or.inl rfl
  | some x => exact Or.inr (h.2 x (List.mem_of_getElem? hx))
theorem m_ix {d p : Nat} {l : List Int32} {μ : mmMem} {K : Int32 → mmMem → Prop} (hX : ixOK) (hd : 8 ≤ d) (hr : 0 ≤ (chA l p).toInt ∧ (chA l p).toInt ≤ 127) (h : K (leadAns (pKind l p 11 0)) μ) : mmCI d M_J0_indexOf_0f7a4 false 1 [.retAddr 0, .int (chA l p)] μ K := by
  refine hX d μ K _ hd hr ?_
  unfold ixO
  rw [← pKind_x]
  exact h
theorem okP.bI {μ : mmMem} {S : aS} {p : Nat} (h : okP μ S p) (k : Nat) (x : Int32) : okP (sI μ 166 k x) S p := ⟨h.1.sc (scM_sI _ _ _ _ (by decide) (by decide)), by rw [sI_1 _ _ _ _ _ (by decide)]; exact h.2.1, by rw [sI_1 _ _ _ _ _ (by decide)]; exact h.2.2.1, h.2.2.2⟩
theorem okP.bJ {μ : mmMem} {S : aS} {p : Nat} (h : okP μ S p) (k : Nat) (x : Int64) : okP (sJ μ 167 k x) S p := ⟨h.1.sc (scM_sJ _ _ _ _ (by decide) (by decide)), h.2.1, h.2.2.1, h.2.2.2⟩
theorem flP.bJ {μ : mmMem} {S : aS} {e : Nat} (h : flP μ S e) (k : Nat) (x : Int64) : flP (sJ μ 167 k x) S e := ⟨h.1.sc (scM_sJ _ _ _ _ (by decide) (by decide)), h.2.1, h.2.2⟩
def bufU (μ ν : mmMem) (k : Nat) : Prop := scM μ ν ∧ ∀ z, z ≠ k → ν.1 166 z = μ.1 166 z ∧ ν.2.1 167 z = μ.2.1 167 z
theorem prU.buf {μ ν : mmMem} (h : prU μ ν) (k : Nat) : bufU μ ν k := ⟨h.1, fun z _ => ⟨by rw [h.2.1], by rw [h.2.2]⟩⟩
theorem bufU.tr {μ ν ξ : mmMem} {k : Nat} (h : bufU μ ν k) (u : prU ν ξ) : bufU μ ξ k := ⟨h.1.trans u.1, fun z hz => ⟨by rw [u.2.1]; exact (h.2 z hz).1, by rw [u.2.2]; exact (h.2 z hz).2⟩⟩
theorem bufU.end {μ ν ξ : mmMem} {k : Nat} {s : Int32} (y : Int64) (h : bufU μ ν k) (u : prU (sI ν 166 k s) ξ) : bufU μ (sJ ξ 167 k y) k ∧ (sJ ξ 167 k y).1 166 k = s ∧ (sJ ξ 167 k y).2.1 167 k = y := by
  refine ⟨⟨((h.1.trans (scM_sI ν 166 k s (by decide) (by decide))).trans u.1).trans (scM_sJ _ _ _ _ (by decide) (by decide)), fun z hz => ⟨?_, ?_⟩⟩, ?_, by rw [sJ_at, if_pos rfl]⟩
  · rw [sJ_1, u.2.1, sI_at, if_neg hz]; exact (h.2 z hz).1
  · rw [sJ_at, if_neg hz, u.2.2, sI_21]; exact (h.2 z hz).2
  · rw [sJ_1, u.2.1, sI_at, if_pos rfl]
/-- what is said of an item that is taken, or not -/
abbrev itT (μ : mmMem) (S : aS) (k : Nat) (R : Bool × Nat × aC) (K : mmMem → Prop) : Prop := (R.1 = true → ∀ ν, okP ν S R.2.1 → bufU μ ν k → ν.1 166 k = R.2.2.1 → ν.2.1 167 k = R.2.2.2 → K ν) ∧ (R.1 = false → ∀ ν, flP ν S R.2.1 → bufU μ ν k → K ν)
theorem pW_f {l : List Int32} {p : Nat} (h : (pW l p).1 = false) : (pW l p).2.1 = p := by
  unfold pW at h ⊢
  by_cases a : isLt (chA l p)
  · rw [if_pos a] at h
    by_cases b : isLt (chA l (p + 1))
    · rw [if_pos b] at h; cases h
    · rw [if_neg b] at h; cases h
  · rw [if_neg a]
theorem pW_t {l : List Int32} {p : Nat} (h : (pW l p).1 = true) : (pW l p).2.2.1 = 8 := by
  unfold pW at h ⊢
  by_cases a : isLt (chA l p)
  · rw [if_pos a]
    by_cases b : isLt (chA l (p + 1))
    · rw [if_pos b]
    · rw [if_neg b]
  · rw [if_neg a] at h; cases h
theorem m_iW {d q k : Nat} {S : aS} {μ ν : mmMem} {K : mmMem → Prop} (hd : 2 ≤ d) (hP : okP ν S q) (hb : bufU μ ν k) (h : itT μ S k (pW S.2.2.2.2 q) K) : mmCJ d M_X8_word false 0 [.ref 160] (sI ν 166 k (8 : Int32)) fun y ξ => K (sJ ξ 167 k y) := by
  refine m_word hd (hP.bI k 8) (fun t ξ p2 u2 => ?_) (fun t ξ f2 u2 => ?_)
  · obtain ⟨b1, b2, b3⟩ := hb.end (pW S.2.2.2.2 q).2.2.2 u2
    exact h.1 t _ (p2.bJ _ _) b1 (by rw [b2, pW_t t]) b3
  · obtain ⟨b1, b2, b3⟩ := hb.end 1 u2
    have := h.2 t
    rw [pW_f t] at this
    exact this _ (f2.bJ _ _) b1
theorem m_iB {d q k : Nat} {b : Int32} {S : aS} {μ ν : mmMem} {K : mmMem → Prop} (hd : 5 ≤ d) (hbx : isB b) (hP : okP ν S q) (hb : bufU μ ν k) (h : itT μ S k (pBox S.2.2.2.2 b q) K) : mmCJ d M_X8_number false 0 [.ref 160] (sI ν 166 k b) fun y ξ => mmCJ d M_X8_made true 2 [.int b, .long y] ξ fun y2 ξ2 => K (sJ ξ2 167 k y2) := by
  refine m_number (b := b) (by omega) (hP.bI k b) (fun t ξ v p2 u2 e => ?_) (fun t ξ v f2 u2 => ?_)
  · refine m_made hd hbx ?_
    obtain ⟨b1, b2, b3⟩ := hb.end (aMade b v) u2
    exact h.1 t _ (p2.bJ _ _) b1 (by rw [b2, e]) (by rw [b3, e])
  · refine m_made hd hbx ?_
    obtain ⟨b1, b2, b3⟩ := hb.end (aMade b v) u2
    exact h.2 t _ (f2.bJ _ _) b1
theorem m_item {d p k : Nat} {kd : Int32} {S : aS} {μ : mmMem} {K : mmMem → Prop} (hX : ixOK) (hd : 9 ≤ d) (hk : k < 40) (hkd : 0 ≤ kd.toInt ∧ kd.toInt ≤ 10) (hP : okP μ S p) (h : itT μ S k (pItem S.2.2.2.2 kd p) K) : mmC0 d M_X8_item false 2 [.ref 160, .int kd, .int (nI k)] μ K := by
  refine u_X8_item (by omega) ?_
  have vk : vp_in (nI k) 40 := vp_in_nI hk (by decide)
  have k0 : ¬ kd < 0 := fun w => by
    rw [Int32.lt_iff_toInt_lt] at w
    exact absurd hkd.1 (Int.not_le.mpr w)
  have l87 : kd < 8 ↔ kd ≤ 7 := by
    rw [Int32.lt_iff_toInt_lt, Int32.le_iff_toInt_le]
    have e8 : (8 : Int32).toInt = 8 := rfl
    have e7 : (7 : Int32).toInt = 7 := rfl
    omega
  rw [nI_clamp (show k < 2 ^ 31 by omega)]
  unfold pItem at h
  have b0 : bufU μ μ k := (prU.refl μ).buf k
  refine ⟨fun l8 => ?_, fun g8 => ?_⟩
  · have l7 := l87.mp l8
    have n10 : ¬ kd = 10 := fun e => by rw [e] at l8; exact absurd l8 (by decide)
    have n9 : ¬ kd = 9 := fun e => by rw [e] at l8; exact absurd l8 (by decide)
    have n8 : ¬ kd = 8 := fun e => by rw [e] at l8; exact absurd l8 (by decide)
    rw [if_neg (fun w => w.1 l7), if_neg n10, if_neg n9, if_neg n8] at h
    exact ⟨fun e => absurd e n10, fun _ => ⟨fun _ => ⟨vk, m_iB (by omega) (isB_i k0 l7) hP b0 h⟩, fun e => absurd e n9⟩⟩
  · have g7 : ¬ kd ≤ 7 := fun w => g8 (l87.mpr w)
    refine m_takes (by omega) (by decide) hP (fun e ν P1 u1 => ?_) (fun n ν P1 u1 => ?_)
    · rw [if_pos ⟨g7, e⟩] at h
      refine ⟨fun w => absurd w (by decide), fun _ => ⟨vk, ?_⟩⟩
      obtain ⟨c1, c2, c3⟩ := (b0.tr u1).end (s := -1) (0 : Int64) (prU.refl _)
      exact h.1 rfl _ ((P1.bI _ _).bJ _ _) c1 c2 c3
    · rw [if_neg (fun w => n w.2)] at h
      have b1 := b0.tr u1
      refine ⟨fun _ => ⟨fun e10 => ?_, fun n10 => ⟨fun n9 => ?_, fun e9 => ?_⟩⟩, fun w => absurd rfl w⟩
      · rw [if_pos e10] at h
        exact ⟨vk, m_iW (by omega) P1 b1 h⟩
      · have e8 : kd = 8 := by
          have i : ∀ j : Int32, kd.toInt = j.toInt → kd = j := fun j q => Int32.toInt_inj.mp q
          have h2 : ¬ kd.toInt ≤ 7 := fun w => g7 (Int32.le_iff_toInt_le.mpr w)
          have : kd.toInt = 8 ∨ kd.toInt = 9 ∨ kd.toInt = 10 := by omega
          rcases this with w | w | w
          · exact i 8 w
          · exact absurd (i 9 w) n9
          · exact absurd (i 10 w) n10
        rw [if_neg n10, if_neg n9, if_pos e8] at h
        exact ⟨vk, m_iB (by omega) (by simp [isB]) P1 b1 h⟩
      · rw [if_neg n10, if_pos e9] at h
        refine m_takes (by omega) (by decide) P1 (fun e ν2 P2 u2 => ?_) (fun n2 ν2 P2 u2 => ?_)
        · rw [if_pos e] at h
          exact ⟨fun w => absurd w (by decide), fun _ => ⟨vk, m_iW (by omega) P2 (b1.tr u2) h⟩⟩
        · rw [if_neg n2] at h
          refine ⟨fun _ => ?_, fun w => absurd rfl w⟩
          have b2 := b1.tr u2
          refine P2.here (by omega) ?_
          have okx := P2.1.2.2.2.2.2.2
          have dead : pKind S.2.2.2.2 p 8 0 = none → mmC0 (d - 1) M_X8_fails false 0 [.ref 160] ν2 fun ξ => K ξ := fun e => by
            rw [e] at h
            exact m_fails (by omega) P2 (fun ξ f u => h.2 rfl ξ f (b2.tr u))
          rcases chA_cases okx p with ec | ec
          · refine ⟨fun w => absurd w (by rw [ec]; decide), fun _ => ?_⟩
            refine m_isInI (x := -1) (a := 0) (b := 7) (by omega) rfl rfl ?_
            rw [if_neg (by decide)]
            exact ⟨fun w => absurd rfl w, fun _ => dead (pKind_neg ec 8 0 (by decide))⟩
          · refine ⟨fun _ => ?_, fun w => absurd (Int32.le_iff_toInt_le.mpr (show (0 : Int32).toInt ≤ _ from ec.1)) w⟩
            refine P2.here (by omega) ?_
            refine m_ix hX (by omega) ec ?_
            have e11 := pKind_add S.2.2.2.2 p 3 8 0
            cases ho : pKind S.2.2.2.2 p 8 0 with
            | some b =>
              rw [ho] at h e11
              have e11 : pKind S.2.2.2.2 p 11 0 = some b := e11
              have hb := pKind_lt ho
              have bb := isB_nI b (by omega)
              rw [e11]
              show mmCI (d - 1) M_X8_isIn true 3 [.long (nI b).toInt64, .long 0, .long 7] ν2 _
              refine m_isInI (x := nI b) (a := 0) (b := 7) (by omega) rfl rfl ?_
              rw [if_pos ⟨nI_pos (by omega), fun w => by have := (nI_ltI (a := 7) (by decide) (by omega)).mp w; omega⟩]
              refine ⟨fun _ => ⟨vk, ?_⟩, fun w => absurd w (by decide)⟩
              have hlt : p < S.2.2.2.2.length := chA_lt (x := chA S.2.2.2.2 p) rfl (fun e => by rw [e] at ec; exact absurd ec.1 (by decide)) hP.2.2.2
              rw [P2.2.1, nI_1]
              exact m_iB (by omega) bb (P2.at hlt) (b2.tr (prU_own _ _ _ (by decide) (by decide))) h
            | none =>
              rw [ho] at e11
              have e11 : pKind S.2.2.2.2 p 11 0 = pKind S.2.2.2.2 p 3 8 := e11
              rw [e11]
              cases ho2 : pKind S.2.2.2.2 p 3 8 with
              | none =>
                show mmCI (d - 1) M_X8_isIn true 3 [.long (-1 : Int32).toInt64, .long 0, .long 7] ν2 _
                refine m_isInI (x := -1) (a := 0) (b := 7) (by omega) rfl rfl ?_
                rw [if_neg (by decide)]
                exact ⟨fun w => absurd rfl w, fun _ => dead ho⟩
              | some b =>
                have h1 := pKind_ge ho2
                have h2 := pKind_lt ho2
                show mmCI (d - 1) M_X8_isIn true 3 [.long (nI b).toInt64, .long 0, .long 7] ν2 _
                refine m_isInI (x := nI b) (a := 0) (b := 7) (by omega) rfl rfl ?_
                rw [if_neg (fun w => w.2 ((nI_ltI (a := 7) (by decide) (by omega)).mpr (by omega)))]
                exact ⟨fun w => absurd rfl w, fun _ => dead ho⟩
