/-! ===== the model: casts ===== -/
def sbM (s k : Int32) : Int32 := if 8 ≤ k then (if k = 8 then (if s = 8 then -2 else if s = -1 then -1 else 4) else if k = 9 then s else if s = -1 then s else if s = 8 then s else -2) else (if s = -1 then -2 else if s = 8 then -2 else k)
theorem sb_e {s k : Int32} (e : s = -1) : sbM s k = if 8 ≤ k then -1 else -2 := by
  subst e
  unfold sbM
  by_cases k8 : (8 : Int32) ≤ k
  · rw [if_pos k8, if_pos k8]
    by_cases a : k = 8
    · rw [if_pos a]; decide
    · rw [if_neg a]
      by_cases b : k = 9
      · rw [if_pos b]
      · rw [if_neg b]; decide
  · rw [if_neg k8, if_neg k8, if_pos rfl]
theorem sb_w {s k : Int32} (e : s = 8) : sbM s k = if 9 ≤ k then 8 else -2 := by
  subst e
  unfold sbM
  by_cases k9 : (9 : Int32) ≤ k
  · have k8 : (8 : Int32) ≤ k := by
      rw [Int32.le_iff_toInt_le] at k9 ⊢
      have e8 : (8 : Int32).toInt = 8 := rfl
      have e7 : (9 : Int32).toInt = 9 := rfl
      omega
    have n8 : ¬ k = 8 := fun e => by rw [e] at k9; exact absurd k9 (by decide)
    rw [if_pos k8, if_pos k9, if_neg n8]
    by_cases b : k = 9
    · rw [if_pos b]
    · rw [if_neg b]; decide
  · rw [if_neg k9]
    by_cases k8 : (8 : Int32) ≤ k
    · have e8 : k = 8 := by
        apply Int32.toInt_inj.mp
        rw [Int32.le_iff_toInt_le] at k9 k8
        have e8 : (8 : Int32).toInt = 8 := rfl
        have e7 : (9 : Int32).toInt = 9 := rfl
        omega
      rw [if_pos k8, if_pos e8]; decide
    · rw [if_neg k8, if_neg (by decide), if_pos rfl]
theorem sbb_b {s k : Int32} (n1 : ¬ s = -1) (n2 : ¬ s = 8) : sbM s k = if k < 9 then bxIn k else if k = 9 then s else -2 := by
  unfold sbM bxIn
  by_cases k9 : k < 9
  · rw [if_pos k9]
    by_cases e8 : k = 8
    · subst e8
      rw [if_pos (by decide), if_pos rfl, if_neg n2, if_neg n1, if_pos rfl]
    · have k8 : ¬ (8 : Int32) ≤ k := fun w => e8 (by
        apply Int32.toInt_inj.mp
        rw [Int32.le_iff_toInt_le] at w
        rw [Int32.lt_iff_toInt_lt] at k9
        have e8 : (8 : Int32).toInt = 8 := rfl
        have e7 : (9 : Int32).toInt = 9 := rfl
        omega)
      rw [if_neg k8, if_neg n1, if_neg n2, if_neg e8]
  · rw [if_neg k9]
    have k8 : (8 : Int32) ≤ k := by
      rw [Int32.le_iff_toInt_le]
      rw [Int32.lt_iff_toInt_lt] at k9
      have e8 : (8 : Int32).toInt = 8 := rfl
      have e7 : (9 : Int32).toInt = 9 := rfl
      omega
    have n8 : ¬ k = 8 := fun e => k9 (by rw [e]; decide)
    rw [if_pos k8, if_neg n8]
    by_cases b : k = 9
    · rw [if_pos b, if_pos b]
    · rw [if_neg b, if_neg b, if_neg n1, if_neg n2]
theorem m_sortBy {d : Nat} {s k : Int32} {μ : mmMem} {K : Int32 → mmMem → Prop} (hd : 1 ≤ d) (h : K (sbM s k) μ) : mmCI d M_X8_sortBy true 2 [.int s, .int k] μ K := by
  refine u_X8_sortBy hd ?_
  unfold sbM at h
  refine ⟨fun k8 => ⟨fun n8 => ⟨fun e9 => ?_, fun n9 => ⟨fun e => ?_, fun n => ⟨fun n2 => ?_, fun e2 => ?_⟩⟩⟩, fun e8 => ⟨fun n => ⟨fun n2 => ?_, fun e2 => ?_⟩, fun e => ?_⟩⟩, fun k8 => ⟨fun e => ?_, fun n => ⟨fun n2 => ?_, fun e2 => ?_⟩⟩⟩
  · rw [if_pos k8, if_neg n8, if_pos e9] at h; exact h
  · rw [if_pos k8, if_neg n8, if_neg n9, if_pos e] at h; exact h
  · rw [if_pos k8, if_neg n8, if_neg n9, if_neg n, if_neg n2] at h; exact h
  · rw [if_pos k8, if_neg n8, if_neg n9, if_neg n, if_pos e2] at h; exact h
  · rw [if_pos k8, if_pos e8, if_neg n, if_neg n2] at h; exact h
  · rw [if_pos k8, if_pos e8, if_neg n, if_pos e2] at h; exact h
  · rw [if_pos k8, if_pos e8, if_pos e] at h; exact h
  · rw [if_neg k8, if_pos e] at h; exact h
  · rw [if_neg k8, if_neg n, if_neg n2] at h; exact h
  · rw [if_neg k8, if_neg n, if_pos e2] at h; exact h
theorem m_nbI {d : Nat} {s t : Int32} {n : Int64} {μ : mmMem} {K : Int64 → mmMem → Prop} (hd : 1 ≤ d) (hs : s = -1 ∨ s = 8) (h : K n μ) : mmCJ d M_X8_numberBy true 3 [.int s, .long n, .int t] μ K := by
  refine u_X8_numberBy hd ?_
  exact ⟨fun _ => h, fun n1 => ⟨fun n8 => (hs.elim (fun e => absurd e n1) fun e => absurd e n8), fun _ => h⟩⟩
theorem m_nbB {d : Nat} {x : aC} {t : Int32} {μ : mmMem} {K : Int64 → mmMem → Prop} (hd : 5 ≤ d) (ok : okC x) (hb : isB x.1) (ht : isB t) (h : K (aCast x t) μ) : mmCJ d M_X8_numberBy true 3 [.int x.1, .long x.2, .int t] μ K := by
  refine u_X8_numberBy (by omega) ?_
  have n8 : ¬ x.1 = 8 := fun e => by rw [e] at hb; exact absurd hb (by unfold isB; decide)
  exact ⟨fun e => absurd e (isB_n hb), fun n1 => ⟨fun _ => m_castOf (by omega) ok hb ht h, fun e => absurd e n8⟩⟩
theorem m_comesBack {d k r : Nat} {x : aC} {kd : Int32} {μ : mmMem} {K : Int32 → mmMem → Prop} (hd : 6 ≤ d) (hk : k < 12) (hr : r < 40) (e1 : μ.1 161 (136 + (40 * k + r)) = x.1) (e2 : μ.2.1 162 (40 * k + r) = x.2) (okx : okC x) (h0 : ¬ kd < 0) (h : K (if cbk x kd = true then 1 else 0) μ) : mmCI d M_X8_comesBack false 3 [.ref 160, .int (nI k), .int (nI r), .int kd] μ K := by
  refine u_X8_comesBack (by omega) ?_
  rw [nI_plc, nI_136, nI_clamp (show 136 + (40 * k + r) < 2 ^ 31 by omega), nI_clamp (show 40 * k + r < 2 ^ 31 by omega), e1]
  have v1 : vp_in (nI (40 * k + r)) 486 := vp_in_nI (by omega) (by decide)
  refine ⟨vp_in_nI (by omega) (by decide), ?_⟩
  refine m_sortBy (by omega) ?_
  have no : cbk x kd = false → K 0 μ := fun e => by rw [e] at h; exact h
  have yes : cbk x kd = true → K 1 μ := fun e => by rw [e] at h; exact h
  by_cases a1 : x.1 = -1
  · rw [sb_e a1]
    have ec : cbk x kd = !(decide (kd < 8)) := by unfold cbk; rw [if_pos a1]
    by_cases k8 : (8 : Int32) ≤ kd
    · rw [if_pos k8]
      rw [decide_eq_false (Int32.not_lt.mpr k8)] at ec
      refine ⟨fun _ => ⟨v1, ?_⟩, fun w => absurd w (by decide)⟩
      rw [e2]
      refine m_nbI (by omega) (Or.inl a1) ?_
      refine m_nbI (by omega) (Or.inl rfl) ?_
      rw [e2]
      exact ⟨fun w => absurd ((lg_e _ _).mpr rfl) w, fun _ => yes ec⟩
    · rw [if_neg k8]
      rw [decide_eq_true (Int32.not_le.mp k8)] at ec
      exact ⟨fun w => absurd rfl w, fun _ => no ec⟩
  · by_cases a8 : x.1 = 8
    · rw [sb_w a8]
      have ec : cbk x kd = !(decide (kd < 9)) := by unfold cbk; rw [if_neg a1, if_pos a8]
      by_cases k9 : (9 : Int32) ≤ kd
      · rw [if_pos k9]
        rw [decide_eq_false (Int32.not_lt.mpr k9)] at ec
        refine ⟨fun _ => ⟨v1, ?_⟩, fun w => absurd w (by decide)⟩
        rw [e2]
        refine m_nbI (by omega) (Or.inr a8) ?_
        refine m_nbI (by omega) (Or.inr rfl) ?_
        rw [e2]
        exact ⟨fun w => absurd ((lg_e _ _).mpr rfl) w, fun _ => yes ec⟩
      · rw [if_neg k9]
        rw [decide_eq_true (Int32.not_le.mp k9)] at ec
        exact ⟨fun w => absurd rfl w, fun _ => no ec⟩
    · have hb := box_of okx a1 a8
      rw [sbb_b a1 a8]
      by_cases k9 : kd < 9
      · rw [if_pos k9]
        have ht := bxIn_ok h0 k9
        have ec : cbk x kd = (aCast (bxIn kd, aCast x (bxIn kd)) x.1 == x.2) := by unfold cbk; rw [if_neg a1, if_neg a8, if_pos k9]
        have n2 : ¬ bxIn kd = -2 := fun e => by rw [e] at ht; exact absurd ht (by unfold isB; decide)
        refine ⟨fun _ => ⟨v1, ?_⟩, fun w => absurd w n2⟩
        rw [e2]
        refine m_nbB (x := x) (by omega) okx hb ht ?_
        refine m_nbB (x := (bxIn kd, aCast x (bxIn kd))) (by omega) (ok_cast okx hb ht) ht hb ?_
        rw [e2]
        exact ⟨fun w => no (ec.trans (beq_eq_false_iff_ne.mpr fun z => w ((lg_e _ _).mpr z))), fun w => yes (ec.trans (beq_iff_eq.mpr ((lg_e _ _).mp w)))⟩
      · rw [if_neg k9]
        have ec : cbk x kd = (kd == 9) := by unfold cbk; rw [if_neg a1, if_neg a8, if_neg k9]
        by_cases e9 : kd = 9
        · rw [if_pos e9]
          have n2 : ¬ x.1 = -2 := fun e => by rw [e] at hb; exact absurd hb (by unfold isB; decide)
          refine ⟨fun _ => ⟨v1, ?_⟩, fun w => absurd w n2⟩
          rw [e2]
          refine m_nbB (x := x) (by omega) okx hb hb ?_
          have es : aCast x x.1 = x.2 := aCast_self x.1 x.2
          rw [es]
          refine m_nbB (x := x) (by omega) okx hb hb ?_
          rw [e2, es]
          exact ⟨fun w => absurd ((lg_e _ _).mpr rfl) w, fun _ => yes (ec.trans (beq_iff_eq.mpr e9))⟩
        · rw [if_neg e9]
          exact ⟨fun w => absurd rfl w, fun _ => no (ec.trans (beq_eq_false_iff_ne.mpr e9))⟩
theorem lostAt_s {f : Nat → aC} {k : Int32} {j r : Nat} : lostAt f k (j + 1) r = if cbk (f r) k = true then lostAt f k j (r + 1) else nI r := rfl
theorem m_lost {d k : Nat} {kd : Int32} {col : aCol} {S : aS} {μ : mmMem} {K : Int32 → mmMem → Prop} (hd : 7 ≤ d) (hM : MS μ S) (hcol : S.1.2.1[k]? = some col) (h0 : ¬ kd < 0) (h : K (lostAt col.2.2 kd S.1.1 0) μ) : mmCI d M_X8_lost false 2 [.ref 160, .int (nI k), .int kd] μ K := by
  refine u_X8_lost (by omega) ?_
  have h40 := hM.2.1.1
  have h12 := hM.2.1.2.1
  have lk := lt_of_get hcol
  obtain ⟨-, -, c3⟩ := hM.1.2.1 k col hcol
  have oc := hM.2.1.2.2.1 col (List.mem_of_getElem? hcol)
  have loop : ∀ (j r : Nat), r + j = S.1.1 → lostAt col.2.2 kd S.1.1 0 = lostAt col.2.2 kd j r → mmEnds (d - 1) M_X8_lost 2 [.ref 160, .int (nI k), .int kd, .int (nI r)] [] μ (mmPI K) := by
    intro j
    induction j with
    | zero =>
      intro r hj ha
      refine s_X8_lost_2 (by omega) ?_
      rw [hM.1.1.1]
      have e : lostAt col.2.2 kd S.1.1 0 = -5 := ha
      rw [e] at h
      exact ⟨fun _ => h, fun w => absurd (nI_le (by omega) (by omega)) w⟩
    | succ j ih =>
      intro r hj ha
      refine s_X8_lost_2 (by omega) ?_
      obtain ⟨z1, z2⟩ := c3 r (by omega)
      rw [hM.1.1.1, nI_1 r]
      refine ⟨fun w => absurd w (nI_ge (by omega) (by omega)), fun _ => ?_⟩
      refine m_comesBack (by omega) (by omega) (by omega) z1 z2 (oc.2.2 r (by omega)).1 h0 ?_
      rw [lostAt_s] at ha
      cases hb : cbk (col.2.2 r) kd with
      | true =>
        rw [hb, if_pos rfl] at ha
        exact ⟨fun _ => ih (r + 1) (by omega) ha, fun w => absurd w (by decide)⟩
      | false =>
        rw [hb, if_neg (by decide)] at ha
        refine ⟨fun w => absurd rfl w, fun _ => ?_⟩
        have e : lostAt col.2.2 kd S.1.1 0 = nI r := ha
        rw [e] at h
        exact h
  exact loop S.1.1 0 (Nat.zero_add _) rfl
theorem m_loses {d : Nat} {c k : Int32} {S : aS} {μ : mmMem} {K : Int32 → mmMem → Prop} (hd : 8 ≤ d) (hM : MS μ S) (h : ∀ ν, MS ν (sp_loses c k S).2 → loE μ ν → K (sp_loses c k S).1 ν) : mmCI d M_X8_loses false 2 [.ref 160, .int c, .int k] μ K := by
  refine u_X8_loses (by omega) ?_
  refine m_amiss (by omega) hM (fun ν hν hh => ?_)
  unfold sp_loses at h
  refine ⟨fun q => ?_, fun q => ?_⟩
  · obtain ⟨i, col, hk, rfl, hcol, hg⟩ := cref_0 q
    rw [withC_ok hk q hcol] at h
    rw [q] at hν
    have hν : MS ν S := hν
    refine m_isInI (a := 0) (b := 10) (by omega) rfl rfl ?_
    by_cases w : ¬ k < 0 ∧ ¬ (10 : Int32) < k
    · rw [if_pos w]
      rw [if_neg (by rintro (z | z); exact w.1 z; exact w.2 z)] at h
      exact ⟨fun z => absurd z (by decide), fun _ => m_lost (by omega) hν hcol w.1 (h ν hν hh)⟩
    · rw [if_neg w]
      have w2 : k < 0 ∨ 10 < k := by
        by_cases z : k < 0
        · exact Or.inl z
        · exact Or.inr (Classical.not_not.mp fun z2 => w ⟨z, z2⟩)
      rw [if_pos w2] at h
      exact ⟨fun _ => h ν hν hh, fun z => absurd rfl z⟩
  · rw [withC_no q] at h
    exact h ν hν hh
theorem m_castsE {d i : Nat} {x2 : Int32} {S : aS} {col : aCol} {μ : mmMem} {P : Option Value → mmMem → Prop} (hd : 7 ≤ d) (hM : MS μ S) (hi : S.1.2.1[i]? = some col) (ans : Int32) (h : P (some (.int ans)) μ) : ∀ (j k : Nat) (a : Int32), k + j = 11 → ans = castsF col.2.2 S.1.1 j k a → mmEnds d M_X8_casts 17 [.ref 160, .int (nI i), .int x2, .int a, .int (nI k)] [] μ P := by
  intro j
  induction j with
  | zero =>
    intro k a hj ha
    refine s_X8_casts_17 (by omega) ?_
    have e : ans = a := ha
    rw [e] at h
    have e11 : k = 11 := by omega
    subst e11
    exact ⟨fun _ => h, fun w => absurd (by decide) w⟩
  | succ j ih =>
    intro k a hj ha
    refine s_X8_casts_17 (by omega) ?_
    rw [nI_1 k]
    refine ⟨fun w => absurd w (nI_nlt (b := k) (a := 10) (by omega) (by decide)), fun _ => ?_⟩
    refine m_lost hd hM hi (nI_pos (by omega)) ?_
    unfold castsF at ha
    refine ⟨fun n => ?_, fun e => ?_⟩
    · rw [if_neg n] at ha
      rw [Int32.or_zero]
      exact ih (k + 1) a (by omega) ha
    · rw [if_pos e] at ha
      exact ih (k + 1) _ (by omega) ha
theorem m_casts {d : Nat} {c : Int32} {S : aS} {μ : mmMem} {K : Int32 → mmMem → Prop} (hd : 8 ≤ d) (hM : MS μ S) (h : ∀ ν, MS ν (sp_casts c S).2 → loE μ ν → K (sp_casts c S).1 ν) : mmCI d M_X8_casts false 1 [.ref 160, .int c] μ K := by
  refine u_X8_casts (by omega) ?_
  refine m_amiss (by omega) hM (fun ν hν hh => ?_)
  unfold sp_casts at h
  refine ⟨fun q => ?_, fun q => ?_⟩
  · obtain ⟨i, col, hk, rfl, hcol, hg⟩ := cref_0 q
    rw [withC_ok hk q hcol] at h
    rw [q] at hν
    have hν : MS ν S := hν
    exact m_castsE (S := S) (by omega) hν hcol _ (h ν hν hh) 11 0 0 rfl rfl
  · rw [withC_no q] at h
    exact h ν hν hh
theorem castC_sb {x : aC} {k : Int32} (ok : okC x) (l0 : ¬ k < 0) (hb : cbk x k = true) : sbM x.1 k = (castC k x).1 ∧ ((x.1 = -1 ∨ x.1 = 8) → castC k x = x) ∧ (isB x.1 → (castC k x).2 = aCast x (castC k x).1 ∧ isB (castC k x).1) := by
  unfold castC
  by_cases bx : 0 ≤ x.1 ∧ x.1 < 8
  · obtain ⟨n1, n2⟩ := (box_iff ok).mp bx
    have hbx := box_of ok n1 n2
    unfold cbk at hb
    rw [if_neg n1, if_neg n2] at hb
    refine ⟨?_, fun w => (w.elim (fun e => absurd e n1) fun e => absurd e n2), fun _ => ?_⟩
    · rw [sbb_b n1 n2]
      by_cases k9 : k = 9
      · rw [if_neg (fun w => by rw [k9] at w; exact absurd w (by decide)), if_pos k9, if_neg (fun w => w.2 k9)]
      · rw [if_pos (show (0 ≤ x.1 ∧ x.1 < 8) ∧ k ≠ 9 from ⟨bx, k9⟩)]
        have l9 : k < 9 := by
          refine Classical.byContradiction fun w => ?_
          rw [if_neg w] at hb
          exact k9 (by simpa using hb)
        rw [if_pos l9]
    · by_cases k9 : k = 9
      · rw [if_neg (fun w => w.2 k9)]
        exact ⟨(aCast_self x.1 x.2).symm, hbx⟩
      · rw [if_pos (show (0 ≤ x.1 ∧ x.1 < 8) ∧ k ≠ 9 from ⟨bx, k9⟩)]
        refine ⟨rfl, ?_⟩
        have l9 : k < 9 := by
          refine Classical.byContradiction fun w => ?_
          rw [if_neg w] at hb
          exact k9 (by simpa using hb)
        exact bxIn_ok l0 l9
  · rw [if_neg (fun w => bx w.1)]
    have hn : x.1 = -1 ∨ x.1 = 8 := by
      refine Classical.byContradiction fun w => bx ((box_iff ok).mpr ⟨fun a => w (Or.inl a), fun a => w (Or.inr a)⟩)
    refine ⟨?_, fun _ => rfl, fun b => ?_⟩
    · unfold cbk at hb
      rcases hn with n | n
      · rw [if_pos n] at hb
        have l8 : ¬ k < 8 := by simpa using hb
        rw [sb_e n, if_pos (Int32.not_lt.mp l8), n]
      · rw [if_neg (by rw [n]; decide), if_pos n] at hb
        have l9 : ¬ k < 9 := by simpa using hb
        rw [sb_w n, if_pos (Int32.not_lt.mp l9), n]
    · exfalso
      rcases hn with n | n <;> rw [n] at b <;> exact absurd b (by unfold isB; decide)
theorem m_castE {d k : Nat} {kd x3 x4 x5 : Int32} {S : aS} {col : aCol} {P : Option Value → mmMem → Prop} (hd : 5 ≤ d) (hcol : S.1.2.1[k]? = some col) (h0 : 0 ≤ kd.toInt ∧ kd.toInt ≤ 10) (hb : ∀ r, r < S.1.1 → cbk (col.2.2 r) kd = true) (μ0 : mmMem) (hM : MS μ0 S) (h : ∀ ν, rowR (sI μ0 161 (6 + k) kd) ν k 0 S.1.1 (fun r => castC kd (col.2.2 r)) → P (some (.int x5)) ν) : ∀ (j r : Nat) (μ : mmMem) (v7 v8 : Value), r + j = S.1.1 → rowR (sI μ0 161 (6 + k) kd) μ k 0 r (fun r => castC kd (col.2.2 r)) → mmEnds d M_X8_cast 69 [.ref 160, .int (nI k), .int kd, .int x3, .int x4, .int x5, .int (nI r), v7, v8] [] μ P := by
  have h40 := hM.2.1.1
  have h12 := hM.2.1.2.1
  have lk := lt_of_get hcol
  obtain ⟨-, -, c3⟩ := hM.1.2.1 k col hcol
  have oc := hM.2.1.2.2.1 col (List.mem_of_getElem? hcol)
  have l0 : ¬ kd < 0 := by rw [Int32.lt_iff_toInt_lt]; exact Int.not_lt.mpr h0.1
  intro j
  induction j with
  | zero =>
    intro r μ v7 v8 hj hR
    refine s_X8_cast_69 (by omega) ?_
    have e : r = S.1.1 := by omega
    subst e
    have e0 : μ.1 161 0 = nI S.1.1 := by rw [hR.2.1, if_neg (by omega), sI_at, if_neg (by omega)]; exact hM.1.1.1
    rw [e0]
    exact ⟨fun _ => h μ hR, fun w => absurd (nI_le (by omega) (by omega)) w⟩
  | succ j ih =>
    intro r μ v7 v8 hj hR
    refine s_X8_cast_69 (by omega) ?_
    obtain ⟨z1, z2⟩ := c3 r (by omega)
    have e0 : μ.1 161 0 = nI S.1.1 := by rw [hR.2.1, if_neg (by omega), sI_at, if_neg (by omega)]; exact hM.1.1.1
    have w1 : μ.1 161 (136 + (40 * k + r)) = (col.2.2 r).1 := by rw [hR.2.1, if_neg (by omega), sI_at, if_neg (by omega)]; exact z1
    have w2 : μ.2.1 162 (40 * k + r) = (col.2.2 r).2 := by rw [hR.2.2, if_neg (by omega)]; exact z2
    have okx := (oc.2.2 r (by omega)).1
    obtain ⟨s1, s2, s3⟩ := castC_sb okx l0 (hb r (by omega))
    have oky := (castC_ok (k0 := 0) h0 okx (hb r (by omega))).1
    rw [e0, nI_plc, nI_136, nI_clamp (show 136 + (40 * k + r) < 2 ^ 31 by omega), nI_clamp (show 40 * k + r < 2 ^ 31 by omega), w1, nI_1 r]
    refine ⟨fun w => absurd w (nI_ge (by omega) (by omega)), fun _ => ⟨vp_in_nI (by omega) (by decide), ?_⟩⟩
    refine m_sortBy (by omega) ?_
    rw [s1, w2]
    refine ⟨vp_in_nI (by omega) (by decide), ?_⟩
    have go : ∀ v7 v8, mmC0 d M_X8_puts false 4 [.ref 160, .int (nI k), .int (nI r), .int (castC kd (col.2.2 r)).1, .long (castC kd (col.2.2 r)).2] μ fun ν => mmEnds d M_X8_cast 69 [.ref 160, .int (nI k), .int kd, .int x3, .int x4, .int x5, .int (nI (r + 1)), v7, v8] [] ν P := fun v7 v8 => by
      refine m_puts (by omega) (by omega) (by omega) ?_
      rw [oky.e]
      exact ih (r + 1) _ _ _ (by omega) (hR.step (Nat.zero_le _))
    by_cases a1 : (col.2.2 r).1 = -1 ∨ (col.2.2 r).1 = 8
    · refine m_nbI (by omega) a1 ?_
      rw [s2 a1] at go ⊢
      exact go _ _
    · have hbx := box_of okx (fun e => a1 (Or.inl e)) (fun e => a1 (Or.inr e))
      obtain ⟨s4, s5⟩ := s3 hbx
      refine m_nbB (by omega) okx hbx s5 ?_
      rw [← s4]
      exact go _ _
theorem m_cast {d : Nat} {c k : Int32} {S : aS} {μ : mmMem} {K : Int32 → mmMem → Prop} (hd : 8 ≤ d) (hM : MS μ S) (h : ∀ ν, MS ν (sp_cast c k S).2 → loE μ ν → K (sp_cast c k S).1 ν) : mmCI d M_X8_cast false 2 [.ref 160, .int c, .int k] μ K := by
  refine u_X8_cast (by omega) ?_
  refine m_amiss (by omega) hM (fun ν hν hh => ?_)
  unfold sp_cast at h
  refine ⟨fun q => ?_, fun q => ?_⟩
  · obtain ⟨i, col, hk, rfl, hcol, hg⟩ := cref_0 q
    rw [withC_ok hk q hcol] at h
    rw [q] at hν
    have hν : MS ν S := hν
    have h40 := hν.2.1.1
    have h12 := hν.2.1.2.1
    obtain ⟨g1, g2, g3⟩ := hν.1.2.1 i col hcol
    refine m_isInI (a := 0) (b := 10) (by omega) rfl rfl ?_
    by_cases w : ¬ k < 0 ∧ ¬ (10 : Int32) < k
    · rw [if_pos w]
      rw [if_neg (by rintro (z | z); exact w.1 z; exact w.2 z)] at h
      refine ⟨fun _ => ?_, fun z => absurd z (by decide)⟩
      have hkd := i32_of w.1 w.2
      have e6 : (6 : Int32) + nI i = nI (6 + i) := nI_addr 6 i
      refine m_lost (by omega) hν hcol w.1 ?_
      rw [e6, nI_clamp (show 6 + i < 2 ^ 31 by omega), g1]
      refine ⟨fun el => ⟨vp_in_nI (by omega) (by decide), ?_⟩, fun nl => ?_⟩
      · rw [if_pos el] at h
        have hb : ∀ r, r < S.1.1 → cbk (col.2.2 r) k = true := fun r hr => lostAt_ok (by omega) el r (Nat.zero_le _) (by omega)
        refine m_castE (S := S) (by omega) hcol hkd hb ν hν (fun ν2 r2 => ?_) S.1.1 0 _ _ _ (Nat.zero_add _) (rowR.refl _ _ _ _)
        have oc := hν.2.1.2.2.1 col (List.mem_of_getElem? hcol)
        have f : ∀ q, q ≠ 161 → q ≠ 162 → eq3 ν ν2 q := fun q a b => (show eq3 ν (sI ν 161 (6 + i) k) q by simp [eq3, sI, a]).trans (r2.1 q a b)
        refine h ν2 (hν.tab (hν.1.put hν.2.1 (lt_of_get hcol) (fun j a b e => by rw [r2.2.1, if_neg (by omega), sI_at, if_neg a]) (fun j e => by rw [r2.2.2, if_neg (by omega)]; rfl) ⟨?_, ?_, fun r hr => ?_⟩) (hν.2.1.put ⟨hkd.1, hkd.2, fun r hr => castC_ok (k0 := 0) hkd (oc.2.2 r hr).1 (hb r hr)⟩) f) (hh.trans fun q hq => f q (by omega) (by omega))
        · rw [r2.2.1, if_neg (by omega), sI_at, if_pos rfl]; rfl
        · rw [r2.2.1, if_neg (by omega), sI_at, if_neg (by omega)]; exact g2
        · have hr : r < S.1.1 := hr
          rw [r2.2.1, if_pos (by omega), r2.2.2, if_pos (by omega), show 136 + (40 * i + r) - (136 + 40 * i) = r by omega, show 40 * i + r - 40 * i = r by omega]
          exact ⟨rfl, rfl⟩
      · rw [if_neg nl] at h
        exact h ν hν hh
    · rw [if_neg w]
      have w2 : k < 0 ∨ 10 < k := by
        by_cases z : k < 0
        · exact Or.inl z
        · exact Or.inr (Classical.not_not.mp fun z2 => w ⟨z, z2⟩)
      rw [if_pos w2] at h
      exact ⟨fun z => absurd rfl z, fun _ => h ν hν hh⟩
  · rw [withC_no q] at h
    exact h ν hν hh
