/-! ===== the model: written ===== -/
theorem MS.put1 {μ : mmMem} {S : aS} {k r : Nat} {x : aC} {col : aCol} (hM : MS μ S) (hcol : S.1.2.1[k]? = some col) (hr : r < S.1.1) (hx : okC x ∧ fitK col.1 x) : MS (putM μ k r x) (putCol S k (setRow col r x)) := by
  obtain ⟨g1, g2, g3⟩ := hM.1.2.1 k col hcol
  have h40 := hM.2.1.1
  have h12 := hM.2.1.2.1
  have lk := lt_of_get hcol
  refine hM.tab (hM.1.put hM.2.1 lk (fun j a b e => by rw [putM_1, if_neg (by omega)]) (fun j e => by rw [putM_2, if_neg (by omega)]) ⟨by rw [putM_1, if_neg (by omega)]; exact g1, by rw [putM_1, if_neg (by omega)]; exact g2, fun i hi => ?_⟩) (hM.2.1.put ((hM.2.1.2.2.1 col (List.mem_of_getElem? hcol)).row hx)) (fun q a b => putM_e _ _ _ _ _ a b)
  have hi : i < S.1.1 := hi
  obtain ⟨z1, z2⟩ := g3 i hi
  show _ = (if i = r then x else col.2.2 i).1 ∧ _ = (if i = r then x else col.2.2 i).2
  rw [putM_1, putM_2]
  by_cases e : i = r
  · rw [if_pos e, if_pos (by omega), if_pos (by omega)]
    exact ⟨rfl, rfl⟩
  · rw [if_neg e, if_neg (by omega), if_neg (by omega)]
    exact ⟨z1, z2⟩
theorem putM_lo (μ : mmMem) (k r : Nat) (x : aC) : loE μ (putM μ k r x) := fun q hq => putM_e _ _ _ _ _ (by omega) (by omega)
def bxA (T : aT) (kd r b : Int32) : Int32 := if noRow T r then -21 else if aTake kd b = true then 0 else -22
theorem le8 (a : Int32) : (8 : Int32) ≤ a ↔ 7 < a := by
  rw [Int32.lt_iff_toInt_lt, Int32.le_iff_toInt_le]
  have e8 : (8 : Int32).toInt = 8 := rfl
  have e7 : (7 : Int32).toInt = 7 := rfl
  omega
theorem le17 (a : Int32) : a ≤ (17 : Int32) ↔ a < 18 := by
  rw [Int32.lt_iff_toInt_lt, Int32.le_iff_toInt_le]
  have e8 : (17 : Int32).toInt = 17 := rfl
  have e7 : (18 : Int32).toInt = 18 := rfl
  omega
theorem m_boxAmiss {d k : Nat} {r b : Int32} {col : aCol} {S : aS} {μ : mmMem} {K : Int32 → mmMem → Prop} (hd : 3 ≤ d) (hM : MS μ S) (hcol : S.1.2.1[k]? = some col) (hb : isB b) (h : ∀ ν, MS ν (rfs S (bxA S.1 col.1 r b)) → loE μ ν → K (bxA S.1 col.1 r b) ν) : mmCI d M_X8_boxAmiss false 3 [.ref 160, .int (nI k), .int r, .int b] μ K := by
  refine u_X8_boxAmiss (by omega) ?_
  have h12 := hM.2.1.2.1
  have lk := lt_of_get hcol
  obtain ⟨g1, -, -⟩ := hM.1.2.1 k col hcol
  have oc := hM.2.1.2.2.1 col (List.mem_of_getElem? hcol)
  unfold bxA at h
  have e6 : (6 : Int32) + nI k = nI (6 + k) := nI_addr 6 k
  rw [e6, nI_clamp (by omega)]
  refine m_isRow (by omega) hM ?_
  by_cases z : noRow S.1 r
  · rw [if_pos z] at h ⊢
    exact ⟨fun w => absurd rfl w, fun _ => m_refuses (by omega) (Or.inl rfl) hM h⟩
  · rw [if_neg z] at h ⊢
    rw [g1]
    refine ⟨fun _ => ⟨vp_in_nI (by omega) (by decide), fun k8 => ?_, fun k8 => ?_⟩, fun w => absurd w (by decide)⟩
    · rw [le8] at k8
      refine ⟨fun n8 => ⟨fun n9 => ?_, fun e9 => ?_⟩, fun e8 => ⟨fun n4 => ?_, fun e4 => ?_⟩⟩
      · have : aTake col.1 b = false := by unfold aTake; rw [if_neg n8, if_neg n9, if_pos k8]
        rw [this] at h
        exact m_refuses (by omega) (Or.inr (Or.inl rfl)) hM h
      · have : aTake col.1 b = true := by unfold aTake; rw [if_neg n8, if_pos e9]
        rw [this] at h
        exact h μ hM (loE.refl _)
      · have : aTake col.1 b = false := by unfold aTake; rw [if_pos e8]; exact beq_eq_false_iff_ne.mpr n4
        rw [this] at h
        exact m_refuses (by omega) (Or.inr (Or.inl rfl)) hM h
      · have : aTake col.1 b = true := by unfold aTake; rw [if_pos e8]; exact beq_iff_eq.mpr e4
        rw [this] at h
        exact h μ hM (loE.refl _)
    · rw [le8] at k8
      have n8 : ¬ col.1 = 8 := fun e => k8 (by rw [e]; decide)
      have n9 : ¬ col.1 = 9 := fun e => k8 (by rw [e]; decide)
      have bk : isB col.1 := isB_of oc.1 (by
        rw [Int32.lt_iff_toInt_lt] at k8
        exact Int.not_lt.mp k8)
      have et : aTake col.1 b = aWid b col.1 := by unfold aTake; rw [if_neg n8, if_neg n9, if_neg k8]
      rw [et] at h
      refine m_widens (by omega) hb bk ?_
      cases hw : aWid b col.1 with
      | true => rw [hw] at h; exact ⟨fun w => absurd w (by decide), fun _ => h μ hM (loE.refl _)⟩
      | false => rw [hw] at h; exact ⟨fun _ => m_refuses (by omega) (Or.inr (Or.inl rfl)) hM h, fun w => absurd rfl w⟩
theorem isB_n {t : Int32} (h : isB t) : ¬ t = -1 := fun e => by
  rw [e] at h
  exact absurd h (by unfold isB; decide)
theorem m_wGo {d k r : Nat} {b t : Int32} {v : Int64} {μ : mmMem} {K : mmMem → Prop} (hd : 5 ≤ d) (hk : k < 12) (hr : r < 40) (hb : isB b) (ht : isB t) (h : K (putM μ k r (t, aCast (b, aMade b v) t))) : mmCJ d M_X8_made true 2 [.int b, .long v] μ fun y1 ν1 => mmCJ d M_X8_castOf true 3 [.int b, .long y1, .int t] ν1 fun y2 ν2 => mmC0 d M_X8_puts false 4 [.ref 160, .int (nI k), .int (nI r), .int t, .long y2] ν2 fun ν3 => K ν3 := by
  refine m_made hd hb ?_
  refine m_castOf (x := (b, aMade b v)) (by omega) (ok_made hb v) hb ht ?_
  refine m_puts (by omega) hk hr ?_
  rw [if_neg (isB_n ht)]
  exact h
theorem aCast_self (b : Int32) (v : Int64) : aCast (b, v) b = v := by unfold aCast; rw [if_pos rfl]
theorem m_write {d : Nat} {c r a : Int32} {v : Int64} {S : aS} {μ : mmMem} {K : Int32 → mmMem → Prop} (hd : 6 ≤ d) (hM : MS μ S) (h : ∀ ν, MS ν (sp_write c r a v S).2 → loE μ ν → K (sp_write c r a v S).1 ν) : mmCI d M_X8_write false 4 [.ref 160, .int c, .int r, .int a, .long v] μ K := by
  refine u_X8_write (by omega) ?_
  refine m_amiss (by omega) hM (fun ν hν hh => ?_)
  unfold sp_write at h
  refine ⟨fun q => ?_, fun q => ?_⟩
  · obtain ⟨k, col, hk, rfl, hcol, hg⟩ := cref_0 q
    rw [withC_ok hk q hcol] at h
    rw [q] at hν
    have hν : MS ν S := hν
    obtain ⟨g1, -, -⟩ := hν.1.2.1 k col hcol
    have oc := hν.2.1.2.2.1 col (List.mem_of_getElem? hcol)
    have h40 := hν.2.1.1
    have e6 : (6 : Int32) + nI k = nI (6 + k) := nI_addr 6 k
    have v6 : vp_in (nI (6 + k)) 616 := vp_in_nI (by omega) (by decide)
    have bad : (¬ isWay a ∨ (a = 19 ∧ ¬ isWrd v)) → K (-2) ν := fun w => by
      rw [if_pos w] at h
      exact h ν hν hh
    have good : ∀ (w1 : isWay a) (w2 : a = 19 → isWrd v), ∀ ν2, MS ν2 (if wref S.1 col.1 r a = 0 then (1, putCol S k (setRow col r.toNatClampNeg (wcell col.1 a v))) else (wref S.1 col.1 r a, rfs S (wref S.1 col.1 r a))).2 → loE ν ν2 → K (if wref S.1 col.1 r a = 0 then (1, putCol S k (setRow col r.toNatClampNeg (wcell col.1 a v))) else (wref S.1 col.1 r a, rfs S (wref S.1 col.1 r a))).1 ν2 := fun w1 w2 ν2 m2 l2 => by
      rw [if_neg (by rintro (u | u); exact u w1; exact u.2 (w2 u.1))] at h
      exact h ν2 m2 (hh.trans l2)
    have fin : ∀ (w1 : isWay a) (w2 : a = 19 → isWrd v) (w0 : wref S.1 col.1 r a = 0) (ξ : mmMem), MS ξ S → loE ν ξ → ∀ i : Nat, i < S.1.1 → r = nI i → K 1 (putM ξ k i (wcell col.1 a v)) := fun w1 w2 w0 ξ hξ hl i hi er => by
      have g := good w1 w2
      rw [if_pos w0, er, nI_clamp (by omega)] at g
      obtain ⟨z1, z2, z3⟩ := wref_0 w0
      exact g _ (hξ.put1 hcol hi (wcell_ok ⟨oc.1, oc.2.1⟩ w1 w2 z2 z3)) (hl.trans (putM_lo _ _ _ _))
    have ref : ∀ (w1 : isWay a) (w2 : a = 19 → isWrd v) (code : Int32), wref S.1 col.1 r a = code → (code = -21 ∨ code = -22 ∨ code = -23) → mmCI (d - 1) M_X8_refuses false 1 [.ref 160, .int code] ν K := fun w1 w2 code ec hc => by
      have g := good w1 w2
      have n0 : ¬ wref S.1 col.1 r a = 0 := by rw [ec]; rcases hc with e | e | e <;> rw [e] <;> decide
      rw [if_neg n0, ec] at g
      exact m_refuses (by omega) hc hν (fun ν2 m2 l2 => g ν2 m2 l2)
    have box : ∀ (w1 : isWay a) (l18 : a < 18) (nx : ¬ (¬ 7 < a ∧ 7 < col.1)), mmCI (d - 1) M_X8_boxAmiss false 3 [.ref 160, .int (nI k), .int r, .int (bxOf a)] ν fun y ξ => (y = (0 : Int32) → MS ξ S ∧ loE ν ξ ∧ ∃ i, i < S.1.1 ∧ r = nI i ∧ wref S.1 col.1 r a = 0) ∧ (¬ y = (0 : Int32) → K y ξ) := fun w1 l18 nx => by
      have hb := bx_ok w1 l18
      have n19 : ¬ a = 19 := fun e => by rw [e] at l18; exact absurd l18 (by decide)
      have nx2 : ¬ ((¬ 7 < a ∧ 7 < col.1) ∨ (¬ a < 18 ∧ ¬ 7 < col.1)) := by rintro (w | w); exact nx w; exact w.1 l18
      have ew : wref S.1 col.1 r a = bxA S.1 col.1 r (bxOf a) := by
        unfold wref bxA
        rw [if_neg nx2]
        by_cases z : noRow S.1 r
        · rw [if_pos z, if_pos z]
        · rw [if_neg z, if_neg z, if_pos l18]
      refine m_boxAmiss (by omega) hν hcol hb (fun ν2 m2 l2 => ⟨fun z0 => ?_, fun z0 => ?_⟩)
      · obtain ⟨z1, -, -⟩ := wref_0 (ew.trans z0)
        obtain ⟨i, hi, er⟩ := row_of hν.2.1 z1
        rw [z0] at m2
        exact ⟨m2, l2, i, hi, er, ew.trans z0⟩
      · have g := good w1 (fun e => absurd e n19)
        rw [if_neg (by rw [ew]; exact z0), ew] at g
        exact g ν2 m2 l2
    have goA : ∀ (w1 : isWay a) (l18 : a < 18) (ξ : mmMem) (hξ : MS ξ S) (hlo : loE ν ξ) (i : Nat) (k7 : 7 < col.1), i < S.1.1 → r = nI i → wref S.1 col.1 r a = 0 → mmCJ (d - 1) M_X8_made true 2 [.int (bxOf a), .long v] ξ fun y1 ν1 => mmCJ (d - 1) M_X8_castOf true 3 [.int (bxOf a), .long y1, .int (bxOf a)] ν1 fun y2 ν2 => mmC0 (d - 1) M_X8_puts false 4 [.ref 160, .int (nI k), .int r, .int (bxOf a), .long y2] ν2 fun ν3 => K 1 ν3 := fun w1 l18 ξ hξ hlo i k7 hi er w0 => by
      have n18 : ¬ a = 18 := fun e => by rw [e] at l18; exact absurd l18 (by decide)
      have n19 : ¬ a = 19 := fun e => by rw [e] at l18; exact absurd l18 (by decide)
      have f := fin w1 (fun e => absurd e n19) w0 ξ hξ hlo i hi er
      have ec : wcell col.1 a v = (bxOf a, aMade (bxOf a) v) := by unfold wcell; rw [if_neg n18, if_neg n19, if_pos k7]
      rw [ec] at f
      rw [er]
      refine m_wGo (by omega) hk (by omega) (bx_ok w1 l18) (bx_ok w1 l18) ?_
      rw [aCast_self]
      exact f
    have goB : ∀ (w1 : isWay a) (l18 : a < 18) (ξ : mmMem) (hξ : MS ξ S) (hlo : loE ν ξ) (i : Nat) (k7 : ¬ 7 < col.1), i < S.1.1 → r = nI i → wref S.1 col.1 r a = 0 → mmCJ (d - 1) M_X8_made true 2 [.int (bxOf a), .long v] ξ fun y1 ν1 => mmCJ (d - 1) M_X8_castOf true 3 [.int (bxOf a), .long y1, .int col.1] ν1 fun y2 ν2 => mmC0 (d - 1) M_X8_puts false 4 [.ref 160, .int (nI k), .int r, .int col.1, .long y2] ν2 fun ν3 => K 1 ν3 := fun w1 l18 ξ hξ hlo i k7 hi er w0 => by
      have n18 : ¬ a = 18 := fun e => by rw [e] at l18; exact absurd l18 (by decide)
      have n19 : ¬ a = 19 := fun e => by rw [e] at l18; exact absurd l18 (by decide)
      have f := fin w1 (fun e => absurd e n19) w0 ξ hξ hlo i hi er
      have ec : wcell col.1 a v = (col.1, aCast (bxOf a, aMade (bxOf a) v) col.1) := by unfold wcell; rw [if_neg n18, if_neg n19, if_neg k7]
      rw [ec] at f
      have bk : isB col.1 := isB_of oc.1 (by
        rw [Int32.lt_iff_toInt_lt] at k7
        exact Int.not_lt.mp k7)
      rw [er]
      exact m_wGo (by omega) hk (by omega) (bx_ok w1 l18) bk f
    have hi7 : ¬ a < 18 → 7 < a := fun l => by
      rw [Int32.lt_iff_toInt_lt] at l ⊢
      have e8 : (18 : Int32).toInt = 18 := rfl
      have e7 : (7 : Int32).toInt = 7 := rfl
      omega
    have rows : ∀ (w1 : isWay a) (w2 : a = 19 → isWrd v) (l18 : ¬ a < 18) (k7 : 7 < col.1) (A : mmMem → Prop), (∀ i, i < S.1.1 → r = nI i → A ν) → mmCI (d - 1) M_X8_isRow false 1 [.ref 160, .int r] ν fun y ξ => (¬ y = (0 : Int32) → A ξ) ∧ (y = (0 : Int32) → mmCI (d - 1) M_X8_refuses false 1 [.ref 160, .int (-21)] ξ fun y2 ξ2 => K y2 ξ2) := fun w1 w2 l18 k7 A hA => by
      refine m_isRow (by omega) hν ?_
      by_cases z : noRow S.1 r
      · rw [if_pos z]
        refine ⟨fun w => absurd rfl w, fun _ => ref w1 w2 (-21) ?_ (Or.inl rfl)⟩
        unfold wref
        rw [if_neg (by rintro (u | u); exact u.1 (hi7 l18); exact u.2 k7), if_pos z]
      · rw [if_neg z]
        refine ⟨fun _ => ?_, fun w => absurd w (by decide)⟩
        obtain ⟨i, hi, er⟩ := row_of hν.2.1 z
        exact hA i hi er
    have w22 : ∀ (w : (¬ 7 < a ∧ 7 < col.1) ∨ (¬ a < 18 ∧ ¬ 7 < col.1)), wref S.1 col.1 r a = -22 := fun w => by unfold wref; rw [if_pos w]
    refine m_isInI (a := 0) (b := 7) (by omega) rfl rfl ?_
    rw [e6, nI_clamp (show 6 + k < 2 ^ 31 by omega), g1]
    by_cases p1 : ¬ a < 0 ∧ ¬ (7 : Int32) < a
    · rw [if_pos p1]
      have w1 : isWay a := ⟨p1.1, Or.inl (Int32.not_lt.mp p1.2)⟩
      have n19 : ¬ a = 19 := fun e => p1.2 (by rw [e]; decide)
      have w2 : a = 19 → isWrd v := fun e => absurd e n19
      have l18 : a < 18 := Classical.byContradiction fun w => p1.2 (hi7 w)
      refine ⟨fun _ => ⟨fun _ => ⟨v6, fun w => absurd ((le8 a).mp w) p1.2, fun _ => ⟨fun k8 => ref w1 w2 (-22) (w22 (Or.inl ⟨p1.2, (le8 _).mp k8⟩)) (Or.inr (Or.inl rfl)), fun k8 => ?_⟩⟩, fun e => absurd e n19⟩, fun w => absurd w (by decide)⟩
      have k7 : ¬ 7 < col.1 := fun w => k8 ((le8 _).mpr w)
      refine mmCI.mono (box w1 l18 (fun w => k7 w.2)) (fun y ξ w => ⟨fun z => ?_, fun z => w.2 z⟩)
      obtain ⟨m2, l2, i, hi, er, w0⟩ := w.1 z
      exact goB w1 l18 ξ m2 l2 i k7 hi er w0
    · rw [if_neg p1]
      refine ⟨fun w => absurd rfl w, fun _ => ?_⟩
      refine m_isInI (a := 10) (b := 19) (by omega) rfl rfl ?_
      rw [g1]
      by_cases p2 : ¬ a < 10 ∧ ¬ (19 : Int32) < a
      · rw [if_pos p2]
        have a0 : ¬ a < 0 := fun w => p2.1 (by
          rw [Int32.lt_iff_toInt_lt] at w ⊢
          have e8 : (0 : Int32).toInt = 0 := rfl
          have e7 : (10 : Int32).toInt = 10 := rfl
          omega)
        have a7 : 7 < a := by
          have w := p2.1
          rw [Int32.lt_iff_toInt_lt] at w ⊢
          have e8 : (7 : Int32).toInt = 7 := rfl
          have e7 : (10 : Int32).toInt = 10 := rfl
          omega
        have w1 : isWay a := ⟨a0, Or.inr p2⟩
        refine ⟨fun w => absurd w (by decide), fun _ => ⟨fun n19 => ?_, fun e19 => ?_⟩⟩
        · have w2 : a = 19 → isWrd v := fun e => absurd e n19
          refine ⟨v6, fun _ => ⟨fun l17 => ?_, fun l17 => ?_⟩, fun w => absurd ((le8 a).mpr a7) w⟩
          · have l18 := (le17 a).mp l17
            refine mmCI.mono (box w1 l18 (fun w => w.1 a7)) (fun y ξ w => ⟨fun z => ?_, fun z => w.2 z⟩)
            obtain ⟨m2, l2, i, hi, er, w0⟩ := w.1 z
            exact ⟨fun k8 => goA w1 l18 ξ m2 l2 i ((le8 _).mp k8) hi er w0, fun k8 => goB w1 l18 ξ m2 l2 i (fun w => k8 ((le8 _).mpr w)) hi er w0⟩
          · have l18 : ¬ a < 18 := fun w => l17 ((le17 a).mpr w)
            refine ⟨fun k8 => ?_, fun k8 => ref w1 w2 (-22) (w22 (Or.inr ⟨l18, fun w => k8 ((le8 _).mpr w)⟩)) (Or.inr (Or.inl rfl))⟩
            have k7 := (le8 _).mp k8
            refine rows w1 w2 l18 k7 _ (fun i hi er => ?_)
            have nr : ¬ noRow S.1 r := by
              rw [er]
              rintro (w | w)
              · exact absurd w (nI_pos (by omega))
              · exact w ((nI_ltI (by omega) (by omega)).mpr hi)
            have e18 : a = 18 := by
              apply Int32.toInt_inj.mp
              have x1 := p2.2
              have x2 : a.toInt ≠ 19 := fun w => n19 (Int32.toInt_inj.mp w)
              rw [Int32.lt_iff_toInt_lt] at x1 l18
              have e8 : (18 : Int32).toInt = 18 := rfl
              have e7 : (19 : Int32).toInt = 19 := rfl
              omega
            refine ⟨fun n18 => absurd e18 n18, fun _ => ?_⟩
            have w0 : wref S.1 col.1 r a = 0 := by
              unfold wref
              rw [if_neg (by rintro (u | u); exact u.1 a7; exact u.2 k7), if_neg nr, if_neg l18, if_neg (fun w => n19 w.1)]
            have f := fin w1 w2 w0 ν hν (loE.refl _) i hi er
            have ec : wcell col.1 a v = (-1, 0) := by unfold wcell; rw [if_pos e18]
            rw [ec] at f
            rw [er]
            exact m_puts (by omega) hk (by omega) (by rw [if_pos rfl]; exact f)
        · refine m_isIn (by omega) ?_
          rw [g1]
          by_cases wv : isWrd v
          · rw [if_pos wv]
            have w2 : a = 19 → isWrd v := fun _ => wv
            have l18 : ¬ a < 18 := by rw [e19]; decide
            refine ⟨fun _ => ⟨v6, fun _ => ⟨fun l17 => absurd ((le17 a).mp l17) l18, fun _ => ⟨fun k8 => ?_, fun k8 => ref w1 w2 (-22) (w22 (Or.inr ⟨l18, fun w => k8 ((le8 _).mpr w)⟩)) (Or.inr (Or.inl rfl))⟩⟩, fun w => absurd ((le8 a).mpr a7) w⟩, fun w => absurd w (by decide)⟩
            have k7 := (le8 _).mp k8
            refine rows w1 w2 l18 k7 _ (fun i hi er => ?_)
            have nr : ¬ noRow S.1 r := by
              rw [er]
              rintro (w | w)
              · exact absurd w (nI_pos (by omega))
              · exact w ((nI_ltI (by omega) (by omega)).mpr hi)
            refine ⟨fun n8 => ?_, fun e8 => ?_⟩
            · have w0 : wref S.1 col.1 r a = 0 := by
                unfold wref
                rw [if_neg (by rintro (u | u); exact u.1 a7; exact u.2 k7), if_neg nr, if_neg l18, if_neg (fun w => n8 w.2)]
              have f := fin w1 w2 w0 ν hν (loE.refl _) i hi er
              have ec : wcell col.1 a v = (8, v) := by unfold wcell; rw [if_neg (by rw [e19]; decide), if_pos e19]
              rw [ec] at f
              rw [er]
              exact m_puts (by omega) hk (by omega) (by rw [if_neg (by decide)]; exact f)
            · refine ref w1 w2 (-22) ?_ (Or.inr (Or.inl rfl))
              unfold wref
              rw [if_neg (by rintro (u | u); exact u.1 a7; exact u.2 k7), if_neg nr, if_neg l18, if_pos ⟨e19, e8⟩]
          · rw [if_neg wv]
            exact ⟨fun w => absurd rfl w, fun _ => bad (Or.inr ⟨e19, wv⟩)⟩
      · rw [if_neg p2]
        refine ⟨fun _ => bad (Or.inl fun w => ?_), fun w => absurd rfl w⟩
        rcases w.2 with u | u
        · exact p1 ⟨w.1, Int32.not_lt.mpr u⟩
        · exact p2 u
  · rw [withC_no q] at h
    exact h ν hν hh
