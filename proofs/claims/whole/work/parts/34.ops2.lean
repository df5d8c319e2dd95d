/-! ===== the class: asked and written ===== -/
theorem c_widens {d : Nat} {a b : Int32} {μ : mmMem} {K : Int32 → mmMem → Prop} (hd : 1 ≤ d) (h : K (if aWid a b = true then 1 else 0) μ) : mmCI d M_X7_widens true 2 [.int a, .int b] μ K := by
  refine u_X7_widens hd ?_
  have f : aWid a b = false → K 0 μ := fun e => by rw [e] at h; exact h
  have t : aWid a b = true → K 1 μ := fun e => by rw [e] at h; exact h
  refine ⟨fun n => ⟨fun z => f ?_, fun z => ⟨fun z2 => f ?_, fun z2 => ⟨fun z3 => ⟨fun l => f ?_, fun l => t ?_⟩, fun z3 => ⟨fun z4 => ⟨fun l => f ?_, fun l => t ?_⟩, fun z4 => f ?_⟩⟩⟩⟩, fun n => t ?_⟩
  · unfold aWid; rw [if_neg n, if_pos (Or.inl z)]
  · unfold aWid; rw [if_neg n, if_pos (Or.inr (Or.inl z2))]
  · simp [aWid, n, z, z2, z3, l]
  · simp [aWid, n, z, z2, z3, Int32.not_le.mp l]
  · simp [aWid, n, z, z2, z4, l]
  · simp [aWid, n, z, z2, z4, Int32.not_le.mp l]
  · simp [aWid, n, z, z2, z3, z4]
  · simp [aWid, n]
def aTake (k b : Int32) : Bool := if k = 8 then b == 4 else if k = 9 then true else if 7 < k then false else aWid b k
theorem c_takesBox {d : Nat} {k b : Int32} {μ : mmMem} {K : Int32 → mmMem → Prop} (hd : 2 ≤ d) (h : K (if aTake k b = true then 1 else 0) μ) : mmCI d M_X7_takesBox true 2 [.int k, .int b] μ K := by
  refine u_X7_takesBox (by omega) ?_
  have f : aTake k b = false → K 0 μ := fun e => by rw [e] at h; exact h
  have t : aTake k b = true → K 1 μ := fun e => by rw [e] at h; exact h
  refine ⟨fun n => ⟨fun z => t (by simp [aTake, n, z]), fun z => ⟨fun l => f (by simp [aTake, n, z, l]), fun l => c_widens (by omega) ?_⟩⟩, fun n => ⟨fun z => f (by simp [aTake, n, z]), fun z => t (by simp [aTake, n, z])⟩⟩
  cases hh : aWid b k with
  | true => exact ⟨fun w => absurd w (by decide), fun _ => t (by simp [aTake, n, z, l, hh])⟩
  | false => exact ⟨fun _ => f (by simp [aTake, n, z, l, hh]), fun w => absurd rfl w⟩
theorem c_askRefusal {d : Nat} {k r a : Int32} {S : aS} {μ : mmMem} {K : Int32 → mmMem → Prop} (hd : 2 ≤ d) (hC : CS μ S) (h : K (aref S.1 k r a) μ) : mmCI d M_X7_askRefusal false 3 [.ref 0, .int k, .int r, .int a] μ K := by
  refine u_X7_askRefusal (by omega) ?_
  rw [hC.1.1.1]
  unfold aref at h
  refine ⟨fun q => ?_, fun q => ⟨fun q2 => ?_, fun q2 => ?_⟩⟩
  · rw [if_neg (fun w => w.1 q)] at h
    refine ⟨fun l => ?_, fun l => ⟨fun m => ?_, fun m => ?_⟩⟩
    · rw [if_pos (Or.inl l)] at h; exact h
    · rw [if_pos (Or.inr (Int32.not_lt.mpr m))] at h; exact h
    · rw [if_neg (by rintro (w | w); exact l w; exact m (Int32.not_lt.mp w)), if_pos (Or.inl q)] at h; exact h
  · rw [if_neg (fun w => absurd w.2 (Int32.not_lt.mpr q2))] at h
    refine ⟨fun l => ?_, fun l => ⟨fun m => ?_, fun m => ?_⟩⟩
    · rw [if_pos (Or.inl l)] at h; exact h
    · rw [if_pos (Or.inr (Int32.not_lt.mpr m))] at h; exact h
    · rw [if_neg (by rintro (w | w); exact l w; exact m (Int32.not_lt.mp w))] at h
      refine c_widens (by omega) ?_
      refine ⟨fun w => ?_, fun w => ?_⟩
      · cases hh : aWid k a with
        | true => rw [hh] at w; exact absurd w (by decide)
        | false => rw [hh, if_neg (by rintro (v | v); exact q v; exact absurd v (by decide))] at h; exact h
      · cases hh : aWid k a with
        | true => rw [hh, if_pos (Or.inr rfl)] at h; exact h
        | false => rw [hh] at w; exact absurd rfl w
  · rw [if_pos ⟨q, Int32.not_le.mp q2⟩] at h; exact h
theorem aref_0 {T : aT} {k r a : Int32} (h : aref T k r a = 0) : ¬ noRow T r ∧ (a = 8 ∨ (aWid k a = true ∧ k ≤ 7)) := by
  unfold aref at h
  split at h
  · exact absurd h (by decide)
  · rename_i n1
    split at h
    · exact absurd h (by decide)
    · rename_i n2
      split at h
      · rename_i n3
        refine ⟨n2, ?_⟩
        by_cases a8 : a = 8
        · exact Or.inl a8
        · refine Or.inr ⟨n3.resolve_left a8, Int32.not_lt.mp fun w => n1 ⟨a8, w⟩⟩
      · exact absurd h (by decide)
theorem CS.got {μ : mmMem} {S : aS} (h : CS μ S) (v : Int64) : CS (sJ μ 0 15 v) (sGot S v) := by
  obtain ⟨h1, h2, h3, h4, h5, h8, h9⟩ := h
  have e : ∀ q, q ≠ 0 → eq3 μ (sJ μ 0 15 v) q := fun q hq => by simp [eq3, sJ, hq]
  exact ⟨h1.fr h2 (fun q _ _ => e q (by omega)), h2, h3.fr rfl (fun q _ _ => e q (by omega)), by simp [sJ, vp_updL, sGot], h5, h8, h9⟩
theorem isB_i {a : Int32} (h1 : ¬ a < 0) (h2 : a ≤ 7) : isB a := by
  rw [Int32.lt_iff_toInt_lt] at h1
  rw [Int32.le_iff_toInt_le] at h2
  exact isB_of (Int.not_lt.mp h1) h2
theorem fitK.box {k : Int32} {x : aC} (h : fitK k x) (hk : 0 ≤ k.toInt) (h7 : k ≤ 7) : x.1 = k ∧ isB k := by
  refine ⟨h.1 h7, isB_i (fun w => ?_) h7⟩
  rw [Int32.lt_iff_toInt_lt] at w
  exact absurd w (Int.not_lt.mpr hk)
theorem c_ask {d : Nat} {c r a : Int32} {S : aS} {μ : mmMem} {K : Int32 → mmMem → Prop} (hd : 5 ≤ d) (hC : CS μ S) (h : ∀ ν, CS ν (sp_ask c r a S).2 → hiE μ ν → K (sp_ask c r a S).1 ν) : mmCI d M_X7_ask false 3 [.ref 0, .int c, .int r, .int a] μ K := by
  refine u_X7_ask (by omega) ?_
  refine c_columnRefusal (by omega) hC (fun ν hν hh => ?_)
  refine ⟨fun q => ?_, fun q => ?_⟩
  · obtain ⟨k, col, hk, rfl, hcol, hg⟩ := cref_0 q
    have e := withC_ok (f := fun _ col => if a < 0 ∨ 8 < a then (-2, S) else if aref S.1 col.1 r a = 0 then (if a = 8 then (100 + enK (col.2.2 r.toNatClampNeg), sGot S (col.2.2 r.toNatClampNeg).2) else (1, sGot S (aCast (col.2.2 r.toNatClampNeg) a))) else (aref S.1 col.1 r a, rfs S (aref S.1 col.1 r a))) hk q hcol
    rw [show sp_ask (nI k) r a S = _ from e] at h
    rw [q] at hν
    replace hν : CS ν S := hν
    rw [nI_clamp (by omega)]
    have hcc := hν.colC hcol
    have hoc := hν.okCol hcol
    refine ⟨fun l => ?_, fun l => ⟨fun l2 => ?_, fun l2 => ?_⟩⟩
    · rw [if_pos (Or.inl l)] at h
      exact h ν hν hh
    · rw [if_neg (by rintro (w | w); exact l w; exact absurd w (Int32.not_lt.mpr l2))] at h
      refine ⟨vp_in_nI hk (by decide), ?_⟩
      rw [hcc.1]
      refine c_askRefusal (by omega) hν ?_
      refine ⟨fun z => ?_, fun z => ?_⟩
      · rw [if_pos z] at h
        obtain ⟨hr, hw⟩ := aref_0 z
        obtain ⟨i, hi, rfl⟩ := row_of hC.2.1 hr
        have hrr := hC.2.1.1
        rw [nI_clamp (by omega)] at h
        refine c_load (by omega) (kcol k hk).1 kd_152 hcc hi hrr ?_
        have s1 := setC_scr ν 152 (col.2.2 i) (by decide) (by decide)
        obtain ⟨okx, fit⟩ := hoc.2.2 i hi
        refine ⟨fun n8 => ?_, fun n8 => ?_⟩
        · rw [if_neg n8] at h
          obtain ⟨hw1, hw2⟩ := hw.resolve_left n8
          obtain ⟨fx, bx⟩ := fit.box hoc.1 hw2
          have ba : isB a := isB_i l (by
            rw [Int32.le_iff_toInt_le] at l2 ⊢
            have : a.toInt ≠ 8 := fun w => n8 (Int32.toInt_inj.mp w)
            have e8 : (8 : Int32).toInt = 8 := rfl
            have e7 : (7 : Int32).toInt = 7 := rfl
            omega)
          have bx' : isB (col.2.2 i).1 := by rw [fx]; exact bx
          refine c_turnInto (by omega) kd_152 (setC_cl _ _ _) okx bx' ba ?_
          have s2 := s1.trans (setC_scr _ 152 (a, aCast (col.2.2 i) a) (by decide) (by decide))
          refine c_bits (by omega) kd_152 (setC_cl _ _ _) (ok_cast okx bx' ba) ?_
          have hC2 := (hν.scr s2).got (aCast (col.2.2 i) a)
          exact h _ hC2 ((hh.trans s2.hi).trans fun q hq => by
            have : q ≠ 0 := by omega
            simp [eq3, sJ, this])
        · rw [if_pos n8] at h
          refine c_bits (by omega) kd_152 (setC_cl _ _ _) okx ?_
          rw [(setC_cl ν 152 (col.2.2 i)).1]
          have hC2 := (hν.scr s1).got (col.2.2 i).2
          exact h _ hC2 ((hh.trans s1.hi).trans fun q hq => by
            have : q ≠ 0 := by omega
            simp [eq3, sJ, this])
      · rw [if_neg z] at h
        exact c_refused (by omega) hν (fun ν2 h2 g2 => h ν2 h2 (hh.trans g2))
    · rw [if_pos (Or.inr (Int32.not_le.mp l2))] at h
      exact h ν hν hh
  · have e : sp_ask c r a S = (cref S.1 c, rfs S (cref S.1 c)) := withC_no q
    rw [e] at h
    exact h ν hν hh
/-! ===== written ===== -/
abbrev isWrd (v : Int64) : Prop := ¬ lg_cmp v 1 < 0 ∧ ¬ 0 < lg_cmp v 702
abbrev isWay (a : Int32) : Prop := ¬ a < 0 ∧ (a ≤ 7 ∨ (¬ a < 10 ∧ ¬ 19 < a))
theorem lg_g (a b : Int64) : 0 < lg_cmp a b ↔ b < a := by
  unfold lg_cmp
  split
  · rename_i h
    exact ⟨fun _ => h, fun _ => by decide⟩
  · rename_i h
    split
    · exact ⟨fun q => absurd q (by decide), fun q => absurd q h⟩
    · exact ⟨fun q => absurd q (by decide), fun q => absurd q h⟩
theorem isWrd_ok {v : Int64} (h : isWrd v) : 1 ≤ v ∧ v ≤ 702 := by
  obtain ⟨h1, h2⟩ := h
  rw [lg_l] at h1
  rw [lg_g] at h2
  exact ⟨Int64.not_lt.mp h1, Int64.not_lt.mp h2⟩
def bxOf (a : Int32) : Int32 := a - a / 10 * 10
theorem bx_ok {a : Int32} (h : isWay a) (h2 : a < 18) : isB (bxOf a) := by
  obtain ⟨h1, h3⟩ := h
  have t : ∀ k : Nat, k < 18 → (k ≤ 7 ∨ 10 ≤ k) → isB (bxOf (nI k)) := by unfold isB; decide +kernel
  obtain ⟨k, hk, rfl⟩ := nI_of h1
  have e18 : k < 18 := (nI_ltI hk (by decide : (18 : Nat) < 2 ^ 31)).mp h2
  refine t k e18 ?_
  rcases h3 with q | q
  · exact Or.inl ((nI_leI hk (by decide : (7 : Nat) < 2 ^ 31)).mp q)
  · exact Or.inr (Nat.not_lt.mp fun w => q.1 ((nI_ltI hk (by decide : (10 : Nat) < 2 ^ 31)).mpr w))
def wref (T : aT) (k r a : Int32) : Int32 := if (¬ 7 < a ∧ 7 < k) ∨ (¬ a < 18 ∧ ¬ 7 < k) then -22 else if noRow T r then -21 else if a < 18 then (if aTake k (bxOf a) = true then 0 else -22) else if a = 19 ∧ k = 8 then -22 else 0
def wcell (k a : Int32) (v : Int64) : aC := if a = 18 then (-1, 0) else if a = 19 then (8, v) else if 7 < k then (bxOf a, aMade (bxOf a) v) else (k, aCast (bxOf a, aMade (bxOf a) v) k)
def setRow (c : aCol) (r : Nat) (x : aC) : aCol := (c.1, c.2.1, fun i => if i = r then x else c.2.2 i)
def sp_write (c r a : Int32) (v : Int64) (S : aS) : Int32 × aS := withC S c fun k col => if ¬ isWay a ∨ (a = 19 ∧ ¬ isWrd v) then (-2, S) else if wref S.1 col.1 r a = 0 then (1, putCol S k (setRow col r.toNatClampNeg (wcell col.1 a v))) else (wref S.1 col.1 r a, rfs S (wref S.1 col.1 r a))
theorem c_writeRefusal {d : Nat} {k r a : Int32} {S : aS} {μ : mmMem} {K : Int32 → mmMem → Prop} (hd : 3 ≤ d) (hC : CS μ S) (h : K (wref S.1 k r a) μ) : mmCI d M_X7_writeRefusal false 3 [.ref 0, .int k, .int r, .int a] μ K := by
  refine u_X7_writeRefusal (by omega) ?_
  rw [hC.1.1.1]
  have f1 : (¬ 7 < a ∧ 7 < k) ∨ (¬ a < 18 ∧ ¬ 7 < k) → K (-22) μ := fun e => by unfold wref at h; rw [if_pos e] at h; exact h
  have f2 : ¬ ((¬ 7 < a ∧ 7 < k) ∨ (¬ a < 18 ∧ ¬ 7 < k)) → noRow S.1 r → K (-21) μ := fun e e2 => by unfold wref at h; rw [if_neg e, if_pos e2] at h; exact h
  have f3 : ¬ ((¬ 7 < a ∧ 7 < k) ∨ (¬ a < 18 ∧ ¬ 7 < k)) → ¬ noRow S.1 r → a < 18 → K (if aTake k (bxOf a) = true then 0 else -22) μ := fun e e2 e3 => by unfold wref at h; rw [if_neg e, if_neg e2, if_pos e3] at h; exact h
  have f4 : ¬ ((¬ 7 < a ∧ 7 < k) ∨ (¬ a < 18 ∧ ¬ 7 < k)) → ¬ noRow S.1 r → ¬ a < 18 → K (if a = 19 ∧ k = 8 then -22 else 0) μ := fun e e2 e3 => by unfold wref at h; rw [if_neg e, if_neg e2, if_neg e3] at h; exact h
  have rows : ∀ (Q : Prop), (noRow S.1 r → K (-21) μ) → (¬ noRow S.1 r → Q) → (r < 0 → K (-21) μ) ∧ (¬ r < 0 → (nI S.1.1 ≤ r → K (-21) μ) ∧ (¬ nI S.1.1 ≤ r → Q)) := fun Q g1 g2 =>
    ⟨fun l => g1 (Or.inl l), fun l => ⟨fun m => g1 (Or.inr (Int32.not_lt.mpr m)), fun m => g2 (by rintro (w | w); exact l w; exact m (Int32.not_lt.mp w))⟩⟩
  have take : K (if aTake k (bxOf a) = true then 0 else -22) μ → mmCI (d - 1) M_X7_takesBox true 2 [.int k, .int (bxOf a)] μ fun y ν => (y = (0 : Int32) → K (-22) ν) ∧ (¬ y = (0 : Int32) → K 0 ν) := fun g => by
    refine c_takesBox (by omega) ?_
    cases hh : aTake k (bxOf a) with
    | true => rw [hh] at g; exact ⟨fun w => absurd w (by decide), fun _ => g⟩
    | false => rw [hh] at g; exact ⟨fun _ => g, fun w => absurd rfl w⟩
  refine ⟨fun q => ⟨fun q2 => ?_, fun q2 => ⟨fun q3 => ?_, fun q3 => ?_⟩⟩, fun q => ⟨fun q2 => ?_, fun q2 => ?_⟩⟩
  · have n : ¬ ((¬ 7 < a ∧ 7 < k) ∨ (¬ a < 18 ∧ ¬ 7 < k)) := by rintro (w | w); exact w.1 q; exact w.1 q2
    exact rows _ (f2 n) fun g => take (f3 n g q2)
  · have n : ¬ ((¬ 7 < a ∧ 7 < k) ∨ (¬ a < 18 ∧ ¬ 7 < k)) := by rintro (w | w); exact w.1 q; exact w.2 q3
    refine rows _ (f2 n) fun g => ?_
    have := f4 n g q2
    refine ⟨fun z => ?_, fun z => ⟨fun z2 => ?_, fun z2 => ?_⟩⟩
    · rw [if_neg (fun w => z w.1)] at this; exact this
    · rw [if_neg (fun w => z2 w.2)] at this; exact this
    · rw [if_pos ⟨z, z2⟩] at this; exact this
  · exact f1 (Or.inr ⟨q2, q3⟩)
  · exact f1 (Or.inl ⟨q, q2⟩)
  · have n : ¬ ((¬ 7 < a ∧ 7 < k) ∨ (¬ a < 18 ∧ ¬ 7 < k)) := by rintro (w | w); exact q2 w.2; exact w.1 (by
      have := Int32.not_lt.mp q
      rw [Int32.le_iff_toInt_le] at this
      rw [Int32.lt_iff_toInt_lt]
      exact Int.lt_of_le_of_lt this (by decide))
    refine rows _ (f2 n) fun g => take (f3 n g ?_)
    have := Int32.not_lt.mp q
    rw [Int32.le_iff_toInt_le] at this
    rw [Int32.lt_iff_toInt_lt]
    exact Int.lt_of_le_of_lt this (by decide)
theorem wref_0 {T : aT} {k r a : Int32} (h : wref T k r a = 0) : ¬ noRow T r ∧ (a < 18 → aTake k (bxOf a) = true) ∧ (¬ a < 18 → 7 < k ∧ ¬ (a = 19 ∧ k = 8)) := by
  unfold wref at h
  split at h
  · exact absurd h (by decide)
  · rename_i n1
    split at h
    · exact absurd h (by decide)
    · rename_i n2
      refine ⟨n2, fun l => ?_, fun l => ?_⟩
      · rw [if_pos l] at h
        cases hh : aTake k (bxOf a) with
        | true => rfl
        | false => rw [hh] at h; exact absurd h (by decide)
      · rw [if_neg l] at h
        refine ⟨Classical.not_not.mp fun w => n1 (Or.inr ⟨l, w⟩), fun w => ?_⟩
        rw [if_pos w] at h
        exact absurd h (by decide)
theorem wcell_ok {k a : Int32} {v : Int64} (hk : 0 ≤ k.toInt ∧ k.toInt ≤ 10) (hw : isWay a) (hv : a = 19 → isWrd v) (h1 : a < 18 → aTake k (bxOf a) = true) (h2 : ¬ a < 18 → 7 < k ∧ ¬ (a = 19 ∧ k = 8)) : okC (wcell k a v) ∧ fitK k (wcell k a v) := by
  have n7 : 7 < k → ¬ k ≤ 7 := fun w => Int32.not_le.mpr w
  unfold wcell
  by_cases e18 : a = 18
  · rw [if_pos e18]
    have := (h2 (by rw [e18]; decide)).1
    exact ⟨Or.inl ⟨rfl, rfl⟩, fun w => absurd w (n7 this), fun _ => Or.inl rfl, fun _ => Or.inl rfl⟩
  rw [if_neg e18]
  by_cases e19 : a = 19
  · rw [if_pos e19]
    obtain ⟨g1, g2⟩ := h2 (by rw [e19]; decide)
    refine ⟨?_, fun w => absurd w (n7 g1), fun w => absurd ⟨e19, w⟩ g2, fun _ => Or.inr rfl⟩
    have := isWrd_ok (hv e19)
    simp [okC, this]
  rw [if_neg e19]
  have l18 : a < 18 := by
    rcases hw.2 with q | q
    · rw [Int32.le_iff_toInt_le] at q
      rw [Int32.lt_iff_toInt_lt]
      exact Int.lt_of_le_of_lt q (by decide)
    · have q2 := q.2
      rw [Int32.lt_iff_toInt_lt] at q2 ⊢
      have a18 : a.toInt ≠ 18 := fun w => e18 (Int32.toInt_inj.mp w)
      have a19 : a.toInt ≠ 19 := fun w => e19 (Int32.toInt_inj.mp w)
      have c19 : (19 : Int32).toInt = 19 := rfl
      have c18 : (18 : Int32).toInt = 18 := rfl
      omega
  have hb := bx_ok hw l18
  have ht := h1 l18
  by_cases g : 7 < k
  · rw [if_pos g]
    refine ⟨ok_made hb v, fun w => absurd w (n7 g), fun w => ?_, fun w => ?_⟩
    · subst w
      right
      simpa [aTake] using ht
    · subst w
      exact absurd ht (by simp [aTake])
  · rw [if_neg g]
    have bk : isB k := isB_of hk.1 (by
      rw [Int32.lt_iff_toInt_lt] at g
      exact Int.not_lt.mp g)
    refine ⟨ok_cast (ok_made hb v) hb bk, fun _ => rfl, fun w => ?_, fun w => ?_⟩
    · exact absurd (by rw [w]; decide) g
    · exact absurd (by rw [w]; decide) g
theorem c_makeWritten {d : Nat} {k a : Int32} {v : Int64} {μ : mmMem} {K : mmMem → Prop} (hd : 4 ≤ d) (hk : 0 ≤ k.toInt ∧ k.toInt ≤ 10) (hw : isWay a) (h : ∀ ν, scr μ ν → clC ν 152 (wcell k a v) → K ν) : mmC0 d M_X7_makeWritten false 3 [.ref 0, .int k, .int a, .long v] μ K := by
  refine u_X7_makeWritten (by omega) ?_
  have z : FP.dconst0 = 0 := rfl
  refine ⟨fun n18 => ⟨fun n19 => ?_, fun n19 => ?_⟩, fun n18 => ?_⟩
  · have l18 : a < 18 := by
      rcases hw.2 with q | q
      · rw [Int32.le_iff_toInt_le] at q
        rw [Int32.lt_iff_toInt_lt]
        exact Int.lt_of_le_of_lt q (by decide)
      · have q2 := q.2
        rw [Int32.lt_iff_toInt_lt] at q2 ⊢
        have a18 : a.toInt ≠ 18 := fun w => n18 (Int32.toInt_inj.mp w)
        have a19 : a.toInt ≠ 19 := fun w => n19 (Int32.toInt_inj.mp w)
        have c19 : (19 : Int32).toInt = 19 := rfl
        have c18 : (18 : Int32).toInt = 18 := rfl
        omega
    have hb := bx_ok hw l18
    have s1 := setC_scr μ 152 (bxOf a, aMade (bxOf a) v) (by decide) (by decide)
    refine c_make (t := bxOf a) (by omega) kd_152 hb ?_
    refine ⟨fun g => ?_, fun g => ?_⟩
    · refine h _ s1 ?_
      have : wcell k a v = (bxOf a, aMade (bxOf a) v) := by unfold wcell; rw [if_neg n18, if_neg n19, if_pos g]
      rw [this]
      exact setC_cl _ _ _
    · have bk : isB k := isB_of hk.1 (by
        rw [Int32.lt_iff_toInt_lt] at g
        exact Int.not_lt.mp g)
      refine c_turnInto (by omega) kd_152 (setC_cl _ _ _) (ok_made hb v) hb bk ?_
      refine h _ (s1.trans (setC_scr _ 152 _ (by decide) (by decide))) ?_
      have : wcell k a v = (k, aCast (bxOf a, aMade (bxOf a) v) k) := by unfold wcell; rw [if_neg n18, if_neg n19, if_neg g]
      rw [this]
      exact setC_cl _ _ _
  · have e : wcell k a v = (8, v) := by unfold wcell; rw [if_neg n18, if_pos n19]
    have := h (setC μ 152 (8, v)) (setC_scr _ 152 _ (by decide) (by decide)) (by rw [e]; exact setC_cl _ _ _)
    simpa [setC, enK, enN, enR, z] using this
  · have e : wcell k a v = (-1, 0) := by unfold wcell; rw [if_pos n18]
    have := h (setC μ 152 (-1, 0)) (setC_scr _ 152 _ (by decide) (by decide)) (by rw [e]; exact setC_cl _ _ _)
    simpa [setC, enK, enN, enR, z] using this
theorem colUpd.row {μ ν : mmMem} {a n r : Nat} {c : aCol} {x : aC} (h : colUpd μ ν a (fun i => if i = r then some x else none)) (hc : colC μ a n c) : colC ν a n (setRow c r x) := by
  obtain ⟨h1, h2, h3⟩ := h
  obtain ⟨c1, c2, c3⟩ := hc
  have e := h1 a (by omega) (by omega) (by omega)
  refine ⟨by rw [e.1]; exact c1, by rw [e.1]; exact c2, fun i hi => ?_⟩
  obtain ⟨g1, g2, g3⟩ := h3 i
  rw [g1, g2, g3]
  dsimp only [setRow]
  by_cases q : i = r
  · rw [if_pos q, if_pos q]; exact ⟨rfl, rfl, rfl⟩
  · rw [if_neg q, if_neg q]; exact c3 i hi
theorem okCol.row {n r : Nat} {c : aCol} {x : aC} (h : okCol n c) (hx : okC x ∧ fitK c.1 x) : okCol n (setRow c r x) := by
  refine ⟨h.1, h.2.1, fun i hi => ?_⟩
  dsimp only [setRow]
  by_cases q : i = r
  · rw [if_pos q]; exact hx
  · rw [if_neg q]; exact h.2.2 i hi
theorem c_write {d : Nat} {c r a : Int32} {v : Int64} {S : aS} {μ : mmMem} {K : Int32 → mmMem → Prop} (hd : 5 ≤ d) (hC : CS μ S) (h : ∀ ν, CS ν (sp_write c r a v S).2 → hiE μ ν → K (sp_write c r a v S).1 ν) : mmCI d M_X7_write false 4 [.ref 0, .int c, .int r, .int a, .long v] μ K := by
  refine u_X7_write (by omega) ?_
  refine c_columnRefusal (by omega) hC (fun ν hν hh => ?_)
  refine ⟨fun q => ?_, fun q => ?_⟩
  · obtain ⟨k, col, hk, rfl, hcol, hg⟩ := cref_0 q
    have e := withC_ok (f := fun k col => if ¬ isWay a ∨ (a = 19 ∧ ¬ isWrd v) then (-2, S) else if wref S.1 col.1 r a = 0 then (1, putCol S k (setRow col r.toNatClampNeg (wcell col.1 a v))) else (wref S.1 col.1 r a, rfs S (wref S.1 col.1 r a))) hk q hcol
    rw [show sp_write (nI k) r a v S = _ from e] at h
    rw [q] at hν
    replace hν : CS ν S := hν
    rw [nI_clamp (by omega)]
    have hcc := hν.colC hcol
    have hoc := hν.okCol hcol
    have bad : (¬ isWay a ∨ (a = 19 ∧ ¬ isWrd v)) → K (-2) ν := fun w => by
      rw [if_pos w] at h
      exact h ν hν hh
    have tail : isWay a → (a = 19 → isWrd v) → vp_in (nI k) 12 ∧ mmCI (d - 1) M_X7_writeRefusal false 3 [.ref 0, .int (ν.1 (7 + 4 * k) 0), .int r, .int a] ν fun y23 ν22 => (y23 = (0 : Int32) → mmC0 (d - 1) M_X7_makeWritten false 3 [.ref 0, .int (ν22.1 (7 + 4 * k) 0), .int a, .long v] ν22 fun ν28 => mmC0 (d - 1) M_X1_store false 2 [.ref (7 + 4 * k), .int r, .ref 152] ν28 fun ν29 => K 1 ν29) ∧ (¬ y23 = (0 : Int32) → mmCI (d - 1) M_X7_refused false 1 [.ref 0, .int y23] ν22 fun y33 ν32 => K y33 ν32) := fun w1 w2 => by
      rw [if_neg (by rintro (u | u); exact u w1; exact u.2 (w2 u.1))] at h
      refine ⟨vp_in_nI hk (by decide), ?_⟩
      rw [hcc.1]
      refine c_writeRefusal (by omega) hν ?_
      refine ⟨fun z => ?_, fun z => ?_⟩
      · rw [if_pos z] at h
        obtain ⟨z1, z2, z3⟩ := wref_0 z
        obtain ⟨i, hi, rfl⟩ := row_of hC.2.1 z1
        have hrr := hC.2.1.1
        rw [nI_clamp (by omega)] at h
        rw [hcc.1]
        refine c_makeWritten (by omega) ⟨hoc.1, hoc.2.1⟩ w1 (fun ν2 s2 k2 => ?_)
        refine c_store (by omega) (kcol k hk).1 kd_152 k2 (by omega) (fun ν3 u3 => ?_)
        have hC2 := hν.scr s2
        have hlt := lt_of_get hcol
        refine h ν3 (hC2.putCol hlt (fun j h1 h2 => u3.1 j (by omega) (by omega) (by omega)) (by rw [(u3.1 141 (by omega) (by omega) (by omega)).1]) (u3.row (hC2.colC hcol)) (hoc.row (wcell_ok ⟨hoc.1, hoc.2.1⟩ w1 w2 z2 z3))) ((hh.trans s2.hi).trans fun j hj => u3.1 j (by omega) (by omega) (by omega))
      · rw [if_neg z] at h
        exact c_refused (by omega) hν (fun ν2 h2 g2 => h ν2 h2 (hh.trans g2))
    refine ⟨fun l => bad (Or.inl fun w => w.1 l), fun l => ⟨fun l7 => ⟨fun n19 => tail ⟨l, Or.inl l7⟩ (fun w => absurd w n19), fun e19 => ⟨fun w => bad (Or.inr ⟨e19, fun u => u.1 w⟩), fun w => ⟨fun w2 => bad (Or.inr ⟨e19, fun u => u.2 w2⟩), fun w2 => tail ⟨l, Or.inl l7⟩ (fun _ => ⟨w, w2⟩)⟩⟩⟩, fun l7 => ⟨fun l10 => bad (Or.inl fun w => w.2.elim l7 fun u => u.1 l10), fun l10 => ⟨fun l19 => bad (Or.inl fun w => w.2.elim l7 fun u => u.2 l19), fun l19 => ⟨fun n19 => tail ⟨l, Or.inr ⟨l10, l19⟩⟩ (fun w => absurd w n19), fun e19 => ⟨fun w => bad (Or.inr ⟨e19, fun u => u.1 w⟩), fun w => ⟨fun w2 => bad (Or.inr ⟨e19, fun u => u.2 w2⟩), fun w2 => tail ⟨l, Or.inr ⟨l10, l19⟩⟩ (fun _ => ⟨w, w2⟩)⟩⟩⟩⟩⟩⟩⟩
  · have e : sp_write c r a v S = (cref S.1 c, rfs S (cref S.1 c)) := withC_no q
    rw [e] at h
    exact h ν hν hh
