/-! ===== the class's cells ===== -/
theorem lg0 (v : Int64) : lg_cmp v 0 = 0 ↔ v = 0 := by
  unfold lg_cmp
  constructor
  · intro h
    split at h
    · exact absurd h (by decide)
    · split at h
      · assumption
      · exact absurd h (by decide)
  · rintro rfl; decide
theorem lg_e (a b : Int64) : lg_cmp a b = 0 ↔ a = b := by
  unfold lg_cmp
  constructor
  · intro h
    split at h
    · exact absurd h (by decide)
    · split at h
      · assumption
      · exact absurd h (by decide)
  · rintro rfl; simp
theorem lg_cases (a b : Int64) : lg_cmp a b = -1 ∨ lg_cmp a b = 0 ∨ lg_cmp a b = 1 := by
  unfold lg_cmp
  split
  · exact Or.inr (Or.inr rfl)
  · split
    · exact Or.inr (Or.inl rfl)
    · exact Or.inl rfl
theorem aLow_id (t : Int32) (v : Int64) : aLow t (aLow t v) = aLow t v := by
  unfold aLow
  by_cases h1 : t = 1
  · simp [h1]
  by_cases h2 : t = 2
  · have e : ∀ u : UInt32, u % 65536 % 65536 = u % 65536 := fun u => UInt32.toNat_inj.mp (by rw [UInt32.toNat_mod, UInt32.toNat_mod]; exact Nat.mod_mod _ _)
    simp [h2, e]
  by_cases h3 : t = 3
  · simp [h3]
  by_cases h4 : t = 4
  · simp [h4]
  simp [h1, h2, h3, h4]
def isB (t : Int32) : Prop := t = 0 ∨ t = 1 ∨ t = 2 ∨ t = 3 ∨ t = 4 ∨ t = 5 ∨ t = 6 ∨ t = 7
theorem isB_of {t : Int32} (h1 : 0 ≤ t.toInt) (h2 : t.toInt ≤ 7) : isB t := by
  have e : ∀ k : Int32, t.toInt = k.toInt → t = k := fun k q => Int32.toInt_inj.mp q
  have : t.toInt = 0 ∨ t.toInt = 1 ∨ t.toInt = 2 ∨ t.toInt = 3 ∨ t.toInt = 4 ∨ t.toInt = 5 ∨ t.toInt = 6 ∨ t.toInt = 7 := by omega
  rcases this with q | q | q | q | q | q | q | q
  · exact Or.inl (e 0 q)
  · exact Or.inr (Or.inl (e 1 q))
  · exact Or.inr (Or.inr (Or.inl (e 2 q)))
  · exact Or.inr (Or.inr (Or.inr (Or.inl (e 3 q))))
  · exact Or.inr (Or.inr (Or.inr (Or.inr (Or.inl (e 4 q)))))
  · exact Or.inr (Or.inr (Or.inr (Or.inr (Or.inr (Or.inl (e 5 q))))))
  · exact Or.inr (Or.inr (Or.inr (Or.inr (Or.inr (Or.inr (Or.inl (e 6 q)))))))
  · exact Or.inr (Or.inr (Or.inr (Or.inr (Or.inr (Or.inr (Or.inr (e 7 q)))))))
def cW (t : Int32) (v : Int64) : Int64 := if t = 0 then (if v = 0 then 0 else 1) else if t = 6 then ofF (FP.l2f v) else if t = 7 then ofD (FP.l2d v) else aLow t v
def cR (t : Int32) (r : UInt64) : Int64 := if t = 0 then (if r = 0 then 0 else 1) else if t = 5 then FP.d2l r else if t = 6 then ofF (FP.d2f r) else if t = 7 then ofD r else aLow t (FP.d2i r).toInt64
theorem ok_low {t : Int32} (h : t = 1 ∨ t = 2 ∨ t = 3 ∨ t = 4 ∨ t = 5) (v : Int64) : okC (t, aLow t v) := by
  rcases h with rfl | rfl | rfl | rfl | rfl <;> simp [okC, aLow_id]
theorem ok_b (b : Int64) (h : b = 0 ∨ b = 1) : okC (0, b) := Or.inr (Or.inl ⟨rfl, h⟩)
theorem ok_5 (v : Int64) : okC (5, v) := by simp [okC]
theorem ok_f {f : UInt32} (h : okF f) : okC (6, ofF f) := by simp [okC, bF_ofF, h]
theorem ok_d {r : UInt64} (h : okD r) : okC (7, ofD r) := by simp [okC, bD_ofD, h]
theorem ok_W {t : Int32} (h : isB t) (v : Int64) : okC (t, cW t v) := by
  unfold cW
  by_cases h0 : t = 0
  · rw [if_pos h0, h0]; apply ok_b; split <;> simp
  by_cases h6 : t = 6
  · rw [if_neg h0, if_pos h6, h6]; exact ok_f (f_l2f v)
  by_cases h7 : t = 7
  · rw [if_neg h0, if_neg h6, if_pos h7, h7]; exact ok_d (f_l2d v)
  rw [if_neg h0, if_neg h6, if_neg h7]
  exact ok_low (by unfold isB at h; simpa [h0, h6, h7] using h) v
theorem ok_R {t : Int32} (h : isB t) {r : UInt64} (hr : okD r) : okC (t, cR t r) := by
  unfold cR
  by_cases h0 : t = 0
  · rw [if_pos h0, h0]; apply ok_b; split <;> simp
  by_cases h5 : t = 5
  · rw [if_neg h0, if_pos h5, h5]; exact ok_5 _
  by_cases h6 : t = 6
  · rw [if_neg h0, if_neg h5, if_pos h6, h6]; exact ok_f (f_d2f hr)
  by_cases h7 : t = 7
  · rw [if_neg h0, if_neg h5, if_neg h6, if_pos h7, h7]; exact ok_d hr
  rw [if_neg h0, if_neg h5, if_neg h6, if_neg h7]
  exact ok_low (by unfold isB at h; simpa [h0, h5, h6, h7] using h) _
theorem ok_and1 (v : Int64) : v &&& 1 = 0 ∨ v &&& 1 = 1 := by
  have : ∀ b : BitVec 64, b &&& 1#64 = 0#64 ∨ b &&& 1#64 = 1#64 := fun b => by
    have h1 : b &&& 1#64 = BitVec.setWidth 64 (BitVec.ofBool (b.getLsbD 0)) := by
      ext i hi
      by_cases q : i = 0
      · subst q; simp
      · simp [q]
    rw [h1]
    cases b.getLsbD 0 <;> simp
  rcases this v.toBitVec with q | q
  · left; apply Int64.toBitVec_inj.mp; simpa using q
  · right; apply Int64.toBitVec_inj.mp; simpa using q
theorem ok_made {t : Int32} (h : isB t) (v : Int64) : okC (t, aMade t v) := by
  unfold aMade
  by_cases h0 : t = 0
  · rw [if_pos h0, h0]; exact ok_b _ (ok_and1 v)
  by_cases h6 : t = 6
  · rw [if_neg h0, if_pos h6, h6]; exact ok_f (f_fdiv v)
  by_cases h7 : t = 7
  · rw [if_neg h0, if_neg h6, if_pos h7, h7]; exact ok_d (f_ddiv v)
  rw [if_neg h0, if_neg h6, if_neg h7]
  exact ok_low (by unfold isB at h; simpa [h0, h6, h7] using h) v
theorem okC.val {x : aC} (h : okC x) : okD (aVal x) := by
  unfold aVal
  rcases h with h | h | h | h | h | h | h | h | h | h
  · rw [h.1]; exact f_l2d _
  · rw [h.1]; exact f_l2d _
  · rw [h.1]; exact f_l2d _
  · rw [h.1]; exact f_l2d _
  · rw [h.1]; exact f_l2d _
  · rw [h.1]; exact f_l2d _
  · rw [h]; exact f_l2d _
  · rw [h.1]; exact f_f2d h.2.2
  · rw [h.1]; exact h.2
  · rw [h.1]; exact f_l2d _
theorem okC.re {x : aC} (h : okC x) : okD (enR x) := by
  unfold enR
  split
  · exact okD_zero
  · exact h.val
/-- a cast, whole or real as the cell is -/
theorem aCast_W {x : aC} {t : Int32} (h : okC x) (hb : 0 ≤ x.1 ∧ x.1 < 6) (ht : isB t) : cW t x.2 = aCast x t := by
  obtain ⟨s, n⟩ := x
  rcases h with h | h | h | h | h | h | h | h | h | h <;> dsimp only at h hb ⊢
  · rw [h.1] at hb; exact absurd hb (by decide)
  all_goals first
    | (rw [h.1] at hb; exact absurd hb (by decide))
    | skip
  all_goals
    rcases ht with rfl | rfl | rfl | rfl | rfl | rfl | rfl | rfl
  all_goals first
    | (obtain ⟨rfl, h⟩ := h; simp [cW, aCast, aVal, aLow] at h ⊢; try (first | exact h.symm | exact h | (rcases h with rfl | rfl <;> simp)))
    | (subst h; simp [cW, aCast, aVal, aLow])
theorem aCast_R {x : aC} {t : Int32} (h : okC x) (hb : x.1 = 6 ∨ x.1 = 7) (ht : isB t) : cR t (aVal x) = aCast x t := by
  obtain ⟨s, n⟩ := x
  rcases hb with hb | hb <;> dsimp only at hb <;> subst hb
  · have h6 : ofF (bF n) = n ∧ okF (bF n) := by simpa [okC] using h
    rcases ht with rfl | rfl | rfl | rfl | rfl | rfl | rfl | rfl <;> simp [cR, aCast, aVal, aLow, f_rt h6.2, h6.1]
  · rcases ht with rfl | rfl | rfl | rfl | rfl | rfl | rfl | rfl <;> simp [cR, aCast, aVal, aLow, ofD_bD]
theorem ok_cast {x : aC} {t : Int32} (h : okC x) (hb : isB x.1) (ht : isB t) : okC (t, aCast x t) := by
  by_cases h6 : x.1 = 6 ∨ x.1 = 7
  · rw [← aCast_R h h6 ht]; exact ok_R ht h.val
  · rw [← aCast_W h (by rcases hb with q | q | q | q | q | q | q | q <;> simp_all) ht]; exact ok_W ht _
