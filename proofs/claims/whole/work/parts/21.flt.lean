/-! ===== FLOATS: what the walks ask of them ===== -/
theorem gD_nn {r : UInt64} (h : gD r) : r.toNat % 2 ^ 63 ≤ 9218868437227405312 := by
  rcases h with rfl | h
  · decide
  · omega
theorem gF_nn {f : UInt32} (h : gF f) : f.toNat % 2 ^ 31 ≤ 2139095040 := by
  rcases h with rfl | h
  · decide
  · omega
theorem f_n64' {r : UInt64} (h : r.toNat % 2 ^ 63 ≤ 9218868437227405312) : vf_n64 r := by
  unfold vf_n64
  rw [UInt64.le_iff_toNat_le, UInt64.toNat_and]
  have e : (0x7fffffffffffffff : UInt64).toNat = 2 ^ 63 - 1 := rfl
  rw [e, Nat.and_two_pow_sub_one_eq_mod]
  exact h
theorem f_n32' {r : UInt32} (h : r.toNat % 2 ^ 31 ≤ 2139095040) : vf_n32 r := by
  unfold vf_n32
  rw [UInt32.le_iff_toNat_le, UInt32.toNat_and]
  have e : (0x7fffffff : UInt32).toNat = 2 ^ 31 - 1 := rfl
  rw [e, Nat.and_two_pow_sub_one_eq_mod]
  exact h
theorem f_n64 {r : UInt64} (h : gD r) : vf_n64 r := f_n64' (gD_nn h)
theorem f_n32 {f : UInt32} (h : gF f) : vf_n32 f := f_n32' (gF_nn h)
theorem f_v64 {r : UInt64} (h : gD r) : FP.Core.val64 r ≠ .nan := (FP.Core.ne_nan r).mpr (gD_nn h)
theorem f_v32 {f : UInt32} (h : gF f) : FP.Core.val32 f ≠ .nan := (FP.Core.ne_nan32 f).mpr (gF_nn h)
theorem dSg_cases (a b : UInt64) : dSg a b = -1 ∨ dSg a b = 0 ∨ dSg a b = 1 := by
  unfold dSg
  split
  · exact Or.inl rfl
  · exact Or.inr (Or.inr rfl)
  · exact Or.inr (Or.inl rfl)
theorem f_some {a b : UInt64} (ha : gD a) (hb : gD b) : ∃ o, FP.dcmp a b = some o := by
  cases h : FP.dcmp a b with
  | some o => exact ⟨o, rfl⟩
  | none =>
    rcases (FP.Core.dcmp_none a b).mp h with q | q
    · exact absurd q (f_v64 ha)
    · exact absurd q (f_v64 hb)
theorem f_cmp {a b : UInt64} (op : CmpOp) (ha : gD a) (hb : gD b) : Op.cmpValue (FP.dcmp a b) op = dSg a b := by
  obtain ⟨o, h⟩ := f_some ha hb
  unfold dSg
  rw [h]
  cases o <;> cases op <;> rfl
theorem f_key {a b : UInt64} (ha : gD a) (hb : gD b) (h : FP.Core.dkey a = FP.Core.dkey b) : a = b := by
  have ha2 := a.toNat_lt
  have hb2 := b.toNat_lt
  have za : a.toNat % 2 ^ 63 = 0 → a.toNat = 0 := fun q => by
    rcases ha with rfl | h
    · rfl
    · omega
  have zb : b.toNat % 2 ^ 63 = 0 → b.toNat = 0 := fun q => by
    rcases hb with rfl | h
    · rfl
    · omega
  apply UInt64.toNat_inj.mp
  unfold FP.Core.dkey at h
  split at h <;> split at h <;> omega
theorem f_sg0 {a b : UInt64} (ha : gD a) (hb : gD b) : dSg a b = 0 ↔ a = b := by
  obtain ⟨o, h⟩ := f_some ha hb
  constructor
  · intro q
    unfold dSg at q
    rw [h] at q
    cases o with
    | lt => revert q; decide
    | gt => revert q; decide
    | eq => exact f_key ha hb ((FP.Core.dcmp_eq_key (f_v64 ha) (f_v64 hb)).mp h)
  · rintro rfl
    unfold dSg
    rw [FP.Core.dcmp_self (f_v64 ha)]
theorem f_sw {a b : UInt64} (ha : gD a) (hb : gD b) : dSg b a = -1 ↔ dSg a b = 1 := by
  have := FP.Core.dcmp_swap a b
  unfold dSg
  rw [show FP.dcmp b a = FP.Core.dcmp b a from rfl, this]
  obtain ⟨o, h⟩ := f_some ha hb
  rw [show FP.Core.dcmp a b = some o from h, h]
  cases o <;> decide
theorem gD_zero : gD 0 := Or.inl rfl
theorem f_l2d (v : Int64) : gD (FP.l2d v) := by
  by_cases h : v = 0
  · subst h; exact Or.inl FP.Core.l2d_zero
  · exact Or.inr ⟨by have := (FP.Core.l2d_big (FP.Core.int64_ne h)).1; show 1021 * 2 ^ 52 ≤ (FP.Core.l2d v).toNat % 2 ^ 63; omega, FP.Core.l2d_mag v⟩
theorem f_l2f (v : Int64) : gF (FP.l2f v) := by
  by_cases h : v = 0
  · subst h; exact Or.inl FP.Core.l2f_zero
  · exact Or.inr ⟨by have := (FP.Core.l2f_big (FP.Core.int64_ne h)).1; show 125 * 2 ^ 23 ≤ (FP.Core.l2f v).toNat % 2 ^ 31; omega, FP.Core.l2f_mag v⟩
theorem f_l2d0 (v : Int64) : FP.l2d v = 0 ↔ v = 0 := by
  constructor
  · intro h
    refine Classical.byContradiction fun hv => ?_
    have := FP.Core.l2d_ne_zero hv
    rw [show FP.Core.l2d v = 0 from h] at this
    exact this rfl
  · rintro rfl; exact FP.Core.l2d_zero
theorem f_rt {f : UInt32} (h : gF f) : FP.d2f (FP.f2d f) = f := FP.d2f_f2d (f_v32 h)
theorem f_fdiv (v : Int64) : gF (FP.fdiv (FP.l2f v) 1082130432) := sorry
theorem f_ddiv (v : Int64) : gD (FP.ddiv (FP.l2d v) 4616189618054758400) := sorry
theorem f_f2d {f : UInt32} (h : gF f) : gD (FP.f2d f) := sorry
theorem f_d2f {r : UInt64} (h : gD r) : gF (FP.d2f r) := sorry
