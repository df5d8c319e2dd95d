/-! ===== FLOATS: what the walks ask of them ===== -/
theorem okD_nn {r : UInt64} (h : okD r) : r.toNat % 2 ^ 63 ≤ 9218868437227405312 := by
  rcases h with rfl | h
  · decide
  · omega
theorem okF_nn {f : UInt32} (h : okF f) : f.toNat % 2 ^ 31 ≤ 2139095040 := by
  rcases h with rfl | h
  · decide
  · omega
theorem f_n64' {r : UInt64} (h : r.toNat % 2 ^ 63 ≤ 9218868437227405312) : vf_n64 r := by
  unfold vf_n64
  rw [UInt64.le_iff_toNat_le, UInt64.toNat_and]
  have e : (0x7fffffffffffffff : UInt64).toNat = 2 ^ 63 - 1 := rfl
  rw [e, Nat.and_two_pow_sub_one_eq_mod]
  exact h
theorem f_n32' {r : UInt32} (h : r.toNat % 2 ^ 31 ≤ 2139095040) : vf_n32 r := by
  unfold vf_n32
  rw [UInt32.le_iff_toNat_le, UInt32.toNat_and]
  have e : (0x7fffffff : UInt32).toNat = 2 ^ 31 - 1 := rfl
  rw [e, Nat.and_two_pow_sub_one_eq_mod]
  exact h
theorem f_n64 {r : UInt64} (h : okD r) : vf_n64 r := f_n64' (okD_nn h)
theorem f_n32 {f : UInt32} (h : okF f) : vf_n32 f := f_n32' (okF_nn h)
theorem f_v64 {r : UInt64} (h : okD r) : FP.Core.val64 r ≠ .nan := (FP.Core.ne_nan r).mpr (okD_nn h)
theorem f_v32 {f : UInt32} (h : okF f) : FP.Core.val32 f ≠ .nan := (FP.Core.ne_nan32 f).mpr (okF_nn h)
theorem dSg_cases (a b : UInt64) : dSg a b = -1 ∨ dSg a b = 0 ∨ dSg a b = 1 := by
  unfold dSg
  split
  · exact Or.inl rfl
  · exact Or.inr (Or.inr rfl)
  · exact Or.inr (Or.inl rfl)
theorem f_some {a b : UInt64} (ha : okD a) (hb : okD b) : ∃ o, FP.dcmp a b = some o := by
  cases h : FP.dcmp a b with
  | some o => exact ⟨o, rfl⟩
  | none =>
    rcases (FP.Core.dcmp_none a b).mp h with q | q
    · exact absurd q (f_v64 ha)
    · exact absurd q (f_v64 hb)
theorem f_cmp {a b : UInt64} (op : CmpOp) (ha : okD a) (hb : okD b) : Op.cmpValue (FP.dcmp a b) op = dSg a b := by
  obtain ⟨o, h⟩ := f_some ha hb
  unfold dSg
  rw [h]
  cases o <;> cases op <;> rfl
theorem f_key {a b : UInt64} (ha : okD a) (hb : okD b) (h : FP.Core.dkey a = FP.Core.dkey b) : a = b := by
  have ha2 := a.toNat_lt
  have hb2 := b.toNat_lt
  have za : a.toNat % 2 ^ 63 = 0 → a.toNat = 0 := fun q => by
    rcases ha with rfl | h
    · rfl
    · omega
  have zb : b.toNat % 2 ^ 63 = 0 → b.toNat = 0 := fun q => by
    rcases hb with rfl | h
    · rfl
    · omega
  apply UInt64.toNat_inj.mp
  unfold FP.Core.dkey at h
  split at h <;> split at h <;> omega
theorem f_sg0 {a b : UInt64} (ha : okD a) (hb : okD b) : dSg a b = 0 ↔ a = b := by
  obtain ⟨o, h⟩ := f_some ha hb
  constructor
  · intro q
    unfold dSg at q
    rw [h] at q
    cases o with
    | lt => exact absurd q (by decide)
    | gt => exact absurd q (by decide)
    | eq => exact f_key ha hb ((FP.Core.dcmp_eq_key (f_v64 ha) (f_v64 hb)).mp h)
  · rintro rfl
    unfold dSg
    rw [show FP.dcmp a a = some .eq from FP.Core.dcmp_self (f_v64 ha)]
theorem okD_zero : okD 0 := Or.inl rfl
theorem f_l2d (v : Int64) : okD (FP.l2d v) := by
  by_cases h : v = 0
  · subst h; exact Or.inl FP.Core.l2d_zero
  · exact Or.inr ⟨by have := (FP.Core.l2d_big (FP.Core.int64_ne h)).1; show 1021 * 2 ^ 52 ≤ (FP.Core.l2d v).toNat % 2 ^ 63; omega, Nat.le_of_lt (FP.Core.l2d_mag v)⟩
theorem f_l2f (v : Int64) : okF (FP.l2f v) := by
  by_cases h : v = 0
  · subst h; exact Or.inl FP.Core.l2f_zero
  · exact Or.inr ⟨by have := (FP.Core.l2f_big (FP.Core.int64_ne h)).1; show 125 * 2 ^ 23 ≤ (FP.Core.l2f v).toNat % 2 ^ 31; omega, Nat.le_of_lt (FP.Core.l2f_mag v)⟩
theorem f_f2dC {f : UInt32} (h : okF f) : FP.f2d f = FP.Core.f2d f := FP.f2d_core ((FP.Core.notNaN_iff32 f).mpr (f_v32 h))
theorem f_d2fC {r : UInt64} (h : okD r) : FP.d2f r = FP.Core.d2f r := FP.d2f_core ((FP.Core.notNaN_iff r).mpr (f_v64 h))
/-- a double that is no zero and no end: its parts -/
theorem nd64 {a : UInt64} (h1 : 2 ^ 52 ≤ a.toNat % 2 ^ 63) (h2 : a.toNat % 2 ^ 63 < 2047 * 2 ^ 52) : ∃ (s : Bool) (E T : Nat), 1 ≤ E ∧ E < 2047 ∧ T < 2 ^ 52 ∧ a.toNat % 2 ^ 63 = E * 2 ^ 52 + T ∧ FP.Core.val64 a = .fin s (2 ^ 52 + T) ((E : Int) - 1075) := by
  refine ⟨FP.Core.fieldS FP.Core.b64 a.toNat, a.toNat / 2 ^ 52 % 2048, a.toNat % 2 ^ 52, by omega, by omega, by omega, by omega, ?_⟩
  have t : FP.Core.b64.tails = 2 ^ 52 := FP.Core.tails_b64
  have ex : FP.Core.b64.exps = 2048 := rfl
  have qm : FP.Core.b64.qmin = -1074 := FP.Core.qmin_b64
  unfold FP.Core.val64 FP.Core.decode
  have e1 : FP.Core.fieldE FP.Core.b64 a.toNat = a.toNat / 2 ^ 52 % 2048 := by unfold FP.Core.fieldE; rw [t, ex]
  have e2 : FP.Core.fieldT FP.Core.b64 a.toNat = a.toNat % 2 ^ 52 := by unfold FP.Core.fieldT; rw [t]
  rw [e1, e2, t, ex, qm, if_neg (by omega), if_neg (by omega)]
  congr 1
  omega
theorem nd32 {a : UInt32} (h1 : 2 ^ 23 ≤ a.toNat % 2 ^ 31) (h2 : a.toNat % 2 ^ 31 < 255 * 2 ^ 23) : ∃ (s : Bool) (E T : Nat), 1 ≤ E ∧ E < 255 ∧ T < 2 ^ 23 ∧ a.toNat % 2 ^ 31 = E * 2 ^ 23 + T ∧ FP.Core.val32 a = .fin s (2 ^ 23 + T) ((E : Int) - 150) := by
  refine ⟨FP.Core.fieldS FP.Core.b32 a.toNat, a.toNat / 2 ^ 23 % 256, a.toNat % 2 ^ 23, by omega, by omega, by omega, by omega, ?_⟩
  have t : FP.Core.b32.tails = 2 ^ 23 := FP.Core.tails_b32
  have ex : FP.Core.b32.exps = 256 := rfl
  have qm : FP.Core.b32.qmin = -149 := FP.Core.qmin_b32
  unfold FP.Core.val32 FP.Core.decode
  have e1 : FP.Core.fieldE FP.Core.b32 a.toNat = a.toNat / 2 ^ 23 % 256 := by unfold FP.Core.fieldE; rw [t, ex]
  have e2 : FP.Core.fieldT FP.Core.b32 a.toNat = a.toNat % 2 ^ 23 := by unfold FP.Core.fieldT; rw [t]
  rw [e1, e2, t, ex, qm, if_neg (by omega), if_neg (by omega)]
  congr 1
  omega
theorem fit64 {s : Bool} {E T : Nat} (h1 : 1 ≤ E) (h2 : E < 2047) (hT : T < 2 ^ 52) : FP.Core.fits FP.Core.b64 (.fin s (2 ^ 52 + T) ((E : Int) - 1075)) := by
  refine ⟨?_, ?_, ?_, Or.inr ?_⟩
  · show 2 ^ 52 + T < 2 ^ 53; omega
  · rw [FP.Core.qmin_b64]; omega
  · show (E : Int) - 1075 ≤ (1023 : Int) - 53 + 1; omega
  · rw [FP.Core.tails_b64]; omega
theorem fit32 {s : Bool} {E T : Nat} (h1 : 1 ≤ E) (h2 : E < 255) (hT : T < 2 ^ 23) : FP.Core.fits FP.Core.b32 (.fin s (2 ^ 23 + T) ((E : Int) - 150)) := by
  refine ⟨?_, ?_, ?_, Or.inr ?_⟩
  · show 2 ^ 23 + T < 2 ^ 24; omega
  · rw [FP.Core.qmin_b32]; omega
  · show (E : Int) - 150 ≤ (127 : Int) - 24 + 1; omega
  · rw [FP.Core.tails_b32]; omega
theorem mag64 {a : UInt64} {s : Bool} {E T : Nat} (h1 : 1 ≤ E) (h2 : E < 2047) (hT : T < 2 ^ 52) (h : FP.Core.val64 a = .fin s (2 ^ 52 + T) ((E : Int) - 1075)) : a.toNat % 2 ^ 63 = E * 2 ^ 52 + T := by
  have hn : FP.Core.val64 a ≠ .nan := by rw [h]; exact fun q => by cases q
  have e := FP.Core.of64_val64 hn
  rw [h] at e
  have e2 := FP.Core.toNat_of64 (fit64 (s := s) h1 h2 hT)
  rw [e] at e2
  rw [e2]
  unfold FP.Core.encode
  dsimp only
  rw [if_neg (by rw [FP.Core.tails_b64]; omega)]
  unfold FP.Core.assemble
  rw [FP.Core.tails_b64, FP.Core.qmin_b64, show FP.Core.b64.exps = 2048 from rfl]
  have : ((E : Int) - 1075 - -1074).toNat = E - 1 := by omega
  rw [this]
  cases s
  · simp only [Bool.toNat_false]; omega
  · simp only [Bool.toNat_true]; omega
theorem mag32 {a : UInt32} {s : Bool} {E T : Nat} (h1 : 1 ≤ E) (h2 : E < 255) (hT : T < 2 ^ 23) (h : FP.Core.val32 a = .fin s (2 ^ 23 + T) ((E : Int) - 150)) : a.toNat % 2 ^ 31 = E * 2 ^ 23 + T := by
  have hn : FP.Core.val32 a ≠ .nan := by rw [h]; exact fun q => by cases q
  have e := FP.Core.of32_val32 hn
  rw [h] at e
  have e2 := FP.Core.toNat_of32 (fit32 (s := s) h1 h2 hT)
  rw [e] at e2
  rw [e2]
  unfold FP.Core.encode
  dsimp only
  rw [if_neg (by rw [FP.Core.tails_b32]; omega)]
  unfold FP.Core.assemble
  rw [FP.Core.tails_b32, FP.Core.qmin_b32, show FP.Core.b32.exps = 256 from rfl]
  have : ((E : Int) - 150 - -149).toNat = E - 1 := by omega
  rw [this]
  cases s
  · simp only [Bool.toNat_false]; omega
  · simp only [Bool.toNat_true]; omega
theorem ddiv4 {a : UInt64} {s : Bool} {E T : Nat} (h1 : 3 ≤ E) (h2 : E < 2047) (hT : T < 2 ^ 52) (h : FP.Core.val64 a = .fin s (2 ^ 52 + T) ((E : Int) - 1075)) : FP.Core.val64 (FP.ddiv a 4616189618054758400) = .fin s (2 ^ 52 + T) (((E - 2 : Nat) : Int) - 1075) := by
  have v4 : FP.Core.val64 4616189618054758400 = .fin false (2 ^ 52) (-50) := by decide +kernel
  rw [show FP.ddiv a 4616189618054758400 = FP.Core.ddiv a 4616189618054758400 from rfl, FP.Core.val64_ddiv, h, v4]
  unfold FP.Core.quotient
  dsimp only
  rw [if_neg (by decide), show (s != false) = s by cases s <;> rfl]
  refine FP.Core.roundRatio_exact FP.Core.good_b64 (by decide) (fit64 (by omega) (by omega) hT) ?_
  have e1 : ((E : Int) - 1075 - -50 - (((E - 2 : Nat) : Int) - 1075)).toNat = 52 := by omega
  have e2 : ((((E - 2 : Nat) : Int) - 1075) - ((E : Int) - 1075 - -50)).toNat = 0 := by omega
  rw [e1, e2]
  simp
theorem fdiv4 {a : UInt32} {s : Bool} {E T : Nat} (h1 : 3 ≤ E) (h2 : E < 255) (hT : T < 2 ^ 23) (h : FP.Core.val32 a = .fin s (2 ^ 23 + T) ((E : Int) - 150)) : FP.Core.val32 (FP.fdiv a 1082130432) = .fin s (2 ^ 23 + T) (((E - 2 : Nat) : Int) - 150) := by
  have v4 : FP.Core.val32 1082130432 = .fin false (2 ^ 23) (-21) := by decide +kernel
  rw [show FP.fdiv a 1082130432 = FP.Core.fdiv a 1082130432 from rfl, FP.Core.val32_fdiv, h, v4]
  unfold FP.Core.quotient
  dsimp only
  rw [if_neg (by decide), show (s != false) = s by cases s <;> rfl]
  refine FP.Core.roundRatio_exact FP.Core.good_b32 (by decide) (fit32 (by omega) (by omega) hT) ?_
  have e1 : ((E : Int) - 150 - -21 - (((E - 2 : Nat) : Int) - 150)).toNat = 23 := by omega
  have e2 : ((((E - 2 : Nat) : Int) - 150) - ((E : Int) - 150 - -21)).toNat = 0 := by omega
  rw [e1, e2]
  simp
theorem f_fdiv (v : Int64) : okF (FP.fdiv (FP.l2f v) 1082130432) := by
  by_cases h : v = 0
  · subst h
    left
    rw [show FP.l2f 0 = 0 from FP.Core.l2f_zero]
    decide +kernel
  · have h1 := FP.Core.l2f_big (FP.Core.int64_ne h)
    have h2 := FP.Core.l2f_mag v
    obtain ⟨s, E, T, a1, a2, a3, a4, a5⟩ := nd32 (a := FP.l2f v) (by show 2 ^ 23 ≤ (FP.Core.l2f v).toNat % 2 ^ 31; omega) (by show (FP.Core.l2f v).toNat % 2 ^ 31 < _; omega)
    have h3 : 127 * 2 ^ 23 ≤ (FP.l2f v).toNat % 2 ^ 31 := h1.1
    have h4 : (FP.l2f v).toNat % 2 ^ 31 < 192 * 2 ^ 23 := h2
    have := mag32 (by omega) (by omega) a3 (fdiv4 (by omega) a2 a3 a5)
    right
    omega
theorem f_ddiv (v : Int64) : okD (FP.ddiv (FP.l2d v) 4616189618054758400) := by
  by_cases h : v = 0
  · subst h
    left
    rw [show FP.l2d 0 = 0 from FP.Core.l2d_zero]
    decide +kernel
  · have h1 := FP.Core.l2d_big (FP.Core.int64_ne h)
    have h2 := FP.Core.l2d_mag v
    obtain ⟨s, E, T, a1, a2, a3, a4, a5⟩ := nd64 (a := FP.l2d v) (by show 2 ^ 52 ≤ (FP.Core.l2d v).toNat % 2 ^ 63; omega) (by show (FP.Core.l2d v).toNat % 2 ^ 63 < _; omega)
    have h3 : 1023 * 2 ^ 52 ≤ (FP.l2d v).toNat % 2 ^ 63 := h1.1
    have h4 : (FP.l2d v).toNat % 2 ^ 63 < 1088 * 2 ^ 52 := h2
    have := mag64 (by omega) (by omega) a3 (ddiv4 (by omega) a2 a3 a5)
    right
    omega
theorem f2dv {f : UInt32} {s : Bool} {E T : Nat} (h1 : 1 ≤ E) (h2 : E < 255) (hT : T < 2 ^ 23) (h : FP.Core.val32 f = .fin s (2 ^ 23 + T) ((E : Int) - 150)) : FP.Core.val64 (FP.Core.f2d f) = .fin s (2 ^ 52 + T * 2 ^ 29) (((E + 896 : Nat) : Int) - 1075) := by
  rw [FP.Core.val64_f2d, h]
  unfold FP.Core.round
  refine FP.Core.roundRatio_exact FP.Core.good_b64 (by decide) (fit64 (by omega) (by omega) (by omega)) ?_
  have e1 : ((E : Int) - 150 - (((E + 896 : Nat) : Int) - 1075)).toNat = 29 := by omega
  have e2 : ((((E + 896 : Nat) : Int) - 1075) - ((E : Int) - 150)).toNat = 0 := by omega
  rw [e1, e2]
  omega
theorem f_f2d {f : UInt32} (h : okF f) : okD (FP.f2d f) := by
  rw [f_f2dC h]
  rcases h with rfl | h
  · left; decide +kernel
  · obtain ⟨s, E, T, a1, a2, a3, a4, a5⟩ := nd32 (a := f) (by omega) (by omega)
    have := mag64 (by omega) (by omega) (by omega) (f2dv a1 a2 a3 a5)
    right
    omega
theorem f_d2f {r : UInt64} (h : okD r) : okF (FP.d2f r) := by
  rw [f_d2fC h]
  rcases h with rfl | h
  · left; decide +kernel
  · right
    obtain ⟨s, E, T, a1, a2, a3, a4, a5⟩ := nd64 (a := r) (by omega) (by omega)
    have hv := FP.Core.val32_d2f r
    rw [a5] at hv
    have hv2 : FP.Core.decode FP.Core.b32 (FP.Core.d2f r).toNat = FP.Core.roundRatio FP.Core.b32 s (2 ^ 52 + T) 1 ((E : Int) - 1075) := hv
    have q : FP.Core.b32.qmin = -149 := FP.Core.qmin_b32
    have eq : ((E : Int) - 1075 - -149).toNat = E - 926 := by omega
    have u1 : FP.Core.unitsOf FP.Core.b32 (192 * 2 ^ 23) = 2 ^ 23 * 2 ^ 191 := FP.Core.unitsOf_start (f := FP.Core.b32) (K := 192) (by omega)
    have u2 : FP.Core.unitsOf FP.Core.b32 (125 * 2 ^ 23) = 2 ^ 23 * 2 ^ 124 := FP.Core.unitsOf_start (f := FP.Core.b32) (K := 125) (by omega)
    have m1 : FP.Core.mag FP.Core.b32 (FP.Core.d2f r).toNat = (FP.Core.d2f r).toNat % 2 ^ 31 := FP.Core.mag_toNat32 _
    rw [← m1]
    constructor
    · refine FP.Core.mag_ge FP.Core.good_b32 hv2 (by decide) (e0 := -149) (by rw [q]; exact Int.le_refl _) (by omega) (by rw [FP.Core.infBits_b32]; omega) ?_
      rw [u2, q]
      unfold FP.Core.inUnits
      rw [eq]
      have : 2 ^ 52 * 2 ^ 95 ≤ (2 ^ 52 + T) * 2 ^ (E - 926) := Nat.mul_le_mul (by omega) (Nat.pow_le_pow_right (by decide) (by omega))
      refine Nat.le_trans ?_ this
      decide
    · refine FP.Core.mag_le FP.Core.good_b32 hv2 (by decide) (e0 := -149) (by rw [q]; exact Int.le_refl _) (by omega) ?_
      rw [u1, q]
      unfold FP.Core.inUnits
      rw [eq]
      have : (2 ^ 52 + T) * 2 ^ (E - 926) ≤ 2 ^ 214 := by
        by_cases hE : E = 1088
        · have hT : T = 0 := by omega
          rw [hE, hT]
          decide
        · have : (2 ^ 52 + T) * 2 ^ (E - 926) ≤ 2 ^ 53 * 2 ^ 161 := Nat.mul_le_mul (by omega) (Nat.pow_le_pow_right (by decide) (by omega))
          refine Nat.le_trans this ?_
          decide
      refine Nat.le_trans this ?_
      decide
theorem f_rt {f : UInt32} (h : okF f) : FP.d2f (FP.f2d f) = f := by
  rw [f_d2fC (f_f2d h), f_f2dC h]
  exact FP.Core.d2f_f2d (f_v32 h)
