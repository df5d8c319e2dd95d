/-! ===== the number of a cell: the bits of a real by halving ===== -/
theorem wb_tb (n : Nat) : (lN n).toBitVec = BitVec.ofNat 64 n := rfl
theorem wb_inj {a b : Int64} (h : a.toBitVec = b.toBitVec) : a = b := Int64.toBitVec_inj.mp h
theorem wb_c : ∀ k, k < 64 → ((nI k).toInt64 &&& 63) = lN k := by decide +kernel
theorem wb_sm : ∀ k, k < 64 → (BitVec.ofNat 64 k).smod 64 = BitVec.ofNat 64 k := by decide +kernel
theorem wb_shl (n : Nat) {k : Nat} (hk : k < 64) : lN n <<< ((nI k).toInt64 &&& 63) = lN (n * 2 ^ k) := by
  rw [wb_c k hk]
  apply wb_inj
  rw [Int64.toBitVec_shiftLeft, wb_tb, wb_tb, wb_tb, wb_sm k hk]
  apply BitVec.eq_of_toNat_eq
  rw [BitVec.shiftLeft_eq', BitVec.toNat_shiftLeft, BitVec.toNat_ofNat, BitVec.toNat_ofNat, BitVec.toNat_ofNat, Nat.mod_eq_of_lt (show k < 2 ^ 64 by omega), Nat.shiftLeft_eq, Nat.mul_mod, Nat.mod_mod, ← Nat.mul_mod]
theorem u_tn {n : Nat} (h : n < 2 ^ 64) : (UInt64.ofNat n).toNat = n := Nat.mod_eq_of_lt h
theorem g_or {k p a b : Nat} (hp : 2 ^ k = p) (ha : a < p) (h : b * p + a < 2 ^ 64) : lN (b * p) ||| lN a = lN (b * p + a) := by
  subst hp
  have h1 : b * 2 ^ k ||| a = b * 2 ^ k + a := by rw [← Nat.shiftLeft_eq, Nat.shiftLeft_add_eq_or_of_lt ha]
  have h3 : UInt64.ofNat (b * 2 ^ k) ||| UInt64.ofNat a = UInt64.ofNat (b * 2 ^ k + a) := UInt64.toNat_inj.mp (by rw [UInt64.toNat_or, u_tn (by omega), u_tn (by omega), u_tn h, h1])
  have h2 := congrArg UInt64.toInt64 h3
  exact h2
theorem f_cmpN {a b : UInt64} (op : CmpOp) (ha : FP.Core.val64 a ≠ .nan) (hb : FP.Core.val64 b ≠ .nan) : Op.cmpValue (FP.dcmp a b) op = dSg a b := by
  cases h : FP.dcmp a b with
  | none =>
    rcases (FP.Core.dcmp_none a b).mp h with q | q
    · exact absurd q ha
    · exact absurd q hb
  | some o =>
    unfold dSg
    rw [h]
    cases o <;> cases op <;> rfl
theorem dSg_key {a b : UInt64} (ha : FP.Core.val64 a ≠ .nan) (hb : FP.Core.val64 b ≠ .nan) : (dSg a b < 0 ↔ FP.Core.dkey a < FP.Core.dkey b) ∧ (dSg a b = 0 ↔ FP.Core.dkey a = FP.Core.dkey b) := by
  have h1 := FP.Core.dcmp_lt_key ha hb
  have h2 := FP.Core.dcmp_eq_key ha hb
  cases h : FP.dcmp a b with
  | none =>
    rcases (FP.Core.dcmp_none a b).mp h with q | q
    · exact absurd q ha
    · exact absurd q hb
  | some o =>
    rw [show FP.Core.dcmp a b = some o from h] at h1 h2
    unfold dSg
    rw [h]
    cases o with
    | lt => exact ⟨⟨fun _ => h1.mp rfl, fun _ => by decide⟩, ⟨fun q => absurd q (by decide), fun q => absurd (h2.mpr q) (by simp)⟩⟩
    | eq => exact ⟨⟨fun q => absurd q (by decide), fun q => absurd (h1.mpr q) (by simp)⟩, ⟨fun _ => h2.mp rfl, fun _ => rfl⟩⟩
    | gt => exact ⟨⟨fun q => absurd q (by decide), fun q => absurd (h1.mpr q) (by simp)⟩, ⟨fun q => absurd q (by decide), fun q => absurd (h2.mpr q) (by simp)⟩⟩
def okW (r : UInt64) : Prop := r = 0 ∨ (2 ^ 52 ≤ r.toNat % 2 ^ 63 ∧ r.toNat % 2 ^ 63 < 2047 * 2 ^ 52)
theorem okD.W {r : UInt64} (h : okD r) : okW r := by
  rcases h with h | h
  · exact Or.inl h
  · exact Or.inr (by omega)
/-- a double above 0, by its parts -/
def pd (E T : Nat) : UInt64 := UInt64.ofNat (E * 2 ^ 52 + T)
theorem pd_n {E T : Nat} (hE : E < 2047) (hT : T < 2 ^ 52) : (pd E T).toNat = E * 2 ^ 52 + T := u_tn (by omega)
theorem pd_val {E T : Nat} (h1 : 1 ≤ E) (hE : E < 2047) (hT : T < 2 ^ 52) : FP.Core.val64 (pd E T) = .fin false (2 ^ 52 + T) ((E : Int) - 1075) := by
  have hn := pd_n hE hT
  obtain ⟨s, E', T', a1, a2, a3, a4, a5⟩ := nd64 (a := pd E T) (by omega) (by omega)
  have e1 : E' = E := by omega
  have e2 : T' = T := by omega
  subst e1
  subst e2
  have hs := FP.Core.sgn_bits (a := pd E' T') (by rw [a5]; exact fun q => by cases q)
  rw [a5] at hs
  have : s = false := by
    have e : FP.Core.sgn (.fin s (2 ^ 52 + T') ((E' : Int) - 1075)) = s := rfl
    rw [e] at hs
    rw [hs, decide_eq_false_iff_not]
    omega
  rw [a5, this]
theorem pd_nn {E T : Nat} (h1 : 1 ≤ E) (hE : E < 2047) (hT : T < 2 ^ 52) : FP.Core.val64 (pd E T) ≠ .nan := by rw [pd_val h1 hE hT]; exact fun q => by cases q
theorem pd_key {E T : Nat} (hE : E < 2047) (hT : T < 2 ^ 52) : FP.Core.dkey (pd E T) = ((E * 2 ^ 52 + T : Nat) : Int) := by
  unfold FP.Core.dkey
  rw [pd_n hE hT, if_neg (by omega)]
theorem pd_two : (4611686018427387904 : UInt64) = pd 1024 0 := by decide +kernel
theorem pd_one : FP.dconst1 = pd 1023 0 := by decide +kernel
theorem pd_ddiv {E T : Nat} (h1 : 2 ≤ E) (hE : E < 2047) (hT : T < 2 ^ 52) : FP.ddiv (pd E T) 4611686018427387904 = pd (E - 1) T := by
  refine FP.Core.val64_inj ?_ ?_
  all_goals
    have v2 : FP.Core.val64 4611686018427387904 = .fin false (2 ^ 52) (-51) := by decide +kernel
    have hv : FP.Core.val64 (FP.Core.ddiv (pd E T) 4611686018427387904) = .fin false (2 ^ 52 + T) (((E - 1 : Nat) : Int) - 1075) := by
      rw [FP.Core.val64_ddiv, pd_val (by omega) hE hT, v2]
      unfold FP.Core.quotient
      dsimp only
      rw [if_neg (by decide)]
      refine FP.Core.roundRatio_exact FP.Core.good_b64 (by decide) (fit64 (by omega) (by omega) hT) ?_
      have e1 : ((E : Int) - 1075 - -51 - (((E - 1 : Nat) : Int) - 1075)).toNat = 52 := by omega
      have e2 : ((((E - 1 : Nat) : Int) - 1075) - ((E : Int) - 1075 - -51)).toNat = 0 := by omega
      rw [e1, e2]
      simp
  · show FP.Core.val64 (FP.Core.ddiv (pd E T) 4611686018427387904) ≠ .nan
    rw [hv]; exact fun q => by cases q
  · show FP.Core.val64 (FP.Core.ddiv (pd E T) 4611686018427387904) = _
    rw [hv, pd_val (by omega) (by omega) hT]
theorem pd_dmul {E T : Nat} (h1 : 1 ≤ E) (hE : E + 1 < 2047) (hT : T < 2 ^ 52) : FP.dmul (pd E T) 4611686018427387904 = pd (E + 1) T := by
  refine FP.Core.val64_inj ?_ ?_
  all_goals
    have v2 : FP.Core.val64 4611686018427387904 = .fin false (2 ^ 52) (-51) := by decide +kernel
    have hv : FP.Core.val64 (FP.Core.dmul (pd E T) 4611686018427387904) = .fin false (2 ^ 52 + T) (((E + 1 : Nat) : Int) - 1075) := by
      rw [FP.Core.val64_dmul, pd_val (by omega) (by omega) hT, v2]
      unfold FP.Core.exactProduct FP.Core.round
      dsimp only
      refine FP.Core.roundRatio_exact FP.Core.good_b64 (by decide) (fit64 (by omega) (by omega) hT) ?_
      have e1 : ((E : Int) - 1075 + -51 - (((E + 1 : Nat) : Int) - 1075)).toNat = 0 := by omega
      have e2 : ((((E + 1 : Nat) : Int) - 1075) - ((E : Int) - 1075 + -51)).toNat = 52 := by omega
      rw [e1, e2]
      simp
  · show FP.Core.val64 (FP.Core.dmul (pd E T) 4611686018427387904) ≠ .nan
    rw [hv]; exact fun q => by cases q
  · show FP.Core.val64 (FP.Core.dmul (pd E T) 4611686018427387904) = _
    rw [hv, pd_val (by omega) (by omega) hT]
theorem nan_of {r : UInt64} (h : FP.Core.val64 r ≠ .nan) : vf_n64 r := f_n64' ((FP.Core.ne_nan r).mp h)
/-- what lies above 1 -/
theorem fr_D {T : Nat} (hT : T < 2 ^ 52) : ∃ c q, FP.Core.val64 (FP.dsub (pd 1023 T) FP.dconst1) = .fin false c q ∧ -1074 ≤ q ∧ c * 2 ^ (q + 1074).toNat = T * 2 ^ 1022 := by
  have v1 : FP.Core.val64 FP.dconst1 = .fin false (2 ^ 52) (-52) := FP.Core.val64_dconst1
  have hv : FP.Core.val64 (FP.dsub (pd 1023 T) FP.dconst1) = FP.Core.round FP.Core.b64 (.fin false T (-52)) := by
    rw [show FP.dsub (pd 1023 T) FP.dconst1 = FP.Core.dsub (pd 1023 T) FP.dconst1 from rfl, FP.Core.val64_dsub, pd_val (by decide) (by decide) hT, v1]
    congr 1
    unfold FP.Core.negate FP.Core.exactSum
    dsimp only
    have em : min (((1023 : Nat) : Int) - 1075) (-52) = -52 := by decide
    rw [em]
    have su : FP.Core.sumUnits false (2 ^ 52 + T) (((1023 : Nat) : Int) - 1075) (!false) (2 ^ 52) (-52) (-52) = (T : Int) := by
      unfold FP.Core.sumUnits FP.Core.inUnits FP.Core.signed
      have e1 : (((1023 : Nat) : Int) - 1075 - -52).toNat = 0 := by decide
      have e2 : ((-52 : Int) - -52).toNat = 0 := by decide
      rw [e1, e2]
      simp
      omega
    rw [su]
    have ss : FP.Core.sumSign false (!false) (T : Int) = false := by
      unfold FP.Core.sumSign
      split
      · rfl
      · rw [decide_eq_false_iff_not]; omega
    rw [ss]
    simp
  have hq : FP.Core.b64.qmin = -1074 := FP.Core.qmin_b64
  obtain ⟨c, q, e1, e2⟩ := FP.Core.round_exact FP.Core.good_b64 false (c := T) (q := -52) (show T < 2 ^ 53 by omega) (by rw [hq]; decide) (by decide)
  have fit := FP.Core.val64_fits (FP.dsub (pd 1023 T) FP.dconst1)
  rw [hv, e1] at fit
  refine ⟨c, q, by rw [hv, e1], by have := fit.2.1; rw [hq] at this; exact this, ?_⟩
  unfold FP.Core.inUnits at e2
  rw [hq] at e2
  have e3 : (q - -1074).toNat = (q + 1074).toNat := by congr 1
  rw [e3] at e2
  rw [e2]
  rfl
theorem fr_F {T : Nat} (hT : T < 2 ^ 52) {L : UInt64} {e : Int} (hL : FP.Core.val64 L = .fin false (2 ^ 52) e) (he : -1074 ≤ e) (he2 : e ≤ 0) : ∃ c q, FP.Core.val64 (FP.dmul (FP.dsub (pd 1023 T) FP.dconst1) L) = .fin false c q ∧ -1074 ≤ q ∧ c * 2 ^ (q + 1074).toNat = T * 2 ^ (e + 1074).toNat := by
  obtain ⟨c, q, h1, h2, h3⟩ := fr_D hT
  have hq : FP.Core.b64.qmin = -1074 := FP.Core.qmin_b64
  have hv : FP.Core.val64 (FP.dmul (FP.dsub (pd 1023 T) FP.dconst1) L) = FP.Core.round FP.Core.b64 (.fin false T e) := by
    rw [show FP.dmul (FP.dsub (pd 1023 T) FP.dconst1) L = FP.Core.dmul (FP.dsub (pd 1023 T) FP.dconst1) L from rfl, FP.Core.val64_dmul, h1, hL]
    unfold FP.Core.exactProduct FP.Core.round
    dsimp only
    refine FP.Core.roundRatio_congr (by decide) (by decide) ?_
    rcases Int.le_total 0 q with hq0 | hq0
    · have e1 : (q + e - e).toNat = q.toNat := by congr 1; omega
      have e2 : (e - (q + e)).toNat = 0 := by omega
      rw [e1, e2]
      have e3 : (q + 1074).toNat = q.toNat + 1074 := by omega
      rw [e3, Nat.pow_add, show 2 ^ 1074 = 2 ^ 52 * 2 ^ 1022 from Nat.pow_add 2 52 1022] at h3
      have h4 : c * 2 ^ 52 * 2 ^ q.toNat = T := by
        refine Nat.eq_of_mul_eq_mul_right (Nat.two_pow_pos 1022) ?_
        rw [← h3, Nat.mul_right_comm c, Nat.mul_assoc, Nat.mul_assoc]
      rw [Nat.mul_one, h4]
      simp
    · have e1 : (q + e - e).toNat = 0 := by omega
      have e2 : (e - (q + e)).toNat = (-q).toNat := by congr 1; omega
      rw [e1, e2]
      have h4 : c * 2 ^ 52 = T * 2 ^ (-q).toNat := by
        refine Nat.eq_of_mul_eq_mul_right (Nat.two_pow_pos 1022) ?_
        have e3 : (q + 1074).toNat + (-q).toNat = 52 + 1022 := by omega
        calc c * 2 ^ 52 * 2 ^ 1022 = c * 2 ^ (52 + 1022) := by rw [Nat.mul_assoc, ← Nat.pow_add]
          _ = c * 2 ^ ((q + 1074).toNat + (-q).toNat) := by rw [e3]
          _ = c * 2 ^ (q + 1074).toNat * 2 ^ (-q).toNat := by rw [Nat.pow_add, Nat.mul_assoc]
          _ = T * 2 ^ 1022 * 2 ^ (-q).toNat := by rw [h3]
          _ = T * 2 ^ (-q).toNat * 2 ^ 1022 := Nat.mul_right_comm _ _ _
      rw [h4]
      simp
  obtain ⟨c2, q2, e1, e2⟩ := FP.Core.round_exact FP.Core.good_b64 false (c := T) (q := e) (show T < 2 ^ 53 by omega) (by rw [hq]; exact he) (Int.le_trans he2 (by decide))
  have fit := FP.Core.val64_fits (FP.dmul (FP.dsub (pd 1023 T) FP.dconst1) L)
  rw [hv, e1] at fit
  refine ⟨c2, q2, by rw [hv, e1], by have := fit.2.1; rw [hq] at this; exact this, ?_⟩
  unfold FP.Core.inUnits at e2
  rw [hq] at e2
  have e3 : (q2 - -1074).toNat = (q2 + 1074).toNat := by congr 1
  have e4 : (e - -1074).toNat = (e + 1074).toNat := by congr 1
  rw [e3, e4] at e2
  exact e2
theorem fr_t {c N : Nat} {q : Int} (h1 : -1074 ≤ q) (h : c * 2 ^ (q + 1074).toNat = N) : c * 2 ^ q.toNat / 2 ^ (-q).toNat = N / 2 ^ 1074 := by
  subst h
  rcases Int.le_total 0 q with hq0 | hq0
  · have e1 : (-q).toNat = 0 := by omega
    have e3 : (q + 1074).toNat = q.toNat + 1074 := by omega
    rw [e1, e3, Nat.pow_add, ← Nat.mul_assoc, Nat.mul_div_cancel _ (Nat.two_pow_pos 1074)]
    simp
  · have e1 : q.toNat = 0 := by omega
    have e3 : 1074 = (q + 1074).toNat + (-q).toNat := by omega
    have e4 : (2 : Nat) ^ 1074 = 2 ^ (q + 1074).toNat * 2 ^ (-q).toNat := by rw [← Nat.pow_add, ← e3]
    rw [e1, e4, Nat.mul_comm (2 ^ (q + 1074).toNat), Nat.mul_div_mul_right _ _ (Nat.two_pow_pos _)]
    simp
theorem fr_l {T : Nat} (hT : T < 2 ^ 52) {L : UInt64} {e : Int} (hL : FP.Core.val64 L = .fin false (2 ^ 52) e) (he : -1074 ≤ e) (he2 : e ≤ 0) : FP.d2l (FP.dmul (FP.dsub (pd 1023 T) FP.dconst1) L) = lN (T * 2 ^ (e + 1074).toNat / 2 ^ 1074) := by
  obtain ⟨c, q, h1, h2, h3⟩ := fr_F hT hL he he2
  have : FP.d2l (FP.dmul (FP.dsub (pd 1023 T) FP.dconst1) L) = FP.Core.toL (FP.Core.val64 (FP.dmul (FP.dsub (pd 1023 T) FP.dconst1) L)) := rfl
  rw [this, h1]
  unfold FP.Core.toL FP.Core.toInt FP.Core.truncate FP.Core.signed
  dsimp only
  rw [fr_t h2 h3]
  have hb : T * 2 ^ (e + 1074).toNat / 2 ^ 1074 < 2 ^ 52 := by
    rw [Nat.div_lt_iff_lt_mul (Nat.two_pow_pos 1074)]
    refine Nat.lt_of_lt_of_le (Nat.mul_lt_mul_of_pos_right hT (Nat.two_pow_pos _)) ?_
    exact Nat.mul_le_mul_left _ (Nat.pow_le_pow_right (by decide) (by omega))
  generalize T * 2 ^ (e + 1074).toNat / 2 ^ 1074 = N at hb
  have : max (-2 ^ 63 : Int) (min (2 ^ 63 - 1) (if false = true then -(N : Int) else (N : Int))) = (N : Int) := by
    simp only [Bool.false_eq_true, if_false]
    omega
  rw [this]
  rfl
theorem fr_52 {T : Nat} (hT : T < 2 ^ 52) : FP.d2l (FP.dmul (FP.dsub (pd 1023 T) FP.dconst1) (FP.l2d ((1 : Int64) <<< ((52 : Int32).toInt64 &&& 63)))) = lN T ∧ vf_n64 (FP.dmul (FP.dsub (pd 1023 T) FP.dconst1) (FP.l2d ((1 : Int64) <<< ((52 : Int32).toInt64 &&& 63)))) := by
  have hL : FP.Core.val64 (FP.l2d ((1 : Int64) <<< ((52 : Int32).toInt64 &&& 63))) = .fin false (2 ^ 52) 0 := by decide +kernel
  refine ⟨?_, ?_⟩
  · rw [fr_l hT hL (by decide) (by decide)]
    have e : ((0 : Int) + 1074).toNat = 1074 := rfl
    rw [e, Nat.mul_div_cancel _ (Nat.two_pow_pos 1074)]
  · obtain ⟨c, q, h1, -, -⟩ := fr_F hT hL (by decide) (by decide)
    exact nan_of (by rw [h1]; exact fun q => by cases q)
theorem fr_23 {T : Nat} (hT : T < 2 ^ 52) : FP.d2l (FP.dmul (FP.dsub (pd 1023 T) FP.dconst1) (FP.l2d ((1 : Int64) <<< ((23 : Int32).toInt64 &&& 63)))) = lN (T / 2 ^ 29) ∧ vf_n64 (FP.dmul (FP.dsub (pd 1023 T) FP.dconst1) (FP.l2d ((1 : Int64) <<< ((23 : Int32).toInt64 &&& 63)))) := by
  have hL : FP.Core.val64 (FP.l2d ((1 : Int64) <<< ((23 : Int32).toInt64 &&& 63))) = .fin false (2 ^ 52) (-29) := by decide +kernel
  refine ⟨?_, ?_⟩
  · rw [fr_l hT hL (by decide) (by decide)]
    have e : ((-29 : Int) + 1074).toNat = 1045 := rfl
    rw [e, show 2 ^ 1074 = 2 ^ 29 * 2 ^ 1045 from Nat.pow_add 2 29 1045, Nat.mul_div_mul_right _ _ (Nat.two_pow_pos 1045)]
  · obtain ⟨c, q, h1, -, -⟩ := fr_F hT hL (by decide) (by decide)
    exact nan_of (by rw [h1]; exact fun q => by cases q)
theorem fr_Dn {T : Nat} (hT : T < 2 ^ 52) : vf_n64 (FP.dsub (pd 1023 T) FP.dconst1) := by
  obtain ⟨c, q, h1, -, -⟩ := fr_D hT
  exact nan_of (by rw [h1]; exact fun q => by cases q)
/-- from the second loop on -/
theorem c_rbE {d p k : Nat} {x1 x2 x3 : Int32} {x6 : Int64} {v9 v10 v11 : Value} {T : Nat} {r : UInt64} {P : Option Value → mmMem → Prop} {μ : mmMem} (hp : mmKD p = 0) (hT : T < 2 ^ 52) (hk : k < 2000) (hr : μ.2.2 p 2 = r) (hr0 : FP.Core.val64 r ≠ .nan)
    (hn : vf_n64 (FP.dmul (FP.dsub (pd 1023 T) FP.dconst1) (FP.l2d ((1 : Int64) <<< (x1.toInt64 &&& 63)))))
    (h : P (some (.long (((if FP.Core.dkey r < 0 then ((1 : Int64) <<< (x3.toInt64 &&& 63)) else 0) ||| (x6 <<< (x1.toInt64 &&& 63))) ||| (FP.d2l (FP.dmul (FP.dsub (pd 1023 T) FP.dconst1) (FP.l2d ((1 : Int64) <<< (x1.toInt64 &&& 63)))))))) μ) :
    mmEnds d M_X0_realBits 81 [.ref p, .int x1, .int x2, .int x3, .double (pd 1023 T), .retAddr 7, .long x6, .retAddr 7, .int (nI k), v9, v10, v11] [] μ P := by
  refine s_X0_realBits_81 (by omega) hp ?_
  have z0 : FP.Core.val64 FP.dconst0 ≠ .nan := by decide +kernel
  have one : FP.Core.val64 FP.dconst1 ≠ .nan := by decide +kernel
  have k0 : FP.Core.dkey FP.dconst0 = 0 := by decide +kernel
  rw [hr, f_cmpN _ hr0 z0, f_cmpN _ (pd_nn (by decide) (by decide) hT) one]
  have hkey := (dSg_key hr0 z0).1
  rw [k0] at hkey
  have hone := (dSg_key (pd_nn (E := 1023) (by decide) (by decide) hT) one).1
  rw [pd_one, pd_key (by decide) hT, pd_key (by decide) (by decide)] at hone
  have last : ((0 : Int32) ≤ dSg r FP.dconst0 → P (some (.long (((0 : Int64) ||| (x6 <<< (x1.toInt64 &&& 63))) ||| (FP.d2l (FP.dmul (FP.dsub (pd 1023 T) FP.dconst1) (FP.l2d ((1 : Int64) <<< (x1.toInt64 &&& 63)))))))) μ) ∧ (¬ (0 : Int32) ≤ dSg r FP.dconst0 → P (some (.long ((((1 : Int64) <<< (x3.toInt64 &&& 63)) ||| (x6 <<< (x1.toInt64 &&& 63))) ||| (FP.d2l (FP.dmul (FP.dsub (pd 1023 T) FP.dconst1) (FP.l2d ((1 : Int64) <<< (x1.toInt64 &&& 63)))))))) μ) := by
    refine ⟨fun w => ?_, fun w => ?_⟩
    · rw [if_neg (fun e => absurd (hkey.mpr e) (Int32.not_lt.mpr w))] at h; exact h
    · rw [if_pos (hkey.mp (Int32.not_le.mp w))] at h; exact h
  refine ⟨fun w => absurd w (nI_ge (b := 2000) hk (by decide)), fun _ => ⟨fun _ => ⟨fr_Dn hT, hn, last⟩, fun w => absurd (hone.mp (Int32.not_le.mp w)) (by omega)⟩⟩
theorem lN_p1 (n : Nat) : lN n + 1 = lN (n + 1) := lN_1 n
theorem lN_m1 (n : Nat) : lN (n + 1) - 1 = lN n := lN_sub (a := n + 1) (b := 1) (by omega)
theorem c_rbL2 {d p : Nat} {x1 x2 x3 : Int32} {v9 v10 v11 : Value} {T b : Nat} {P : Option Value → mmMem → Prop} {μ : mmMem} (hp : mmKD p = 0) (hT : T < 2 ^ 52) (h : ∀ k, k < 2000 → mmEnds d M_X0_realBits 81 [.ref p, .int x1, .int x2, .int x3, .double (pd 1023 T), .retAddr 7, .long (lN b), .retAddr 7, .int (nI k), v9, v10, v11] [] μ P) : ∀ (n k : Nat), n < 1023 → k + n < 2000 → mmEnds d M_X0_realBits 81 [.ref p, .int x1, .int x2, .int x3, .double (pd (1023 - n) T), .retAddr 7, .long (lN (b + n)), .retAddr 7, .int (nI k), v9, v10, v11] [] μ P := by
  intro n
  induction n with
  | zero => intro k _ hk; exact h k hk
  | succ n ih =>
    intro k hn hk
    refine s_X0_realBits_81 (by omega) hp ?_
    have one : FP.Core.val64 FP.dconst1 ≠ .nan := by decide +kernel
    rw [f_cmpN _ (pd_nn (E := 1023 - (n + 1)) (by omega) (by omega) hT) one]
    have hone := (dSg_key (pd_nn (E := 1023 - (n + 1)) (by omega) (by omega) hT) one).1
    rw [pd_one, pd_key (by omega) hT, pd_key (by decide) (by decide)] at hone
    refine ⟨fun w => absurd w (nI_ge (b := 2000) (by omega) (by decide)), fun _ => ⟨fun w => absurd (hone.mpr (by omega)) (Int32.not_lt.mpr (by rw [pd_one] at w; exact w)), fun _ => ?_⟩⟩
    have e1 : FP.dmul (pd (1023 - (n + 1)) T) 4611686018427387904 = pd (1023 - n) T := by
      rw [pd_dmul (by omega) (by omega) hT]
      congr 1
      omega
    rw [e1, nI_1]
    refine ⟨nan_of (pd_nn (by omega) (by omega) hT), ?_⟩
    have e2 : lN (b + (n + 1)) - 1 = lN (b + n) := lN_m1 (b + n)
    rw [e2]
    exact ih (k + 1) (by omega) (by omega)
theorem c_rbL1 {d p : Nat} {x1 x2 x3 : Int32} {v9 v10 v11 : Value} {T : Nat} {P : Option Value → mmMem → Prop} {μ : mmMem} (hp : mmKD p = 0) (hT : T < 2 ^ 52) (F : Nat) (hF : 1 ≤ F ∧ F ≤ 1023) : ∀ (n b k : Nat), (n = 0 ∨ F = 1023) → F + n < 2047 → k + n < 2000 → mmEnds d M_X0_realBits 81 [.ref p, .int x1, .int x2, .int x3, .double (pd F T), .retAddr 7, .long (lN (b + n)), .retAddr 7, .int (nI 0), v9, v10, v11] [] μ P → mmEnds d M_X0_realBits 41 [.ref p, .int x1, .int x2, .int x3, .double (pd (F + n) T), .retAddr 7, .long (lN b), .retAddr 7, .int (nI k), v9, v10, v11] [] μ P := by
  intro n
  have two : FP.Core.val64 (4611686018427387904 : UInt64) ≠ .nan := by decide +kernel
  induction n with
  | zero =>
    intro b k hE h2 hk h
    have h1 : 1 ≤ F + 0 := by omega
    refine s_X0_realBits_41 (by omega) hp ?_
    rw [f_cmpN _ (pd_nn h1 h2 hT) two]
    have ht := (dSg_key (pd_nn h1 h2 hT) two).1
    rw [pd_two, pd_key h2 hT, pd_key (by decide) (by decide)] at ht
    refine ⟨fun w => absurd w (nI_ge (b := 2000) (by omega) (by decide)), fun _ => ⟨fun _ => h, fun w => absurd (ht.mpr (by omega)) (by rw [pd_two] at w; exact w)⟩⟩
  | succ n ih =>
    intro b k hE h2 hk h
    have h1 : 2 ≤ F + (n + 1) := by omega
    have hF2 : F = 1023 := by omega
    refine s_X0_realBits_41 (by omega) hp ?_
    rw [f_cmpN _ (pd_nn (by omega) h2 hT) two]
    have ht := (dSg_key (pd_nn (E := F + (n + 1)) (by omega) h2 hT) two).1
    rw [pd_two, pd_key h2 hT, pd_key (by decide) (by decide)] at ht
    refine ⟨fun w => absurd w (nI_ge (b := 2000) (by omega) (by decide)), fun _ => ⟨fun w => absurd (ht.mp (by rw [pd_two] at w; exact w)) (by omega), fun _ => ?_⟩⟩
    have e1 : FP.ddiv (pd (F + (n + 1)) T) 4611686018427387904 = pd (F + n) T := pd_ddiv h1 h2 hT
    rw [e1, nI_1, lN_p1]
    refine ⟨nan_of (pd_nn (by omega) (by omega) hT), ?_⟩
    refine ih (b + 1) (k + 1) (Or.inr hF2) (by omega) (by omega) ?_
    have e2 : b + 1 + n = b + (n + 1) := by omega
    rw [e2]
    exact h
theorem neg_pd {r : UInt64} {E T : Nat} (hE : E < 2047) (hm : r.toNat % 2 ^ 63 = E * 2 ^ 52 + T) (hT : T < 2 ^ 52) (hs : FP.Core.dkey r < 0) : FP.dneg r = pd E T := by
  have h1 := r.toNat_lt
  apply UInt64.toNat_inj.mp
  rw [pd_n hE hT]
  unfold FP.Core.dkey at hs
  have hge : 2 ^ 63 ≤ r.toNat := by
    refine Classical.byContradiction fun w => ?_
    rw [if_neg w] at hs
    omega
  unfold FP.dneg
  rw [UInt64.toNat_xor, show (0x8000000000000000 : UInt64).toNat = 2 ^ 63 from rfl]
  have hx : ∀ m, m < 2 ^ 63 → (m + 2 ^ 63) ^^^ 2 ^ 63 = m := fun m hm => by
    apply Nat.eq_of_testBit_eq
    intro i
    rw [Nat.testBit_xor, Nat.testBit_two_pow]
    by_cases hi : 63 = i
    · subst hi
      rw [Nat.testBit_lt_two_pow hm, Nat.add_comm, Nat.testBit_two_pow_add_eq, Nat.testBit_lt_two_pow hm]
      simp
    · rcases Nat.lt_or_ge i 63 with q | q
      · rw [Nat.add_comm, Nat.testBit_two_pow_add_gt q]
        simp [hi]
      · have h1 : m.testBit i = false := Nat.testBit_lt_two_pow (Nat.lt_of_lt_of_le hm (Nat.pow_le_pow_right (by decide) q))
        have h2 : (m + 2 ^ 63).testBit i = false := Nat.testBit_lt_two_pow (Nat.lt_of_lt_of_le (show m + 2 ^ 63 < 2 ^ 64 by omega) (Nat.pow_le_pow_right (by decide) (by omega)))
        rw [h1, h2]
        simp [hi]
  have e : r.toNat = (E * 2 ^ 52 + T) + 2 ^ 63 := by omega
  rw [e]
  exact hx _ (by omega)
theorem pos_pd {r : UInt64} {E T : Nat} (hE : E < 2047) (hm : r.toNat % 2 ^ 63 = E * 2 ^ 52 + T) (hT : T < 2 ^ 52) (hs : ¬ FP.Core.dkey r < 0) (hz : ¬ E * 2 ^ 52 + T = 0) : r = pd E T := by
  have h1 := r.toNat_lt
  apply UInt64.toNat_inj.mp
  rw [pd_n hE hT]
  unfold FP.Core.dkey at hs
  have hge : ¬ 2 ^ 63 ≤ r.toNat := by
    intro w
    rw [if_pos w] at hs
    omega
  omega
/-- the bits of a real that is no zero: the halving ends, and what is put together is said -/
theorem c_realW {d p E T b sb fb : Nat} {x1 x3 : Int32} {r : UInt64} {μ : mmMem} {K : Int64 → mmMem → Prop} (hd : 1 ≤ d) (hp : mmKD p = 0) (hr : μ.2.2 p 2 = r) (h1 : 1 ≤ E) (hE : E < 2047) (hT : T < 2 ^ 52) (hm : r.toNat % 2 ^ 63 = E * 2 ^ 52 + T) (hb : 1023 ≤ b + E) (hb2 : b < 2 ^ 31)
    (hn : vf_n64 (FP.dmul (FP.dsub (pd 1023 T) FP.dconst1) (FP.l2d ((1 : Int64) <<< (x1.toInt64 &&& 63)))))
    (h : K (((if FP.Core.dkey r < 0 then ((1 : Int64) <<< (x3.toInt64 &&& 63)) else 0) ||| (lN (b + E - 1023) <<< (x1.toInt64 &&& 63))) ||| (FP.d2l (FP.dmul (FP.dsub (pd 1023 T) FP.dconst1) (FP.l2d ((1 : Int64) <<< (x1.toInt64 &&& 63)))))) μ) : mmCJ d M_X0_realBits false 3 [.ref p, .int x1, .int (nI b), .int x3] μ K := by
  refine u_X0_realBits hd hp ?_
  have z0 : FP.Core.val64 FP.dconst0 ≠ .nan := by decide +kernel
  have k0 : FP.Core.dkey FP.dconst0 = 0 := by decide +kernel
  have hr0 : FP.Core.val64 r ≠ .nan := (FP.Core.ne_nan r).mpr (by omega)
  rw [hr, f_cmpN _ hr0 z0, f_cmpN _ hr0 z0]
  obtain ⟨q1, q2⟩ := dSg_key hr0 z0
  rw [k0] at q1 q2
  have nz : ¬ FP.Core.dkey r = 0 := by
    unfold FP.Core.dkey
    split <;> omega
  have eb : (nI b).toInt64 = lN b := nI_l hb2
  rw [eb]
  have go : mmEnds (d - 1) M_X0_realBits 41 [.ref p, .int x1, .int (nI b), .int x3, .double (pd E T), .retAddr 7, .long (lN b), .retAddr 7, .int (nI 0), .retAddr 7, .retAddr 7, .retAddr 7] [] μ (mmPJ K) := by
    rcases Nat.le_total 1023 E with hE2 | hE2
    · obtain ⟨n, rfl⟩ : ∃ n, E = 1023 + n := ⟨E - 1023, by omega⟩
      refine c_rbL1 hp hT 1023 (by decide) n b 0 (Or.inr rfl) hE (by omega) ?_
      refine c_rbE hp hT (by decide) hr hr0 hn ?_
      have e2 : b + (1023 + n) - 1023 = b + n := by omega
      rw [e2] at h
      exact h
    · refine c_rbL1 hp hT E ⟨h1, hE2⟩ 0 b 0 (Or.inl rfl) hE (by omega) ?_
      obtain ⟨n, hn2⟩ : ∃ n, 1023 = E + n := ⟨1023 - E, by omega⟩
      obtain ⟨c, rfl⟩ : ∃ c, b = c + n := ⟨b - n, by omega⟩
      have e2 : c + n + E - 1023 = c := by omega
      rw [e2] at h
      have e3 : pd (1023 - n) T = pd E T := by
        have : 1023 - n = E := by omega
        rw [this]
      rw [← e3]
      exact c_rbL2 hp hT (fun k hk => c_rbE hp hT hk hr hr0 hn h) n 0 (by omega) (by omega)
  refine ⟨fun _ => ⟨fun w => ?_, fun w => ?_⟩, fun w => absurd (q2.mp w) nz⟩
  · rw [pos_pd hE hm hT (fun e => absurd (q1.mpr e) (Int32.not_lt.mpr w)) (by omega)]
    exact go
  · rw [neg_pd hE hm hT (q1.mp (Int32.not_le.mp w))]
    exact go
theorem c_real0 {d p : Nat} {x1 x2 x3 : Int32} {μ : mmMem} {K : Int64 → mmMem → Prop} (hd : 1 ≤ d) (hp : mmKD p = 0) (hr : μ.2.2 p 2 = 0) (h : K 0 μ) : mmCJ d M_X0_realBits false 3 [.ref p, .int x1, .int x2, .int x3] μ K := by
  refine u_X0_realBits hd hp ?_
  have z0 : FP.Core.val64 FP.dconst0 ≠ .nan := by decide +kernel
  have zz : FP.Core.val64 0 ≠ .nan := by decide +kernel
  rw [hr, f_cmpN _ zz z0]
  have : dSg 0 FP.dconst0 = 0 := by decide +kernel
  rw [this]
  exact ⟨fun w => absurd rfl w, fun _ => h⟩
theorem c_real64 {d p : Nat} {r : UInt64} {μ : mmMem} {K : Int64 → mmMem → Prop} (hd : 1 ≤ d) (hp : mmKD p = 0) (hr : μ.2.2 p 2 = r) (ok : okW r) (h : K (ofD r) μ) : mmCJ d M_X0_realBits false 3 [.ref p, .int (52 : Int32), .int (1023 : Int32), .int (63 : Int32)] μ K := by
  rcases ok with rfl | ok
  · exact c_real0 hd hp hr h
  · obtain ⟨s, E, T, a1, a2, a3, a4, a5⟩ := nd64 (a := r) ok.1 ok.2
    obtain ⟨f1, f2⟩ := fr_52 a3
    refine c_realW (b := 1023) (sb := 63) (fb := 52) hd hp hr a1 a2 a3 a4 (by omega) (by decide) f2 ?_
    rw [f1]
    have e1 : lN (1023 + E - 1023) <<< ((52 : Int32).toInt64 &&& 63) = lN (E * 2 ^ 52) := by
      rw [show 1023 + E - 1023 = E by omega]
      exact wb_shl E (k := 52) (by decide)
    have e2 : (1 : Int64) <<< ((63 : Int32).toInt64 &&& 63) = lN (1 * 2 ^ 63) := wb_shl 1 (k := 63) (by decide)
    have e3 : lN (E * 2 ^ 52) ||| lN T = lN (E * 2 ^ 52 + T) := g_or rfl a3 (by omega)
    have hl := r.toNat_lt
    rw [e1, e2, Int64.or_assoc, e3]
    by_cases hs : FP.Core.dkey r < 0
    · rw [if_pos hs, g_or rfl (by omega) (by omega)]
      unfold FP.Core.dkey at hs
      have hge : 2 ^ 63 ≤ r.toNat := by
        refine Classical.byContradiction fun w => ?_
        rw [if_neg w] at hs
        omega
      have : lN (1 * 2 ^ 63 + (E * 2 ^ 52 + T)) = ofD r := by
        rw [show 1 * 2 ^ 63 + (E * 2 ^ 52 + T) = r.toNat by omega]
        show (UInt64.ofNat r.toNat).toInt64 = r.toInt64
        rw [UInt64.ofNat_toNat]
      rw [this]; exact h
    · rw [if_neg hs]
      have z : (0 : Int64) ||| lN (E * 2 ^ 52 + T) = lN (E * 2 ^ 52 + T) := Int64.zero_or
      rw [z]
      unfold FP.Core.dkey at hs
      have hge : ¬ 2 ^ 63 ≤ r.toNat := by
        intro w
        rw [if_pos w] at hs
        omega
      have : lN (E * 2 ^ 52 + T) = ofD r := by
        rw [show E * 2 ^ 52 + T = r.toNat by omega]
        show (UInt64.ofNat r.toNat).toInt64 = r.toInt64
        rw [UInt64.ofNat_toNat]
      rw [this]; exact h
theorem c_real32 {d p : Nat} {f : UInt32} {μ : mmMem} {K : Int64 → mmMem → Prop} (hd : 1 ≤ d) (hp : mmKD p = 0) (hr : μ.2.2 p 2 = FP.f2d f) (ok : okF f) (h : ∀ y : Int64, y.toInt32.toInt64 = ofF f → K y μ) : mmCJ d M_X0_realBits false 3 [.ref p, .int (23 : Int32), .int (127 : Int32), .int (31 : Int32)] μ K := by
  rw [f_f2dC ok] at hr
  rcases ok with rfl | ok
  · have : FP.Core.f2d 0 = 0 := by decide +kernel
    rw [this] at hr
    exact c_real0 hd hp hr (h 0 (by decide +kernel))
  · obtain ⟨s, E, T, a1, a2, a3, a4, a5⟩ := nd32 (a := f) (by omega) (by omega)
    have hv := f2dv a1 a2 a3 a5
    have hm := mag64 (by omega) (by omega) (by omega) hv
    obtain ⟨f1, f2⟩ := fr_23 (T := T * 2 ^ 29) (by omega)
    refine c_realW (b := 127) (sb := 31) (fb := 23) hd hp hr (E := E + 896) (T := T * 2 ^ 29) (by omega) (by omega) (by omega) hm (by omega) (by decide) f2 ?_
    rw [f1, Nat.mul_div_cancel _ (by decide)]
    have e1 : lN (127 + (E + 896) - 1023) <<< ((23 : Int32).toInt64 &&& 63) = lN (E * 2 ^ 23) := by
      rw [show 127 + (E + 896) - 1023 = E by omega]
      exact wb_shl E (k := 23) (by decide)
    have e2 : (1 : Int64) <<< ((31 : Int32).toInt64 &&& 63) = lN (1 * 2 ^ 31) := wb_shl 1 (k := 31) (by decide)
    have e3 : lN (E * 2 ^ 23) ||| lN T = lN (E * 2 ^ 23 + T) := g_or rfl a3 (by omega)
    have hl := f.toNat_lt
    have fin : ∀ n, n = f.toNat → (lN n).toInt32.toInt64 = ofF f := fun n e => by
      rw [lN_i, e]
      show (Int32.ofNat f.toNat).toInt64 = f.toInt32.toInt64
      congr 1
      show (UInt32.ofNat f.toNat).toInt32 = f.toInt32
      rw [UInt32.ofNat_toNat]
    have hsg : FP.Core.sgn (FP.Core.val64 (FP.Core.f2d f)) = decide (2 ^ 63 ≤ (FP.Core.f2d f).toNat) := FP.Core.sgn_bits (by rw [hv]; exact fun q => by cases q)
    have hsf : FP.Core.sgn (FP.Core.val32 f) = decide (2 ^ 31 ≤ f.toNat) := FP.Core.sgn_bits32 (by rw [a5]; exact fun q => by cases q)
    rw [hv] at hsg
    rw [a5] at hsf
    have s1 : ∀ (c : Nat) (q : Int), FP.Core.sgn (.fin s c q) = s := fun _ _ => rfl
    rw [s1] at hsg hsf
    have es : decide (2 ^ 63 ≤ (FP.Core.f2d f).toNat) = decide (2 ^ 31 ≤ f.toNat) := by rw [← hsg, ← hsf]
    have hd2 := (FP.Core.f2d f).toNat_lt
    rw [e1, e2, Int64.or_assoc, e3]
    by_cases hs : FP.Core.dkey (FP.Core.f2d f) < 0
    · rw [if_pos hs, g_or rfl (by omega) (by omega)]
      unfold FP.Core.dkey at hs
      have hge : 2 ^ 63 ≤ (FP.Core.f2d f).toNat := by
        refine Classical.byContradiction fun w => ?_
        rw [if_neg w] at hs
        omega
      rw [decide_eq_true hge] at es
      have hge2 : 2 ^ 31 ≤ f.toNat := of_decide_eq_true es.symm
      exact h _ (fin _ (by omega))
    · rw [if_neg hs]
      have z : (0 : Int64) ||| lN (E * 2 ^ 23 + T) = lN (E * 2 ^ 23 + T) := Int64.zero_or
      rw [z]
      unfold FP.Core.dkey at hs
      have hge : ¬ 2 ^ 63 ≤ (FP.Core.f2d f).toNat := by
        intro w
        rw [if_pos w] at hs
        omega
      rw [decide_eq_false hge] at es
      have hge2 : ¬ 2 ^ 31 ≤ f.toNat := of_decide_eq_false es.symm
      exact h _ (fin _ (by omega))
theorem c_bits {d p : Nat} {x : aC} {μ : mmMem} {K : Int64 → mmMem → Prop} (hd : 2 ≤ d) (hp : mmKD p = 0) (hx : clC μ p x) (ok : okC x) (h : K x.2 μ) : mmCJ d M_X0_bits false 0 [.ref p] μ K := by
  refine u_X0_bits (by omega) hp ?_
  obtain ⟨h1, h2, h3⟩ := hx
  rw [h1, h2]
  have ek6 : enK x = 6 ↔ x.1 = 6 := by
    unfold enK
    rcases ok.cases with w | w | w | w | w | w | w | w | w | w <;> rw [w] <;> decide
  have ek7 : enK x = 7 ↔ x.1 = 7 := by
    unfold enK
    rcases ok.cases with w | w | w | w | w | w | w | w | w | w <;> rw [w] <;> decide
  rw [ek6, ek7]
  clear ek6 ek7
  obtain ⟨s, n⟩ := x
  dsimp only
  refine ⟨fun n6 => ⟨fun n7 => ?_, fun e7 => ?_⟩, fun e6 => ?_⟩
  · have : enN (s, n) = n := by simp [enN, n6, n7]
    rw [this]; exact h
  · subst e7
    have okd : okD (bD n) := by simpa [okC] using ok
    refine c_real64 (r := bD n) (by omega) hp (by rw [h3]; simp [enR, aVal]) okd.W ?_
    exact h
  · subst e6
    have okf : ofF (bF n) = n ∧ okF (bF n) := by simpa [okC] using ok
    refine c_real32 (f := bF n) (by omega) hp (by rw [h3]; simp [enR, aVal]) okf.2 (fun y hy => ?_)
    rw [hy, okf.1]
    exact h
