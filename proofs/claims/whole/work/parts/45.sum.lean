/-! ===== sums of doubles keep their grid ===== -/
/-- a number of 2^g units, rounded, is one of them (or too great) -/
theorem gr_round (s : Bool) (k g : Nat) (hg : 1 ≤ g) : (∃ c q, FP.Core.roundRatio FP.Core.b64 s k 1 (FP.Core.b64.qmin + g) = .fin s c q ∧ 2 ^ g ∣ FP.Core.inUnits c q FP.Core.b64.qmin ∧ (k ≠ 0 → c ≠ 0)) ∨ FP.Core.roundRatio FP.Core.b64 s k 1 (FP.Core.b64.qmin + g) = .inf s := by
  by_cases hk : k = 0
  · subst hk
    exact Or.inl ⟨0, FP.Core.b64.qmin, rfl, by simp [FP.Core.inUnits], fun h => absurd rfl h⟩
  have hk0 : 0 < k := Nat.pos_of_ne_zero hk
  have hfit := FP.Core.roundRatio_fits FP.Core.good_b64 s k (B := 1) (by decide) (FP.Core.b64.qmin + g)
  have hq := FP.Core.quantum_ge FP.Core.b64 k 1 (FP.Core.b64.qmin + g)
  have hle := FP.Core.nearest_units_le (f := FP.Core.b64) hk0 (B := 1) (by decide) (FP.Core.b64.qmin + g)
  have h2t := FP.Core.two_tails FP.Core.good_b64
  have htp := FP.Core.tails_pos FP.Core.b64
  have e : FP.Core.roundRatio FP.Core.b64 s k 1 (FP.Core.b64.qmin + g) = FP.Core.roundAt FP.Core.b64 s k 1 (FP.Core.b64.qmin + g) (FP.Core.quantum FP.Core.b64 k 1 (FP.Core.b64.qmin + g)) := if_neg hk
  rw [e] at hfit ⊢
  generalize FP.Core.quantum FP.Core.b64 k 1 (FP.Core.b64.qmin + g) = q at hfit hq hle
  unfold FP.Core.roundAt at hfit ⊢
  generalize hc : FP.Core.nearest (FP.Core.unitsNum k (FP.Core.b64.qmin + g) q) (FP.Core.unitsDen 1 (FP.Core.b64.qmin + g) q) = c at hfit hle
  have key : 2 ^ g ∣ c * 2 ^ (q - FP.Core.b64.qmin).toNat ∧ (c ≠ 0 ∨ g ≤ (q - FP.Core.b64.qmin).toNat) := by
    by_cases hb : g ≤ (q - FP.Core.b64.qmin).toNat
    · exact ⟨Nat.dvd_trans (Nat.pow_dvd_pow 2 hb) (Nat.dvd_mul_left _ _), Or.inr hb⟩
    · have e1 : FP.Core.unitsDen 1 (FP.Core.b64.qmin + g) q = 1 := by
        unfold FP.Core.unitsDen
        rw [show (q - (FP.Core.b64.qmin + g)).toNat = 0 by omega]
      have e2 : FP.Core.unitsNum k (FP.Core.b64.qmin + g) q = k * 2 ^ (g - (q - FP.Core.b64.qmin).toNat) := by
        unfold FP.Core.unitsNum
        rw [show (FP.Core.b64.qmin + g - q).toNat = g - (q - FP.Core.b64.qmin).toNat by omega]
      rw [e1, e2] at hc
      have e3 := FP.Core.nearest_exact (B := 1) (k * 2 ^ (g - (q - FP.Core.b64.qmin).toNat)) (by decide)
      rw [Nat.mul_one] at e3
      rw [e3] at hc
      subst hc
      refine ⟨?_, Or.inl (Nat.ne_of_gt (Nat.mul_pos hk0 (Nat.two_pow_pos _)))⟩
      rw [Nat.mul_assoc, ← Nat.pow_add, show g - (q - FP.Core.b64.qmin).toNat + (q - FP.Core.b64.qmin).toNat = g by omega]
      exact Nat.dvd_mul_left _ _
  unfold FP.Core.settle FP.Core.bound at hfit ⊢
  by_cases h1 : c < 2 ^ FP.Core.b64.p
  · rw [if_pos h1] at hfit ⊢
    by_cases h3 : q ≤ FP.Core.b64.qmax
    · rw [if_pos h3] at hfit ⊢
      refine Or.inl ⟨c, q, rfl, key.1, fun _ => ?_⟩
      rcases key.2 with w | w
      · exact w
      · obtain ⟨-, -, -, f4⟩ := hfit
        rcases f4 with f4 | f4
        · rw [f4, Int.sub_self] at w
          exact absurd w (by simp; omega)
        · omega
    · rw [if_neg h3]
      exact Or.inr rfl
  · rw [if_neg h1] at hfit ⊢
    by_cases h3 : q + 1 ≤ FP.Core.b64.qmax
    · rw [if_pos h3]
      refine Or.inl ⟨_, _, rfl, ?_, fun _ => by omega⟩
      have e1 : c = 2 * FP.Core.b64.tails := by omega
      have e2 : FP.Core.inUnits FP.Core.b64.tails (q + 1) FP.Core.b64.qmin = c * 2 ^ (q - FP.Core.b64.qmin).toNat := by
        unfold FP.Core.inUnits
        rw [e1, show (q + 1 - FP.Core.b64.qmin).toNat = (q - FP.Core.b64.qmin).toNat + 1 by omega, Nat.pow_succ, Nat.mul_comm (2 ^ _) 2, ← Nat.mul_assoc, Nat.mul_comm FP.Core.b64.tails 2]
      rw [e2]
      exact key.1
    · rw [if_neg h3]
      exact Or.inr rfl
def gG : Nat := 1020
/-- a double of the grid: a number of 2^gG units, and zero is + -/
def grD (r : UInt64) : Prop := 2 ^ gG ∣ FP.Core.unitsOf FP.Core.b64 (r.toNat % 2 ^ 63) ∧ (r.toNat % 2 ^ 63 = 0 → r = 0)
theorem grD_zero : grD 0 := ⟨by rw [show (0 : UInt64).toNat % 2 ^ 63 = 0 from rfl, FP.Core.unitsOf_zero]; exact Nat.dvd_zero _, fun _ => rfl⟩
theorem grD_norm {r : UInt64} (h : 1021 * 2 ^ 52 ≤ r.toNat % 2 ^ 63) : grD r := by
  refine ⟨?_, fun e => by omega⟩
  generalize r.toNat % 2 ^ 63 = m at h
  unfold FP.Core.unitsOf
  rw [FP.Core.tails_b64, if_neg (by omega)]
  refine Nat.dvd_trans (Nat.pow_dvd_pow 2 ?_) (Nat.dvd_mul_left _ _)
  have : 1021 ≤ m / 2 ^ 52 := (Nat.le_div_iff_mul_le (by decide)).mpr h
  unfold gG
  omega
theorem grD_low {r : UInt64} (h : grD r) : r = 0 ∨ 2 ^ 52 ≤ r.toNat % 2 ^ 63 := by
  obtain ⟨h1, h2⟩ := h
  by_cases z : r.toNat % 2 ^ 63 = 0
  · exact Or.inl (h2 z)
  · right
    generalize r.toNat % 2 ^ 63 = m at h1 z
    apply Nat.le_of_not_lt
    intro w
    unfold FP.Core.unitsOf at h1
    rw [FP.Core.tails_b64, if_pos w] at h1
    have h3 := Nat.le_of_dvd (Nat.pos_of_ne_zero z) h1
    have h4 : 2 ^ 52 ≤ 2 ^ gG := Nat.pow_le_pow_right (by decide) (by decide)
    exact absurd (Nat.lt_of_lt_of_le w h4) (Nat.not_lt.mpr h3)
theorem gr_sum {a b : UInt64} {K : Nat} (ga : grD a) (gb : grD b) (ha : a.toNat % 2 ^ 63 < K * 2 ^ 52) (hb : b.toNat % 2 ^ 63 < K * 2 ^ 52) (hK : K + 2 ≤ 2047) : grD (FP.Core.dadd a b) ∧ (FP.Core.dadd a b).toNat % 2 ^ 63 < (K + 2) * 2 ^ 52 := by
  have hm := FP.Core.dadd_mag ha hb (by omega)
  refine ⟨?_, hm⟩
  have fa := FP.Core.fin_of_lt ha (by omega)
  have fb := FP.Core.fin_of_lt hb (by omega)
  have fr := FP.Core.fin_of_lt hm hK
  have na : FP.Core.val64 a ≠ .nan := fa.ne_nan
  have nb : FP.Core.val64 b ≠ .nan := fb.ne_nan
  have nr : FP.Core.val64 (FP.Core.dadd a b) ≠ .nan := fr.ne_nan
  have za := FP.Core.zmag_bits na
  have zb := FP.Core.zmag_bits nb
  have zr := FP.Core.zmag_bits nr
  have hfa := FP.Core.val64_fits a
  have hfb := FP.Core.val64_fits b
  have hr := FP.Core.val64_dadd a b
  obtain ⟨s, c, q, ea⟩ := fa
  obtain ⟨t, d, p, eb⟩ := fb
  rw [ea] at za hfa hr
  rw [eb] at zb hfb hr
  obtain ⟨sg, n, e, x1, x2, x3⟩ := FP.Core.sum_units hfa hfb
  have xs : sg = FP.Core.sumSign s t (FP.Core.sumUnits s c q t d p (min q p)) ∧ n = (FP.Core.sumUnits s c q t d p (min q p)).natAbs := by
    have w := x1
    unfold FP.Core.exactSum at w
    injection w with w1 w2 w3
    exact ⟨w1.symm, w2.symm⟩
  rw [x1] at hr
  have da : 2 ^ gG ∣ FP.Core.zmag FP.Core.b64 (.fin s c q) := by rw [za]; exact ga.1
  have db : 2 ^ gG ∣ FP.Core.zmag FP.Core.b64 (.fin t d p) := by rw [zb]; exact gb.1
  have dn : 2 ^ gG ∣ FP.Core.inUnits n e FP.Core.b64.qmin := by
    have w := congrArg Int.natAbs x3
    rw [FP.Core.natAbs_signed] at w
    rw [w]
    have sd : ∀ (u : Bool) (N : Nat), 2 ^ gG ∣ N → ((2 ^ gG : Nat) : Int) ∣ FP.Core.signed u N := fun u N hN => by
      unfold FP.Core.signed
      have := Int.natCast_dvd_natCast.mpr hN
      split
      · exact Int.dvd_neg.mpr this
      · exact this
    exact Int.ofNat_dvd_left.mp (Int.dvd_add (sd _ _ da) (sd _ _ db))
  obtain ⟨k, hk⟩ := dn
  have hr2 : FP.Core.val64 (FP.Core.dadd a b) = FP.Core.roundRatio FP.Core.b64 sg k 1 (FP.Core.b64.qmin + (gG : Nat)) := by
    rw [hr]
    show FP.Core.roundRatio FP.Core.b64 sg n 1 e = _
    rw [FP.Core.roundRatio_congr (A' := FP.Core.inUnits n e FP.Core.b64.qmin) (B' := 1) (e' := FP.Core.b64.qmin) (by decide) (by decide) (by
      unfold FP.Core.inUnits
      rw [show (FP.Core.b64.qmin - e).toNat = 0 by omega]
      simp)]
    refine FP.Core.roundRatio_congr (by decide) (by decide) ?_
    rw [hk, show (FP.Core.b64.qmin - (FP.Core.b64.qmin + (gG : Nat))).toNat = 0 by omega, show (FP.Core.b64.qmin + ((gG : Nat) : Int) - FP.Core.b64.qmin).toNat = gG by omega, Nat.mul_one, Nat.mul_one, Nat.mul_one k, Nat.mul_comm]
  rcases gr_round sg k gG (by decide) with ⟨c2, q2, y1, y2, y3⟩ | y
  · rw [y1] at hr2
    rw [hr2] at zr
    have zr2 : FP.Core.inUnits c2 q2 FP.Core.b64.qmin = FP.Core.unitsOf FP.Core.b64 ((FP.Core.dadd a b).toNat % 2 ^ 63) := zr
    refine ⟨by rw [← zr2]; exact y2, fun hz => ?_⟩
    rw [hz, FP.Core.unitsOf_zero] at zr2
    have c20 : c2 = 0 := by
      unfold FP.Core.inUnits at zr2
      rcases Nat.mul_eq_zero.mp zr2 with w | w
      · exact w
      · exact absurd w (Nat.ne_of_gt (Nat.two_pow_pos _))
    have k0 : k = 0 := Classical.not_not.mp fun w => y3 w c20
    subst k0
    rw [Nat.mul_zero] at hk
    rw [hk] at x3
    have sg0 : sg = false := by
      cases hs : sg with
      | false => rfl
      | true =>
        exfalso
        rw [hs] at xs
        have n0 : n = 0 := by
          unfold FP.Core.inUnits at hk
          rcases Nat.mul_eq_zero.mp hk with w | w
          · exact w
          · exact absurd w (Nat.ne_of_gt (Nat.two_pow_pos _))
        have u0 : FP.Core.sumUnits s c q t d p (min q p) = 0 := Int.natAbs_eq_zero.mp (xs.2.symm.trans n0)
        have w := xs.1
        rw [u0] at w
        have w2 : (s && t) = true := w.symm
        have hs1 : s = true := by revert w2; cases s <;> simp
        subst hs1
        have ht1 : t = true := by revert w2; cases t <;> simp
        subst ht1
        have x4 : FP.Core.zval FP.Core.b64 (.fin true c q) + FP.Core.zval FP.Core.b64 (.fin true d p) = 0 := by rw [← x3]; exact FP.Core.signed_zero _
        have v1 : FP.Core.zval FP.Core.b64 (.fin true c q) = -(FP.Core.zmag FP.Core.b64 (.fin true c q) : Int) := rfl
        have v2 : FP.Core.zval FP.Core.b64 (.fin true d p) = -(FP.Core.zmag FP.Core.b64 (.fin true d p) : Int) := rfl
        rw [v1, v2] at x4
        have v3 : FP.Core.zmag FP.Core.b64 (.fin true c q) = 0 := by omega
        rw [za] at v3
        have a0 := ga.2 (FP.Core.unitsOf_eq_zero.mp v3)
        rw [a0] at ea
        have : FP.Core.val64 0 = .fin false 0 FP.Core.b64.qmin := FP.Core.val64_dconst0
        rw [this] at ea
        exact absurd ea (by simp)
    have q20 : q2 = FP.Core.b64.qmin := by
      have f := FP.Core.val64_fits (FP.Core.dadd a b)
      rw [hr2, c20] at f
      exact FP.Core.fits_zero_q FP.Core.good_b64 f
    have e1 : FP.Core.val64 (FP.Core.dadd a b) = FP.Core.val64 0 := by
      rw [hr2, c20, q20, sg0]
      exact FP.Core.val64_dconst0.symm
    exact FP.Core.val64_inj nr e1
  · rw [y] at hr2
    obtain ⟨s3, c3, q3, e3⟩ := fr
    rw [e3] at hr2
    exact absurd hr2 (by simp)
/-! ===== the class: sums of groups ===== -/
abbrev isSm (f g : Nat → aC) (l : List Nat) (a p : Nat) : Prop := f (rowAt l a) = f (rowAt l p) ∧ aFam (g (rowAt l p)) = 1
def sumCs (f g : Nat → aC) (l : List Nat) (a : Nat) : Nat → Nat → List aC
  | 0, _ => []
  | j + 1, p => if isSm f g l a p then g (rowAt l p) :: sumCs f g l a j (p + 1) else sumCs f g l a j (p + 1)
def sumW : List aC → Int64 → Option Int64
  | [], n => some n
  | x :: t, n => if (0 : Int32) ≤ lg_cmp ((n ^^^ (n + x.2)) &&& (x.2 ^^^ (n + x.2))) 0 then sumW t (n + x.2) else none
def sumR : List aC → UInt64 → UInt64
  | [], n => n
  | x :: t, n => sumR t (FP.dadd n (aVal x))
def anyR (l : List aC) : Bool := l.any fun x => !decide (x.1 < 6)
def ansW (S : aS) : Option Int64 → Int32 × aS
  | none => (-15, S)
  | some n => (5, sGot S n)
def sp_sum (v c i e : Int32) (S : aS) : Int32 × aS := if noView v then (-1, S) else withC2 S c e fun _ x _ y =>
  match nthP (pLead x.2.2 (getV S.1 v.toNatClampNeg)) i (getV S.1 v.toNatClampNeg).length 0 0 with
  | none => (-1, S)
  | some a => if anyR (sumCs x.2.2 y.2.2 (getV S.1 v.toNatClampNeg) a ((getV S.1 v.toNatClampNeg).length - a) a) = true then (7, sGot S (ofD (sumR (sumCs x.2.2 y.2.2 (getV S.1 v.toNatClampNeg) a ((getV S.1 v.toNatClampNeg).length - a) a) 0))) else ansW S (sumW (sumCs x.2.2 y.2.2 (getV S.1 v.toNatClampNeg) a ((getV S.1 v.toNatClampNeg).length - a) a) 0)
theorem aFam_1 {x : aC} (h : aFam x = 1) : x.1 ≠ -1 ∧ x.1 ≠ 0 ∧ x.1 ≠ 8 := by
  unfold aFam at h
  refine ⟨fun e => ?_, fun e => ?_, fun e => ?_⟩
  · rw [if_pos e] at h; exact absurd h (by decide)
  · rw [if_neg (by rw [e]; decide), if_neg (by rw [e]; decide), if_pos e] at h; exact absurd h (by decide)
  · rw [if_neg (by rw [e]; decide), if_pos e] at h; exact absurd h (by decide)
theorem enR_1 {x : aC} (h : aFam x = 1) : enR x = aVal x := by
  obtain ⟨h1, h2, h3⟩ := aFam_1 h
  unfold enR
  rw [if_neg (by rintro (w | w | w); exact h1 w; exact h2 w; exact h3 w)]
theorem c_smd {d v k l a p : Nat} {S : aS} {x y : aCol} {μ : mmMem} {A B : mmMem → Prop} (hd : 2 ≤ d) (hx : S.1.2.1[k]? = some x) (hy : S.1.2.1[l]? = some y) (hv : v < 2) (ha : a < (getV S.1 v).length) (hp : p < (getV S.1 v).length) (hC : CS μ S) (hA : ∀ ν, scr μ ν → ¬ isSm x.2.2 y.2.2 (getV S.1 v) a p → A ν) (hB : ∀ ν, scr μ ν → clC ν 152 (y.2.2 (rowAt (getV S.1 v) p)) → okC (y.2.2 (rowAt (getV S.1 v) p)) → isSm x.2.2 y.2.2 (getV S.1 v) a p → B ν) : mmCI d M_X7_isSame false 3 [.ref 0, .ref (7 + 4 * k), .int (nI (rowAt (getV S.1 v) a)), .int (nI (rowAt (getV S.1 v) p))] μ fun y10 ν9 => (¬ y10 = (0 : Int32) → mmC0 d M_X1_load false 2 [.ref (7 + 4 * l), .int (ν9.1 (55 + 2 * v + 1) p), .ref 152] ν9 fun ν15 => mmCI d M_X0_isNumber false 0 [.ref 152] ν15 fun y17 ν16 => (y17 = 0 ∨ y17 = 1) ∧ ((y17 = (0 : Int32) → A ν16) ∧ (¬ y17 = (0 : Int32) → B ν16))) ∧ (y10 = (0 : Int32) → A ν9) := by
  have okv := hC.2.1.vw v
  have hln := okv.len
  have h40 := hC.2.1.1
  have h12 := hC.2.1.2.1
  have hkl := lt_of_get hx
  have hll := lt_of_get hy
  have e1 := rowAt_get (l := getV S.1 v) (p := a) ha
  have e2 := rowAt_get (l := getV S.1 v) (p := p) hp
  have hr := okv.2 _ (List.mem_of_getElem? e2)
  refine c_sameRows (by omega) (kcol k (by omega)).1 (by omega) (hC.colC hx) (hC.okCol hx) h40 (okv.2 _ (List.mem_of_getElem? e1)) hr (fun ν s1 _ => ?_)
  have hC1 := hC.scr s1
  have okx := ((hC.okCol hy).2.2 _ hr).1
  by_cases z : x.2.2 (rowAt (getV S.1 v) a) = x.2.2 (rowAt (getV S.1 v) p)
  · rw [if_pos z]
    refine ⟨fun _ => ?_, fun w => absurd w (by decide)⟩
    rw [(hC1.1.vw hv).2 p _ e2]
    refine c_load (by omega) (kcol l (by omega)).1 kd_152 (hC1.colC hy) hr h40 ?_
    have s2 := setC_scr ν 152 (y.2.2 (rowAt (getV S.1 v) p)) (by decide) (by decide)
    refine c_isNumber (by omega) kd_152 (setC_cl _ _ _) okx ?_
    by_cases w : aFam (y.2.2 (rowAt (getV S.1 v) p)) = 1
    · rw [if_pos w]
      exact ⟨Or.inr rfl, fun q => absurd q (by decide), fun _ => hB _ (s1.trans s2) (setC_cl _ _ _) okx ⟨z, w⟩⟩
    · rw [if_neg w]
      exact ⟨Or.inl rfl, fun _ => hA _ (s1.trans s2) (fun q => w q.2), fun q => absurd rfl q⟩
  · rw [if_neg z]
    exact ⟨fun q => absurd rfl q, fun _ => hA _ s1 (fun q => z q.1)⟩
theorem sumCs_s {f g : Nat → aC} {l : List Nat} {a j p : Nat} : sumCs f g l a (j + 1) p = if isSm f g l a p then g (rowAt l p) :: sumCs f g l a j (p + 1) else sumCs f g l a j (p + 1) := rfl
theorem c_hasRealsE {d v k l a : Nat} {S : aS} {x y : aCol} {P : Option Value → mmMem → Prop} (hd : 3 ≤ d) (hv : v < 2) (hx : S.1.2.1[k]? = some x) (hy : S.1.2.1[l]? = some y) (ha : a < (getV S.1 v).length) (ans : Bool) : ∀ (j p : Nat) (μ : mmMem), (getV S.1 v).length - p = j → p ≤ (getV S.1 v).length → CS μ S → ans = anyR (sumCs x.2.2 y.2.2 (getV S.1 v) a j p) → (∀ ν, scr μ ν → P (some (.int (if ans = true then 1 else 0))) ν) → mmEnds d M_X7_hasReals 3 [.ref 0, .ref (55 + 2 * v), .ref (7 + 4 * k), .int (nI a), .ref (7 + 4 * l), .int (nI p)] [] μ P := by
  intro j
  induction j with
  | zero =>
    intro p μ hj hp hC he h
    have hln := (hC.2.1.vw v).len
    have h40 := hC.2.1.1
    have h12 := hC.2.1.2.1
    have hkl := lt_of_get hx
    have hll := lt_of_get hy
    refine s_X7_hasReals_3 (by omega) (kvw v hv).1 (kcol k (by omega)).1 (kcol l (by omega)).1 ?_
    rw [(hC.1.vw hv).1]
    have e : ans = false := he
    rw [e, if_neg (by decide)] at h
    exact ⟨fun _ => h μ (scr.refl μ), fun w => absurd (nI_le (by omega) (by omega)) w⟩
  | succ j ih =>
    intro p μ hj hp hC he h
    have hln := (hC.2.1.vw v).len
    have h40 := hC.2.1.1
    have h12 := hC.2.1.2.1
    have hkl := lt_of_get hx
    have hll := lt_of_get hy
    have hvw := hC.1.vw hv
    have e1 := rowAt_get (l := getV S.1 v) (p := a) ha
    have e2 := rowAt_get (l := getV S.1 v) (p := p) (by omega)
    refine s_X7_hasReals_3 (by omega) (kvw v hv).1 (kcol k (by omega)).1 (kcol l (by omega)).1 ?_
    rw [hvw.1, nI_clamp (by omega), nI_clamp (by omega), hvw.2 a _ e1, hvw.2 p _ e2, nI_1]
    refine ⟨fun w => absurd w (nI_ge (by omega) (by omega)), fun _ => ⟨vp_in_nI (by omega) (by decide), vp_in_nI (by omega) (by decide), ?_⟩⟩
    rw [sumCs_s] at he
    refine c_smd (by omega) hx hy hv ha (by omega) hC (fun ν s1 w => ?_) (fun ν s1 hcl okx w => ?_)
    · rw [if_neg w] at he
      exact ih (p + 1) ν (by omega) (by omega) (hC.scr s1) he (fun ν2 s2 => h ν2 (s1.trans s2))
    · rw [if_pos w] at he
      refine c_isWhole (by omega) kd_152 hcl okx ?_
      by_cases z : (y.2.2 (rowAt (getV S.1 v) p)).1 < 6
      · rw [if_pos ⟨w.2, z⟩]
        refine ⟨fun _ => ih (p + 1) ν (by omega) (by omega) (hC.scr s1) ?_ (fun ν2 s2 => h ν2 (s1.trans s2)), fun q => absurd q (by decide)⟩
        rw [he]
        simp [anyR, z]
      · rw [if_neg (fun q => z q.2)]
        refine ⟨fun q => absurd rfl q, fun _ => ?_⟩
        have e : ans = true := by
          rw [he]
          simp [anyR, z]
        rw [e, if_pos rfl] at h
        exact h ν s1
theorem c_hasReals {d v k l a : Nat} {S : aS} {x y : aCol} {μ : mmMem} {K : Int32 → mmMem → Prop} (hd : 4 ≤ d) (hv : v < 2) (hx : S.1.2.1[k]? = some x) (hy : S.1.2.1[l]? = some y) (ha : a < (getV S.1 v).length) (hC : CS μ S) (h : ∀ ν, scr μ ν → K (if anyR (sumCs x.2.2 y.2.2 (getV S.1 v) a ((getV S.1 v).length - a) a) = true then 1 else 0) ν) : mmCI d M_X7_hasReals false 4 [.ref 0, .ref (55 + 2 * v), .ref (7 + 4 * k), .int (nI a), .ref (7 + 4 * l)] μ K := by
  have h12 := hC.2.1.2.1
  have hkl := lt_of_get hx
  have hll := lt_of_get hy
  refine u_X7_hasReals (by omega) (kvw v hv).1 (kcol k (by omega)).1 (kcol l (by omega)).1 ?_
  exact c_hasRealsE (by omega) hv hx hy ha _ _ a μ rfl (by omega) hC rfl (fun ν s => h ν s)
theorem c_sumWholesE {d v k l a : Nat} {S : aS} {x y : aCol} {P : Option Value → mmMem → Prop} (hd : 3 ≤ d) (hv : v < 2) (hx : S.1.2.1[k]? = some x) (hy : S.1.2.1[l]? = some y) (ha : a < (getV S.1 v).length) (o : Option Int64) : ∀ (j p : Nat) (n : Int64) (μ : mmMem) (v8 v9 : Value), (getV S.1 v).length - p = j → p ≤ (getV S.1 v).length → CS μ S → anyR (sumCs x.2.2 y.2.2 (getV S.1 v) a j p) = false → o = sumW (sumCs x.2.2 y.2.2 (getV S.1 v) a j p) n → (∀ ν, CS ν (ansW S o).2 → hiE μ ν → P (some (.int (ansW S o).1)) ν) → mmEnds d M_X7_sumWholes 6 [.ref 0, .ref (55 + 2 * v), .ref (7 + 4 * k), .int (nI a), .ref (7 + 4 * l), .long n, .retAddr 7, .int (nI p), v8, v9] [] μ P := by
  intro j
  induction j with
  | zero =>
    intro p n μ v8 v9 hj hp hC hn he h
    have hln := (hC.2.1.vw v).len
    have h40 := hC.2.1.1
    have h12 := hC.2.1.2.1
    have hkl := lt_of_get hx
    have hll := lt_of_get hy
    refine s_X7_sumWholes_6 (by omega) (kvw v hv).1 (kcol k (by omega)).1 (kcol l (by omega)).1 ?_
    rw [(hC.1.vw hv).1]
    have e : o = some n := he
    rw [e] at h
    refine ⟨fun _ => h _ (hC.got n) (fun q hq => ?_), fun w => absurd (nI_le (by omega) (by omega)) w⟩
    have : q ≠ 0 := by omega
    simp [eq3, sJ, this]
  | succ j ih =>
    intro p n μ v8 v9 hj hp hC hn he h
    have hln := (hC.2.1.vw v).len
    have h40 := hC.2.1.1
    have h12 := hC.2.1.2.1
    have hkl := lt_of_get hx
    have hll := lt_of_get hy
    have hvw := hC.1.vw hv
    have e1 := rowAt_get (l := getV S.1 v) (p := a) ha
    have e2 := rowAt_get (l := getV S.1 v) (p := p) (by omega)
    refine s_X7_sumWholes_6 (by omega) (kvw v hv).1 (kcol k (by omega)).1 (kcol l (by omega)).1 ?_
    rw [hvw.1, nI_clamp (by omega), nI_clamp (by omega), hvw.2 a _ e1, hvw.2 p _ e2, nI_1]
    refine ⟨fun w => absurd w (nI_ge (by omega) (by omega)), fun _ => ⟨vp_in_nI (by omega) (by decide), vp_in_nI (by omega) (by decide), ?_⟩⟩
    rw [sumCs_s] at he hn
    refine c_smd (by omega) hx hy hv ha (by omega) hC (fun ν s1 w => ?_) (fun ν s1 hcl okx w => ?_)
    · rw [if_neg w] at he hn
      exact ih (p + 1) n ν _ _ (by omega) (by omega) (hC.scr s1) hn he (fun ν2 c2 s2 => h ν2 c2 (s1.hi.trans s2))
    · rw [if_pos w] at he hn
      have hn2 : (y.2.2 (rowAt (getV S.1 v) p)).1 < 6 ∧ anyR (sumCs x.2.2 y.2.2 (getV S.1 v) a j (p + 1)) = false := by
        simpa [anyR] using hn
      have h6 : ¬ ((y.2.2 (rowAt (getV S.1 v) p)).1 = 6 ∨ (y.2.2 (rowAt (getV S.1 v) p)).1 = 7) := by
        rintro (q | q) <;> rw [q] at hn2 <;> exact absurd hn2.1 (by decide)
      have hnn : ν.2.1 152 1 = (y.2.2 (rowAt (getV S.1 v) p)).2 := by
        rw [hcl.2.1]
        exact if_neg h6
      rw [hnn]
      unfold sumW at he
      refine ⟨fun q => ?_, fun q => ?_⟩
      · rw [if_pos q] at he
        exact ih (p + 1) _ ν _ _ (by omega) (by omega) (hC.scr s1) hn2.2 he (fun ν2 c2 s2 => h ν2 c2 (s1.hi.trans s2))
      · rw [if_neg q] at he
        rw [he] at h
        exact h ν (hC.scr s1) s1.hi
theorem gb_mono {n a b : Nat} (h : n < a * 2 ^ 52) (hab : a ≤ b) : n < b * 2 ^ 52 := Nat.lt_of_lt_of_le h (Nat.mul_le_mul_right _ hab)
theorem grD_ok {r : UInt64} (h : okD r) : grD r ∧ r.toNat % 2 ^ 63 < 1089 * 2 ^ 52 := by
  rcases h with rfl | h
  · exact ⟨grD_zero, by decide⟩
  · exact ⟨grD_norm h.1, by omega⟩
theorem c_sumRealsE {d v k l a : Nat} {S : aS} {x y : aCol} {P : Option Value → mmMem → Prop} (hd : 3 ≤ d) (hv : v < 2) (hx : S.1.2.1[k]? = some x) (hy : S.1.2.1[l]? = some y) (ha : a < (getV S.1 v).length) (o : UInt64) : ∀ (j p : Nat) (n : UInt64) (μ : mmMem), (getV S.1 v).length - p = j → p ≤ (getV S.1 v).length → CS μ S → grD n → n.toNat % 2 ^ 63 < (1089 + 2 * p) * 2 ^ 52 → o = sumR (sumCs x.2.2 y.2.2 (getV S.1 v) a j p) n → (∀ ν, CS ν (sGot S (ofD o)) → hiE μ ν → P (some (.int 7)) ν) → mmEnds d M_X7_sumReals 6 [.ref 0, .ref (55 + 2 * v), .ref (7 + 4 * k), .int (nI a), .ref (7 + 4 * l), .double n, .retAddr 7, .int (nI p)] [] μ P := by
  intro j
  induction j with
  | zero =>
    intro p n μ hj hp hC hg hb he h
    have hln := (hC.2.1.vw v).len
    have h40 := hC.2.1.1
    have h12 := hC.2.1.2.1
    have hkl := lt_of_get hx
    have hll := lt_of_get hy
    refine s_X7_sumReals_6 (by omega) (kvw v hv).1 (kcol k (by omega)).1 (kcol l (by omega)).1 ?_
    rw [(hC.1.vw hv).1]
    have e : o = n := he
    subst e
    refine ⟨fun _ => ?_, fun w => absurd (nI_le (by omega) (by omega)) w⟩
    have s1 : scr μ (sD (sJ (sI μ 152 0 (7 : Int32)) 152 1 (0 : Int64)) 152 2 o) := by
      refine ⟨fun q hq => ?_, by simp [sI, sJ, sD]⟩
      have : q ≠ 152 := by omega
      simp [eq3, sI, sJ, sD, this]
    refine u_X0_bits (by omega) kd_152 ?_
    have k7 : (sD (sJ (sI μ 152 0 (7 : Int32)) 152 1 (0 : Int64)) 152 2 o).1 152 0 = 7 := by simp [sI, sJ, sD, upd]
    have kr : (sD (sJ (sI μ 152 0 (7 : Int32)) 152 1 (0 : Int64)) 152 2 o).2.2 152 2 = o := by simp [sI, sJ, sD, vf_upd]
    rw [k7]
    refine ⟨fun _ => ⟨fun w => absurd rfl w, fun _ => ?_⟩, fun w => absurd w (by decide)⟩
    have okw : okW o := by
      rcases grD_low hg with w | w
      · exact Or.inl w
      · exact Or.inr ⟨w, gb_mono hb (by omega)⟩
    refine c_real64 (r := o) (by omega) kd_152 kr okw ?_
    exact h _ ((hC.scr s1).got _) (fun q hq => (s1.hi q hq).trans (by
      have : q ≠ 0 := by omega
      simp [eq3, sJ, this]))
  | succ j ih =>
    intro p n μ hj hp hC hg hb he h
    have hln := (hC.2.1.vw v).len
    have h40 := hC.2.1.1
    have h12 := hC.2.1.2.1
    have hkl := lt_of_get hx
    have hll := lt_of_get hy
    have hvw := hC.1.vw hv
    have e1 := rowAt_get (l := getV S.1 v) (p := a) ha
    have e2 := rowAt_get (l := getV S.1 v) (p := p) (by omega)
    refine s_X7_sumReals_6 (by omega) (kvw v hv).1 (kcol k (by omega)).1 (kcol l (by omega)).1 ?_
    rw [hvw.1, nI_clamp (by omega), nI_clamp (by omega), hvw.2 a _ e1, hvw.2 p _ e2, nI_1]
    refine ⟨fun w => absurd w (nI_ge (by omega) (by omega)), fun _ => ⟨vp_in_nI (by omega) (by decide), vp_in_nI (by omega) (by decide), ?_⟩⟩
    rw [sumCs_s] at he
    refine c_smd (by omega) hx hy hv ha (by omega) hC (fun ν s1 w => ?_) (fun ν s1 hcl okx w => ?_)
    · rw [if_neg w] at he
      exact ih (p + 1) n ν (by omega) (by omega) (hC.scr s1) hg (gb_mono hb (by omega)) he (fun ν2 c2 s2 => h ν2 c2 (s1.hi.trans s2))
    · rw [if_pos w] at he
      unfold sumR at he
      rw [hcl.2.2, enR_1 w.2]
      obtain ⟨g1, g2⟩ := grD_ok okx.val
      obtain ⟨g3, g4⟩ := gr_sum (K := 1089 + 2 * p) hg g1 hb (gb_mono g2 (by omega)) (by omega)
      have g5 : (FP.dadd n (aVal (y.2.2 (rowAt (getV S.1 v) p)))).toNat % 2 ^ 63 < (1089 + 2 * p + 2) * 2 ^ 52 := g4
      exact ⟨f_n64' (Nat.le_of_lt (gb_mono (b := 2047) g5 (by omega))), ih (p + 1) _ ν (by omega) (by omega) (hC.scr s1) g3 (gb_mono g5 (by omega)) he (fun ν2 c2 s2 => h ν2 c2 (s1.hi.trans s2))⟩
theorem c_sum {d : Nat} {v c i e : Int32} {S : aS} {μ : mmMem} {K : Int32 → mmMem → Prop} (hd : 7 ≤ d) (hC : CS μ S) (h : ∀ ν, CS ν (sp_sum v c i e S).2 → hiE μ ν → K (sp_sum v c i e S).1 ν) : mmCI d M_X7_sum false 4 [.ref 0, .int v, .int c, .int i, .int e] μ K := by
  refine u_X7_sum (by omega) ?_
  unfold sp_sum at h
  have bad : noView v → K (-1) μ := fun w => by
    rw [if_pos w] at h
    exact h μ hC (hiE.refl _)
  refine ⟨fun a => bad (Or.inl a), fun a => ⟨fun b => bad (Or.inr b), fun b => ?_⟩⟩
  have nv : ¬ noView v := by rintro (w | w); exact a w; exact b w
  rw [if_neg nv] at h
  obtain ⟨v, hv, rfl⟩ := view_of nv
  rw [nI_clamp (by omega)] at h ⊢
  refine c_columnsRefusal (by omega) hC (fun ν hν hh => ?_)
  refine ⟨fun q => ?_, fun q => ?_⟩
  · obtain ⟨q1, q2⟩ := cref2_0 q
    obtain ⟨k, x, hk, rfl, hx, -⟩ := cref_0 q1
    obtain ⟨l, y, hl, rfl, hy, -⟩ := cref_0 q2
    rw [withC2_ok hk hl q hx hy] at h
    rw [q] at hν
    replace hν : CS ν S := hν
    have hln := (hC.2.1.vw v).len
    have h40 := hC.2.1.1
    rw [nI_clamp (by omega), nI_clamp (by omega)]
    refine ⟨vp_in_nI hk (by decide), ?_⟩
    refine c_leadOf (by omega) hv hx hν (fun ν2 s2 => ?_)
    have hC2 := hν.scr s2
    cases ho : nthP (pLead x.2.2 (getV S.1 v)) i (getV S.1 v).length 0 0 with
    | none =>
      rw [ho] at h
      exact ⟨fun w => absurd w (by decide), fun _ => h ν2 hC2 (hh.trans s2.hi)⟩
    | some a =>
      rw [ho] at h
      obtain ⟨a1, -, a2⟩ := nthP_some ho
      rw [Nat.zero_add] at a2
      refine ⟨fun _ => ⟨vp_in_nI hl (by decide), ?_⟩, fun w => absurd (nI_pos' (by omega)) w⟩
      dsimp only [leadAns] at h ⊢
      refine c_hasReals (by omega) hv hx hy a2 hC2 (fun ν3 s3 => ?_)
      have hC3 := hC2.scr s3
      have hi3 := (hh.trans s2.hi).trans s3.hi
      cases hr : anyR (sumCs x.2.2 y.2.2 (getV S.1 v) a ((getV S.1 v).length - a) a) with
      | true =>
        rw [hr, if_pos rfl] at h
        refine ⟨fun w => absurd w (by decide), fun _ => ?_⟩
        refine u_X7_sumReals (by omega) (kvw v hv).1 (kcol k hk).1 (kcol l hl).1 ?_
        exact c_sumRealsE (S := S) (by omega) hv hx hy a2 _ _ a 0 ν3 rfl (by omega) hC3 grD_zero (by
          rw [show (0 : UInt64).toNat % 2 ^ 63 = 0 from rfl]; omega) rfl (fun ν4 c4 s4 => h ν4 c4 (hi3.trans s4))
      | false =>
        rw [hr, if_neg (by decide)] at h
        refine ⟨fun _ => ?_, fun w => absurd rfl w⟩
        refine u_X7_sumWholes (by omega) (kvw v hv).1 (kcol k hk).1 (kcol l hl).1 ?_
        exact c_sumWholesE (S := S) (by omega) hv hx hy a2 _ _ a 0 ν3 _ _ rfl (by omega) hC3 hr rfl (fun ν4 c4 s4 => h ν4 c4 (hi3.trans s4))
  · rw [withC2_no q] at h
    exact h ν hν hh
