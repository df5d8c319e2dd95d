theorem c_worthAgainst {d p q : Nat} {x y : aC} {μ : mmMem} {K : Int32 → mmMem → Prop} (hd : 2 ≤ d) (hp : mmKD p = 0) (hq : mmKD q = 0) (hx : clC μ p x) (hy : clC μ q y) (okx : okC x) (oky : okC y) (hf : aFam x = aFam y) (hne : x.1 ≠ -1) (h : K (aHeld x y) μ) : mmCI d M_X0_worthAgainst false 1 [.ref p, .ref q] μ K := by
  refine u_X0_worthAgainst (by omega) hp hq ?_
  refine c_isNumber (by omega) hp hx okx ?_
  have hpl : K (lg_cmp (aPl x) (aPl y)) μ → mmCJ (d - 1) M_X0_place false 0 [.ref p] μ fun y8 ν7 => mmCJ (d - 1) M_X0_place false 0 [.ref q] ν7 fun y10 ν9 => ((0 : Int32) ≤ lg_cmp y8 y10 → (¬ lg_cmp y8 y10 = 0 → K 1 ν9) ∧ (lg_cmp y8 y10 = 0 → K 0 ν9)) ∧ (¬ (0 : Int32) ≤ lg_cmp y8 y10 → K (-1) ν9) := fun h => by
    refine c_place (by omega) hp hx okx ?_
    refine c_place (by omega) hq hy oky ?_
    exact lcmp3 h
  have hre : aFam x = 1 → aFam y = 1 → K (dSg (aVal x) (aVal y)) μ → ((0 : Int32) ≤ Op.cmpValue (FP.dcmp (μ.2.2 p 2) (μ.2.2 q 2)) .g → (Op.cmpValue (FP.dcmp (μ.2.2 p 2) (μ.2.2 q 2)) .l ≤ (0 : Int32) → K 0 μ) ∧ (¬ Op.cmpValue (FP.dcmp (μ.2.2 p 2) (μ.2.2 q 2)) .l ≤ (0 : Int32) → K 1 μ)) ∧ (¬ (0 : Int32) ≤ Op.cmpValue (FP.dcmp (μ.2.2 p 2) (μ.2.2 q 2)) .g → K (-1) μ) := fun f1 f2 h => by
    have e1 : enR x = aVal x := by
      unfold enR; rw [if_neg]; unfold aFam at f1; intro w; rcases w with w | w | w <;> rw [w] at f1 <;> exact absurd f1 (by decide)
    have e2 : enR y = aVal y := by
      unfold enR; rw [if_neg]; unfold aFam at f2; intro w; rcases w with w | w | w <;> rw [w] at f2 <;> exact absurd f2 (by decide)
    rw [hx.2.2, hy.2.2, f_cmp _ okx.re oky.re, f_cmp _ okx.re oky.re, e1, e2]
    rcases dSg_cases (aVal x) (aVal y) with w | w | w <;> rw [w] at h ⊢
    · exact ⟨fun e => absurd e (by decide), fun _ => h⟩
    · exact ⟨fun _ => ⟨fun _ => h, fun e => absurd (by decide) e⟩, fun e => absurd (by decide) e⟩
    · exact ⟨fun _ => ⟨fun e => absurd e (by decide), fun _ => h⟩, fun e => absurd (by decide) e⟩
  rcases fam_eq okx oky hf with w | w | w | w
  · exact absurd w.1 hne
  · have e1 : aFam x ≠ 1 := by unfold aFam; rw [w.1]; decide
    rw [if_neg e1]
    refine ⟨fun _ => hpl ?_, fun e => absurd rfl e⟩
    have : aHeld x y = lg_cmp (aPl x) (aPl y) := by simp [aHeld, hf, w.1, aPl, enN, w.2]
    rw [← this]; exact h
  · have e1 : aFam x ≠ 1 := by unfold aFam; rw [w.1]; decide
    rw [if_neg e1]
    refine ⟨fun _ => hpl ?_, fun e => absurd rfl e⟩
    have : aHeld x y = lg_cmp (aPl x) (aPl y) := by
      simp only [aPl, w.1, w.2, if_true]
      rw [wd_sg (okx.word w.1) (oky.word w.2)]
      simp [aHeld, hf, w.1]
    rw [← this]; exact h
  · obtain ⟨f1, f2, b1, b2, n1, n2⟩ := w
    rw [if_pos f1]
    have hh : aHeld x y = if x.1 < 6 ∧ y.1 < 6 then lg_cmp x.2 y.2 else dSg (aVal x) (aVal y) := by
      unfold aHeld
      rw [if_neg (by rw [hf]; simpa using hne), if_neg n1, if_neg (by rcases b1 with q | q | q | q | q | q | q | q <;> rw [q] <;> decide)]
    rw [hh] at h
    refine ⟨fun e => absurd e (by decide), fun _ => ?_⟩
    refine c_isWhole (by omega) hp hx okx ?_
    by_cases w1 : x.1 < 6
    · rw [if_pos ⟨f1, w1⟩]
      refine ⟨fun e => absurd e (by decide), fun _ => ?_⟩
      refine c_isWhole (by omega) hq hy oky ?_
      by_cases w2 : y.1 < 6
      · rw [if_pos ⟨f2, w2⟩]
        refine ⟨fun _ => hpl ?_, fun e => absurd e (by decide)⟩
        rw [if_pos ⟨w1, w2⟩] at h
        have p1 : aPl x = x.2 := by rcases b1 with q | q | q | q | q | q | q | q <;> rw [q] at w1 <;> first | (exact absurd w1 (by decide)) | (simp [aPl, enN, q])
        have p2 : aPl y = y.2 := by rcases b2 with q | q | q | q | q | q | q | q <;> rw [q] at w2 <;> first | (exact absurd w2 (by decide)) | (simp [aPl, enN, q])
        rw [p1, p2]; exact h
      · rw [if_neg (fun e => w2 e.2)]
        rw [if_neg (fun e => w2 e.2)] at h
        exact ⟨fun e => absurd rfl e, fun _ => hre f1 f2 h⟩
    · rw [if_neg (fun e => w1 e.2)]
      rw [if_neg (fun e => w1 e.1)] at h
      exact ⟨fun _ => hre f1 f2 h, fun e => absurd rfl e⟩
theorem c_hasWorthWith {d p q : Nat} {x y : aC} {μ : mmMem} {K : Int32 → mmMem → Prop} (hd : 2 ≤ d) (hp : mmKD p = 0) (hq : mmKD q = 0) (hx : clC μ p x) (hy : clC μ q y) (okx : okC x) (oky : okC y) (h : K (if aFam x ≠ aFam y ∨ x.1 = -1 then 0 else 1) μ) : mmCI d M_X0_hasWorthWith false 1 [.ref p, .ref q] μ K := by
  refine u_X0_hasWorthWith (by omega) hp hq ?_
  rw [hx.1]
  have e : enK x = -1 ↔ x.1 = -1 := by
    unfold enK
    rcases okx.cases with w | w | w | w | w | w | w | w | w | w <;> rw [w] <;> decide
  rw [e]
  refine ⟨fun w => ?_, fun w => ?_⟩
  · rw [if_pos (Or.inr w)] at h; exact h
  · refine c_family (by omega) hp hx okx ?_
    refine c_family (by omega) hq hy oky ?_
    refine ⟨fun v => ?_, fun v => ?_⟩
    · rw [if_pos (Or.inl v)] at h; exact h
    · rw [if_neg (by rintro (u | u); exact u v; exact w u)] at h; exact h
theorem held_2 {x y : aC} : aHeld x y = 2 ↔ (aFam x ≠ aFam y ∨ x.1 = -1) := by
  unfold aHeld
  constructor
  · intro h
    refine Classical.byContradiction fun q => ?_
    rw [if_neg q] at h
    revert h
    split
    · rcases lg_cases x.2 y.2 with e | e | e <;> rw [e] <;> decide
    · split
      · unfold sg; split
        · decide
        · split <;> decide
      · split
        · rcases lg_cases x.2 y.2 with e | e | e <;> rw [e] <;> decide
        · rcases dSg_cases (aVal x) (aVal y) with e | e | e <;> rw [e] <;> decide
  · intro h; rw [if_pos h]
theorem held_c (x y : aC) : aHeld x y = 2 ∨ aHeld x y = -1 ∨ aHeld x y = 0 ∨ aHeld x y = 1 := by
  unfold aHeld
  split
  · exact Or.inl rfl
  · right
    split
    · exact lg_cases _ _
    · split
      · unfold sg; split
        · simp
        · split <;> simp
      · split
        · exact lg_cases _ _
        · exact dSg_cases _ _
theorem c_fits {d p q : Nat} {x y : aC} {μ : mmMem} {K : Int32 → mmMem → Prop} (hd : 3 ≤ d) (hp : mmKD p = 0) (hq : mmKD q = 0) (hx : clC μ p x) (hy : clC μ q y) (okx : okC x) (oky : okC y) (h : K (if aHeld x y = 0 then 1 else 0) μ) : mmCI d M_X0_fits false 1 [.ref p, .ref q] μ K := by
  refine u_X0_fits (by omega) hp hq ?_
  refine c_hasWorthWith (by omega) hp hq hx hy okx oky ?_
  by_cases w : aFam x ≠ aFam y ∨ x.1 = -1
  · rw [if_pos w]
    rw [held_2.mpr w] at h
    exact ⟨fun _ => h, fun e => absurd rfl e⟩
  · rw [if_neg w]
    refine ⟨fun e => absurd e (by decide), fun _ => ?_⟩
    refine c_worthAgainst (by omega) hp hq hx hy okx oky (Classical.not_not.mp fun e => w (Or.inl e)) (fun e => w (Or.inr e)) ?_
    refine ⟨fun e => ?_, fun e => ?_⟩
    · rw [if_neg e] at h; exact h
    · rw [if_pos e] at h; exact h
theorem c_stands {d p q : Nat} {x y : aC} {t : Int32} {μ : mmMem} {K : Int32 → mmMem → Prop} (hd : 4 ≤ d) (hp : mmKD p = 0) (hq : mmKD q = 0) (hx : clC μ p x) (hy : clC μ q y) (okx : okC x) (oky : okC y) (ht : 0 ≤ t.toInt ∧ t.toInt ≤ 5) (h : K (if aStands t x y = true then 1 else 0) μ) : mmCI d M_X0_stands false 2 [.ref p, .int t, .ref q] μ K := by
  refine u_X0_stands (by omega) hp hq ?_
  have e0 : ∀ k : Int32, t.toInt = k.toInt → t = k := fun k q => Int32.toInt_inj.mp q
  have e : enK x = -1 ↔ x.1 = -1 := by
    unfold enK
    rcases okx.cases with w | w | w | w | w | w | w | w | w | w <;> rw [w] <;> decide
  refine ⟨fun q => ?_, fun q => ?_, fun q => ?_, fun q => ?_, fun q => ?_, fun q => ?_, trivial⟩
  · obtain rfl : t = 5 := by
      have : t.toInt = 5 := by omega
      exact e0 5 this
    refine c_isSame (by omega) hp hq hx hy okx oky ?_
    have e5 : aStands 5 x y = (x == y) := rfl
    rw [e5] at h
    by_cases w : x = y
    · rw [if_pos w]
      rw [if_pos (by simpa using w)] at h
      exact ⟨Or.inr rfl, h⟩
    · rw [if_neg w]
      rw [if_neg (by simpa using w)] at h
      exact ⟨Or.inl rfl, h⟩
  · obtain rfl := e0 0 q
    have e5 : aStands 0 x y = (aHeld x y == -1) := rfl
    rw [e5] at h
    refine c_hasWorthWith (by omega) hp hq hx hy okx oky ?_
    by_cases w : aFam x ≠ aFam y ∨ x.1 = -1
    · rw [if_pos w]
      rw [held_2.mpr w] at h
      exact ⟨fun _ => h, fun e => absurd rfl e⟩
    · rw [if_neg w]
      refine ⟨fun e => absurd e (by decide), fun _ => ?_⟩
      refine c_worthAgainst (by omega) hp hq hx hy okx oky (Classical.not_not.mp fun e => w (Or.inl e)) (fun e => w (Or.inr e)) ?_
      rcases held_c x y with g | g | g | g
      · exact absurd (held_2.mp g) w
      · rw [g] at h ⊢
        exact ⟨fun e => absurd e (by decide), fun _ => h⟩
      · rw [g] at h ⊢
        exact ⟨fun _ => h, fun e => absurd (by decide) e⟩
      · rw [g] at h ⊢
        exact ⟨fun _ => h, fun e => absurd (by decide) e⟩
  · obtain rfl := e0 1 q
    refine c_fits (by omega) hp hq hx hy okx oky ?_
    have e5 : aStands 1 x y = (aHeld x y == 0) := rfl
    rw [e5] at h
    by_cases w : aHeld x y = 0
    · rw [if_pos w]
      rw [if_pos (by simpa using w)] at h
      exact ⟨Or.inr rfl, h⟩
    · rw [if_neg w]
      rw [if_neg (by simpa using w)] at h
      exact ⟨Or.inl rfl, h⟩
  · obtain rfl := e0 2 q
    have e5 : aStands 2 x y = (aHeld x y == 1) := rfl
    rw [e5] at h
    refine c_hasWorthWith (by omega) hp hq hx hy okx oky ?_
    by_cases w : aFam x ≠ aFam y ∨ x.1 = -1
    · rw [if_pos w]
      rw [held_2.mpr w] at h
      exact ⟨fun _ => h, fun e => absurd rfl e⟩
    · rw [if_neg w]
      refine ⟨fun e => absurd e (by decide), fun _ => ?_⟩
      refine c_worthAgainst (by omega) hp hq hx hy okx oky (Classical.not_not.mp fun e => w (Or.inl e)) (fun e => w (Or.inr e)) ?_
      rcases held_c x y with g | g | g | g
      · exact absurd (held_2.mp g) w
      · rw [g] at h ⊢
        exact ⟨fun _ => h, fun e => absurd (by decide) e⟩
      · rw [g] at h ⊢
        exact ⟨fun _ => h, fun e => absurd (by decide) e⟩
      · rw [g] at h ⊢
        exact ⟨fun e => absurd e (by decide), fun _ => h⟩
  · obtain rfl := e0 3 q
    have e5 : aStands 3 x y = (x.1 == -1) := rfl
    rw [e5] at h
    rw [hx.1, e]
    refine ⟨fun w => ?_, fun w => ?_⟩
    · rw [if_neg (by simpa using w)] at h; exact h
    · rw [if_pos (by simpa using w)] at h; exact h
  · obtain rfl := e0 4 q
    have e5 : aStands 4 x y = (x.1 != -1) := rfl
    rw [e5] at h
    rw [hx.1, e]
    refine ⟨fun w => ?_, fun w => ?_⟩
    · rw [if_neg (by simpa using w)] at h; exact h
    · rw [if_pos (by simpa using w)] at h; exact h
theorem fam_c (x : aC) : aFam x = 0 ∨ aFam x = 1 ∨ aFam x = 2 ∨ aFam x = 3 := by
  unfold aFam
  split
  · simp
  · split
    · simp
    · split <;> simp
theorem c_rank {d p q : Nat} {x y : aC} {μ : mmMem} {K : Int32 → mmMem → Prop} (hd : 3 ≤ d) (hp : mmKD p = 0) (hq : mmKD q = 0) (hx : clC μ p x) (hy : clC μ q y) (okx : okC x) (oky : okC y) (h : ∀ r, sgEq r (aRank x y) → K r μ) : mmCI d M_X0_rankAgainst false 1 [.ref p, .ref q] μ K := by
  refine u_X0_rankAgainst (by omega) hp hq ?_
  refine c_family (by omega) hp hx okx ?_
  refine c_family (by omega) hq hy oky ?_
  refine ⟨fun f => ?_, fun f => ?_⟩
  · rw [hx.2.2, hy.2.2, f_cmp _ okx.re oky.re, f_cmp _ okx.re oky.re]
    rcases fam_eq okx oky f with w | w | w | w
    · have e1 : enR x = enR y := by simp [enR, w.1, w.2]
      have e2 : aFam x ≠ 1 := by unfold aFam; rw [w.1]; decide
      rw [(f_sg0 okx.re oky.re).mpr e1]
      refine ⟨fun _ => ?_, fun e => absurd rfl e⟩
      refine c_isNumber (by omega) hp hx okx ?_
      rw [if_neg e2]
      refine ⟨fun _ => ?_, fun e => absurd rfl e⟩
      refine c_place (by omega) hp hx okx ?_
      refine c_place (by omega) hq hy oky ?_
      refine lcmp3 (h _ ?_)
      have z1 : x.2 = 0 := by
        rcases okx with v | v | v | v | v | v | v | v | v | v
        · exact v.2
        all_goals (exfalso; rw [w.1] at v; revert v; first | (rintro ⟨v, -⟩; revert v; decide) | decide)
      have z2 : y.2 = 0 := by
        rcases oky with v | v | v | v | v | v | v | v | v | v
        · exact v.2
        all_goals (exfalso; rw [w.2] at v; revert v; first | (rintro ⟨v, -⟩; revert v; decide) | decide)
      have : lg_cmp (aPl x) (aPl y) = aRank x y := by simp [aPl, aRank, enN, w.1, w.2, z1, z2, f, lg_cmp]
      rw [this]; exact sgEq.refl _
    · have e1 : enR x = enR y := by simp [enR, w.1, w.2]
      have e2 : aFam x ≠ 1 := by unfold aFam; rw [w.1]; decide
      rw [(f_sg0 okx.re oky.re).mpr e1]
      refine ⟨fun _ => ?_, fun e => absurd rfl e⟩
      refine c_isNumber (by omega) hp hx okx ?_
      rw [if_neg e2]
      refine ⟨fun _ => ?_, fun e => absurd rfl e⟩
      refine c_place (by omega) hp hx okx ?_
      refine c_place (by omega) hq hy oky ?_
      refine lcmp3 (h _ ?_)
      have : lg_cmp (aPl x) (aPl y) = aRank x y := by simp [aPl, aRank, enN, w.1, w.2, f]
      rw [this]; exact sgEq.refl _
    · have e1 : enR x = enR y := by simp [enR, w.1, w.2]
      have e2 : aFam x ≠ 1 := by unfold aFam; rw [w.1]; decide
      rw [(f_sg0 okx.re oky.re).mpr e1]
      refine ⟨fun _ => ?_, fun e => absurd rfl e⟩
      refine c_isNumber (by omega) hp hx okx ?_
      rw [if_neg e2]
      refine ⟨fun _ => ?_, fun e => absurd rfl e⟩
      refine c_place (by omega) hp hx okx ?_
      refine c_place (by omega) hq hy oky ?_
      refine lcmp3 (h _ ?_)
      have : lg_cmp (aPl x) (aPl y) = sg (aRank x y) := by
        have h2 := wd_sg (okx.word w.1) (oky.word w.2)
        simp only [aPl, w.1, w.2, if_true]
        rw [h2]
        simp [aRank, f, w.1]
      rw [this]; exact sg_sgEq _
    · obtain ⟨f1, f2, b1, b2, n1, n2⟩ := w
      have e1 : enR x = aVal x := by
        unfold enR; rw [if_neg]; unfold aFam at f1; intro w; rcases w with w | w | w <;> rw [w] at f1 <;> exact absurd f1 (by decide)
      have e2 : enR y = aVal y := by
        unfold enR; rw [if_neg]; unfold aFam at f2; intro w; rcases w with w | w | w <;> rw [w] at f2 <;> exact absurd f2 (by decide)
      have n8 : x.1 ≠ 8 := by rcases b1 with v | v | v | v | v | v | v | v <;> rw [v] <;> decide
      have nm : x.1 ≠ -1 := by rcases b1 with v | v | v | v | v | v | v | v <;> rw [v] <;> decide
      have hr : aRank x y = if dSg (aVal x) (aVal y) ≠ 0 then dSg (aVal x) (aVal y) else if x.1 ≠ y.1 then x.1 - y.1 else lg_cmp x.2 y.2 := by
        unfold aRank
        rw [if_neg (fun e => e f), if_neg nm, if_neg n8]
        simp only [n1, ne_eq, not_false_eq_true, true_and]
      rw [e1, e2]
      by_cases z : dSg (aVal x) (aVal y) = 0
      · rw [z]
        refine ⟨fun _ => ?_, fun e => absurd rfl e⟩
        refine c_isNumber (by omega) hp hx okx ?_
        rw [if_pos f1]
        refine ⟨fun e => absurd e (by decide), fun _ => ?_⟩
        rw [hx.1, hy.1, show enK x = x.1 by simp [enK, n8], show enK y = y.1 by rcases b2 with v | v | v | v | v | v | v | v <;> simp [enK, v]]
        refine ⟨fun k => ?_, fun k => ?_⟩
        · refine c_place (by omega) hp hx okx ?_
          refine c_place (by omega) hq hy oky ?_
          refine lcmp3 (h _ ?_)
          have e3 : enR x = enR y := by rw [e1, e2]; exact (f_sg0 okx.val oky.val).mp z
          by_cases h67 : x.1 = 6 ∨ x.1 = 7
          · have exy : x = y := en_inj okx oky (by simp [enK, k]) (by simp [enN, ← k, h67]) e3
            rw [hr, exy]
            have : lg_cmp (aPl y) (aPl y) = 0 := (lg_e _ _).mpr rfl
            rw [this, if_neg (by rw [(f_sg0 oky.val oky.val).mpr rfl]; exact fun e => e rfl), if_neg (fun e => e rfl), (lg_e _ _).mpr rfl]
            exact sgEq.refl _
          · have p1 : aPl x = x.2 := by simp [aPl, n8, enN, h67]
            have p2 : aPl y = y.2 := by simp [aPl, ← k, n8, enN, h67]
            rw [hr, p1, p2, if_neg (fun e => e z), if_neg (fun e => e k)]
            exact sgEq.refl _
        · have hr2 : aRank x y = x.1 - y.1 := by rw [hr, if_neg (fun e => e z), if_pos k]
          refine ⟨fun l => h _ ?_, fun l => h _ ?_⟩ <;> rw [hr2] <;> revert k l <;> rcases b1 with v | v | v | v | v | v | v | v <;> rcases b2 with v' | v' | v' | v' | v' | v' | v' | v' <;> rw [v, v'] <;> unfold sgEq <;> decide
      · refine ⟨fun e => absurd e z, fun _ => ?_⟩
        have hr2 : aRank x y = dSg (aVal x) (aVal y) := by rw [hr, if_pos z]
        rcases dSg_cases (aVal x) (aVal y) with v | v | v
        · rw [v] at hr2 ⊢
          exact ⟨fun e => absurd e (by decide), fun _ => h _ (by rw [hr2]; exact sgEq.refl _)⟩
        · exact absurd v z
        · rw [v] at hr2 ⊢
          exact ⟨fun _ => h _ (by rw [hr2]; exact sgEq.refl _), fun e => absurd (by decide) e⟩
  · refine c_family (by omega) hp hx okx ?_
    refine c_family (by omega) hq hy oky ?_
    have hr : aRank x y = aFam x - aFam y := by unfold aRank; rw [if_pos f]
    have c1 := fam_c x
    have c2 := fam_c y
    refine ⟨fun l => ⟨fun _ => h _ ?_, fun e => absurd e f⟩, fun l => h _ ?_⟩ <;> rw [hr] <;> revert f l <;> rcases c1 with v | v | v | v <;> rcases c2 with v' | v' | v' | v' <;> rw [v, v'] <;> unfold sgEq <;> decide
