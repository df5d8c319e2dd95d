/-! ===== the class's cell methods ===== -/
theorem en_box {t : Int32} (h : isB t) (n : Int64) : enK (t, n) = t ∧ (enN (t, n) = if t = 6 ∨ t = 7 then 0 else n) ∧ (enR (t, n) = if t = 0 then 0 else aVal (t, n)) := by
  rcases h with rfl | rfl | rfl | rfl | rfl | rfl | rfl | rfl <;> simp [enK, enN, enR]
theorem c_turnWhole {d p : Nat} {t : Int32} {v : Int64} {μ : mmMem} {K : mmMem → Prop} (hd : 2 ≤ d) (hp : mmKD p = 0) (ht : isB t) (h : K (setC μ p (t, cW t v))) : mmC0 d M_X0_turnWhole false 2 [.ref p, .int t, .long v] μ K := by
  refine u_X0_turnWhole hd hp ?_
  have z : FP.dconst0 = 0 := rfl
  refine ⟨fun q => ?_, fun q => ⟨fun q6 => ?_, fun q6 => ⟨fun q7 => ?_, fun q7 => ?_⟩⟩⟩
  · obtain rfl : t = 0 := Int32.toInt_inj.mp q
    rw [lg0]
    refine ⟨fun hv => ?_, fun hv => ?_⟩ <;> simpa [setC, cW, enK, enN, enR, hv, z] using h
  · obtain rfl : t = 6 := Int32.toInt_inj.mp q6
    refine ⟨f_n64 (f_f2d (f_l2f v)), ?_⟩
    simpa [setC, cW, enK, enN, enR, aVal, bF_ofF] using h
  · obtain rfl : t = 7 := Int32.toInt_inj.mp q7
    simpa [setC, cW, enK, enN, enR, aVal, bD_ofD] using h
  · refine c_lowestBits (by omega) ?_
    have n0 : t ≠ 0 := fun e => q (by rw [e]; rfl)
    have n6 : t ≠ 6 := fun e => q6 (by rw [e]; rfl)
    have n7 : t ≠ 7 := fun e => q7 (by rw [e]; rfl)
    refine ⟨fun _ => ?_, fun e => absurd e n0⟩
    obtain ⟨e1, e2, e3⟩ := en_box ht (aLow t v)
    simpa [setC, cW, n0, n6, n7, e1, e2, e3, aVal] using h
theorem c_turnReal {d p : Nat} {t : Int32} {r : UInt64} {μ : mmMem} {K : mmMem → Prop} (hd : 2 ≤ d) (hp : mmKD p = 0) (ht : isB t) (hr : okD r) (h : K (setC μ p (t, cR t r))) : mmC0 d M_X0_turnReal false 2 [.ref p, .int t, .double r] μ K := by
  refine u_X0_turnReal hd hp ?_
  have z : FP.dconst0 = 0 := rfl
  have low : ∀ k : Int32, t = k → (k = 1 ∨ k = 2 ∨ k = 3 ∨ k = 4) → mmCJ (d - 1) M_X0_lowestBits true 2 [.int t, .long (FP.d2i r).toInt64] μ fun y ν => (¬ t = (0 : Int32) → K (sD (sJ (sI ν p 0 t) p 1 y) p 2 (FP.l2d y))) ∧ (t = (0 : Int32) → K (sD (sJ (sI ν p 0 t) p 1 y) p 2 FP.dconst0)) := by
    intro k e hk
    subst e
    refine c_lowestBits (by omega) ?_
    obtain ⟨e1, e2, e3⟩ := en_box ht (aLow t (FP.d2i r).toInt64)
    rcases hk with rfl | rfl | rfl | rfl <;> exact ⟨fun _ => by simpa [setC, cR, e1, e2, e3, aVal] using h, fun e => absurd e (by decide)⟩
  refine ⟨fun q => ?_, fun q => ?_, fun q => ?_, fun q => ?_, fun q => ?_, fun q => ?_, fun q => ?_, fun q => ?_, fun q => ?_, trivial⟩
  · exfalso
    rcases ht with rfl | rfl | rfl | rfl | rfl | rfl | rfl | rfl <;> revert q <;> decide
  · obtain rfl : t = 0 := Int32.toInt_inj.mp q
    rw [f_cmp _ hr (show okD FP.dconst0 from okD_zero), f_sg0 hr (show okD FP.dconst0 from okD_zero)]
    refine ⟨fun hv => ?_, fun hv => ?_⟩ <;> rw [z] at hv <;> simpa [setC, cR, enK, enN, enR, hv, z] using h
  · exact low 1 (Int32.toInt_inj.mp q) (by simp)
  · exact low 2 (Int32.toInt_inj.mp q) (by simp)
  · exact low 3 (Int32.toInt_inj.mp q) (by simp)
  · exact low 4 (Int32.toInt_inj.mp q) (by simp)
  · obtain rfl : t = 5 := Int32.toInt_inj.mp q
    simpa [setC, cR, enK, enN, enR, aVal] using h
  · obtain rfl : t = 6 := Int32.toInt_inj.mp q
    refine ⟨f_n32 (f_d2f hr), f_n64 (f_f2d (f_d2f hr)), ?_⟩
    simpa [setC, cR, enK, enN, enR, aVal, bF_ofF] using h
  · obtain rfl : t = 7 := Int32.toInt_inj.mp q
    simpa [setC, cR, enK, enN, enR, aVal, bD_ofD] using h
theorem c_turnInto {d p : Nat} {x : aC} {t : Int32} {μ : mmMem} {K : mmMem → Prop} (hd : 3 ≤ d) (hp : mmKD p = 0) (hx : clC μ p x) (ok : okC x) (hb : isB x.1) (ht : isB t) (h : K (setC μ p (t, aCast x t))) : mmC0 d M_X0_turnInto false 1 [.ref p, .int t] μ K := by
  refine u_X0_turnInto (by omega) hp ?_
  obtain ⟨h1, h2, h3⟩ := hx
  obtain ⟨e1, e2, e3⟩ := en_box hb x.2
  rw [show (x.1, x.2) = x from rfl] at e1 e2 e3
  rw [h1, e1]
  refine ⟨fun q => ?_, fun q => ⟨fun q7 => ?_, fun q7 => ?_⟩⟩
  · rw [h3, e3, if_neg (by rw [q]; decide)]
    exact c_turnReal (by omega) hp ht ok.val (by rw [aCast_R ok (Or.inl q) ht]; exact h)
  · rw [h2, e2, if_neg (by simp [q, q7])]
    refine c_turnWhole (by omega) hp ht ?_
    rw [aCast_W ok ?_ ht]
    · exact h
    · rcases hb with e | e | e | e | e | e | e | e <;> simp_all
  · have q8 : x.1 = 7 := Classical.byContradiction fun e => by simp_all
    rw [h3, e3, if_neg (by rw [q8]; decide)]
    exact c_turnReal (by omega) hp ht ok.val (by rw [aCast_R ok (Or.inr q8) ht]; exact h)
theorem c_make {d p : Nat} {t : Int32} {v : Int64} {μ : mmMem} {K : mmMem → Prop} (hd : 2 ≤ d) (hp : mmKD p = 0) (ht : isB t) (h : K (setC μ p (t, aMade t v))) : mmC0 d M_X0_make false 2 [.ref p, .int t, .long v] μ K := by
  refine u_X0_make hd hp ?_
  have z : FP.dconst0 = 0 := rfl
  refine ⟨fun q => ?_, fun q => ⟨fun q6 => ?_, fun q6 => ⟨fun q7 => ?_, fun q7 => ?_⟩⟩⟩
  · obtain rfl : t = 0 := Int32.toInt_inj.mp q
    simpa [setC, aMade, enK, enN, enR, z] using h
  · obtain rfl : t = 6 := Int32.toInt_inj.mp q6
    refine ⟨f_n32 (f_fdiv v), f_n64 (f_f2d (f_fdiv v)), ?_⟩
    simpa [setC, aMade, enK, enN, enR, aVal, bF_ofF] using h
  · obtain rfl : t = 7 := Int32.toInt_inj.mp q7
    refine ⟨f_n64 (f_ddiv v), ?_⟩
    simpa [setC, aMade, enK, enN, enR, aVal, bD_ofD] using h
  · refine c_lowestBits (by omega) ?_
    have n0 : t ≠ 0 := fun e => q (by rw [e]; rfl)
    have n6 : t ≠ 6 := fun e => q6 (by rw [e]; rfl)
    have n7 : t ≠ 7 := fun e => q7 (by rw [e]; rfl)
    refine ⟨fun _ => ?_, fun e => absurd e n0⟩
    obtain ⟨e1, e2, e3⟩ := en_box ht (aLow t v)
    simpa [setC, aMade, n0, n6, n7, e1, e2, e3, aVal] using h
theorem en_inj {x y : aC} (hx : okC x) (hy : okC y) (h1 : enK x = enK y) (h2 : enN x = enN y) (h3 : enR x = enR y) : x = y := by
  obtain ⟨s, n⟩ := x
  obtain ⟨s', n'⟩ := y
  have hs : s = s' := by
    unfold enK at h1
    dsimp only at h1
    have c1 := hx.cases
    have c2 := hy.cases
    dsimp only at c1 c2
    by_cases a8 : s = 8
    · by_cases b8 : s' = 8
      · rw [a8, b8]
      · rw [if_pos a8, if_neg b8] at h1
        rw [← h1] at c2
        exact absurd c2 (by decide)
    · by_cases b8 : s' = 8
      · rw [if_neg a8, if_pos b8] at h1
        rw [h1] at c1
        exact absurd c1 (by decide)
      · rw [if_neg a8, if_neg b8] at h1
        exact h1
  subst hs
  by_cases h6 : s = 6
  · subst h6
    simp [enR, aVal] at h3
    have a1 : ofF (bF n) = n ∧ okF (bF n) := by simpa [okC] using hx
    have a2 : ofF (bF n') = n' ∧ okF (bF n') := by simpa [okC] using hy
    have := congrArg FP.d2f h3
    rw [f_rt a1.2, f_rt a2.2] at this
    rw [← a1.1, ← a2.1, this]
  · by_cases h7 : s = 7
    · subst h7
      simp [enR, aVal] at h3
      rw [← ofD_bD n, ← ofD_bD n', h3]
    · simp [enN, h6, h7] at h2
      rw [h2]
theorem c_isSame {d p q : Nat} {x y : aC} {μ : mmMem} {K : Int32 → mmMem → Prop} (hd : 1 ≤ d) (hp : mmKD p = 0) (hq : mmKD q = 0) (hx : clC μ p x) (hy : clC μ q y) (okx : okC x) (oky : okC y) (h : K (if x = y then 1 else 0) μ) : mmCI d M_X0_isSame false 1 [.ref p, .ref q] μ K := by
  refine u_X0_isSame hd hp hq ?_
  rw [hx.1, hy.1, hx.2.1, hy.2.1, hx.2.2, hy.2.2, lg_e, f_cmp _ okx.re oky.re, f_sg0 okx.re oky.re]
  refine ⟨fun e => ?_, fun e => ⟨fun e2 => ?_, fun e2 => ⟨fun e3 => ?_, fun e3 => ?_⟩⟩⟩
  · rwa [if_neg (fun w => e (by rw [w]))] at h
  · rwa [if_neg (fun w => e2 (by rw [w]))] at h
  · rwa [if_neg (fun w => e3 (by rw [w]))] at h
  · rwa [if_pos (en_inj okx oky e e2 e3)] at h
