/-! ===== the class: fed, counted, imaged ===== -/
def sTx (S : aS) (l : List Int32) : aS := (S.1, S.2.1, S.2.2.1, S.2.2.2.1, l)
def sp_feed (x : Int32) (S : aS) : Int32 × aS := if x < 0 ∨ ¬ x ≤ 127 then (-2, S) else if S.2.2.2.2.length < 100 then (nI (S.2.2.2.2.length + 1), sTx S (S.2.2.2.2 ++ [x])) else (-4, S)
theorem c_feed {d : Nat} {x : Int32} {S : aS} {μ : mmMem} {K : Int32 → mmMem → Prop} (hd : 3 ≤ d) (hC : CS μ S) (h : ∀ ν, CS ν (sp_feed x S).2 → hiE μ ν → K (sp_feed x S).1 ν) : mmCI d M_X7_feed false 1 [.ref 0, .int x] μ K := by
  refine u_X7_feed (by omega) ?_
  unfold sp_feed at h
  obtain ⟨h1, h2, h3, h4, h5, h8, h9⟩ := hC
  rw [h8.1, nI_1]
  have hl := h9.1
  refine ⟨fun l => ?_, fun l => ⟨fun l2 => ⟨fun l3 => ?_, fun l3 => ?_⟩, fun l2 => ?_⟩⟩
  · rw [if_pos (Or.inl l)] at h; exact h μ ⟨h1, h2, h3, h4, h5, h8, h9⟩ (hiE.refl _)
  · rw [if_neg (by rintro (w | w); exact l w; exact w l2)] at h
    have hlt : S.2.2.2.2.length < 100 := (nI_ltI (by omega) (by decide : (100 : Nat) < 2 ^ 31)).mp l3
    rw [if_pos hlt] at h
    rw [nI_clamp (by omega)]
    refine ⟨vp_in_nI hlt (by decide), ?_⟩
    have g : ∀ q, q ≠ 141 → q ≠ 142 → eq3 μ (sI (sI μ 142 S.2.2.2.2.length x) 141 0 (nI (S.2.2.2.2.length + 1))) q := fun q q1 q2 => by simp [eq3, sI, q1, q2]
    have e0 := g 0 (by decide) (by decide)
    refine h _ ⟨h1.fr h2 (fun q _ _ => g q (by omega) (by omega)), h2, h3.fr (by rw [e0.1]) (fun q _ _ => g q (by omega) (by omega)), by rw [e0.2.1]; exact h4, ⟨by rw [e0.1]; exact h5.1, by rw [e0.1]; exact h5.2.1, by rw [e0.1]; exact h5.2.2⟩, ⟨by simp [sI, upd, sTx], fun i y hy => ?_⟩, ⟨by simp [sTx]; omega, fun y hy => ?_⟩⟩ (fun q hq => g q (by omega) (by omega))
    · have hy2 : (S.2.2.2.2 ++ [x])[i]? = some y := hy
      by_cases il : i < S.2.2.2.2.length
      · rw [List.getElem?_append_left il] at hy2
        have := h8.2 i y hy2
        have ne : i ≠ S.2.2.2.2.length := by omega
        simp [sI, upd, ne, this]
      · have := lt_of_get hy2
        simp at this
        have : i = S.2.2.2.2.length := by omega
        subst this
        rw [List.getElem?_concat_length] at hy2
        cases hy2
        simp [sI, upd]
    · rcases List.mem_append.mp hy with w | w
      · exact h9.2 y w
      · rw [List.mem_singleton.mp w]
        rw [Int32.lt_iff_toInt_lt] at l
        rw [Int32.le_iff_toInt_le] at l2
        exact ⟨Int.not_lt.mp l, l2⟩
  · rw [if_neg (by rintro (w | w); exact l w; exact w l2)] at h
    have hlt : ¬ S.2.2.2.2.length < 100 := fun w => l3 ((nI_ltI (by omega) (by decide : (100 : Nat) < 2 ^ 31)).mpr w)
    rw [if_neg hlt] at h
    exact h μ ⟨h1, h2, h3, h4, h5, h8, h9⟩ (hiE.refl _)
  · rw [if_pos (Or.inr l2)] at h; exact h μ ⟨h1, h2, h3, h4, h5, h8, h9⟩ (hiE.refl _)
def sp_count (w : Int32) (S : aS) : Int32 × aS := (if w = 0 then nI S.1.1 else if w = 1 then nI S.1.2.1.length else if w = 2 then nI S.1.2.2.2.2.1.length else if w = 3 then nI S.1.2.2.2.2.2.length else if w = 4 then S.2.2.2.1.1 else if w = 5 then S.2.2.2.1.2.1 else if w = 6 then S.2.2.2.1.2.2 else if w = 7 then nI S.2.2.2.2.length else -2, S)
theorem c_count {d : Nat} {w : Int32} {S : aS} {μ : mmMem} {K : Int32 → mmMem → Prop} (hd : 2 ≤ d) (hC : CS μ S) (h : ∀ ν, CS ν (sp_count w S).2 → hiE μ ν → K (sp_count w S).1 ν) : mmCI d M_X7_count false 1 [.ref 0, .int w] μ K := by
  refine u_X7_count (by omega) ?_
  have h := h μ hC (hiE.refl _)
  have e : ∀ j : Int32, w.toInt = j.toInt → w = j := fun j q => Int32.toInt_inj.mp q
  obtain ⟨h1, h2, h3, h4, h5, h8, h9⟩ := hC
  rw [h1.1.1, h1.1.2.1, h1.1.2.2.1, h1.1.2.2.2, h5.1, h5.2.1, h5.2.2, h8.1]
  refine ⟨fun q => ?_, fun q => ?_, fun q => ?_, fun q => ?_, fun q => ?_, fun q => ?_, fun q => ?_, fun q => ?_, fun q => ?_, trivial⟩
  · have n : ∀ j : Int32, 0 ≤ j.toInt → j.toInt ≤ 7 → w ≠ j := fun j h1 h2 e => by rw [e] at q; omega
    have : (sp_count w S).1 = -2 := by
      unfold sp_count
      rw [if_neg (n 0 (by decide) (by decide)), if_neg (n 1 (by decide) (by decide)), if_neg (n 2 (by decide) (by decide)), if_neg (n 3 (by decide) (by decide)), if_neg (n 4 (by decide) (by decide)), if_neg (n 5 (by decide) (by decide)), if_neg (n 6 (by decide) (by decide)), if_neg (n 7 (by decide) (by decide))]
    rw [this] at h
    exact h
  · obtain rfl := e 0 q; exact h
  · obtain rfl := e 1 q; exact h
  · obtain rfl := e 2 q; exact h
  · obtain rfl := e 3 q; exact h
  · obtain rfl := e 4 q; exact h
  · obtain rfl := e 5 q; exact h
  · obtain rfl := e 6 q; exact h
  · obtain rfl := e 7 q; exact h
theorem c_colCopy {d a b n : Nat} {c : aCol} {μ : mmMem} {K : mmMem → Prop} (hd : 3 ≤ d) (ka : mmKD a = 1) (kb : mmKD b = 1) (hne : a + 3 < b ∨ b + 3 < a) (hc : colC μ b n c) (hn : n ≤ 40) (h : ∀ ν, colC ν a n c → (∀ q, q < a ∨ a + 4 ≤ q → eq3 μ ν q) → K ν) : mmC0 d M_X1_copyFrom false 1 [.ref a, .ref b] μ K := by
  refine u_X1_copyFrom (by omega) ka kb ?_
  have ne : b ≠ a := by omega
  have e1 : (sI μ a 0 (μ.1 b 0)).1 b 1 = μ.1 b 1 := by simp [sI, ne]
  rw [e1, hc.2.1, hc.1]
  refine ⟨by split <;> simp, ?_⟩
  refine u_X1_take (by omega) ka kb ?_
  have z0 : (0 : Int32).toNatClampNeg = 0 := rfl
  have z40 : (40 : Int32).toNatClampNeg = 40 := rfl
  rw [z0, z40]
  refine ⟨by decide, by decide, by decide, by decide, by decide, h _ ⟨?_, ?_, fun r hr => ?_⟩ (fun q hq => ?_)⟩
  · have n1 : a ≠ a + 1 := by omega
    simp [cD, cJ, cI, sI, upd]
  · simp [cD, cJ, cI, sI, upd]
  · obtain ⟨g1, g2, g3⟩ := hc.2.2 r hr
    have m1 : b + 1 ≠ a := by omega
    have m2 : b + 2 ≠ a + 1 := by omega
    have m3 : b + 3 ≠ a + 1 := by omega
    have m4 : b + 3 ≠ a + 2 := by omega
    have hr40 : r < 40 := by omega
    have n1 : a + 1 ≠ a := by omega
    simp [cD, cJ, cI, sI, va_cpy, m1, hr40, g1, g2, g3]
  · have q0 : q ≠ a := by omega
    have q1 : q ≠ a + 1 := by omega
    have q2 : q ≠ a + 2 := by omega
    have q3 : q ≠ a + 3 := by omega
    simp [eq3, cD, cJ, cI, sI, q0, q1, q2, q3]
theorem c_vwCopy {d a b : Nat} {l : List Nat} {μ : mmMem} {K : mmMem → Prop} (hd : 2 ≤ d) (ka : mmKD a = 6) (kb : mmKD b = 6) (hne : a + 1 < b ∨ b + 1 < a) (hv : vwC μ b l) (hl : l.length ≤ 40) (h : ∀ ν, vwC ν a l → (∀ q, q ≠ a → q ≠ a + 1 → eq3 μ ν q) → K ν) : mmC0 d M_X6_copyFrom false 1 [.ref a, .ref b] μ K := by
  refine u_X6_copyFrom (by omega) ka kb ?_
  have z0 : (0 : Int32).toNatClampNeg = 0 := rfl
  have z40 : (40 : Int32).toNatClampNeg = 40 := rfl
  rw [z0, z40, hv.1]
  refine h _ ⟨?_, fun i r hr => ?_⟩ (fun q q0 q1 => ?_)
  · have n1 : a ≠ a + 1 := by omega
    simp [cI, sI, upd]
  · have hi := lt_of_get hr
    have hi40 : i < 40 := by omega
    have m1 : b + 1 ≠ a := by omega
    have n1 : a + 1 ≠ a := by omega
    have := hv.2 i r hr
    simp [cI, sI, va_cpy, m1, hi40, this]
  · simp [eq3, cI, sI, q0, q1]
theorem c_filCopy {d a b : Nat} {f : aFil} {μ : mmMem} {K : mmMem → Prop} (hd : 2 ≤ d) (ka : mmKD a = 2) (kb : mmKD b = 2) (hne : a + 1 < b ∨ b + 1 < a) (hf : filC μ b f) (h : ∀ ν, filC ν a f → (∀ q, q ≠ a → q ≠ a + 1 → eq3 μ ν q) → K ν) : mmC0 d M_X2_copyFrom false 1 [.ref a, .ref b] μ K := by
  refine u_X2_copyFrom (by omega) ka kb ?_
  obtain ⟨f1, f2, f3⟩ := hf
  have ne : b ≠ a := by omega
  have e1 : (sI μ a 0 (μ.1 b 0)).1 b 1 = μ.1 b 1 := by simp [sI, ne]
  rw [e1, f1, f2]
  have g : ∀ q, q ≠ a → eq3 μ (sI (sI μ a 0 (nI f.1)) a 1 f.2.1) q := fun q hq => by simp [eq3, sI, hq]
  refine c_copy (x := f.2.2) (by omega) (kf_2_2 ka) (kf_2_2 kb) (f3.fr (g _ (by omega))) ?_
  refine h _ ⟨?_, ?_, setC_cl _ _ _⟩ (fun q q0 q1 => (g q q0).trans ⟨setC_1 _ _ _ _ q1, setC_2 _ _ _ _ q1, setC_3 _ _ _ _ q1⟩)
  · rw [setC_1 _ _ _ _ (by omega)]; simp [sI, upd]
  · rw [setC_1 _ _ _ _ (by omega)]; simp [sI, upd]
/-- the table at a as far as it has been copied -/
def cpD (μ : mmMem) (a : Nat) (T : aT) (c v k f : Nat) : Prop :=
  (μ.1 a 0 = nI T.1 ∧ μ.1 a 1 = nI T.2.1.length ∧ μ.1 a 2 = nI T.2.2.2.2.1.length ∧ μ.1 a 3 = nI T.2.2.2.2.2.length) ∧
  (∀ i col, T.2.1[i]? = some col → i < c → colC μ (a + 6 + 4 * i) T.1 col) ∧ ((0 < v → vwC μ (a + 54) T.2.2.1) ∧ (1 < v → vwC μ (a + 56) T.2.2.2.1)) ∧
  (∀ i q, T.2.2.2.2.1[i]? = some q → i < k → μ.1 (a + 3) i = nI q.1 ∧ μ.1 (a + 4) i = if q.2 = true then 1 else 0) ∧
  ∀ i q, T.2.2.2.2.2[i]? = some q → i < f → filC μ (a + 58 + 2 * i) q
theorem kTc : ∀ c, c < 12 → mmKD (1 + 6 + 4 * c) = 1 ∧ mmKD (71 + 6 + 4 * c) = 1 := by decide +kernel
theorem kTf : ∀ c, c < 6 → mmKD (1 + 58 + 2 * c) = 2 ∧ mmKD (71 + 58 + 2 * c) = 2 := by decide +kernel
theorem c_tcopy {d a b : Nat} {T : aT} {μ : mmMem} {K : mmMem → Prop} (hd : 4 ≤ d) (hab : (a = 1 ∧ b = 71) ∨ (a = 71 ∧ b = 1)) (hT : tabC μ b T) (ok : okT T) (h : ∀ ν, tabC ν a T → (∀ q, q < a ∨ a + 70 ≤ q → eq3 μ ν q) → K ν) : mmC0 d M_X4_copyFrom false 1 [.ref a, .ref b] μ K := by
  have h12 := ok.2.1
  have h40 := ok.1
  have hkl := ok.2.2.2.2.2.1
  have hfl := ok.2.2.2.2.2.2.2.1
  have hl0 := ok.2.2.2.1.len
  have hl1 := ok.2.2.2.2.1.len
  have ka : mmKD a = 4 := by rcases hab with ⟨rfl, rfl⟩ | ⟨rfl, rfl⟩ <;> decide +kernel
  have kb : mmKD b = 4 := by rcases hab with ⟨rfl, rfl⟩ | ⟨rfl, rfl⟩ <;> decide +kernel
  have kca : ∀ c, c < 12 → mmKD (a + 6 + 4 * c) = 1 := fun c hc => by
    rcases hab with ⟨rfl, rfl⟩ | ⟨rfl, rfl⟩
    · exact (kTc c hc).1
    · exact (kTc c hc).2
  have kcb : ∀ c, c < 12 → mmKD (b + 6 + 4 * c) = 1 := fun c hc => by
    rcases hab with ⟨rfl, rfl⟩ | ⟨rfl, rfl⟩
    · exact (kTc c hc).2
    · exact (kTc c hc).1
  have kfa : ∀ c, c < 6 → mmKD (a + 58 + 2 * c) = 2 := fun c hc => by
    rcases hab with ⟨rfl, rfl⟩ | ⟨rfl, rfl⟩
    · exact (kTf c hc).1
    · exact (kTf c hc).2
  have kfb : ∀ c, c < 6 → mmKD (b + 58 + 2 * c) = 2 := fun c hc => by
    rcases hab with ⟨rfl, rfl⟩ | ⟨rfl, rfl⟩
    · exact (kTf c hc).2
    · exact (kTf c hc).1
  have kva : mmKD (a + 54) = 6 ∧ mmKD (a + 56) = 6 := by rcases hab with ⟨rfl, rfl⟩ | ⟨rfl, rfl⟩ <;> decide +kernel
  have kvb : mmKD (b + 54) = 6 ∧ mmKD (b + 56) = 6 := by rcases hab with ⟨rfl, rfl⟩ | ⟨rfl, rfl⟩ <;> decide +kernel
  have src : ∀ ν, (∀ q, q < a ∨ a + 70 ≤ q → eq3 μ ν q) → tabC ν b T := fun ν g => hT.fr ok (fun q h1 h2 => g q (by omega))
  -- the filters
  have L4 : ∀ (j f : Nat) (ν : mmMem), T.2.2.2.2.2.length - f = j → f ≤ T.2.2.2.2.2.length → (∀ q, q < a ∨ a + 70 ≤ q → eq3 μ ν q) → cpD ν a T T.2.1.length 2 T.2.2.2.2.1.length f → mmEnds (d - 1) M_X4_copyFrom 133 [.ref a, .ref b, .int (nI f)] [] ν (mmP0 K) := by
    intro j
    induction j with
    | zero =>
      intro f ν hj hf g D
      refine s_X4_copyFrom_133 (by omega) ka kb ?_
      obtain ⟨d1, d2, ⟨d3, d4⟩, d5, d6⟩ := D
      rw [d1.2.2.2]
      refine ⟨fun _ => h ν ⟨d1, fun i col hi => d2 i col hi (lt_of_get hi), ⟨d3 (by decide), d4 (by decide)⟩, fun i q hi => d5 i q hi (lt_of_get hi), fun i q hi => ?_⟩ g, fun w => absurd (nI_le (by omega) (by omega)) w⟩
      have := d6 i q hi (by have := lt_of_get hi; omega)
      unfold filC at this
      rwa [show a + 58 + 2 * i + 1 = a + 59 + 2 * i by omega] at this
    | succ j ih =>
      intro f ν hj hf g D
      obtain ⟨fl, hfl2⟩ : ∃ q, T.2.2.2.2.2[f]? = some q := ⟨_, List.getElem?_eq_getElem (by omega)⟩
      refine s_X4_copyFrom_133 (by omega) ka kb ?_
      have D' := D
      obtain ⟨d1, d2, ⟨d3, d4⟩, d5, d6⟩ := D
      rw [d1.2.2.2, nI_clamp (by omega), nI_1]
      refine ⟨fun w => absurd w (nI_ge (by omega) (by omega)), fun _ => ⟨vp_in_nI (by omega) (by decide), ?_⟩⟩
      show mmC0 (d - 1) M_X2_copyFrom false 1 [.ref (a + 58 + 2 * f), .ref (b + 58 + 2 * f)] ν _
      have fs := (src ν g).2.2.2.2 f fl hfl2
      rw [show b + 59 + 2 * f = b + 58 + 2 * f + 1 by omega] at fs
      refine c_filCopy (by omega) (kfa f (by omega)) (kfb f (by omega)) (by omega) fs (fun ν2 f2 g2 => ?_)
      have fr : ∀ q, q < a + 58 + 2 * f → eq3 ν ν2 q := fun q hq => g2 q (by omega) (by omega)
      refine ih (f + 1) ν2 (by omega) (by omega) (fun q hq => (g q hq).trans (g2 q (by omega) (by omega))) ⟨?_, fun i col hi hc => ?_, ⟨fun hv => (d3 hv).fr (fr _ (by omega)) (fr _ (by omega)), fun hv => (d4 hv).fr (fr _ (by omega)) (fr _ (by omega))⟩, fun i q hi hc => ?_, fun i q hi hc => ?_⟩
      · rw [(fr a (by omega)).1]; exact d1
      · exact (d2 i col hi hc).fr (fr _ (by omega)) (fr _ (by omega)) (fr _ (by omega)) (fr _ (by omega))
      · rw [(fr (a + 3) (by omega)).1, (fr (a + 4) (by omega)).1]; exact d5 i q hi hc
      · by_cases e : i = f
        · subst e
          rw [hfl2] at hi
          cases hi
          exact f2
        · exact (d6 i q hi (by omega)).fr (fr _ (by omega)) (fr _ (by omega))
  -- the keys
  have L3 : ∀ (j k : Nat) (ν : mmMem), T.2.2.2.2.1.length - k = j → k ≤ T.2.2.2.2.1.length → (∀ q, q < a ∨ a + 70 ≤ q → eq3 μ ν q) → cpD ν a T T.2.1.length 2 k 0 → mmEnds (d - 1) M_X4_copyFrom 93 [.ref a, .ref b, .int (nI k)] [] ν (mmP0 K) := by
    intro j
    induction j with
    | zero =>
      intro k ν hj hk g D
      refine s_X4_copyFrom_93 (by omega) ka kb ?_
      have e : k = T.2.2.2.2.1.length := by omega
      rw [e] at D
      rw [D.1.2.2.1]
      exact ⟨fun _ => L4 _ 0 ν rfl (Nat.zero_le _) g D, fun w => absurd (nI_le (by omega) (by omega)) w⟩
    | succ j ih =>
      intro k ν hj hk g D
      obtain ⟨q, hq⟩ : ∃ q, T.2.2.2.2.1[k]? = some q := ⟨_, List.getElem?_eq_getElem (by omega)⟩
      refine s_X4_copyFrom_93 (by omega) ka kb ?_
      obtain ⟨d1, d2, ⟨d3, d4⟩, d5, d6⟩ := D
      obtain ⟨k1, k2⟩ := (src ν g).2.2.2.1 k q hq
      have n1 : b + 4 ≠ a + 3 := by omega
      have e1 : ∀ x, (sI ν (a + 3) k x).1 (b + 4) k = ν.1 (b + 4) k := fun x => by simp [sI, n1]
      rw [d1.2.2.1, nI_clamp (by omega), nI_1, e1, k1, k2, nar01]
      refine ⟨fun w => absurd w (nI_ge (by omega) (by omega)), fun _ => ⟨vp_in_nI (by omega) (by decide), ?_⟩⟩
      have fr : ∀ z, z ≠ a + 3 → z ≠ a + 4 → eq3 ν (sI (sI ν (a + 3) k (nI q.1)) (a + 4) k (if q.2 = true then 1 else 0)) z := fun z h1 h2 => by simp [eq3, sI, h1, h2]
      refine ih (k + 1) _ (by omega) (by omega) (fun z hz => (g z hz).trans (fr z (by omega) (by omega))) ⟨?_, fun i col hi hc => ?_, ⟨fun hv => (d3 hv).fr (fr _ (by omega) (by omega)) (fr _ (by omega) (by omega)), fun hv => (d4 hv).fr (fr _ (by omega) (by omega)) (fr _ (by omega) (by omega))⟩, fun i q2 hi hc => ?_, fun i q2 hi hc => absurd hc (Nat.not_lt_zero _)⟩
      · rw [(fr a (by omega) (by omega)).1]; exact d1
      · exact (d2 i col hi hc).fr (fr _ (by omega) (by omega)) (fr _ (by omega) (by omega)) (fr _ (by omega) (by omega)) (fr _ (by omega) (by omega))
      · by_cases e : i = k
        · subst e
          rw [hq] at hi
          cases hi
          constructor
          · simp [sI, upd]
          · simp [sI, upd]
        · obtain ⟨w1, w2⟩ := d5 i q2 hi (by omega)
          constructor
          · simp [sI, upd, e, w1]
          · simp [sI, upd, e, w2]
  -- the views
  have L2 : ∀ (ν : mmMem), (∀ q, q < a ∨ a + 70 ≤ q → eq3 μ ν q) → cpD ν a T T.2.1.length 0 0 0 → mmEnds (d - 1) M_X4_copyFrom 65 [.ref a, .ref b, .int (0 : Int32)] [] ν (mmP0 K) := by
    intro ν g D
    obtain ⟨d1, d2, -, -, -⟩ := D
    refine s_X4_copyFrom_65 (by omega) ka kb ?_
    refine ⟨fun w => absurd w (by decide), fun _ => ⟨vp_lit (by decide), ?_⟩⟩
    show mmC0 (d - 1) M_X6_copyFrom false 1 [.ref (a + 54), .ref (b + 54)] ν _
    refine c_vwCopy (by omega) kva.1 kvb.1 (by omega) (src ν g).2.2.1.1 (by omega) (fun ν2 v2 g2 => ?_)
    refine s_X4_copyFrom_65 (by omega) ka kb ?_
    refine ⟨fun w => absurd w (by decide), fun _ => ⟨vp_lit (by decide), ?_⟩⟩
    show mmC0 (d - 1) M_X6_copyFrom false 1 [.ref (a + 56), .ref (b + 56)] ν2 _
    have gg2 : ∀ q, q < a ∨ a + 70 ≤ q → eq3 μ ν2 q := fun q hq => (g q hq).trans (g2 q (by omega) (by omega))
    refine c_vwCopy (by omega) kva.2 kvb.2 (by omega) (src ν2 gg2).2.2.1.2 (by omega) (fun ν3 v3 g3 => ?_)
    refine s_X4_copyFrom_65 (by omega) ka kb ?_
    refine ⟨fun _ => ?_, fun w => absurd (by decide) w⟩
    have fr : ∀ q, q ≠ a + 54 → q ≠ a + 55 → q ≠ a + 56 → q ≠ a + 57 → eq3 ν ν3 q := fun q q1 q2 q3 q4 => (g2 q q1 (by omega)).trans (g3 q q3 (by omega))
    refine L3 _ 0 ν3 rfl (Nat.zero_le _) (fun q hq => (gg2 q hq).trans (g3 q (by omega) (by omega))) ⟨?_, fun i col hi hc => ?_, ⟨fun _ => v2.fr (g3 _ (by omega) (by omega)) (g3 _ (by omega) (by omega)), fun _ => v3⟩, fun i q hi hc => absurd hc (Nat.not_lt_zero _), fun i q hi hc => absurd hc (Nat.not_lt_zero _)⟩
    · rw [(fr a (by omega) (by omega) (by omega) (by omega)).1]; exact d1
    · have := lt_of_get hi
      exact (d2 i col hi hc).fr (fr _ (by omega) (by omega) (by omega) (by omega)) (fr _ (by omega) (by omega) (by omega) (by omega)) (fr _ (by omega) (by omega) (by omega) (by omega)) (fr _ (by omega) (by omega) (by omega) (by omega))
  -- the columns
  have L1 : ∀ (j c : Nat) (ν : mmMem), T.2.1.length - c = j → c ≤ T.2.1.length → (∀ q, q < a ∨ a + 70 ≤ q → eq3 μ ν q) → cpD ν a T c 0 0 0 → mmEnds (d - 1) M_X4_copyFrom 34 [.ref a, .ref b, .int (nI c)] [] ν (mmP0 K) := by
    intro j
    induction j with
    | zero =>
      intro c ν hj hc g D
      refine s_X4_copyFrom_34 (by omega) ka kb ?_
      have e : c = T.2.1.length := by omega
      rw [e] at D
      rw [D.1.2.1]
      exact ⟨fun _ => L2 ν g D, fun w => absurd (nI_le (by omega) (by omega)) w⟩
    | succ j ih =>
      intro c ν hj hc g D
      obtain ⟨col, hcol⟩ : ∃ q, T.2.1[c]? = some q := ⟨_, List.getElem?_eq_getElem (by omega)⟩
      refine s_X4_copyFrom_34 (by omega) ka kb ?_
      obtain ⟨d1, d2, -, -, -⟩ := D
      rw [d1.2.1, nI_clamp (by omega), nI_1]
      refine ⟨fun w => absurd w (nI_ge (by omega) (by omega)), fun _ => ⟨vp_in_nI (by omega) (by decide), ?_⟩⟩
      show mmC0 (d - 1) M_X1_copyFrom false 1 [.ref (a + 6 + 4 * c), .ref (b + 6 + 4 * c)] ν _
      refine c_colCopy (by omega) (kca c (by omega)) (kcb c (by omega)) (by omega) ((src ν g).2.1 c col hcol) h40 (fun ν2 c2 g2 => ?_)
      refine ih (c + 1) ν2 (by omega) (by omega) (fun q hq => (g q hq).trans (g2 q (by omega))) ⟨?_, fun i col2 hi hc2 => ?_, ⟨fun hv => absurd hv (Nat.not_lt_zero _), fun hv => absurd hv (by decide)⟩, fun i q hi hc => absurd hc (Nat.not_lt_zero _), fun i q hi hc => absurd hc (Nat.not_lt_zero _)⟩
      · rw [(g2 a (by omega)).1]; exact d1
      · by_cases e : i = c
        · subst e
          rw [hcol] at hi
          cases hi
          exact c2
        · exact (d2 i col2 hi (by omega)).fr (g2 _ (by omega)) (g2 _ (by omega)) (g2 _ (by omega)) (g2 _ (by omega))
  refine u_X4_copyFrom (by omega) ka kb ?_
  have ne : b ≠ a := by omega
  obtain ⟨⟨t1, t2, t3, t4⟩, -, -, -, -⟩ := hT
  have e1 : ∀ i x, (sI μ a i x).1 b = μ.1 b := fun i x => by simp [sI, ne]
  have e2 : ∀ i x i2 x2, (sI (sI μ a i x) a i2 x2).1 b = μ.1 b := fun i x i2 x2 => by simp [sI, ne]
  have e3 : ∀ i x i2 x2 i3 x3, (sI (sI (sI μ a i x) a i2 x2) a i3 x3).1 b = μ.1 b := fun i x i2 x2 i3 x3 => by simp [sI, ne]
  rw [e1, e2, e3, t1, t2, t3, t4]
  refine L1 _ 0 _ rfl (Nat.zero_le _) (fun q hq => ?_) ⟨⟨?_, ?_, ?_, ?_⟩, fun i col hi hc => absurd hc (Nat.not_lt_zero _), ⟨fun hv => absurd hv (Nat.not_lt_zero _), fun hv => absurd hv (by decide)⟩, fun i q hi hc => absurd hc (Nat.not_lt_zero _), fun i q hi hc => absurd hc (Nat.not_lt_zero _)⟩
  · have : q ≠ a := by omega
    simp [eq3, sI, this]
  · simp [sI, upd]
  · simp [sI, upd]
  · simp [sI, upd]
  · simp [sI, upd]
def sp_image (S : aS) : Int32 × aS := (nI S.1.1, (S.1, some S.1, S.2.2))
def sp_undo (S : aS) : Int32 × aS := match S.2.1 with
  | none => (-3, S)
  | some T => (nI T.1, (T, S.2))
theorem c_image {d : Nat} {S : aS} {μ : mmMem} {K : Int32 → mmMem → Prop} (hd : 5 ≤ d) (hC : CS μ S) (h : ∀ ν, CS ν (sp_image S).2 → hiE μ ν → K (sp_image S).1 ν) : mmCI d M_X7_image false 0 [.ref 0] μ K := by
  refine u_X7_image (by omega) ?_
  obtain ⟨h1, h2, h3, h4, h5, h8, h9⟩ := hC
  refine c_tcopy (by omega) (Or.inr ⟨rfl, rfl⟩) h1 h2 (fun ν t g => ?_)
  rw [(g 1 (by omega)).1, h1.1.1]
  have e : ∀ q, q ≠ 0 → eq3 ν (sI ν 0 2 1) q := fun q hq => by simp [eq3, sI, hq]
  have g0 := g 0 (by omega)
  refine h _ ⟨(h1.fr h2 (fun q _ _ => g q (by omega))).fr h2 (fun q _ _ => e q (by omega)), h2, ⟨by simp [sI, upd], t.fr h2 (fun q _ _ => e q (by omega)), h2⟩, ?_, ⟨?_, ?_, ?_⟩, ⟨?_, fun i x hx => ?_⟩, h9⟩ (fun q hq => (g q (by omega)).trans (e q (by omega)))
  · show (sI ν 0 2 1).2.1 0 15 = _
    have : (sI ν 0 2 1).2.1 = ν.2.1 := rfl
    rw [this, g0.2.1]; exact h4
  · simp [sI, upd, g0.1, h5.1, sp_image]
  · simp [sI, upd, g0.1, h5.2.1, sp_image]
  · simp [sI, upd, g0.1, h5.2.2, sp_image]
  · rw [(e 141 (by decide)).1, (g 141 (by omega)).1]; exact h8.1
  · rw [(e 142 (by decide)).1, (g 142 (by omega)).1]; exact h8.2 i x hx
theorem c_undo {d : Nat} {S : aS} {μ : mmMem} {K : Int32 → mmMem → Prop} (hd : 5 ≤ d) (hC : CS μ S) (h : ∀ ν, CS ν (sp_undo S).2 → hiE μ ν → K (sp_undo S).1 ν) : mmCI d M_X7_undo false 0 [.ref 0] μ K := by
  refine u_X7_undo (by omega) ?_
  have hC' := hC
  obtain ⟨h1, h2, h3, h4, h5, h8, h9⟩ := hC
  unfold sp_undo at h
  cases ho : S.2.1 with
  | none =>
    rw [ho] at h h3
    have e : μ.1 0 2 = 0 := h3
    rw [e]
    exact ⟨fun w => absurd rfl w, fun _ => h μ hC' (hiE.refl _)⟩
  | some T =>
    rw [ho] at h h3
    obtain ⟨i1, i2, i3⟩ := h3
    rw [i1]
    refine ⟨fun _ => ?_, fun w => absurd w (by decide)⟩
    refine c_tcopy (by omega) (Or.inl ⟨rfl, rfl⟩) i2 i3 (fun ν t g => ?_)
    rw [t.1.1]
    have g0 := g 0 (by omega)
    refine h ν ⟨t, i3, ?_, by rw [g0.2.1]; exact h4, ⟨by rw [g0.1]; exact h5.1, by rw [g0.1]; exact h5.2.1, by rw [g0.1]; exact h5.2.2⟩, ⟨by rw [(g 141 (by omega)).1]; exact h8.1, fun i x hx => by rw [(g 142 (by omega)).1]; exact h8.2 i x hx⟩, h9⟩ (fun q hq => g q (by omega))
    show imgC ν S.2.1
    rw [ho]
    exact ⟨by rw [g0.1]; exact i1, i2.fr i3 (fun q _ _ => g q (by omega)), i3⟩
