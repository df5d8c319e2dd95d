/-! ===== the model's cells: pure methods ===== -/
theorem m_isIn {d : Nat} {x a b : Int64} {μ : mmMem} {K : Int32 → mmMem → Prop} (hd : 1 ≤ d) (h : K (if ¬ lg_cmp x a < 0 ∧ ¬ 0 < lg_cmp x b then 1 else 0) μ) : mmCI d M_X8_isIn true 3 [.long x, .long a, .long b] μ K := by
  refine u_X8_isIn hd ?_
  refine ⟨fun p => ?_, fun p => ⟨fun q => ?_, fun q => ?_⟩⟩
  · rw [if_neg (fun w => w.1 p)] at h; exact h
  · rw [if_neg (fun w => w.2 q)] at h; exact h
  · rw [if_pos ⟨p, q⟩] at h; exact h
theorem lgI_l (x a : Int32) : lg_cmp x.toInt64 a.toInt64 < 0 ↔ x < a := by
  rw [lg_l, Int64.lt_iff_toInt_lt, Int32.toInt_toInt64, Int32.toInt_toInt64, Int32.lt_iff_toInt_lt]
theorem lgI_g (x a : Int32) : 0 < lg_cmp x.toInt64 a.toInt64 ↔ a < x := by
  rw [lg_g, Int64.lt_iff_toInt_lt, Int32.toInt_toInt64, Int32.toInt_toInt64, Int32.lt_iff_toInt_lt]
theorem m_isInI {d : Nat} {x a b : Int32} {a' b' : Int64} {μ : mmMem} {K : Int32 → mmMem → Prop} (hd : 1 ≤ d) (ha : a' = a.toInt64) (hb : b' = b.toInt64) (h : K (if ¬ x < a ∧ ¬ b < x then 1 else 0) μ) : mmCI d M_X8_isIn true 3 [.long x.toInt64, .long a', .long b'] μ K := by
  subst ha
  subst hb
  refine m_isIn hd ?_
  by_cases w : ¬ x < a ∧ ¬ b < x
  · rw [if_pos w] at h
    rw [if_pos ⟨fun e => w.1 ((lgI_l x a).mp e), fun e => w.2 ((lgI_g x b).mp e)⟩]
    exact h
  · rw [if_neg w] at h
    rw [if_neg (fun e => w ⟨fun q => e.1 ((lgI_l x a).mpr q), fun q => e.2 ((lgI_g x b).mpr q)⟩)]
    exact h
theorem m_doubleOf {d : Nat} {n : Int64} {μ : mmMem} {K : UInt64 → mmMem → Prop} (hd : 2 ≤ d) (hn : okD (bD n)) (h : K (bD n) μ) : mmCD d M_X8_doubleOf true 1 [.long n] μ K := u_X8_doubleOf hd ⟨f_n64 hn, h⟩
theorem m_floatOf {d : Nat} {n : Int64} {μ : mmMem} {K : UInt32 → mmMem → Prop} (hd : 2 ≤ d) (hn : okF (bF n)) (h : K (bF n) μ) : mmCF d M_X8_floatOf true 1 [.long n] μ K := u_X8_floatOf hd ⟨f_n32 hn, h⟩
theorem dSg_self {r : UInt64} (h : FP.Core.val64 r ≠ .nan) : dSg r r = 0 := by
  unfold dSg
  rw [show FP.dcmp r r = some .eq from FP.Core.dcmp_self h]
theorem m_ofDouble {d : Nat} {r : UInt64} {μ : mmMem} {K : Int64 → mmMem → Prop} (hd : 3 ≤ d) (hn : FP.Core.val64 r ≠ .nan) (h : K (ofD r) μ) : mmCJ d M_X8_ofDouble true 1 [.double r] μ K := by
  refine u_X8_ofDouble hd ?_
  rw [f_cmpN _ hn hn, dSg_self hn]
  exact ⟨fun _ => h, fun w => absurd rfl w⟩
theorem m_ofFloat {d : Nat} {f : UInt32} {μ : mmMem} {K : Int64 → mmMem → Prop} (hd : 3 ≤ d) (hn : okF f) (h : K (ofF f) μ) : mmCJ d M_X8_ofFloat true 1 [.float f] μ K := by
  refine u_X8_ofFloat hd ?_
  have e : Op.cmpValue (FP.fcmp f f) .l = 0 := by
    rw [show FP.fcmp f f = some .eq from FP.Core.fcmp_self (f_v32 hn)]
    rfl
  rw [e]
  exact ⟨fun _ => h, fun w => absurd rfl w⟩
theorem m_valueOf {d : Nat} {x : aC} {μ : mmMem} {K : UInt64 → mmMem → Prop} (hd : 3 ≤ d) (ok : okC x) (h : K (aVal x) μ) : mmCD d M_X8_valueOf true 2 [.int x.1, .long x.2] μ K := by
  refine u_X8_valueOf (by omega) ?_
  obtain ⟨s, n⟩ := x
  unfold aVal at h
  refine ⟨fun n6 => ⟨fun n7 => ?_, fun e7 => ?_⟩, fun e6 => ?_⟩
  · rw [if_neg n6, if_neg n7] at h; exact h
  · dsimp only at n6 e7
    subst e7
    have okd : okD (bD n) := by simpa [okC] using ok
    exact m_doubleOf (by omega) okd h
  · dsimp only at e6
    subst e6
    have okf : ofF (bF n) = n ∧ okF (bF n) := by simpa [okC] using ok
    exact m_floatOf (by omega) okf.2 ⟨f_n64 (f_f2d okf.2), h⟩
theorem m_castOf {d : Nat} {x : aC} {t : Int32} {μ : mmMem} {K : Int64 → mmMem → Prop} (hd : 4 ≤ d) (ok : okC x) (hb : isB x.1) (ht : isB t) (h : K (aCast x t) μ) : mmCJ d M_X8_castOf true 3 [.int x.1, .long x.2, .int t] μ K := by
  refine u_X8_castOf (by omega) ?_
  have i32 : ∀ j : Int32, t.toInt = j.toInt → t = j := fun j q => Int32.toInt_inj.mp q
  have z : FP.dconst0 = 0 := rfl
  have t7 : (t.toInt < 0 ∨ 6 < t.toInt) → t = 7 := fun w => by
    rcases ht with q | q | q | q | q | q | q | q <;> rw [q] at w <;> first | exact q | (exact absurd w (by decide))
  refine ⟨fun ne => ⟨fun l => ?_, fun l => ?_⟩, fun e => ?_⟩
  · have r6 : ¬ x.1 < 6 := Int32.not_lt.mpr l
    refine m_valueOf (by omega) ok ?_
    have hv := ok.val
    refine ⟨fun q => ?_, fun q => ?_, fun q => ?_, fun q => ?_, fun q => ?_, fun q => ?_, fun q => ?_, fun q => ?_, trivial⟩
    · obtain rfl := t7 q
      have e : aCast x 7 = ofD (aVal x) := by unfold aCast; rw [if_neg ne, if_neg (by decide), if_neg (by decide), if_neg (by decide), if_pos rfl]
      rw [e] at h
      exact m_ofDouble (by omega) (f_v64 hv) h
    · obtain rfl := i32 0 q
      have e : aCast x 0 = if aVal x = 0 then 0 else 1 := by unfold aCast; rw [if_neg ne, if_pos rfl, if_neg r6]
      rw [e] at h
      rw [f_cmp _ hv (show okD FP.dconst0 from okD_zero), f_sg0 hv (show okD FP.dconst0 from okD_zero), z]
      refine ⟨fun w => ?_, fun w => ?_⟩
      · rw [if_pos w] at h; exact h
      · rw [if_neg w] at h; exact h
    · obtain rfl := i32 1 q
      have e : aCast x 1 = aLow 1 (FP.d2i (aVal x)).toInt64 := by unfold aCast; rw [if_neg ne, if_neg (by decide), if_neg (by decide), if_neg (by decide), if_neg (by decide), if_neg r6]
      rw [e] at h
      simpa [aLow] using h
    · obtain rfl := i32 2 q
      have e : aCast x 2 = aLow 2 (FP.d2i (aVal x)).toInt64 := by unfold aCast; rw [if_neg ne, if_neg (by decide), if_neg (by decide), if_neg (by decide), if_neg (by decide), if_neg r6]
      rw [e] at h
      simpa [aLow] using h
    · obtain rfl := i32 3 q
      have e : aCast x 3 = aLow 3 (FP.d2i (aVal x)).toInt64 := by unfold aCast; rw [if_neg ne, if_neg (by decide), if_neg (by decide), if_neg (by decide), if_neg (by decide), if_neg r6]
      rw [e] at h
      simpa [aLow] using h
    · obtain rfl := i32 4 q
      have e : aCast x 4 = aLow 4 (FP.d2i (aVal x)).toInt64 := by unfold aCast; rw [if_neg ne, if_neg (by decide), if_neg (by decide), if_neg (by decide), if_neg (by decide), if_neg r6]
      rw [e] at h
      simpa [aLow] using h
    · obtain rfl := i32 5 q
      have e : aCast x 5 = FP.d2l (aVal x) := by unfold aCast; rw [if_neg ne, if_neg (by decide), if_pos rfl, if_neg r6]
      rw [e] at h
      exact h
    · obtain rfl := i32 6 q
      have e : aCast x 6 = ofF (FP.d2f (aVal x)) := by unfold aCast; rw [if_neg ne, if_neg (by decide), if_neg (by decide), if_pos rfl, if_neg r6]
      rw [e] at h
      exact ⟨f_n32 (f_d2f hv), m_ofFloat (by omega) (f_d2f hv) h⟩
  · have r6 : x.1 < 6 := Int32.not_le.mp l
    refine m_valueOf (by omega) ok ?_
    have hv := ok.val
    refine ⟨fun q => ?_, fun q => ?_, fun q => ?_, fun q => ?_, fun q => ?_, fun q => ?_, fun q => ?_, fun q => ?_, trivial⟩
    · obtain rfl := t7 q
      have e : aCast x 7 = ofD (aVal x) := by unfold aCast; rw [if_neg ne, if_neg (by decide), if_neg (by decide), if_neg (by decide), if_pos rfl]
      rw [e] at h
      exact m_ofDouble (by omega) (f_v64 hv) h
    · obtain rfl := i32 0 q
      have e : aCast x 0 = if x.2 = 0 then 0 else 1 := by unfold aCast; rw [if_neg ne, if_pos rfl, if_pos r6]
      rw [e] at h
      rw [lg0]
      refine ⟨fun w => ?_, fun w => ?_⟩
      · rw [if_pos w] at h; exact h
      · rw [if_neg w] at h; exact h
    · obtain rfl := i32 1 q
      have e : aCast x 1 = aLow 1 x.2 := by unfold aCast; rw [if_neg ne, if_neg (by decide), if_neg (by decide), if_neg (by decide), if_neg (by decide), if_pos r6]
      rw [e] at h
      simpa [aLow] using h
    · obtain rfl := i32 2 q
      have e : aCast x 2 = aLow 2 x.2 := by unfold aCast; rw [if_neg ne, if_neg (by decide), if_neg (by decide), if_neg (by decide), if_neg (by decide), if_pos r6]
      rw [e] at h
      simpa [aLow] using h
    · obtain rfl := i32 3 q
      have e : aCast x 3 = aLow 3 x.2 := by unfold aCast; rw [if_neg ne, if_neg (by decide), if_neg (by decide), if_neg (by decide), if_neg (by decide), if_pos r6]
      rw [e] at h
      simpa [aLow] using h
    · obtain rfl := i32 4 q
      have e : aCast x 4 = aLow 4 x.2 := by unfold aCast; rw [if_neg ne, if_neg (by decide), if_neg (by decide), if_neg (by decide), if_neg (by decide), if_pos r6]
      rw [e] at h
      simpa [aLow] using h
    · obtain rfl := i32 5 q
      have e : aCast x 5 = x.2 := by unfold aCast; rw [if_neg ne, if_neg (by decide), if_pos rfl, if_pos r6]
      rw [e] at h
      exact h
    · obtain rfl := i32 6 q
      have e : aCast x 6 = ofF (FP.l2f x.2) := by unfold aCast; rw [if_neg ne, if_neg (by decide), if_neg (by decide), if_pos rfl, if_pos r6]
      rw [e] at h
      exact m_ofFloat (by omega) (f_l2f _) h
  · have ec : aCast x t = x.2 := by unfold aCast; rw [if_pos e]
    rw [ec] at h
    exact h
theorem m_made {d : Nat} {k : Int32} {v : Int64} {μ : mmMem} {K : Int64 → mmMem → Prop} (hd : 5 ≤ d) (hk : isB k) (h : K (aMade k v) μ) : mmCJ d M_X8_made true 2 [.int k, .long v] μ K := by
  refine u_X8_made (by omega) ?_
  have i32 : ∀ j : Int32, k.toInt = j.toInt → k = j := fun j q => Int32.toInt_inj.mp q
  have low : ∀ t : Int32, k = t → (t = 1 ∨ t = 2 ∨ t = 3 ∨ t = 4 ∨ t = 5) → mmCJ (d - 1) M_X8_castOf true 3 [.int (5 : Int32), .long v, .int k] μ fun y ν => K y ν := fun t e ht => by
    subst e
    refine m_castOf (x := (5, v)) (by omega) (ok_5 v) (by simp [isB]) hk ?_
    have : aCast (5, v) k = aMade k v := by
      rcases ht with e | e | e | e | e <;> subst e <;> simp [aCast, aMade, aLow]
    rw [this]
    exact h
  refine ⟨fun q => ?_, fun q => ?_, fun q => ?_, fun q => ?_, fun q => ?_, fun q => ?_, fun q => ?_, fun q => ?_, fun q => ?_, fun q => ?_, trivial⟩
  · exfalso
    rcases hk with e | e | e | e | e | e | e | e <;> rw [e] at q <;> exact absurd q (by decide)
  · obtain rfl := i32 0 q
    simpa [aMade] using h
  · exact low 1 (i32 1 q) (by simp)
  · exact low 2 (i32 2 q) (by simp)
  · exact low 3 (i32 3 q) (by simp)
  · exact low 4 (i32 4 q) (by simp)
  · exact low 5 (i32 5 q) (by simp)
  · obtain rfl := i32 6 q
    have e : aMade 6 v = ofF (FP.fdiv (FP.l2f v) 1082130432) := rfl
    rw [e] at h
    exact ⟨f_n32 (f_fdiv v), m_ofFloat (by omega) (f_fdiv v) h⟩
  · obtain rfl := i32 7 q
    have e : aMade 7 v = ofD (FP.ddiv (FP.l2d v) 4616189618054758400) := rfl
    rw [e] at h
    exact ⟨f_n64 (f_ddiv v), m_ofDouble (by omega) (f_v64 (f_ddiv v)) h⟩
  · exfalso
    rcases hk with e | e | e | e | e | e | e | e <;> rw [e] at q <;> exact absurd q (by decide)
theorem m_made8 {d : Nat} {v : Int64} {μ : mmMem} {K : Int64 → mmMem → Prop} (hd : 1 ≤ d) (h : K v μ) : mmCJ d M_X8_made true 2 [.int (8 : Int32), .long v] μ K := by
  refine u_X8_made (by omega) ?_
  refine ⟨fun q => absurd q (by decide), fun q => absurd q (by decide), fun q => absurd q (by decide), fun q => absurd q (by decide), fun q => absurd q (by decide), fun q => absurd q (by decide), fun q => absurd q (by decide), fun q => absurd q (by decide), fun q => absurd q (by decide), fun _ => h, trivial⟩
theorem m_classOf {d : Nat} {x : aC} {μ : mmMem} {K : Int32 → mmMem → Prop} (hd : 1 ≤ d) (h : K (aFam x) μ) : mmCI d M_X8_classOf true 1 [.int x.1] μ K := by
  refine u_X8_classOf hd ?_
  unfold aFam at h
  refine ⟨fun n0 => ⟨fun n1 => ⟨fun n8 => ?_, fun e8 => ?_⟩, fun e1 => ?_⟩, fun e0 => ?_⟩
  · rw [if_neg n1, if_neg n8, if_neg n0] at h; exact h
  · rw [if_neg n1, if_pos e8] at h; exact h
  · rw [if_pos e1] at h; exact h
  · rw [if_neg (by rw [e0]; decide), if_neg (by rw [e0]; decide), if_pos e0] at h; exact h
theorem m_book {d : Nat} {n : Int64} {μ : mmMem} {K : Int32 → mmMem → Prop} (hd : 1 ≤ d) (h : K (aW n) μ) : mmCI d M_X8_book true 1 [.long n] μ K := by
  refine u_X8_book hd ?_
  unfold aW at h
  refine ⟨fun l => ?_, fun l => ?_⟩
  · rw [if_neg (Int32.not_lt.mpr l)] at h; exact h
  · rw [if_pos (Int32.not_le.mp l)] at h; exact h
theorem m_againstD {d : Nat} {a b : UInt64} {μ : mmMem} {K : Int32 → mmMem → Prop} (hd : 1 ≤ d) (ha : okD a) (hb : okD b) (h : K (dSg a b) μ) : mmCI d M_X8_against true 2 [.double a, .double b] μ K := by
  refine u_X8_against hd ?_
  rw [f_cmp _ ha hb, f_cmp _ ha hb]
  rcases dSg_cases a b with w | w | w <;> rw [w] at h ⊢
  · exact ⟨fun e => absurd e (by decide), fun _ => h⟩
  · exact ⟨fun _ => ⟨fun _ => h, fun e => absurd (by decide) e⟩, fun e => absurd (by decide) e⟩
  · exact ⟨fun _ => ⟨fun e => absurd e (by decide), fun _ => h⟩, fun e => absurd (by decide) e⟩
theorem m_againstL {d : Nat} {a b : Int64} {μ : mmMem} {K : Int32 → mmMem → Prop} (hd : 1 ≤ d) (h : K (lg_cmp a b) μ) : mmCI d M_X8_against_ true 2 [.long a, .long b] μ K := by
  refine u_X8_against_ hd ?_
  rcases lg_cases a b with w | w | w <;> rw [w] at h ⊢
  · exact ⟨fun e => absurd e (by decide), fun _ => h⟩
  · exact ⟨fun _ => ⟨fun _ => h, fun e => absurd (by decide) e⟩, fun e => absurd (by decide) e⟩
  · exact ⟨fun _ => ⟨fun e => absurd e (by decide), fun _ => h⟩, fun e => absurd (by decide) e⟩
theorem fam1 {x y : aC} (okx : okC x) (oky : okC y) (f : aFam x = aFam y) (n0 : ¬ x.1 = 0) (n1 : ¬ x.1 = -1) (n8 : ¬ x.1 = 8) : isB x.1 ∧ isB y.1 := by
  rcases fam_eq okx oky f with w | w | w | w
  · exact absurd w.1 n1
  · exact absurd w.1 n0
  · exact absurd w.1 n8
  · exact ⟨w.2.2.1, w.2.2.2.1⟩
theorem m_ranked {d : Nat} {x y : aC} {μ : mmMem} {K : Int32 → mmMem → Prop} (hd : 4 ≤ d) (okx : okC x) (oky : okC y) (h : K (aRank x y) μ) : mmCI d M_X8_ranked true 4 [.int x.1, .long x.2, .int y.1, .long y.2] μ K := by
  refine u_X8_ranked (by omega) ?_
  refine m_classOf (x := x) (by omega) ?_
  refine m_classOf (x := y) (by omega) ?_
  unfold aRank at h
  refine ⟨fun f => ?_, fun f => ?_⟩
  · rw [if_neg (fun w => w f)] at h
    refine ⟨fun n1 => ⟨fun n8 => ⟨fun n0 => ?_, fun e0 => ?_⟩, fun e8 => ?_⟩, fun e1 => ?_⟩
    · rw [if_neg n1, if_neg n8] at h
      refine m_valueOf (x := x) (by omega) okx ?_
      refine m_valueOf (x := y) (by omega) oky ?_
      refine m_againstD (by omega) okx.val oky.val ?_
      refine ⟨fun z => ?_, fun z => ?_⟩
      · rw [if_neg (fun w => w.2 z)] at h
        refine ⟨fun e => ?_, fun e => ?_⟩
        · rw [if_neg (fun w => w e)] at h
          exact m_againstL (by omega) h
        · rw [if_pos e] at h; exact h
      · rw [if_pos ⟨n0, z⟩] at h; exact h
    · rw [if_neg n1, if_neg n8, if_neg (fun w => w.1 e0)] at h
      refine ⟨fun e => ?_, fun e => ?_⟩
      · rw [if_neg (fun w => w e)] at h
        exact m_againstL (by omega) h
      · rw [if_pos e] at h; exact h
    · rw [if_neg n1, if_pos e8] at h
      refine m_book (by omega) ?_
      exact m_book (by omega) h
    · rw [if_pos e1] at h; exact h
  · rw [if_pos f] at h
    refine m_classOf (x := x) (by omega) ?_
    exact m_classOf (x := y) (by omega) h
theorem sub_sg {K : Int32 → mmMem → Prop} {μ : mmMem} {x : Int32} (h : K (sg x) μ) : ((0 : Int32) ≤ x → (x ≤ (0 : Int32) → K 0 μ) ∧ (¬ x ≤ (0 : Int32) → K 1 μ)) ∧ (¬ (0 : Int32) ≤ x → K (-1) μ) := by
  unfold sg at h
  refine ⟨fun l => ?_, fun l => ?_⟩
  · rw [if_neg (Int32.not_lt.mpr l)] at h
    refine ⟨fun l2 => ?_, fun l2 => ?_⟩
    · have : x = 0 := Int32.le_antisymm l2 l
      rw [if_pos this] at h; exact h
    · have : ¬ x = 0 := fun e => l2 (by rw [e]; decide)
      rw [if_neg this] at h; exact h
  · rw [if_pos (Int32.not_le.mp l)] at h; exact h
theorem m_held {d : Nat} {x y : aC} {μ : mmMem} {K : Int32 → mmMem → Prop} (hd : 4 ≤ d) (okx : okC x) (oky : okC y) (h : K (aHeld x y) μ) : mmCI d M_X8_held true 4 [.int x.1, .long x.2, .int y.1, .long y.2] μ K := by
  refine u_X8_held (by omega) ?_
  refine m_classOf (x := x) (by omega) ?_
  refine m_classOf (x := y) (by omega) ?_
  unfold aHeld at h
  have real : ¬ (x.1 < 6 ∧ y.1 < 6) → K (if x.1 < 6 ∧ y.1 < 6 then lg_cmp x.2 y.2 else dSg (aVal x) (aVal y)) μ → mmCD (d - 1) M_X8_valueOf true 2 [.int x.1, .long x.2] μ fun y26 ν25 => mmCD (d - 1) M_X8_valueOf true 2 [.int y.1, .long y.2] ν25 fun y28 ν27 => mmCI (d - 1) M_X8_against true 2 [.double y26, .double y28] ν27 fun y30 ν29 => K y30 ν29 := fun n hk => by
    rw [if_neg n] at hk
    refine m_valueOf (x := x) (by omega) okx ?_
    refine m_valueOf (x := y) (by omega) oky ?_
    exact m_againstD (by omega) okx.val oky.val hk
  refine ⟨fun f => ?_, fun f => ⟨fun n1 => ⟨fun n0 => ⟨fun n8 => ⟨fun l => ?_, fun l => ⟨fun l2 => ?_, fun l2 => ?_⟩⟩, fun e8 => ?_⟩, fun e0 => ?_⟩, fun e1 => ?_⟩⟩
  · rw [if_pos (Or.inl f)] at h; exact h
  · rw [if_neg (by rintro (w | w); exact w f; exact n1 w), if_neg n0, if_neg n8] at h
    exact real (fun w => absurd w.1 (Int32.not_lt.mpr l)) h
  · rw [if_neg (by rintro (w | w); exact w f; exact n1 w), if_neg n0, if_neg n8] at h
    exact real (fun w => absurd w.2 (Int32.not_lt.mpr l2)) h
  · rw [if_neg (by rintro (w | w); exact w f; exact n1 w), if_neg n0, if_neg n8, if_pos ⟨Int32.not_le.mp l, Int32.not_le.mp l2⟩] at h
    exact m_againstL (by omega) h
  · rw [if_neg (by rintro (w | w); exact w f; exact n1 w), if_neg n0, if_pos e8] at h
    refine m_book (by omega) ?_
    refine m_book (by omega) ?_
    exact sub_sg h
  · rw [if_neg (by rintro (w | w); exact w f; exact n1 w), if_pos e0] at h
    exact m_againstL (by omega) h
  · rw [if_pos (Or.inr e1)] at h; exact h
theorem m_widens {d : Nat} {a b : Int32} {μ : mmMem} {K : Int32 → mmMem → Prop} (hd : 1 ≤ d) (ha : isB a) (hb : isB b) (h : K (if aWid a b = true then 1 else 0) μ) : mmCI d M_X8_widens true 2 [.int a, .int b] μ K := by
  refine u_X8_widens hd ?_
  have f : aWid a b = false → K 0 μ := fun e => by rw [e] at h; exact h
  have t : aWid a b = true → K 1 μ := fun e => by rw [e] at h; exact h
  rcases ha with rfl | rfl | rfl | rfl | rfl | rfl | rfl | rfl <;> rcases hb with rfl | rfl | rfl | rfl | rfl | rfl | rfl | rfl
  all_goals
    refine ⟨fun ne => ⟨fun q => ?_, fun q => ?_, fun q => ?_, fun q => ?_, fun q => ?_, fun q => ?_, fun q => ?_, trivial⟩, fun e => ?_⟩
  all_goals first
    | (exact absurd q (by decide))
    | (exact absurd rfl ne)
    | (exact absurd e (by decide))
    | (exact f (by decide))
    | (exact t (by decide))
    | (refine ⟨fun l => ?_, fun l => ?_⟩ <;> first | (exact absurd l (by decide)) | (exact absurd (by decide) l) | (exact f (by decide)) | (exact t (by decide)))
