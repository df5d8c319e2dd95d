/-! ===== the class: a column read from the text ===== -/
def chA (l : List Int32) (p : Nat) : Int32 := l.getD p (-1)
def psC (μ : mmMem) (l : List Int32) (p : Nat) : Prop := txtC μ l ∧ l.length ≤ 100 ∧ μ.1 141 1 = nI p ∧ p ≤ l.length
def psU (μ ν : mmMem) : Prop := ∀ q, q ≠ 141 → q ≠ 143 → eq3 μ ν q
theorem psU.refl (μ : mmMem) : psU μ μ := fun _ _ _ => eq3.rfl'
theorem psU.trans {μ ν ξ : mmMem} (h : psU μ ν) (h2 : psU ν ξ) : psU μ ξ := fun q a b => (h q a b).trans (h2 q a b)
theorem chA_lt {l : List Int32} {p : Nat} {x : Int32} (h : chA l p = x) (hx : x ≠ -1) (hp : p ≤ l.length) : p < l.length := by
  refine Nat.lt_of_not_le fun w => ?_
  unfold chA at h
  rw [List.getD_eq_getElem?_getD, List.getElem?_eq_none w] at h
  exact hx h.symm
theorem psC.go {μ : mmMem} {l : List Int32} {p : Nat} (h : psC μ l p) (hp : p < l.length) : psC (sI μ 141 1 (nI (p + 1))) l (p + 1) ∧ psU μ (sI μ 141 1 (nI (p + 1))) := by
  obtain ⟨⟨h1, h2⟩, h3, h4, h5⟩ := h
  exact ⟨⟨⟨by simpa [sI, upd] using h1, fun i x hx => by simpa [sI] using h2 i x hx⟩, h3, by simp [sI, upd], hp⟩, fun q a b => by simp [eq3, sI, a]⟩
theorem psC.set {μ : mmMem} {l : List Int32} {p : Nat} (x : aC) (h : psC μ l p) : psC (setC μ 143 x) l p ∧ psU μ (setC μ 143 x) := by
  obtain ⟨⟨h1, h2⟩, h3, h4, h5⟩ := h
  exact ⟨⟨⟨by rw [setC_1 _ _ _ _ (by decide)]; exact h1, fun i y hy => by rw [setC_1 _ _ _ _ (by decide)]; exact h2 i y hy⟩, h3, by rw [setC_1 _ _ _ _ (by decide)]; exact h4, h5⟩, fun q a b => ⟨setC_1 _ _ _ _ b, setC_2 _ _ _ _ b, setC_3 _ _ _ _ b⟩⟩
theorem c_sign {d p : Nat} {l : List Int32} {μ : mmMem} {K : Int32 → mmMem → Prop} (hd : 1 ≤ d) (hs : psC μ l p) (h : K (chA l p) μ) : mmCI d M_X5_sign false 0 [.ref 141] μ K := by
  obtain ⟨⟨h1, h2⟩, h3, h4, h5⟩ := hs
  refine u_X5_sign hd ?_
  rw [h1, h4, nI_leI (by omega) (by omega)]
  refine ⟨fun w => ?_, fun w => ⟨vp_in_nI (by omega) (by decide), ?_⟩⟩
  · have e : chA l p = -1 := by
      unfold chA
      rw [List.getD_eq_getElem?_getD, List.getElem?_eq_none w]; rfl
    rw [e] at h; exact h
  · have hx : l[p]? = some (chA l p) := by
      unfold chA
      rw [List.getD_eq_getElem?_getD, List.getElem?_eq_getElem (by omega)]; rfl
    rw [nI_clamp (by omega), h2 p _ hx]
    exact h
theorem c_skip {d p : Nat} {x : Int32} {l : List Int32} {μ : mmMem} {K : Int32 → mmMem → Prop} (hd : 2 ≤ d) (hx : x ≠ -1) (hs : psC μ l p) (h1 : chA l p = x → ∀ ν, psC ν l (p + 1) → psU μ ν → K 1 ν) (h0 : ¬ chA l p = x → K 0 μ) : mmCI d M_X5_skip false 1 [.ref 141, .int x] μ K := by
  refine u_X5_skip (by omega) ?_
  refine c_sign (by omega) hs ?_
  refine ⟨fun e => ?_, fun n => h0 n⟩
  have hp := chA_lt e hx hs.2.2.2
  rw [hs.2.2.1, nI_1]
  exact h1 e _ (hs.go hp).1 (hs.go hp).2
abbrev isDg (c : Int32) : Prop := ¬ c < 48 ∧ ¬ 57 < c
abbrev isLt (c : Int32) : Prop := ¬ c < 97 ∧ ¬ 122 < c
theorem isDg_lt {l : List Int32} {p : Nat} (h : isDg (chA l p)) (hp : p ≤ l.length) : p < l.length := by
  refine chA_lt rfl (fun e => ?_) hp
  rw [e] at h
  exact absurd h (by decide)
theorem isLt_lt {l : List Int32} {p : Nat} (h : isLt (chA l p)) (hp : p ≤ l.length) : p < l.length := by
  refine chA_lt rfl (fun e => ?_) hp
  rw [e] at h
  exact absurd h (by decide)
theorem c_isDigit {d p : Nat} {l : List Int32} {μ : mmMem} {K : Int32 → mmMem → Prop} (hd : 2 ≤ d) (hs : psC μ l p) (h : K (if isDg (chA l p) then 1 else 0) μ) : mmCI d M_X5_isDigit false 0 [.ref 141] μ K := by
  refine u_X5_isDigit (by omega) ?_
  refine c_sign (by omega) hs ?_
  refine ⟨fun a => ?_, fun a => ?_⟩
  · rw [if_neg (fun w => w.1 a)] at h; exact h
  · refine c_sign (by omega) hs ?_
    refine ⟨fun b => ?_, fun b => ?_⟩
    · rw [if_neg (fun w => w.2 b)] at h; exact h
    · rw [if_pos ⟨a, b⟩] at h; exact h
theorem c_isLetter {d p : Nat} {l : List Int32} {μ : mmMem} {K : Int32 → mmMem → Prop} (hd : 2 ≤ d) (hs : psC μ l p) (h : K (if isLt (chA l p) then 1 else 0) μ) : mmCI d M_X5_isLetter false 0 [.ref 141] μ K := by
  refine u_X5_isLetter (by omega) ?_
  refine c_sign (by omega) hs ?_
  refine ⟨fun a => ?_, fun a => ?_⟩
  · rw [if_neg (fun w => w.1 a)] at h; exact h
  · refine c_sign (by omega) hs ?_
    refine ⟨fun b => ?_, fun b => ?_⟩
    · rw [if_neg (fun w => w.2 b)] at h; exact h
    · rw [if_pos ⟨a, b⟩] at h; exact h
/-! words -/
def pW (l : List Int32) (p : Nat) : Bool × Nat × aC := if isLt (chA l p) then (if isLt (chA l (p + 1)) then (true, p + 2, (8, (chA l p - 97 + 1).toInt64 * 26 + (chA l (p + 1) - 97 + 1).toInt64)) else (true, p + 1, (8, (chA l p - 97 + 1).toInt64))) else (false, p, (-1, 0))
abbrev itP (μ : mmMem) (l : List Int32) (r : Bool × Nat × aC) (K : Int32 → mmMem → Prop) : Prop := ∀ ν, psC ν l r.2.1 → psU μ ν → (r.1 = true → clC ν 143 r.2.2) → K (if r.1 = true then 1 else 0) ν
theorem set8 (μ : mmMem) (w : Int64) : sD (sJ (sI μ 143 0 (10 : Int32)) 143 1 w) 143 2 FP.dconst0 = setC μ 143 (8, w) := by
  have z : FP.dconst0 = 0 := rfl
  simp [setC, enK, enN, enR, z]
theorem c_takeWord {d p : Nat} {l : List Int32} {μ : mmMem} {K : Int32 → mmMem → Prop} (hd : 3 ≤ d) (hs : psC μ l p) (h : itP μ l (pW l p) K) : mmCI d M_X5_takeWord false 0 [.ref 141] μ K := by
  refine u_X5_takeWord (by omega) ?_
  refine c_isLetter (by omega) hs ?_
  unfold pW at h
  by_cases a : isLt (chA l p)
  · rw [if_pos a] at h ⊢
    refine ⟨fun _ => ?_, fun w => absurd w (by decide)⟩
    refine c_sign (by omega) hs ?_
    have hp := isLt_lt a hs.2.2.2
    obtain ⟨s1, u1⟩ := hs.go hp
    rw [hs.2.2.1, nI_1]
    refine c_isLetter (by omega) s1 ?_
    by_cases b : isLt (chA l (p + 1))
    · rw [if_pos b] at h ⊢
      refine ⟨fun w => absurd w (by decide), fun _ => ?_⟩
      refine c_sign (by omega) s1 ?_
      have hp2 := isLt_lt b s1.2.2.2
      obtain ⟨s2, u2⟩ := s1.go hp2
      rw [s1.2.2.1, nI_1, set8]
      obtain ⟨s3, u3⟩ := s2.set (8, (chA l p - 97 + 1).toInt64 * 26 + (chA l (p + 1) - 97 + 1).toInt64)
      exact h _ s3 ((u1.trans u2).trans u3) (fun _ => setC_cl _ _ _)
    · rw [if_neg b] at h ⊢
      refine ⟨fun _ => ?_, fun w => absurd rfl w⟩
      rw [set8]
      obtain ⟨s3, u3⟩ := s1.set (8, (chA l p - 97 + 1).toInt64)
      exact h _ s3 (u1.trans u3) (fun _ => setC_cl _ _ _)
  · rw [if_neg a] at h ⊢
    exact ⟨fun w => absurd rfl w, fun _ => h μ hs (psU.refl μ) (fun w => by cases w)⟩
/-! numbers -/
def pDig (l : List Int32) : Nat → Nat → Nat → Int64 → Nat × Nat × Int64
  | 0, p, d, v => (p, d, v)
  | n + 1, p, d, v => if isDg (chA l p) then pDig l n (p + 1) (d + 1) (v * 10 + (chA l p - 48).toInt64) else (p, d, v)
def pBox (l : List Int32) (b : Int32) (p : Nat) : Bool × Nat × aC := (decide (0 < (pDig l 6 (if chA l p = 45 then p + 1 else p) 0 0).2.1), (pDig l 6 (if chA l p = 45 then p + 1 else p) 0 0).1, (b, aMade b (if chA l p = 45 then -(pDig l 6 (if chA l p = 45 then p + 1 else p) 0 0).2.2 else (pDig l 6 (if chA l p = 45 then p + 1 else p) 0 0).2.2)))
theorem c_boxE {d : Nat} {b g : Int32} {l : List Int32} {K : Int32 → mmMem → Prop} (hd : 4 ≤ d) (hb : isB b) (hg : g = 0 ∨ g = 1) (μ0 : mmMem) (R : Nat × Nat × Int64) (h : ∀ ν, psC ν l R.1 → psU μ0 ν → clC ν 143 (b, aMade b (if g = 1 then -R.2.2 else R.2.2)) → K (if decide (0 < R.2.1) = true then 1 else 0) ν) : ∀ (n p t : Nat) (v : Int64) (μ : mmMem), t + n = 6 → psC μ l p → psU μ0 μ → R = pDig l n p t v → mmEnds d M_X5_takeBox 12 [.ref 141, .int b, .int g, .int (nI t), .long v, .retAddr 7] [] μ (mmPI K) := by
  have fin : ∀ (p t : Nat) (v : Int64) (μ : mmMem) (K2 : mmMem → Prop), psC μ l p → psU μ0 μ → R = (p, t, v) → (∀ ν, K (if decide (0 < t) = true then 1 else 0) ν → K2 ν) → (g = 0 → mmC0 d M_X0_make false 2 [.ref 143, .int b, .long v] μ K2) ∧ (¬ g = 0 → mmC0 d M_X0_make false 2 [.ref 143, .int b, .long (-v)] μ K2) := fun p t v μ K2 hs hu e hk => by
    subst e
    refine ⟨fun q => ?_, fun q => ?_⟩
    · have n1 : ¬ g = 1 := fun w => by rw [q] at w; exact absurd w (by decide)
      rw [if_neg n1] at h
      obtain ⟨s3, u3⟩ := hs.set (b, aMade b v)
      exact c_make (by omega) kd_143 hb (hk _ (h _ s3 (hu.trans u3) (setC_cl _ _ _)))
    · have e1 : g = 1 := hg.resolve_left q
      rw [if_pos e1] at h
      obtain ⟨s3, u3⟩ := hs.set (b, aMade b (-v))
      exact c_make (by omega) kd_143 hb (hk _ (h _ s3 (hu.trans u3) (setC_cl _ _ _)))
  intro n
  induction n with
  | zero =>
    intro p t v μ ht hs hu e
    refine s_X5_takeBox_12 (by omega) ?_
    refine ⟨fun _ => ?_, fun w => absurd (nI_le (a := 6) (by omega) (by omega)) w⟩
    have := fin p t v μ (fun ν => mmPI K (some (.int 1)) ν) hs hu e (fun ν q => by
      rw [if_pos (decide_eq_true (by omega))] at q; exact q)
    exact this
  | succ n ih =>
    intro p t v μ ht hs hu e
    refine s_X5_takeBox_12 (by omega) ?_
    refine ⟨fun w => absurd w (nI_ge (b := 6) (by omega) (by omega)), fun _ => ?_⟩
    refine c_isDigit (by omega) hs ?_
    unfold pDig at e
    by_cases a : isDg (chA l p)
    · rw [if_pos a] at e ⊢
      refine ⟨fun w => absurd w (by decide), fun _ => ?_⟩
      refine c_sign (by omega) hs ?_
      obtain ⟨s1, u1⟩ := hs.go (isDg_lt a hs.2.2.2)
      rw [hs.2.2.1, nI_1, nI_1]
      exact ih (p + 1) (t + 1) _ _ (by omega) s1 (hu.trans u1) e
    · rw [if_neg a] at e ⊢
      refine ⟨fun _ => ?_, fun w => absurd rfl w⟩
      refine fin p t v μ _ hs hu e (fun ν q => ⟨fun w => ?_, fun w => ?_⟩)
      · rw [if_neg (by have := (nI_leI (b := 0) (by omega) (by decide)).mp w; simp; omega)] at q; exact q
      · rw [if_pos (by simp; exact Nat.pos_of_ne_zero fun z => w (by rw [z]; decide))] at q; exact q
theorem c_takeBox {d p : Nat} {b : Int32} {l : List Int32} {μ : mmMem} {K : Int32 → mmMem → Prop} (hd : 5 ≤ d) (hb : isB b) (hs : psC μ l p) (h : itP μ l (pBox l b p) K) : mmCI d M_X5_takeBox false 1 [.ref 141, .int b] μ K := by
  refine u_X5_takeBox (by omega) ?_
  unfold pBox at h
  refine c_skip (by omega) (by decide) hs (fun e ν s1 u1 => ?_) (fun n => ?_)
  · rw [if_pos e] at h
    exact c_boxE (g := 1) (by omega) hb (Or.inr rfl) μ _ (fun ν2 s2 u2 c2 => h ν2 s2 u2 (fun _ => by rw [if_pos e]; exact c2)) 6 (p + 1) 0 0 ν rfl s1 u1 rfl
  · rw [if_neg n] at h
    exact c_boxE (g := 0) (by omega) hb (Or.inl rfl) μ _ (fun ν2 s2 u2 c2 => h ν2 s2 u2 (fun _ => by rw [if_neg n]; exact c2)) 6 p 0 0 μ rfl hs (psU.refl μ) rfl
/-! kinds -/
def pKind (l : List Int32) (p : Nat) : Nat → Nat → Option Nat
  | 0, _ => none
  | n + 1, i => if chA l p = ltr i then some i else pKind l p n (i + 1)
def kPl (p : Nat) : Option Nat → Nat
  | none => p
  | some _ => p + 1
theorem ltr_ok : ∀ i, i < 11 → ltr i ≠ -1 := by decide +kernel
theorem pKind_lt {l : List Int32} {p : Nat} : ∀ {n i k : Nat}, pKind l p n i = some k → k < i + n
  | 0, _, _, h => by cases h
  | n + 1, i, k, h => by
    unfold pKind at h
    split at h
    · cases h; omega
    · have := pKind_lt h; omega
theorem c_kindE {d p m : Nat} {l : List Int32} {K : Int32 → mmMem → Prop} (hS : strOK) (hd : 6 ≤ d) (hm : m < 11) (o : Option Nat) (μ : mmMem) (hs : psC μ l p) (h : ∀ ν, psC ν l (kPl p o) → psU μ ν → K (leadAns o) ν) : ∀ (n i : Nat), i + n = m + 1 → o = pKind l p n i → mmEnds d M_X5_takeKind 2 [.ref 141, .int (nI m), .int (nI i)] [] μ (mmPI K) := by
  intro n
  induction n with
  | zero =>
    intro i hi e
    refine s_X5_takeKind_2 (by omega) ?_
    have e : o = none := e
    rw [e] at h
    exact ⟨fun _ => h μ hs (psU.refl μ), fun w => absurd ((nI_ltI (by omega) (by omega)).mpr (by omega)) w⟩
  | succ n ih =>
    intro i hi e
    refine s_X5_takeKind_2 (by omega) ?_
    refine ⟨fun w => absurd ((nI_ltI (by omega) (by omega)).mp w) (by omega), fun _ => ?_⟩
    refine hS _ i _ _ (by omega) (by omega) ?_
    unfold pKind at e
    refine c_skip (by omega) (ltr_ok i (by omega)) hs (fun q ν s1 u1 => ?_) (fun q => ?_)
    · rw [if_pos q] at e
      rw [e] at h
      exact ⟨fun w => absurd w (by decide), fun _ => h ν s1 u1⟩
    · rw [if_neg q] at e
      rw [nI_1]
      exact ⟨fun _ => ih (i + 1) (by omega) e, fun w => absurd rfl w⟩
theorem c_takeKind {d p m : Nat} {l : List Int32} {μ : mmMem} {K : Int32 → mmMem → Prop} (hS : strOK) (hd : 7 ≤ d) (hm : m < 11) (hs : psC μ l p) (h : ∀ ν, psC ν l (kPl p (pKind l p (m + 1) 0)) → psU μ ν → K (leadAns (pKind l p (m + 1) 0)) ν) : mmCI d M_X5_takeKind false 1 [.ref 141, .int (nI m)] μ K := by
  refine u_X5_takeKind (by omega) ?_
  exact c_kindE hS (by omega) hm _ μ hs h (m + 1) 0 (by omega) rfl
/-! items -/
def pItem (l : List Int32) (kd : Int32) (p : Nat) : Bool × Nat × aC :=
  if ¬ kd ≤ 7 ∧ chA l p = 95 then (true, p + 1, (-1, 0)) else if kd = 10 then pW l p else if kd = 9 then (if chA l p = 39 then pW l (p + 1) else match pKind l p 8 0 with
    | none => (false, p, (-1, 0))
    | some b => pBox l (nI b) (p + 1)) else if kd = 8 then pBox l 4 p else pBox l kd p
theorem y01 {b : Bool} {K : Int32 → mmMem → Prop} {ν : mmMem} (h : K (if b = true then 1 else 0) ν) : ((if b = true then (1 : Int32) else 0) = 0 → K 0 ν) ∧ (¬ (if b = true then (1 : Int32) else 0) = 0 → K 1 ν) := by
  cases b with
  | true => exact ⟨fun w => absurd w (by decide), fun _ => h⟩
  | false => exact ⟨fun _ => h, fun w => absurd rfl w⟩
theorem y01w {b : Bool} {K : Int32 → mmMem → Prop} {ν : mmMem} (h : K (if b = true then 1 else 0) ν) : ((if b = true then (1 : Int32) else 0) = 0 ∨ (if b = true then (1 : Int32) else 0) = 1) ∧ K (if b = true then 1 else 0) ν := by
  cases b with
  | true => exact ⟨Or.inr rfl, h⟩
  | false => exact ⟨Or.inl rfl, h⟩
theorem setE (μ : mmMem) : sD (sJ (sI μ 143 0 (-1 : Int32)) 143 1 (0 : Int64)) 143 2 FP.dconst0 = setC μ 143 (-1, 0) := by
  have z : FP.dconst0 = 0 := rfl
  simp [setC, enK, enN, enR, z]
theorem isB_nI : ∀ b, b < 8 → isB (nI b) := by
  intro b hb
  have : b = 0 ∨ b = 1 ∨ b = 2 ∨ b = 3 ∨ b = 4 ∨ b = 5 ∨ b = 6 ∨ b = 7 := by omega
  rcases this with rfl | rfl | rfl | rfl | rfl | rfl | rfl | rfl <;> simp [isB] <;> decide
theorem c_itemAny {d p : Nat} {l : List Int32} {μ : mmMem} {K : Int32 → mmMem → Prop} (hS : strOK) (hd : 7 ≤ d) (hs : psC μ l p) (h : itP μ l (if chA l p = 39 then pW l (p + 1) else match pKind l p 8 0 with
    | none => (false, p, (-1, 0))
    | some b => pBox l (nI b) (p + 1)) K) : mmCI d M_X5_skip false 1 [.ref 141, .int (39 : Int32)] μ fun y43 ν42 => (y43 = (0 : Int32) → mmCI d M_X5_takeKind false 1 [.ref 141, .int (7 : Int32)] ν42 fun y49 ν48 => (y49 < (0 : Int32) → K (0 : Int32) ν48) ∧ (¬ y49 < (0 : Int32) → mmCI d M_X5_takeBox false 1 [.ref 141, .int y49] ν48 fun y55 ν54 => (y55 = (0 : Int32) → K (0 : Int32) ν54) ∧ (¬ y55 = (0 : Int32) → K (1 : Int32) ν54))) ∧ (¬ y43 = (0 : Int32) → mmCI d M_X5_takeWord false 0 [.ref 141] ν42 fun y64 ν63 => (y64 = 0 ∨ y64 = 1) ∧ (K y64 ν63)) := by
  refine c_skip (by omega) (by decide) hs (fun e ν s1 u1 => ?_) (fun n => ?_)
  · rw [if_pos e] at h
    refine ⟨fun w => absurd w (by decide), fun _ => ?_⟩
    exact c_takeWord (by omega) s1 (fun ν2 s2 u2 c2 => y01w (h ν2 s2 (u1.trans u2) c2))
  · rw [if_neg n] at h
    refine ⟨fun _ => ?_, fun w => absurd rfl w⟩
    refine c_takeKind (m := 7) hS (by omega) (by decide) hs (fun ν s1 u1 => ?_)
    cases ho : pKind l p (7 + 1) 0 with
    | none =>
      have ho2 : pKind l p 8 0 = none := ho
      rw [ho] at s1
      rw [ho2] at h
      exact ⟨fun _ => h ν s1 u1 (fun w => by cases w), fun w => absurd (by decide) w⟩
    | some b =>
      have ho2 : pKind l p 8 0 = some b := ho
      rw [ho] at s1
      rw [ho2] at h
      have hb := pKind_lt ho2
      refine ⟨fun w => absurd w (nI_pos (by omega)), fun _ => ?_⟩
      exact c_takeBox (by omega) (isB_nI b (by omega)) s1 (fun ν2 s2 u2 c2 => y01 (h ν2 s2 (u1.trans u2) c2))
theorem c_takeItem {d p : Nat} {kd : Int32} {l : List Int32} {μ : mmMem} {K : Int32 → mmMem → Prop} (hS : strOK) (hd : 8 ≤ d) (hk : 0 ≤ kd.toInt ∧ kd.toInt ≤ 10) (hs : psC μ l p) (h : itP μ l (pItem l kd p) K) : mmCI d M_X5_takeItem false 1 [.ref 141, .int kd] μ K := by
  refine u_X5_takeItem (by omega) ?_
  unfold pItem at h
  have k0 : ¬ kd < 0 := fun w => by
    rw [Int32.lt_iff_toInt_lt] at w
    exact absurd hk.1 (Int.not_le.mpr w)
  refine ⟨fun le => ?_, fun gt => ?_⟩
  · have n10 : ¬ kd = 10 := fun e => by rw [e] at le; exact absurd le (by decide)
    have n9 : ¬ kd = 9 := fun e => by rw [e] at le; exact absurd le (by decide)
    have n8 : ¬ kd = 8 := fun e => by rw [e] at le; exact absurd le (by decide)
    rw [if_neg (fun w => w.1 le), if_neg n10, if_neg n9, if_neg n8] at h
    refine ⟨fun e => absurd e n10, fun _ => ⟨fun _ => ⟨fun _ => ⟨fun w => absurd w k0, fun _ => ?_⟩, fun e => absurd e n8⟩, fun e => absurd e n9⟩⟩
    exact c_takeBox (by omega) (isB_i k0 le) hs (fun ν s u c => y01 (h ν s u c))
  · refine c_skip (by omega) (by decide) hs (fun e ν s1 u1 => ?_) (fun n => ?_)
    · rw [if_pos ⟨gt, e⟩] at h
      refine ⟨fun w => absurd w (by decide), fun _ => ?_⟩
      rw [setE]
      obtain ⟨s2, u2⟩ := s1.set (-1, 0)
      exact h _ s2 (u1.trans u2) (fun _ => setC_cl _ _ _)
    · rw [if_neg (fun w => n w.2)] at h
      refine ⟨fun _ => ⟨fun e10 => ?_, fun n10 => ⟨fun n9 => ⟨fun n8 => ?_, fun e8 => ?_⟩, fun e9 => ?_⟩⟩, fun w => absurd rfl w⟩
      · rw [if_pos e10] at h
        exact c_takeWord (by omega) hs (fun ν s u c => y01w (h ν s u c))
      · exfalso
        have h1 : kd ≠ 8 := n8
        have h2 : ¬ kd.toInt ≤ 7 := fun w => gt (Int32.le_iff_toInt_le.mpr w)
        have i : ∀ j : Int32, kd.toInt = j.toInt → kd = j := fun j q => Int32.toInt_inj.mp q
        have : kd.toInt = 8 ∨ kd.toInt = 9 ∨ kd.toInt = 10 := by omega
        rcases this with w | w | w
        · exact n8 (i 8 w)
        · exact n9 (i 9 w)
        · exact n10 (i 10 w)
      · rw [if_neg n10, if_neg n9, if_pos e8] at h
        exact c_takeBox (by omega) (by simp [isB]) hs (fun ν s u c => y01 (h ν s u c))
      · rw [if_neg n10, if_pos e9] at h
        exact c_itemAny hS (by omega) hs h
/-! rows -/
def rdU (μ ν : mmMem) : Prop := ∀ q, (q < 141 ∨ q = 142 ∨ 150 ≤ q) → eq3 μ ν q
theorem rdU.refl (μ : mmMem) : rdU μ μ := fun _ _ => eq3.rfl'
theorem rdU.trans {μ ν ξ : mmMem} (h : rdU μ ν) (h2 : rdU ν ξ) : rdU μ ξ := fun q a => (h q a).trans (h2 q a)
theorem psU.rd {μ ν : mmMem} (h : psU μ ν) : rdU μ ν := fun q a => h q (by omega) (by omega)
theorem psC.fr {μ ν : mmMem} {l : List Int32} {p : Nat} (h : psC μ l p) (e1 : eq3 μ ν 141) (e2 : eq3 μ ν 142) : psC ν l p := by
  obtain ⟨⟨h1, h2⟩, h3, h4, h5⟩ := h
  exact ⟨⟨by rw [e1.1]; exact h1, fun i x hx => by rw [e2.1]; exact h2 i x hx⟩, h3, by rw [e1.1]; exact h4, h5⟩
theorem psU.col {μ ν : mmMem} {n : Nat} {c : aCol} (h : psU μ ν) (hc : colC μ 146 n c) : colC ν 146 n c := hc.fr (h _ (by decide) (by decide)) (h _ (by decide) (by decide)) (h _ (by decide) (by decide)) (h _ (by decide) (by decide))
def pItems (l : List Int32) (kd : Int32) : Nat → Nat → Nat → aCol → Bool × Nat × aCol
  | 0, _, p, c => (false, p, c)
  | j + 1, r, p, c => if (pItem l kd p).1 = true then (if j = 0 then (true, (pItem l kd p).2.1, setRow c r (pItem l kd p).2.2) else if chA l (pItem l kd p).2.1 = 44 then pItems l kd j (r + 1) ((pItem l kd p).2.1 + 1) (setRow c r (pItem l kd p).2.2) else (true, (pItem l kd p).2.1, setRow c r (pItem l kd p).2.2)) else (false, (pItem l kd p).2.1, c)
theorem c_itemsE {d n : Nat} {kd : Int32} {l : List Int32} {K : Int32 → mmMem → Prop} (hS : strOK) (hd : 8 ≤ d) (hk : 0 ≤ kd.toInt ∧ kd.toInt ≤ 10) (hn : n ≤ 40) (μ0 : mmMem) (R : Bool × Nat × aCol) (h : ∀ ν, psC ν l R.2.1 → rdU μ0 ν → colC ν 146 n R.2.2 → K (if R.1 = true then 1 else 0) ν) : ∀ (j r p : Nat) (c : aCol) (μ : mmMem), n - r = j → r ≤ n → psC μ l p → colC μ 146 n c → c.1 = kd → rdU μ0 μ → R = pItems l kd j r p c → mmEnds d M_X5_takeItems 13 [.ref 141, .ref 146, .int (nI n), .int (nI r)] [] μ (mmPI K) := by
  intro j
  induction j with
  | zero =>
    intro r p c μ hj hr hs hc ek hu e
    refine s_X5_takeItems_13 (by omega) kd_146 ?_
    have e : R = (false, p, c) := e
    rw [e] at h
    exact ⟨fun _ => h μ hs hu hc, fun w => absurd (nI_le (by omega) (by omega)) w⟩
  | succ j ih =>
    intro r p c μ hj hr hs hc ek hu e
    refine s_X5_takeItems_13 (by omega) kd_146 ?_
    refine ⟨fun w => absurd w (nI_ge (by omega) (by omega)), fun _ => ?_⟩
    rw [hc.1, ek]
    refine c_takeItem hS hd hk hs (fun ν s1 u1 c1 => ?_)
    have hc1 := u1.col hc
    unfold pItems at e
    cases ho : (pItem l kd p).1 with
    | false =>
      rw [ho, if_neg (by decide)] at e
      refine ⟨fun w => absurd rfl w, fun _ => ?_⟩
      rw [e] at h
      exact h ν s1 (hu.trans u1.rd) hc1
    | true =>
      rw [ho, if_pos rfl] at e
      refine ⟨fun _ => ?_, fun w => absurd w (by decide)⟩
      refine c_store (by omega) kd_146 kd_143 (c1 ho) (by omega) (fun ν2 f2 => ?_)
      have hc2 := f2.row hc1
      have f : ∀ q, q ≠ 147 → q ≠ 148 → q ≠ 149 → eq3 ν ν2 q := fun q h1 h2 h3 => f2.1 q h1 h2 h3
      have s2 := s1.fr (f 141 (by decide) (by decide) (by decide)) (f 142 (by decide) (by decide) (by decide))
      have u2 : rdU μ0 ν2 := (hu.trans u1.rd).trans (fun q hq => f q (by omega) (by omega) (by omega))
      rw [nI_1, nI_eq (by omega) (by omega)]
      refine ⟨fun w => ?_, fun w => ?_⟩
      · rw [if_pos (by omega)] at e
        rw [e] at h
        exact h ν2 s2 u2 hc2
      · rw [if_neg (by omega)] at e
        refine c_skip (by omega) (by decide) s2 (fun q ν3 s3 u3 => ?_) (fun q => ?_)
        · rw [if_pos q] at e
          refine ⟨fun _ => ih (r + 1) _ _ ν3 (by omega) (by omega) s3 (u3.col hc2) ek (u2.trans u3.rd) e, fun w => absurd w (by decide)⟩
        · rw [if_neg q] at e
          rw [e] at h
          exact ⟨fun w => absurd rfl w, fun _ => h ν2 s2 u2 hc2⟩
def pTake (l : List Int32) (kd : Int32) (n p : Nat) (c : aCol) : Bool × Nat × aCol := if chA l p = 41 then (true, p, c) else pItems l kd n 0 p c
theorem c_takeItems {d n p : Nat} {kd : Int32} {l : List Int32} {c : aCol} {μ : mmMem} {K : Int32 → mmMem → Prop} (hS : strOK) (hd : 9 ≤ d) (hk : 0 ≤ kd.toInt ∧ kd.toInt ≤ 10) (hn : n ≤ 40) (hs : psC μ l p) (hc : colC μ 146 n c) (ek : c.1 = kd) (h : ∀ ν, psC ν l (pTake l kd n p c).2.1 → rdU μ ν → colC ν 146 n (pTake l kd n p c).2.2 → K (if (pTake l kd n p c).1 = true then 1 else 0) ν) : mmCI d M_X5_takeItems false 2 [.ref 141, .ref 146, .int (nI n)] μ K := by
  refine u_X5_takeItems (by omega) kd_146 ?_
  refine c_sign (by omega) hs ?_
  unfold pTake at h
  refine ⟨fun q => ?_, fun q => ?_⟩
  · rw [if_neg q] at h
    exact c_itemsE hS (by omega) hk hn μ _ h n 0 p c μ rfl (Nat.zero_le _) hs hc ek (rdU.refl μ) rfl
  · rw [if_pos q] at h
    exact h μ hs (rdU.refl μ) hc
/-! what is read is a right column -/
theorem w97b : ∀ k, k < 26 → ∀ m, m < 26 → 1 ≤ (nI (97 + k) - 97 + 1).toInt64 * 26 + (nI (97 + m) - 97 + 1).toInt64 ∧ (nI (97 + k) - 97 + 1).toInt64 * 26 + (nI (97 + m) - 97 + 1).toInt64 ≤ 702 := by decide +kernel
theorem w97a : ∀ k, k < 26 → 1 ≤ (nI (97 + k) - 97 + 1).toInt64 ∧ (nI (97 + k) - 97 + 1).toInt64 ≤ 702 := by decide +kernel
theorem isLt_nI {c : Int32} (h : isLt c) : ∃ k, k < 26 ∧ c = nI (97 + k) := by
  obtain ⟨h1, h2⟩ := h
  have h3 : ¬ c < 0 := fun w => h1 (by
    rw [Int32.lt_iff_toInt_lt] at w ⊢
    have e0 : (0 : Int32).toInt = 0 := rfl
    have e1 : (97 : Int32).toInt = 97 := rfl
    omega)
  obtain ⟨n, hn, rfl⟩ := nI_of h3
  have a1 : ¬ n < 97 := fun w => h1 ((nI_ltI hn (by decide : (97 : Nat) < 2 ^ 31)).mpr w)
  have a2 : ¬ 122 < n := fun w => h2 ((nI_ltI (by decide : (122 : Nat) < 2 ^ 31) hn).mpr w)
  exact ⟨n - 97, by omega, by congr 1; omega⟩
theorem pW_ok {l : List Int32} {p : Nat} (h : (pW l p).1 = true) : okC (pW l p).2.2 ∧ (pW l p).2.2.1 = 8 := by
  unfold pW at h ⊢
  by_cases a : isLt (chA l p)
  · rw [if_pos a] at h ⊢
    obtain ⟨k, hk, ek⟩ := isLt_nI a
    by_cases b : isLt (chA l (p + 1))
    · rw [if_pos b]
      obtain ⟨m, hm, em⟩ := isLt_nI b
      rw [ek, em]
      have := w97b k hk m hm
      exact ⟨by simp only [okC]; simp [this], rfl⟩
    · rw [if_neg b]
      rw [ek]
      have := w97a k hk
      exact ⟨by simp only [okC]; simp [this], rfl⟩
  · rw [if_neg a] at h
    cases h
theorem pBox_ok {l : List Int32} {b : Int32} {p : Nat} (hb : isB b) : okC (pBox l b p).2.2 ∧ (pBox l b p).2.2.1 = b := ⟨ok_made hb _, rfl⟩
theorem pItem_ok {l : List Int32} {kd : Int32} {p : Nat} (hk : 0 ≤ kd.toInt ∧ kd.toInt ≤ 10) (h : (pItem l kd p).1 = true) : okC (pItem l kd p).2.2 ∧ fitK kd (pItem l kd p).2.2 := by
  have k0 : ¬ kd < 0 := fun w => by
    rw [Int32.lt_iff_toInt_lt] at w
    exact absurd hk.1 (Int.not_le.mpr w)
  unfold pItem at h ⊢
  by_cases c1 : ¬ kd ≤ 7 ∧ chA l p = 95
  · rw [if_pos c1]
    exact ⟨Or.inl ⟨rfl, rfl⟩, fun w => absurd w c1.1, fun _ => Or.inl rfl, fun _ => Or.inl rfl⟩
  rw [if_neg c1] at h ⊢
  by_cases c2 : kd = 10
  · rw [if_pos c2] at h ⊢
    obtain ⟨g1, g2⟩ := pW_ok h
    exact ⟨g1, fun w => absurd w (by rw [c2]; decide), fun w => absurd w (by rw [c2]; decide), fun _ => Or.inr g2⟩
  rw [if_neg c2] at h ⊢
  by_cases c3 : kd = 9
  · rw [if_pos c3] at h ⊢
    have fk : ∀ x : aC, fitK kd x := fun x => ⟨fun w => absurd w (by rw [c3]; decide), fun w => absurd w (by rw [c3]; decide), fun w => absurd w c2⟩
    by_cases c4 : chA l p = 39
    · rw [if_pos c4] at h ⊢
      exact ⟨(pW_ok h).1, fk _⟩
    · rw [if_neg c4] at h ⊢
      cases ho : pKind l p 8 0 with
      | none => rw [ho] at h; cases h
      | some b =>
        have hb := pKind_lt ho
        exact ⟨(pBox_ok (isB_nI b (by omega))).1, fk _⟩
  rw [if_neg c3] at h ⊢
  by_cases c5 : kd = 8
  · rw [if_pos c5]
    obtain ⟨g1, g2⟩ := pBox_ok (l := l) (b := 4) (p := p) (by simp [isB])
    exact ⟨g1, fun w => absurd w (by rw [c5]; decide), fun _ => Or.inr g2, fun w => absurd w c2⟩
  · rw [if_neg c5]
    have le : kd ≤ 7 := by
      refine Classical.byContradiction fun gt => ?_
      have h2 : ¬ kd.toInt ≤ 7 := fun w => gt (Int32.le_iff_toInt_le.mpr w)
      have i : ∀ j : Int32, kd.toInt = j.toInt → kd = j := fun j q => Int32.toInt_inj.mp q
      have : kd.toInt = 8 ∨ kd.toInt = 9 ∨ kd.toInt = 10 := by omega
      rcases this with w | w | w
      · exact c5 (i 8 w)
      · exact c3 (i 9 w)
      · exact c2 (i 10 w)
    obtain ⟨g1, g2⟩ := pBox_ok (l := l) (p := p) (isB_i k0 le)
    exact ⟨g1, fun _ => g2, fun w => absurd w c5, fun w => absurd w c2⟩
theorem pItems_ok {l : List Int32} {kd : Int32} {n : Nat} (hk : 0 ≤ kd.toInt ∧ kd.toInt ≤ 10) : ∀ (j r p : Nat) (c : aCol), okCol n c → c.1 = kd → c.2.1 = false → okCol n (pItems l kd j r p c).2.2 ∧ (pItems l kd j r p c).2.2.1 = kd ∧ (pItems l kd j r p c).2.2.2.1 = false
  | 0, _, _, c, ok, e, g => ⟨ok, e, g⟩
  | j + 1, r, p, c, ok, e, g => by
    unfold pItems
    cases ho : (pItem l kd p).1 with
    | false => rw [if_neg (by decide)]; exact ⟨ok, e, g⟩
    | true =>
      rw [if_pos rfl]
      obtain ⟨x1, x2⟩ := pItem_ok hk ho
      have ok2 : okCol n (setRow c r (pItem l kd p).2.2) := by
        obtain ⟨g1, g2, g3⟩ := ok
        refine ⟨g1, g2, fun i hi => ?_⟩
        show okC (if i = r then _ else _) ∧ fitK c.1 (if i = r then _ else _)
        by_cases q : i = r
        · rw [if_pos q]; exact ⟨x1, by rw [e]; exact x2⟩
        · rw [if_neg q]; exact g3 i hi
      by_cases z : j = 0
      · rw [if_pos z]; exact ⟨ok2, e, g⟩
      · rw [if_neg z]
        by_cases q : chA l (pItem l kd p).2.1 = 44
        · rw [if_pos q]
          exact pItems_ok hk j (r + 1) _ _ ok2 e g
        · rw [if_neg q]; exact ⟨ok2, e, g⟩
theorem pTake_ok {l : List Int32} {kd : Int32} {n p : Nat} {c : aCol} (hk : 0 ≤ kd.toInt ∧ kd.toInt ≤ 10) (ok : okCol n c) (e : c.1 = kd) (g : c.2.1 = false) : okCol n (pTake l kd n p c).2.2 := by
  unfold pTake
  split
  · exact ok
  · exact (pItems_ok hk n 0 p c ok e g).1
/-! the whole text -/
def pEnd (l : List Int32) (r : Bool × Nat × aCol) : Bool × Nat × aCol := if r.1 = true then (if chA l r.2.1 = 41 then (decide (r.2.1 + 1 = l.length), r.2.1 + 1, r.2.2) else (false, r.2.1, r.2.2)) else r
def pNew (k : Nat) : aCol := (nI k, false, fun _ => newC (nI k))
def pParse (l : List Int32) (n : Nat) : Bool × Nat × aCol := match pKind l 0 11 0 with
  | none => (false, 0, pNew 0)
  | some k => if chA l 1 = 40 then pEnd l (pTake l (nI k) n 2 (pNew k)) else (false, 1, pNew 0)
theorem nI_k10 : ∀ k, k < 11 → 0 ≤ (nI k).toInt ∧ (nI k).toInt ≤ 10 := by decide +kernel
theorem pNew_ok {n k : Nat} (hk : k < 11) : okCol n (pNew k) := ⟨(nI_k10 k hk).1, (nI_k10 k hk).2, fun r _ => newC_ok (nI_k10 k hk)⟩
theorem pParse_ok {l : List Int32} {n : Nat} : okCol n (pParse l n).2.2 := by
  unfold pParse
  split
  · exact pNew_ok (by decide)
  · rename_i k ho
    have hk := pKind_lt ho
    split
    · unfold pEnd
      have := pTake_ok (l := l) (n := n) (p := 2) (nI_k10 k (by omega)) (pNew_ok (n := n) (k := k) (by omega)) rfl rfl
      split
      · split
        · exact this
        · exact this
      · exact this
    · exact pNew_ok (by decide)
theorem c_parse {d n : Nat} {l : List Int32} {μ : mmMem} {K : Int32 → mmMem → Prop} (hS : strOK) (hd : 10 ≤ d) (hn : n ≤ 40) (ht : txtC μ l) (hl : l.length ≤ 100) (h : ∀ ν, psC ν l (pParse l n).2.1 → rdU μ ν → ((pParse l n).1 = true → colC ν 146 n (pParse l n).2.2) → K (if (pParse l n).1 = true then 1 else 0) ν) : mmCI d M_X5_parse false 2 [.ref 141, .ref 146, .int (nI n)] μ K := by
  refine u_X5_parse (by omega) kd_146 ?_
  have s0 : psC (sI μ 141 1 0) l 0 := ⟨⟨by simpa [sI, upd] using ht.1, fun i x hx => by simpa [sI] using ht.2 i x hx⟩, hl, by simp [sI, upd]; rfl, Nat.zero_le _⟩
  have u0 : rdU μ (sI μ 141 1 0) := fun q hq => by
    have : q ≠ 141 := by omega
    simp [eq3, sI, this]
  refine c_takeKind (m := 10) hS (by omega) (by decide) s0 (fun ν s1 u1 => ?_)
  cases ho : pKind l 0 (10 + 1) 0 with
  | none =>
    have ho2 : pKind l 0 11 0 = none := ho
    have hP : pParse l n = (false, 0, pNew 0) := by unfold pParse; rw [ho2]
    rw [hP] at h
    rw [ho] at s1
    exact ⟨fun _ => h ν s1 (u0.trans u1.rd) (fun w => by cases w), fun w => absurd (by decide) w⟩
  | some k =>
    have ho2 : pKind l 0 11 0 = some k := ho
    rw [ho] at s1
    have hk := pKind_lt ho2
    have s1 : psC ν l 1 := s1
    have u01 := u0.trans u1.rd
    have hP : pParse l n = if chA l 1 = 40 then pEnd l (pTake l (nI k) n 2 (pNew k)) else (false, 1, pNew 0) := by unfold pParse; rw [ho2]
    refine ⟨fun w => absurd w (nI_pos (by omega)), fun _ => ?_⟩
    refine c_skip (by omega) (by decide) s1 (fun e ν2 s2 u2 => ?_) (fun e => ?_)
    · rw [if_pos e] at hP
      rw [hP] at h
      have u02 := u01.trans u2.rd
      refine ⟨fun _ => ?_, fun w => absurd w (by decide)⟩
      refine c_begin (by omega) kd_146 (nI_k10 k (by omega)) hn (fun ν3 hc f3 => ?_)
      have s3 : psC ν3 l 2 := s2.fr (f3 141 (by decide)) (f3 142 (by decide))
      have u03 : rdU μ ν3 := u02.trans (fun q hq => f3 q (by omega))
      refine c_takeItems (c := pNew k) hS (by omega) (nI_k10 k (by omega)) hn s3 hc rfl (fun ν4 s4 u4 c4 => ?_)
      have u04 := u03.trans u4
      generalize pTake l (nI k) n 2 (pNew k) = R at s4 c4 h
      cases hR : R.1 with
      | false =>
        have hE : pEnd l R = R := by unfold pEnd; rw [if_neg (by rw [hR]; decide)]
        rw [hE] at h
        have g := h ν4 s4 u04 (fun w => by rw [hR] at w; cases w)
        rw [hR] at g
        exact ⟨fun _ => g, fun w => absurd rfl w⟩
      | true =>
        have hE : pEnd l R = if chA l R.2.1 = 41 then (decide (R.2.1 + 1 = l.length), R.2.1 + 1, R.2.2) else (false, R.2.1, R.2.2) := by unfold pEnd; rw [if_pos hR]
        refine ⟨fun w => absurd w (by decide), fun _ => ?_⟩
        refine c_skip (by omega) (by decide) s4 (fun e2 ν5 s5 u5 => ?_) (fun e2 => ?_)
        · rw [if_pos e2] at hE
          rw [hE] at h
          refine ⟨fun w => absurd w (by decide), fun _ => ?_⟩
          have hle := s5.2.2.2
          rw [s5.2.2.1, s5.1.1, nI_eq (by omega) (by omega)]
          have g := h ν5 s5 (u04.trans u5.rd) (fun _ => u5.col c4)
          refine ⟨fun w => ?_, fun w => ?_⟩
          · rw [if_neg (by simpa using w)] at g; exact g
          · rw [if_pos (by simpa using w)] at g; exact g
        · rw [if_neg e2] at hE
          rw [hE] at h
          exact ⟨fun _ => h ν4 s4 u04 (fun w => by cases w), fun w => absurd rfl w⟩
    · rw [if_neg e] at hP
      rw [hP] at h
      exact ⟨fun w => absurd rfl w, fun _ => h ν s1 u01 (fun w => by cases w)⟩
def sp_read (S : aS) : Int32 × aS := if (pParse S.2.2.2.2 S.1.1).1 = true then (if S.1.2.1.length < 12 then (nI S.1.2.1.length, sTx (sT S (addT S.1 (pParse S.2.2.2.2 S.1.1).2.2)) []) else (-4, sTx S [])) else (-10 - nI (pParse S.2.2.2.2 S.1.1).2.1, sTx S [])
theorem CS.rd {μ ν : mmMem} {S : aS} (h : CS μ S) (u : rdU μ ν) : CS (sI ν 141 0 0) (sTx S []) := by
  obtain ⟨h1, h2, h3, h4, ⟨h5, h6, h7⟩, -, -⟩ := h
  have e : ∀ q, q < 141 → eq3 μ (sI ν 141 0 0) q := fun q hq => (u q (by omega)).trans (by
    have : q ≠ 141 := by omega
    simp [eq3, sI, this])
  have e0 := e 0 (by decide)
  exact ⟨h1.fr h2 (fun q _ _ => e q (by omega)), h2, h3.fr (by rw [e0.1]) (fun q _ _ => e q (by omega)), by rw [e0.2.1]; exact h4, ⟨by rw [e0.1]; exact h5, by rw [e0.1]; exact h6, by rw [e0.1]; exact h7⟩, ⟨by simp [sI, upd, sTx]; rfl, fun i x hx => by cases hx⟩, ⟨by simp [sTx], fun x hx => by cases hx⟩⟩
theorem c_read {d : Nat} {S : aS} {μ : mmMem} {K : Int32 → mmMem → Prop} (hS : strOK) (hd : 11 ≤ d) (hC : CS μ S) (h : ∀ ν, CS ν (sp_read S).2 → hiE μ ν → K (sp_read S).1 ν) : mmCI d M_X7_read false 0 [.ref 0] μ K := by
  refine u_X7_read (by omega) ?_
  have h40 := hC.2.1.1
  have h12 := hC.2.1.2.1
  rw [hC.1.1.1]
  refine c_parse (n := S.1.1) hS (by omega) h40 hC.2.2.2.2.2.1 hC.2.2.2.2.2.2.1 (fun ν s1 u1 c1 => ?_)
  have hC1 := hC.rd u1
  have hi1 : hiE μ (sI ν 141 0 0) := fun q hq => (u1 q (by omega)).trans (by
    have : q ≠ 141 := by omega
    simp [eq3, sI, this])
  unfold sp_read at h
  have okp := pParse_ok (l := S.2.2.2.2) (n := S.1.1)
  have ecame : ν.1 1 1 = nI S.1.2.1.length := by rw [(u1 1 (by omega)).1]; exact hC.1.1.2.1
  cases ho : (pParse S.2.2.2.2 S.1.1).1 with
  | false =>
    rw [ho, if_neg (by decide)] at h
    rw [if_neg (by decide)]
    refine ⟨fun w => absurd rfl w, fun _ => ?_⟩
    rw [s1.2.2.1]
    exact h _ hC1 hi1
  | true =>
    rw [ho, if_pos rfl] at h
    rw [if_pos rfl]
    refine ⟨fun _ => ?_, fun w => absurd w (by decide)⟩
    rw [ecame, nI_1]
    refine ⟨fun q3 => ?_, fun q3 => ?_⟩
    · have hlt : S.1.2.1.length < 12 := (nI_ltI (by omega) (by decide : (12 : Nat) < 2 ^ 31)).mp q3
      rw [if_pos hlt] at h
      have e1 : nI (S.1.2.1.length + 1) - 1 = nI S.1.2.1.length := nI_pred _
      rw [e1, nI_clamp (by omega)]
      refine ⟨vp_in_nI hlt (by decide), ?_⟩
      have g0 : ∀ q, q ≠ 1 → eq3 (sI ν 141 0 0) (sI (sI ν 141 0 0) 1 1 (nI (S.1.2.1.length + 1))) q := fun q hq => by simp [eq3, sI, hq]
      have cc : colC (sI (sI ν 141 0 0) 1 1 (nI (S.1.2.1.length + 1))) 146 S.1.1 (pParse S.2.2.2.2 S.1.1).2.2 := by
        have e : ∀ q, 146 ≤ q → eq3 ν (sI (sI ν 141 0 0) 1 1 (nI (S.1.2.1.length + 1))) q := fun q hq => by
          have a1 : q ≠ 141 := by omega
          have a2 : q ≠ 1 := by omega
          simp [eq3, sI, a1, a2]
        exact (c1 ho).fr (e _ (by decide)) (e _ (by decide)) (e _ (by decide)) (e _ (by decide))
      refine c_colCopy (by omega) (kcol _ hlt).1 kd_146 (by omega) cc h40 (fun ν2 hν f => ?_)
      have g : ∀ q, q ≠ 1 → (q < 7 + 4 * S.1.2.1.length ∨ 11 + 4 * S.1.2.1.length ≤ q) → eq3 (sI ν 141 0 0) ν2 q := fun q h1 h2 => (g0 q h1).trans (f q (by omega))
      have e2 : ν2.1 1 = (sI (sI ν 141 0 0) 1 1 (nI (S.1.2.1.length + 1))).1 1 := (f 1 (by omega)).1
      have e3 : ν2.1 1 1 = nI (S.1.2.1.length + 1) := by rw [e2]; simp [sI, upd]
      rw [e3, e1]
      exact h ν2 (hC1.tab (hC1.1.add hC1.2.1 hlt (fun q h1 h2 _ => g q h1 h2) ⟨e3, by rw [e2]; simp [sI, upd], by rw [e2]; simp [sI, upd], by rw [e2]; simp [sI, upd]⟩ hν) (addT_ok hC1.2.1 hlt okp) (fun q h1 h2 => g q (by omega) (by omega)) (by rw [(g 141 (by omega) (by omega)).1])) (hi1.trans fun q hq => g q (by omega) (by omega))
    · have hlt : ¬ S.1.2.1.length < 12 := fun w => q3 ((nI_ltI (by omega) (by decide : (12 : Nat) < 2 ^ 31)).mpr w)
      rw [if_neg hlt] at h
      exact h _ hC1 hi1
