/-! ===== CELLS: the abstract cell is (sort, number), as the reference has it ===== -/
abbrev aC : Type := Int32 × Int64
def bF (n : Int64) : UInt32 := n.toInt32.toUInt32
def bD (n : Int64) : UInt64 := n.toUInt64
def ofF (f : UInt32) : Int64 := f.toInt32.toInt64
def ofD (d : UInt64) : Int64 := d.toInt64
theorem bF_ofF (f : UInt32) : bF (ofF f) = f := by simp [bF, ofF]
theorem bD_ofD (d : UInt64) : bD (ofD d) = d := rfl
theorem ofD_bD (n : Int64) : ofD (bD n) = n := rfl
def aLow (b : Int32) (v : Int64) : Int64 :=
  if b = 1 then v.toInt32.toInt8.toInt32.toInt64 else if b = 2 then ((v.toInt32.toUInt32 % 65536).toInt32).toInt64 else if b = 3 then v.toInt32.toInt16.toInt32.toInt64 else if b = 4 then v.toInt32.toInt64 else v
def aVal (x : aC) : UInt64 := if x.1 = 6 then FP.f2d (bF x.2) else if x.1 = 7 then bD x.2 else FP.l2d x.2
def aMade (b : Int32) (v : Int64) : Int64 :=
  if b = 0 then v &&& 1 else if b = 6 then ofF (FP.fdiv (FP.l2f v) 1082130432) else if b = 7 then ofD (FP.ddiv (FP.l2d v) 4616189618054758400) else aLow b v
def aCast (x : aC) (t : Int32) : Int64 :=
  if x.1 = t then x.2 else
  if t = 0 then (if x.1 < 6 then (if x.2 = 0 then 0 else 1) else (if aVal x = 0 then 0 else 1)) else
  if t = 5 then (if x.1 < 6 then x.2 else FP.d2l (aVal x)) else
  if t = 6 then (if x.1 < 6 then ofF (FP.l2f x.2) else ofF (FP.d2f (aVal x))) else
  if t = 7 then ofD (aVal x) else
  aLow t (if x.1 < 6 then x.2 else (FP.d2i (aVal x)).toInt64)
def aFam (x : aC) : Int32 := if x.1 = -1 then 3 else if x.1 = 8 then 2 else if x.1 = 0 then 0 else 1
/-- a word's place in a book -/
def aW (n : Int64) : Int32 := if n.toInt32 < 27 then 27 * (n.toInt32 - 1) else 27 * ((n.toInt32 - 27) / 26) + 1 + ((n.toInt32 - 27) - (n.toInt32 - 27) / 26 * 26)
def sg (x : Int32) : Int32 := if x < 0 then -1 else if x = 0 then 0 else 1
def dSg (a b : UInt64) : Int32 := match FP.dcmp a b with
  | some .lt => -1
  | some .gt => 1
  | _ => 0
def aRank (x y : aC) : Int32 :=
  if aFam x ≠ aFam y then aFam x - aFam y else
  if x.1 = -1 then 0 else
  if x.1 = 8 then aW x.2 - aW y.2 else
  if x.1 ≠ 0 ∧ dSg (aVal x) (aVal y) ≠ 0 then dSg (aVal x) (aVal y) else
  if x.1 ≠ y.1 then x.1 - y.1 else lg_cmp x.2 y.2
/-- doubles and floats as they come up here: 0, or of a size from 1/4 to below 2^65; no -0 -/
def okD (r : UInt64) : Prop := r = 0 ∨ (1021 * 2 ^ 52 ≤ r.toNat % 2 ^ 63 ∧ r.toNat % 2 ^ 63 ≤ 1088 * 2 ^ 52)
def okF (f : UInt32) : Prop := f = 0 ∨ (125 * 2 ^ 23 ≤ f.toNat % 2 ^ 31 ∧ f.toNat % 2 ^ 31 ≤ 192 * 2 ^ 23)
def okC (x : aC) : Prop :=
  (x.1 = -1 ∧ x.2 = 0) ∨ (x.1 = 0 ∧ (x.2 = 0 ∨ x.2 = 1)) ∨ (x.1 = 1 ∧ aLow 1 x.2 = x.2) ∨ (x.1 = 2 ∧ aLow 2 x.2 = x.2) ∨ (x.1 = 3 ∧ aLow 3 x.2 = x.2) ∨ (x.1 = 4 ∧ aLow 4 x.2 = x.2) ∨ x.1 = 5 ∨
  (x.1 = 6 ∧ ofF (bF x.2) = x.2 ∧ okF (bF x.2)) ∨ (x.1 = 7 ∧ okD (bD x.2)) ∨ (x.1 = 8 ∧ 1 ≤ x.2 ∧ x.2 ≤ 702)
/-- a cell as the class holds it -/
def enK (x : aC) : Int32 := if x.1 = 8 then 10 else x.1
def enN (x : aC) : Int64 := if x.1 = 6 ∨ x.1 = 7 then 0 else x.2
def enR (x : aC) : UInt64 := if x.1 = -1 ∨ x.1 = 0 ∨ x.1 = 8 then 0 else aVal x
def clC (μ : mmMem) (p : Nat) (x : aC) : Prop := μ.1 p 0 = enK x ∧ μ.2.1 p 1 = enN x ∧ μ.2.2 p 2 = enR x
def setC (μ : mmMem) (p : Nat) (x : aC) : mmMem := sD (sJ (sI μ p 0 (enK x)) p 1 (enN x)) p 2 (enR x)
theorem setC_cl (μ : mmMem) (p : Nat) (x : aC) : clC (setC μ p x) p x := by simp [clC, setC, sI, sJ, sD, upd, vp_updL, vf_upd]
theorem setC_1 (μ : mmMem) (p q : Nat) (x : aC) (h : q ≠ p) : (setC μ p x).1 q = μ.1 q := by simp [setC, sI, sJ, sD, h]
theorem setC_2 (μ : mmMem) (p q : Nat) (x : aC) (h : q ≠ p) : (setC μ p x).2.1 q = μ.2.1 q := by simp [setC, sI, sJ, sD, h]
theorem setC_3 (μ : mmMem) (p q : Nat) (x : aC) (h : q ≠ p) : (setC μ p x).2.2 q = μ.2.2 q := by simp [setC, sI, sJ, sD, h]
theorem clC.set {μ : mmMem} {p q : Nat} {x y : aC} (h : clC μ q y) (hq : q ≠ p) : clC (setC μ p x) q y := by
  unfold clC at *
  rw [setC_1 _ _ _ _ hq, setC_2 _ _ _ _ hq, setC_3 _ _ _ _ hq]
  exact h
/-- the nine sorts one by one -/
theorem okC.cases {x : aC} (h : okC x) : x.1 = -1 ∨ x.1 = 0 ∨ x.1 = 1 ∨ x.1 = 2 ∨ x.1 = 3 ∨ x.1 = 4 ∨ x.1 = 5 ∨ x.1 = 6 ∨ x.1 = 7 ∨ x.1 = 8 := by
  rcases h with h | h | h | h | h | h | h | h | h | h <;> simp [h]
theorem c_lowestBits {d : Nat} {b : Int32} {v : Int64} {μ : mmMem} {K : Int64 → mmMem → Prop} (hd : 1 ≤ d) (h : K (aLow b v) μ) : mmCJ d M_X0_lowestBits true 2 [.int b, .long v] μ K := by
  refine u_X0_lowestBits hd ?_
  have e : ∀ k : Int32, b.toInt = k.toInt → b = k := fun k q => Int32.toInt_inj.mp q
  refine ⟨fun q => ?_, fun q => ?_, fun q => ?_, fun q => ?_, fun q => ?_, trivial⟩
  · have h1 : b ≠ 1 := by rintro rfl; revert q; decide
    have h2 : b ≠ 2 := by rintro rfl; revert q; decide
    have h3 : b ≠ 3 := by rintro rfl; revert q; decide
    have h4 : b ≠ 4 := by rintro rfl; revert q; decide
    simpa [aLow, h1, h2, h3, h4] using h
  · cases e 1 q; exact h
  · cases e 2 q; exact h
  · cases e 3 q; exact h
  · cases e 4 q; exact h
theorem c_family {d p : Nat} {x : aC} {μ : mmMem} {K : Int32 → mmMem → Prop} (hd : 1 ≤ d) (hp : mmKD p = 0) (hx : clC μ p x) (ok : okC x) (h : K (aFam x) μ) : mmCI d M_X0_family false 0 [.ref p] μ K := by
  refine u_X0_family hd hp ?_
  rw [hx.1]
  rcases ok.cases with q | q | q | q | q | q | q | q | q | q <;> simpa [enK, aFam, q] using h
theorem c_isNumber {d p : Nat} {x : aC} {μ : mmMem} {K : Int32 → mmMem → Prop} (hd : 1 ≤ d) (hp : mmKD p = 0) (hx : clC μ p x) (ok : okC x) (h : K (if aFam x = 1 then 1 else 0) μ) : mmCI d M_X0_isNumber false 0 [.ref p] μ K := by
  refine u_X0_isNumber hd hp ?_
  rw [hx.1]
  rcases ok.cases with q | q | q | q | q | q | q | q | q | q <;> simpa [enK, aFam, q] using h
theorem c_isBox {d p : Nat} {x : aC} {μ : mmMem} {K : Int32 → mmMem → Prop} (hd : 1 ≤ d) (hp : mmKD p = 0) (hx : clC μ p x) (ok : okC x) (h : K (if 0 ≤ x.1 ∧ x.1 < 8 then 1 else 0) μ) : mmCI d M_X0_isBox false 0 [.ref p] μ K := by
  refine u_X0_isBox hd hp ?_
  rw [hx.1]
  rcases ok.cases with q | q | q | q | q | q | q | q | q | q <;> simpa [enK, q] using h
