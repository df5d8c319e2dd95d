/-! ===== the class: casts ===== -/
def bxIn (k : Int32) : Int32 := if k = 8 then 4 else k
def cbk (x : aC) (k : Int32) : Bool := if x.1 = -1 then !(decide (k < 8)) else if x.1 = 8 then !(decide (k < 9)) else if k < 9 then aCast (bxIn k, aCast x (bxIn k)) x.1 == x.2 else k == 9
theorem bxIn_ok {k : Int32} (h1 : ¬ k < 0) (h2 : k < 9) : isB (bxIn k) := by
  unfold bxIn
  split
  · simp [isB]
  · rename_i n
    refine isB_i h1 ?_
    rw [Int32.lt_iff_toInt_lt] at h2
    rw [Int32.le_iff_toInt_le]
    have : k.toInt ≠ 8 := fun w => n (Int32.toInt_inj.mp w)
    have e9 : (9 : Int32).toInt = 9 := rfl
    have e7 : (7 : Int32).toInt = 7 := rfl
    omega
theorem c_copy {d p q : Nat} {x : aC} {μ : mmMem} {K : mmMem → Prop} (hd : 1 ≤ d) (hp : mmKD p = 0) (hq : mmKD q = 0) (hx : clC μ q x) (h : K (setC μ p x)) : mmC0 d M_X0_copyFrom false 1 [.ref p, .ref q] μ K := by
  refine u_X0_copyFrom hd hp hq ?_
  rw [hx.1, hx.2.1, hx.2.2]
  exact h
theorem box_of {x : aC} (ok : okC x) (h1 : ¬ x.1 = -1) (h2 : ¬ x.1 = 8) : isB x.1 := by
  rcases ok.cases with w | w
  · exact absurd w h1
  · rcases w with w | w | w | w | w | w | w | w | w
    all_goals first | (exact absurd w h2) | (rw [w]; simp [isB])
theorem enK_m1 {x : aC} (ok : okC x) : enK x = -1 ↔ x.1 = -1 := by
  unfold enK
  rcases ok.cases with w | w | w | w | w | w | w | w | w | w <;> rw [w] <;> decide
theorem enK_10 {x : aC} (ok : okC x) : enK x = 10 ↔ x.1 = 8 := by
  unfold enK
  rcases ok.cases with w | w | w | w | w | w | w | w | w | w <;> rw [w] <;> decide
theorem c_comesBack {d p : Nat} {x : aC} {k : Int32} {μ : mmMem} {K : Int32 → mmMem → Prop} (hd : 5 ≤ d) (hp : mmKD p = 0) (hp2 : p ≠ 154) (hx : clC μ p x) (ok : okC x) (hk : ¬ k < 0) (h : ∀ ν, (∀ z, z ≠ 154 → eq3 μ ν z) → K (if cbk x k = true then 1 else 0) ν) : mmCI d M_X7_comesBack false 2 [.ref 0, .ref p, .int k] μ K := by
  refine u_X7_comesBack (by omega) hp ?_
  rw [hx.1, enK_m1 ok, enK_10 ok]
  have f : cbk x k = false → K 0 μ := fun e => by have := h μ (fun z _ => eq3.rfl'); rw [e] at this; exact this
  have t : cbk x k = true → K 1 μ := fun e => by have := h μ (fun z _ => eq3.rfl'); rw [e] at this; exact this
  refine ⟨fun n1 => ⟨fun n2 => ⟨fun l => ?_, fun l => ⟨fun n9 => f (by simp [cbk, n1, n2, l, n9]), fun n9 => t (by rw [n9]; simp [cbk, n1, n2])⟩⟩, fun n2 => ⟨fun l => f (by simp [cbk, n2, l]), fun l => t (by simp [cbk, n2, l])⟩⟩, fun n1 => ⟨fun l => f (by simp [cbk, n1, l]), fun l => t (by simp [cbk, n1, l])⟩⟩
  have hb := box_of ok n1 n2
  have ht := bxIn_ok hk l
  have ec : cbk x k = (aCast (bxIn k, aCast x (bxIn k)) x.1 == x.2) := by unfold cbk; rw [if_neg n1, if_neg n2, if_pos l]
  have ek : enK x = x.1 := (en_box hb x.2).1
  have go : mmC0 (d - 1) M_X0_turnInto false 1 [.ref 154, .int (bxIn k)] (setC μ 154 x) fun ν18 => mmC0 (d - 1) M_X0_turnInto false 1 [.ref 154, .int (ν18.1 p 0)] ν18 fun ν19 => mmCI (d - 1) M_X0_isSame false 1 [.ref 154, .ref p] ν19 fun y21 ν20 => (y21 = 0 ∨ y21 = 1) ∧ K y21 ν20 := by
    have f1 : ∀ z, z ≠ 154 → eq3 μ (setC μ 154 x) z := fun z hz => ⟨setC_1 _ _ _ _ hz, setC_2 _ _ _ _ hz, setC_3 _ _ _ _ hz⟩
    refine c_turnInto (by omega) kd_154 (setC_cl _ _ _) ok hb ht ?_
    have f2 : ∀ z, z ≠ 154 → eq3 μ (setC (setC μ 154 x) 154 (bxIn k, aCast x (bxIn k))) z := fun z hz => (f1 z hz).trans ⟨setC_1 _ _ _ _ hz, setC_2 _ _ _ _ hz, setC_3 _ _ _ _ hz⟩
    rw [(f2 p hp2).1, hx.1, ek]
    have ok2 := ok_cast ok hb ht
    refine c_turnInto (by omega) kd_154 (setC_cl _ _ _) ok2 ht hb ?_
    have f3 : ∀ z, z ≠ 154 → eq3 μ (setC (setC (setC μ 154 x) 154 (bxIn k, aCast x (bxIn k))) 154 (x.1, aCast (bxIn k, aCast x (bxIn k)) x.1)) z := fun z hz => (f2 z hz).trans ⟨setC_1 _ _ _ _ hz, setC_2 _ _ _ _ hz, setC_3 _ _ _ _ hz⟩
    have ok3 := ok_cast (x := (bxIn k, aCast x (bxIn k))) ok2 ht hb
    refine c_isSame (by omega) kd_154 hp (setC_cl _ _ _) (hx.fr (f3 p hp2)) ok3 ok ?_
    refine ⟨by split <;> simp, ?_⟩
    have := h _ f3
    rw [ec] at this
    have ei : ((x.1, aCast (bxIn k, aCast x (bxIn k)) x.1) = x) ↔ (aCast (bxIn k, aCast x (bxIn k)) x.1 = x.2) := ⟨fun e => congrArg Prod.snd e, fun e => Prod.ext rfl e⟩
    by_cases z : aCast (bxIn k, aCast x (bxIn k)) x.1 = x.2
    · rw [if_pos (ei.mpr z)]
      rw [if_pos (by simpa using z)] at this
      exact this
    · rw [if_neg (fun e => z (ei.mp e))]
      rw [if_neg (by simpa using z)] at this
      exact this
  refine c_copy (by omega) kd_154 hp hx ?_
  refine ⟨fun n8 => ?_, fun n8 => ?_⟩
  · have : bxIn k = k := if_neg n8
    rw [this] at go
    exact go
  · have : bxIn k = 4 := if_pos n8
    rw [this] at go
    exact go
def lostAt (f : Nat → aC) (k : Int32) : Nat → Nat → Int32
  | 0, _ => -5
  | j + 1, r => if cbk (f r) k = true then lostAt f k j (r + 1) else nI r
theorem lostAt_ok {f : Nat → aC} {k : Int32} : ∀ {j r : Nat}, r + j ≤ 40 → lostAt f k j r = -5 → ∀ i, r ≤ i → i < r + j → cbk (f i) k = true
  | 0, r, _, _, i, h1, h2 => by omega
  | j + 1, r, hj, h, i, h1, h2 => by
    unfold lostAt at h
    by_cases hc : cbk (f r) k = true
    · rw [if_pos hc] at h
      by_cases e : i = r
      · rw [e]; exact hc
      · exact lostAt_ok (by omega) h i (by omega) (by omega)
    · rw [if_neg hc] at h
      have := congrArg Int32.toInt h
      rw [nI_toInt (by omega)] at this
      have e5 : (-5 : Int32).toInt = -5 := rfl
      rw [e5] at this
      omega
theorem c_lostE {d a i : Nat} {k : Int32} {S : aS} {col : aCol} {P : Option Value → mmMem → Prop} (hd : 5 ≤ d) (ea : a = 7 + 4 * i) (hi : S.1.2.1[i]? = some col) (hk : ¬ k < 0) (ans : Int32) : ∀ (j r : Nat) (μ : mmMem), S.1.1 - r = j → r ≤ S.1.1 → CS μ S → ans = lostAt col.2.2 k j r → (∀ ν, scr μ ν → P (some (.int ans)) ν) → mmEnds d M_X7_firstLost 2 [.ref 0, .ref a, .int k, .int (nI r)] [] μ P := by
  intro j
  induction j with
  | zero =>
    intro r μ hj hr hC ha h
    have h40 := hC.2.1.1
    have h12 := hC.2.1.2.1
    have hkl := lt_of_get hi
    refine s_X7_firstLost_2 (by omega) (by rw [ea]; exact (kcol i (by omega)).1) ?_
    rw [hC.1.1.1]
    have e : ans = -5 := ha
    rw [e] at h
    exact ⟨fun _ => h μ (scr.refl μ), fun w => absurd (nI_le (by omega) (by omega)) w⟩
  | succ j ih =>
    intro r μ hj hr hC ha h
    have h40 := hC.2.1.1
    have h12 := hC.2.1.2.1
    have hkl := lt_of_get hi
    have ka : mmKD a = 1 := by rw [ea]; exact (kcol i (by omega)).1
    refine s_X7_firstLost_2 (by omega) ka ?_
    rw [hC.1.1.1, nI_1]
    refine ⟨fun w => absurd w (nI_ge (by omega) (by omega)), fun _ => ?_⟩
    subst ea
    refine c_load (by omega) ka kd_152 (hC.colC hi) (by omega) h40 ?_
    have s1 := setC_scr μ 152 (col.2.2 r) (by decide) (by decide)
    refine c_comesBack (by omega) kd_152 (by decide) (setC_cl _ _ _) ((hC.okCol hi).2.2 r (by omega)).1 hk (fun ν g => ?_)
    have s2 : scr μ ν := s1.trans ⟨fun q hq => g q (by omega), by rw [(g 141 (by decide)).1]⟩
    unfold lostAt at ha
    cases hb : cbk (col.2.2 r) k with
    | true =>
      rw [hb, if_pos rfl] at ha
      exact ⟨fun _ => ih (r + 1) ν (by omega) (by omega) (hC.scr s2) ha (fun ν2 s3 => h ν2 (s2.trans s3)), fun w => absurd w (by decide)⟩
    | false =>
      rw [hb, if_neg (by decide)] at ha
      rw [ha] at h
      exact ⟨fun w => absurd rfl w, fun _ => h ν s2⟩
theorem c_firstLost {d i : Nat} {k : Int32} {S : aS} {col : aCol} {μ : mmMem} {K : Int32 → mmMem → Prop} (hd : 6 ≤ d) (hi : S.1.2.1[i]? = some col) (hk : ¬ k < 0) (hC : CS μ S) (h : ∀ ν, scr μ ν → K (lostAt col.2.2 k S.1.1 0) ν) : mmCI d M_X7_firstLost false 2 [.ref 0, .ref (7 + 4 * i), .int k] μ K := by
  have h12 := hC.2.1.2.1
  have hkl := lt_of_get hi
  refine u_X7_firstLost (by omega) (kcol i (by omega)).1 ?_
  exact c_lostE (by omega) rfl hi hk _ _ 0 μ rfl (Nat.zero_le _) hC rfl (fun ν s => h ν s)
def sp_loses (c k : Int32) (S : aS) : Int32 × aS := withC S c fun _ col => if k < 0 ∨ 10 < k then (-2, S) else (lostAt col.2.2 k S.1.1 0, S)
theorem c_loses {d : Nat} {c k : Int32} {S : aS} {μ : mmMem} {K : Int32 → mmMem → Prop} (hd : 7 ≤ d) (hC : CS μ S) (h : ∀ ν, CS ν (sp_loses c k S).2 → hiE μ ν → K (sp_loses c k S).1 ν) : mmCI d M_X7_loses false 2 [.ref 0, .int c, .int k] μ K := by
  refine u_X7_loses (by omega) ?_
  refine c_columnRefusal (by omega) hC (fun ν hν hh => ?_)
  unfold sp_loses at h
  refine ⟨fun q => ?_, fun q => ?_⟩
  · obtain ⟨i, col, hk, rfl, hcol, hg⟩ := cref_0 q
    rw [withC_ok hk q hcol] at h
    rw [q] at hν
    replace hν : CS ν S := hν
    rw [nI_clamp (by omega)]
    refine ⟨fun l => ?_, fun l => ⟨fun l2 => ?_, fun l2 => ⟨vp_in_nI hk (by decide), ?_⟩⟩⟩
    · rw [if_pos (Or.inl l)] at h; exact h ν hν hh
    · rw [if_pos (Or.inr l2)] at h; exact h ν hν hh
    · rw [if_neg (by rintro (w | w); exact l w; exact l2 w)] at h
      exact c_firstLost (by omega) hcol l hν (fun ν2 s2 => h ν2 (hν.scr s2) (hh.trans s2.hi))
  · rw [withC_no q] at h
    exact h ν hν hh
def castsF (f : Nat → aC) (n : Nat) : Nat → Nat → Int32 → Int32
  | 0, _, a => a
  | j + 1, k, a => castsF f n j (k + 1) (if lostAt f (nI k) n 0 = -5 then a ||| ((1 : Int32) <<< (nI k &&& 31)) else a)
def sp_casts (c : Int32) (S : aS) : Int32 × aS := withC S c fun _ col => (castsF col.2.2 S.1.1 11 0 0, S)
theorem c_castsE {d i : Nat} {S : aS} {col : aCol} {P : Option Value → mmMem → Prop} (hd : 6 ≤ d) (hi : S.1.2.1[i]? = some col) (x2 ans : Int32) : ∀ (j k : Nat) (a : Int32) (μ : mmMem), 11 - k = j → k ≤ 11 → CS μ S → ans = castsF col.2.2 S.1.1 j k a → (∀ ν, scr μ ν → P (some (.int ans)) ν) → mmEnds d M_X7_casts 17 [.ref 0, .int (nI i), .int x2, .int a, .int (nI k)] [] μ P := by
  intro j
  induction j with
  | zero =>
    intro k a μ hj hk hC ha h
    refine s_X7_casts_17 (by omega) ?_
    have e : ans = a := ha
    rw [e] at h
    have e11 : k = 11 := by omega
    subst e11
    exact ⟨fun _ => h μ (scr.refl μ), fun w => absurd (by decide) w⟩
  | succ j ih =>
    intro k a μ hj hk hC ha h
    have h12 := hC.2.1.2.1
    have hkl := lt_of_get hi
    refine s_X7_casts_17 (by omega) ?_
    rw [nI_clamp (by omega), nI_1]
    refine ⟨fun w => absurd w (nI_nlt (b := k) (a := 10) (by omega) (by decide)) |> fun x => x, fun _ => ⟨vp_in_nI (by omega) (by decide), ?_⟩⟩
    refine c_firstLost (by omega) hi (nI_pos (by omega)) hC (fun ν s1 => ?_)
    unfold castsF at ha
    refine ⟨fun n => ?_, fun e => ?_⟩
    · rw [if_neg n] at ha
      exact ih (k + 1) a ν (by omega) (by omega) (hC.scr s1) ha (fun ν2 s2 => h ν2 (s1.trans s2))
    · rw [if_pos e] at ha
      exact ih (k + 1) _ ν (by omega) (by omega) (hC.scr s1) ha (fun ν2 s2 => h ν2 (s1.trans s2))
theorem c_casts {d : Nat} {c : Int32} {S : aS} {μ : mmMem} {K : Int32 → mmMem → Prop} (hd : 7 ≤ d) (hC : CS μ S) (h : ∀ ν, CS ν (sp_casts c S).2 → hiE μ ν → K (sp_casts c S).1 ν) : mmCI d M_X7_casts false 1 [.ref 0, .int c] μ K := by
  refine u_X7_casts (by omega) ?_
  refine c_columnRefusal (by omega) hC (fun ν hν hh => ?_)
  unfold sp_casts at h
  refine ⟨fun q => ?_, fun q => ?_⟩
  · obtain ⟨i, col, hk, rfl, hcol, hg⟩ := cref_0 q
    rw [withC_ok hk q hcol] at h
    rw [q] at hν
    replace hν : CS ν S := hν
    exact c_castsE (S := S) (by omega) hcol _ _ _ 0 0 ν rfl (by decide) hν rfl (fun ν2 s => h ν2 (hν.scr s) (hh.trans s.hi))
  · rw [withC_no q] at h
    exact h ν hν hh
def castC (k : Int32) (x : aC) : aC := if (0 ≤ x.1 ∧ x.1 < 8) ∧ k ≠ 9 then (bxIn k, aCast x (bxIn k)) else x
def castCol (k : Int32) (c : aCol) : aCol := (k, c.2.1, fun r => castC k (c.2.2 r))
def sp_cast (c k : Int32) (S : aS) : Int32 × aS := withC S c fun i col => if k < 0 ∨ 10 < k then (-2, S) else if lostAt col.2.2 k S.1.1 0 = -5 then (col.1, putCol S i (castCol k col)) else (-1000 - lostAt col.2.2 k S.1.1 0, S)
theorem box_iff {x : aC} (ok : okC x) : (0 ≤ x.1 ∧ x.1 < 8) ↔ (¬ x.1 = -1 ∧ ¬ x.1 = 8) := by
  rcases ok.cases with w | w | w | w | w | w | w | w | w | w <;> rw [w] <;> decide
theorem castC_ok {k k0 : Int32} {x : aC} (hk : 0 ≤ k.toInt ∧ k.toInt ≤ 10) (ok : okC x) (hb : cbk x k = true) : okC (castC k x) ∧ fitK k (castC k x) := by
  have e : ∀ j : Int32, k.toInt = j.toInt → k = j := fun j q => Int32.toInt_inj.mp q
  have k0 : ¬ k < 0 := by rw [Int32.lt_iff_toInt_lt]; exact Int.not_lt.mpr hk.1
  unfold castC
  by_cases bx : 0 ≤ x.1 ∧ x.1 < 8
  · obtain ⟨n1, n2⟩ := (box_iff ok).mp bx
    have hbx := box_of ok n1 n2
    by_cases k9 : k = 9
    · rw [if_neg (fun w => w.2 k9)]
      subst k9
      exact ⟨ok, fun w => absurd w (by decide), fun w => absurd w (by decide), fun w => absurd w (by decide)⟩
    · rw [if_pos ⟨bx, k9⟩]
      unfold cbk at hb
      rw [if_neg n1, if_neg n2] at hb
      have l9 : k < 9 := by
        refine Classical.byContradiction fun w => ?_
        rw [if_neg w] at hb
        exact k9 (by simpa using hb)
      have ht := bxIn_ok k0 l9
      refine ⟨ok_cast ok hbx ht, fun w => ?_, fun w => ?_, fun w => ?_⟩
      · have : k ≠ 8 := fun e => by rw [e] at w; exact absurd w (by decide)
        exact if_neg this
      · exact Or.inr (if_pos w)
      · rw [w] at l9; exact absurd l9 (by decide)
  · rw [if_neg (fun w => bx w.1)]
    have hn : x.1 = -1 ∨ x.1 = 8 := by
      refine Classical.byContradiction fun w => bx ((box_iff ok).mpr ⟨fun a => w (Or.inl a), fun a => w (Or.inr a)⟩)
    unfold cbk at hb
    rcases hn with n | n
    · rw [if_pos n] at hb
      have l8 : ¬ k < 8 := by simpa using hb
      refine ⟨ok, fun w => ?_, fun _ => Or.inl n, fun _ => Or.inl n⟩
      exfalso
      rw [Int32.le_iff_toInt_le] at w
      rw [Int32.lt_iff_toInt_lt] at l8
      have e8 : (8 : Int32).toInt = 8 := rfl
      have e7 : (7 : Int32).toInt = 7 := rfl
      omega
    · rw [if_neg (by rw [n]; decide), if_pos n] at hb
      have l9 : ¬ k < 9 := by simpa using hb
      refine ⟨ok, fun w => ?_, fun w => ?_, fun _ => Or.inr n⟩
      · exfalso
        rw [Int32.le_iff_toInt_le] at w
        rw [Int32.lt_iff_toInt_lt] at l9
        have e9 : (9 : Int32).toInt = 9 := rfl
        have e7 : (7 : Int32).toInt = 7 := rfl
        omega
      · rw [w] at l9; exact absurd (by decide) l9
theorem c_castE {d i : Nat} {k x5 : Int32} {S : aS} {col : aCol} {K : Int32 → mmMem → Prop} (hd : 4 ≤ d) (hi : S.1.2.1[i]? = some col) (hk : 0 ≤ k.toInt ∧ k.toInt ≤ 10) (hb : ∀ r, r < S.1.1 → cbk (col.2.2 r) k = true) (x1 x3 x6 : Int32) (μ0 : mmMem) (hC : CS μ0 S) (h : ∀ ν, (∀ z, z ≠ 152 → (z < 7 + 4 * i ∨ 11 + 4 * i ≤ z) → eq3 μ0 ν z) → colC ν (7 + 4 * i) S.1.1 (castCol k col) → K x6 ν) : ∀ (j r : Nat) (μ : mmMem), S.1.1 - r = j → r ≤ S.1.1 → (∀ z, z ≠ 152 → (z < 7 + 4 * i ∨ 11 + 4 * i ≤ z) → eq3 μ0 μ z) → colC μ (7 + 4 * i) S.1.1 (k, col.2.1, fun q => if q < r then castC k (col.2.2 q) else col.2.2 q) → mmEnds d M_X7_cast 72 [.ref 0, .int x1, .int k, .int x3, .ref (7 + 4 * i), .int x5, .int x6, .int (nI r)] [] μ (mmPI K) := by
  have h40 := hC.2.1.1
  have h12 := hC.2.1.2.1
  have hil := lt_of_get hi
  have ka := (kcol i (by omega)).1
  have k0 : ¬ k < 0 := by rw [Int32.lt_iff_toInt_lt]; exact Int.not_lt.mpr hk.1
  intro j
  induction j with
  | zero =>
    intro r μ hj hr hf hc
    refine s_X7_cast_72 (by omega) ka ?_
    rw [(hf 1 (by decide) (by omega)).1, hC.1.1.1]
    refine ⟨fun _ => h μ hf ⟨hc.1, hc.2.1, fun q hq => ?_⟩, fun w => absurd (nI_le (by omega) (by omega)) w⟩
    have := hc.2.2 q hq
    dsimp only at this
    rw [if_pos (by omega)] at this
    exact this
  | succ j ih =>
    intro r μ hj hr hf hc
    refine s_X7_cast_72 (by omega) ka ?_
    rw [(hf 1 (by decide) (by omega)).1, hC.1.1.1, nI_1]
    refine ⟨fun w => absurd w (nI_ge (by omega) (by omega)), fun _ => ?_⟩
    refine c_load (by omega) ka kd_152 hc (by omega) h40 ?_
    have ex : (k, col.2.1, fun q => if q < r then castC k (col.2.2 q) else col.2.2 q).2.2 r = col.2.2 r := if_neg (by omega)
    rw [ex]
    have okx := ((hC.okCol hi).2.2 r (by omega)).1
    have hbr := hb r (by omega)
    have f1 : ∀ z, z ≠ 152 → eq3 μ (setC μ 152 (col.2.2 r)) z := fun z hz => ⟨setC_1 _ _ _ _ hz, setC_2 _ _ _ _ hz, setC_3 _ _ _ _ hz⟩
    have hc1 := hc.fr (f1 _ (by omega)) (f1 _ (by omega)) (f1 _ (by omega)) (f1 _ (by omega))
    have same : castC k (col.2.2 r) = col.2.2 r → mmEnds d M_X7_cast 72 [.ref 0, .int x1, .int k, .int x3, .ref (7 + 4 * i), .int x5, .int x6, .int (nI (r + 1))] [] (setC μ 152 (col.2.2 r)) (mmPI K) := fun e => by
      refine ih (r + 1) _ (by omega) (by omega) (fun z h1 h2 => (hf z h1 h2).trans (f1 z h1)) ⟨hc1.1, hc1.2.1, fun q hq => ?_⟩
      have := hc1.2.2 q hq
      dsimp only at this ⊢
      by_cases q1 : q < r
      · rw [if_pos q1] at this; rw [if_pos (by omega)]; exact this
      · rw [if_neg q1] at this
        by_cases q2 : q = r
        · rw [if_pos (by omega), q2, e]; rw [q2] at this; exact this
        · rw [if_neg (by omega)]; exact this
    refine c_isBox (by omega) kd_152 (setC_cl _ _ _) okx ?_
    by_cases bx : 0 ≤ (col.2.2 r).1 ∧ (col.2.2 r).1 < 8
    · rw [if_pos bx]
      refine ⟨fun w => absurd w (by decide), fun _ => ⟨fun e9 => same (if_neg fun w => w.2 e9), fun n9 => ?_⟩⟩
      obtain ⟨n1, n2⟩ := (box_iff okx).mp bx
      have hbx := box_of okx n1 n2
      have l9 : k < 9 := by
        unfold cbk at hbr
        rw [if_neg n1, if_neg n2] at hbr
        refine Classical.byContradiction fun w => ?_
        rw [if_neg w] at hbr
        exact n9 (by simpa using hbr)
      have ht := bxIn_ok k0 l9
      have ec : castC k (col.2.2 r) = (bxIn k, aCast (col.2.2 r) (bxIn k)) := if_pos ⟨bx, n9⟩
      have go : mmC0 (d) M_X0_turnInto false 1 [.ref 152, .int (bxIn k)] (setC μ 152 (col.2.2 r)) fun ν20 => mmC0 (d) M_X1_store false 2 [.ref (7 + 4 * i), .int (nI r), .ref 152] ν20 fun ν21 => mmEnds d M_X7_cast 72 [.ref 0, .int x1, .int k, .int x3, .ref (7 + 4 * i), .int x5, .int x6, .int (nI (r + 1))] [] ν21 (mmPI K) := by
        refine c_turnInto (by omega) kd_152 (setC_cl _ _ _) okx hbx ht ?_
        have f2 : ∀ z, z ≠ 152 → eq3 μ (setC (setC μ 152 (col.2.2 r)) 152 (bxIn k, aCast (col.2.2 r) (bxIn k))) z := fun z hz => (f1 z hz).trans ⟨setC_1 _ _ _ _ hz, setC_2 _ _ _ _ hz, setC_3 _ _ _ _ hz⟩
        have hc2 := hc.fr (f2 _ (by omega)) (f2 _ (by omega)) (f2 _ (by omega)) (f2 _ (by omega))
        refine c_store (by omega) ka kd_152 (setC_cl _ _ _) (by omega) (fun ν3 u3 => ?_)
        have hr3 := u3.row hc2
        refine ih (r + 1) _ (by omega) (by omega) (fun z h1 h2 => ((hf z h1 h2).trans (f2 z h1)).trans (u3.1 z (by omega) (by omega) (by omega))) ⟨hr3.1, hr3.2.1, fun q hq => ?_⟩
        have := hr3.2.2 q hq
        dsimp only [setRow] at this ⊢
        by_cases q2 : q = r
        · rw [if_pos q2] at this
          rw [if_pos (by omega), q2, ec]
          rw [q2] at this
          exact this
        · rw [if_neg q2] at this
          by_cases q1 : q < r
          · rw [if_pos q1] at this; rw [if_pos (by omega)]; exact this
          · rw [if_neg q1] at this; rw [if_neg (by omega)]; exact this
      refine ⟨fun n8 => ?_, fun n8 => ?_⟩
      · have : bxIn k = k := if_neg n8
        rw [this] at go
        exact go
      · have : bxIn k = 4 := if_pos n8
        rw [this] at go
        exact go
    · rw [if_neg bx]
      exact ⟨fun _ => same (if_neg fun w => bx w.1), fun w => absurd rfl w⟩
theorem c_cast {d : Nat} {c k : Int32} {S : aS} {μ : mmMem} {K : Int32 → mmMem → Prop} (hd : 7 ≤ d) (hC : CS μ S) (h : ∀ ν, CS ν (sp_cast c k S).2 → hiE μ ν → K (sp_cast c k S).1 ν) : mmCI d M_X7_cast false 2 [.ref 0, .int c, .int k] μ K := by
  refine u_X7_cast (by omega) ?_
  refine c_columnRefusal (by omega) hC (fun ν hν hh => ?_)
  unfold sp_cast at h
  refine ⟨fun q => ?_, fun q => ?_⟩
  · obtain ⟨i, col, hk, rfl, hcol, hg⟩ := cref_0 q
    rw [withC_ok hk q hcol] at h
    rw [q] at hν
    replace hν : CS ν S := hν
    rw [nI_clamp (by omega)]
    refine ⟨fun l => ?_, fun l => ⟨fun l2 => ?_, fun l2 => ⟨vp_in_nI hk (by decide), ?_⟩⟩⟩
    · rw [if_pos (Or.inl l)] at h; exact h ν hν hh
    · rw [if_pos (Or.inr l2)] at h; exact h ν hν hh
    · rw [if_neg (by rintro (w | w); exact l w; exact l2 w)] at h
      have kk := i32_of l l2
      refine c_firstLost (by omega) hcol l hν (fun ν2 s2 => ?_)
      have hC2 := hν.scr s2
      have h40 := hC.2.1.1
      have h12 := hC.2.1.2.1
      have hcc := hC2.colC hcol
      refine ⟨fun e => ?_, fun e => ?_⟩
      · rw [if_pos e] at h
        rw [hcc.1]
        have hb : ∀ r, r < S.1.1 → cbk (col.2.2 r) k = true := fun r hr => lostAt_ok (r := 0) (j := S.1.1) (by omega) e r (Nat.zero_le _) (by omega)
        have g : ∀ z, z ≠ 7 + 4 * i → eq3 ν2 (sI ν2 (7 + 4 * i) 0 k) z := fun z hz => by simp [eq3, sI, hz]
        have okc : okCol S.1.1 (castCol k col) := ⟨kk.1, kk.2, fun r hr => castC_ok (k0 := k) kk ((hC2.okCol hcol).2.2 r hr).1 (hb r hr)⟩
        refine c_castE (S := S) (by omega) hcol kk hb _ _ _ ν2 hC2 (fun ν3 f3 c3 => ?_) _ 0 _ rfl (Nat.zero_le _) (fun z h1 h2 => g z (by omega)) ⟨by simp [sI, upd], ?_, fun q hq => ?_⟩
        · exact h ν3 (hC2.putCol (lt_of_get hcol) (fun q h1 h2 => f3 q (by omega) (by omega)) (by rw [(f3 141 (by decide) (by omega)).1]) c3 okc) ((hh.trans s2.hi).trans fun q hq => f3 q (by omega) (by omega))
        · have := hcc.2.1
          simp [sI, upd, this]
        · have := hcc.2.2 q hq
          rw [(g _ (by omega)).1, (g _ (by omega)).2.1, (g _ (by omega)).2.2]
          exact this
      · rw [if_neg e] at h
        exact h ν2 hC2 (hh.trans s2.hi)
  · rw [withC_no q] at h
    exact h ν hν hh
