/-! ===== the constructor of a table ===== -/
theorem arrV_cg {c : ClassId} {N : Nat} {F F' : Nat → Value} (h : ∀ j, j < N → F j = F' j) : arrV c N F = arrV c N F' := by
  have e : (fun j : Fin N => F j.val) = fun j : Fin N => F' j.val := funext fun j => h j.1 j.2
  unfold arrV
  rw [e]
theorem ctH.q {B : Nat} {H0 H : Heap} {D : va_G} {n : Nat} {es es' : Nat → va_E} (hH : ctH B H0 D n es H) (h : ∀ a, a < n → es a = es' a ∨ ∃ (c : ClassId) (N : Nat) (f f' : Nat → Option Nat), es a = .inl (c, N, .inr (.inr (.inr (.inr f)))) ∧ es' a = .inl (c, N, .inr (.inr (.inr (.inr f')))) ∧ ∀ j, j < N → f j = f' j) : ctH B H0 D n es' H := by
  refine ⟨hH.1, hH.2.1, fun k q hk => ?_⟩
  obtain ⟨hkn, rfl⟩ := ctWd_inv hk
  have h1 := hH.2.2 k _ (ctWd_get hkn)
  rcases h k hkn with e | ⟨c, N, f, f', e1, e2, e3⟩
  · rw [← e]
    exact h1
  · rw [e1] at h1
    rw [e2]
    have h2 : H[B + k]? = some (vp_cell c (N, .inr (.inr (.inr (.inr f))))) := h1
    show H[B + k]? = some (vp_cell c (N, .inr (.inr (.inr (.inr f')))))
    rw [h2, vp_cell_q, vp_cell_q]
    congr 1
    exact arrV_cg fun j hj => by rw [e3 j hj]
def ctKT (B : Nat) (cA : Nat → ClassId) (r : Nat) (fs : List Value) (f1 f2 f5 : Nat → Option Nat) (es : Nat → va_E) : Nat → va_E := fun b =>
  if b = r then .inr (4, fs) else if b = r + 1 then .inl (cA 4, 12, .inr (.inr (.inr (.inr f1)))) else if b = r + 2 then .inl (cA 5, 2, .inr (.inr (.inr (.inr f2)))) else if b = r + 5 then .inl (cA 6, 6, .inr (.inr (.inr (.inr f5)))) else ctFn B cA r es b
theorem ctU_id {es : Nat → va_E} {x : Nat} {e : va_E} (h : es x = e) : ctU es x e = es := by
  funext a
  unfold ctU
  split
  · rename_i h1
    rw [h1, h]
  · rfl
theorem kT_in {B : Nat} {cA : Nat → ClassId} {r : Nat} {fs : List Value} {es : Nat → va_E} {f1 f2 f5 : Nat → Option Nat} (h : es r = .inr (4, fs)) : ∀ a, a < r + 1 → es a = ctKT B cA r fs f1 f2 f5 es a := by
  intro a ha
  unfold ctKT ctFn
  by_cases h1 : a = r
  · rw [if_pos h1, h1, h]
  · rw [if_neg h1, if_neg (by omega), if_neg (by omega), if_neg (by omega), if_pos (by omega)]
theorem kT_0 {B : Nat} {cA : Nat → ClassId} {r : Nat} {fs : List Value} {es : Nat → va_E} {f1 f2 f5 : Nat → Option Nat} : ctKT B cA r fs f1 f2 f5 es r = .inr (4, fs) := by simp [ctKT]
theorem kT_1 {B : Nat} {cA : Nat → ClassId} {r : Nat} {fs : List Value} {es : Nat → va_E} {f1 f2 f5 : Nat → Option Nat} : ctKT B cA r fs f1 f2 f5 es (r + 1) = .inl (cA 4, 12, .inr (.inr (.inr (.inr f1)))) := by simp [ctKT]
theorem kT_2 {B : Nat} {cA : Nat → ClassId} {r : Nat} {fs : List Value} {es : Nat → va_E} {f1 f2 f5 : Nat → Option Nat} : ctKT B cA r fs f1 f2 f5 es (r + 1 + 1) = .inl (cA 5, 2, .inr (.inr (.inr (.inr f2)))) := by
  unfold ctKT
  rw [if_neg (by omega), if_neg (by omega), if_pos (by omega)]
theorem kT_5 {B : Nat} {cA : Nat → ClassId} {r : Nat} {fs : List Value} {es : Nat → va_E} {f1 f2 f5 : Nat → Option Nat} : ctKT B cA r fs f1 f2 f5 es (r + 1 + 1 + 1 + 1 + 1) = .inl (cA 6, 6, .inr (.inr (.inr (.inr f5)))) := by
  unfold ctKT
  rw [if_neg (by omega), if_neg (by omega), if_neg (by omega), if_pos (by omega)]
theorem kT_x {B : Nat} {cA : Nat → ClassId} {r n : Nat} {fs : List Value} {es : Nat → va_E} {f1 f2 f5 : Nat → Option Nat} (h : r + 2 < n) (h5 : n ≠ r + 5) : ctKT B cA r fs f1 f2 f5 es n = mmE B cA ctMu n := by
  unfold ctKT ctFn
  rw [if_neg (by omega), if_neg (by omega), if_neg (by omega), if_neg (by omega), if_neg (by omega)]
theorem kT_put {B : Nat} {cA : Nat → ClassId} {r : Nat} {fs fs' : List Value} {es : Nat → va_E} {f1 f2 f5 : Nat → Option Nat} : ctU (ctKT B cA r fs f1 f2 f5 es) r (.inr (4, fs')) = ctKT B cA r fs' f1 f2 f5 es := by
  funext a
  unfold ctU ctKT
  split <;> rfl
theorem kT_make {B : Nat} {cA : Nat → ClassId} {r n : Nat} {fs : List Value} {es : Nat → va_E} {f1 f2 f5 : Nat → Option Nat} (h : r + 5 < n) : ctFn B cA n (ctKT B cA r fs f1 f2 f5 es) = ctKT B cA r fs f1 f2 f5 es := by
  funext a
  show (if a < n then ctKT B cA r fs f1 f2 f5 es a else mmE B cA ctMu a) = _
  split
  · rfl
  · rw [kT_x (by omega) (by omega)]
theorem kT_s1 {B : Nat} {cA : Nat → ClassId} {r : Nat} {fs : List Value} {es : Nat → va_E} {f1 f2 f5 g : Nat → Option Nat} : ctU (ctKT B cA r fs f1 f2 f5 es) (r + 1) (.inl (cA 4, 12, .inr (.inr (.inr (.inr g))))) = ctKT B cA r fs g f2 f5 es := by
  funext a
  unfold ctU ctKT
  by_cases h : a = r + 1
  · rw [if_pos h, if_neg (by omega), if_pos h]
  · simp only [if_neg h]
theorem kT_s2 {B : Nat} {cA : Nat → ClassId} {r : Nat} {fs : List Value} {es : Nat → va_E} {f1 f2 f5 g : Nat → Option Nat} : ctU (ctKT B cA r fs f1 f2 f5 es) (r + 1 + 1) (.inl (cA 5, 2, .inr (.inr (.inr (.inr g))))) = ctKT B cA r fs f1 g f5 es := by
  funext a
  unfold ctU ctKT
  by_cases h : a = r + 2
  · rw [if_pos h, if_neg (by omega), if_neg (by omega), if_pos h]
  · have h' : ¬ a = r + 1 + 1 := h
    simp only [if_neg h, if_neg h']
theorem kT_s5 {B : Nat} {cA : Nat → ClassId} {r : Nat} {fs : List Value} {es : Nat → va_E} {f1 f2 f5 g : Nat → Option Nat} : ctU (ctKT B cA r fs f1 f2 f5 es) (r + 1 + 1 + 1 + 1 + 1) (.inl (cA 6, 6, .inr (.inr (.inr (.inr g))))) = ctKT B cA r fs f1 f2 g es := by
  funext a
  unfold ctU ctKT
  by_cases h : a = r + 5
  · rw [if_pos h, if_neg (by omega), if_neg (by omega), if_neg (by omega), if_pos h]
  · have h' : ¬ a = r + 1 + 1 + 1 + 1 + 1 := h
    simp only [if_neg h, if_neg h']
def ctRf (B n0 w i : Nat) : Nat → Option Nat := fun j => if j < i then some (B + (n0 + w * j)) else none
theorem ctRf_up {B n0 w i : Nat} : va_up (ctRf B n0 w i) i (some (B + (n0 + w * i))) = ctRf B n0 w (i + 1) := by
  funext j
  unfold va_up ctRf
  by_cases h : j = i
  · subst h
    rw [if_pos rfl, if_pos (by omega)]
  · rw [if_neg h]
    by_cases h1 : j < i
    · rw [if_pos h1, if_pos (by omega)]
    · rw [if_neg h1, if_neg (by omega)]
theorem ctRf_0 {B n0 w : Nat} : (fun _ => none) = ctRf B n0 w 0 := by
  funext j
  simp [ctRf]
def ctFT (B r : Nat) : List Value := [.int 0, .int 0, .int 0, .int 0, .ref (B + (r + 1)), .ref (B + (r + 1 + 1)), .ref (B + (r + 1 + 1 + 1)), .ref (B + (r + 1 + 1 + 1 + 1)), .ref (B + (r + 1 + 1 + 1 + 1 + 1))]
theorem ct_t1 {r : Nat} (hr : r = 1 ∨ r = 71) : ∀ i, i < 12 → mmKD (r + 6 + 4 * i) = 1 ∧ (mmKD (r + 6 + 4 * i + 1) = 10 ∧ mmLEN (r + 6 + 4 * i + 1) = 40) ∧ (mmKD (r + 6 + 4 * i + 1 + 1) = 11 ∧ mmLEN (r + 6 + 4 * i + 1 + 1) = 40) ∧ (mmKD (r + 6 + 4 * i + 1 + 1 + 1) = 12 ∧ mmLEN (r + 6 + 4 * i + 1 + 1 + 1) = 40) := by
  rcases hr with rfl | rfl <;> decide +kernel
theorem ct_t2 {r : Nat} (hr : r = 1 ∨ r = 71) : ∀ i, i < 2 → mmKD (r + 54 + 2 * i) = 6 ∧ (mmKD (r + 54 + 2 * i + 1) = 10 ∧ mmLEN (r + 54 + 2 * i + 1) = 40) := by
  rcases hr with rfl | rfl <;> decide +kernel
theorem ct_t5 {r : Nat} (hr : r = 1 ∨ r = 71) : ∀ i, i < 6 → mmKD (r + 58 + 2 * i) = 2 ∧ mmKD (r + 58 + 2 * i + 1) = 0 := by
  rcases hr with rfl | rfl <;> decide +kernel
theorem ct_i12 : ∀ i, i < 12 → ¬ (12 : Int32) ≤ nI i ∧ ¬ nI i < 0 ∧ (nI i).toNatClampNeg = i ∧ nI i + Int32.ofInt 1 = nI (i + 1) := by decide +kernel
theorem ct_i2 : ∀ i, i < 2 → ¬ (2 : Int32) ≤ nI i := by decide +kernel
theorem ct_i6 : ∀ i, i < 6 → ¬ (6 : Int32) ≤ nI i := by decide +kernel
theorem ct_endT {B r : Nat} {H0 H : Heap} {D : va_G} {cA : Nat → ClassId} {es : Nat → va_E} (hr : r = 1 ∨ r = 71) (h : ctH B H0 D (r + 70) (ctKT B cA r (ctFT B r) (ctRf B (r + 6) 4 12) (ctRf B (r + 54) 2 2) (ctRf B (r + 58) 2 6) es) H) : ctH B H0 D (r + 70) (ctFn B cA r es) H := by
  have k0 : mmKD r = 4 ∧ mmKD (r + 1) = 14 ∧ mmKD (r + 2) = 15 ∧ mmKD (r + 5) = 16 ∧ mmLEN (r + 1) = 12 ∧ mmLEN (r + 2) = 2 ∧ mmLEN (r + 5) = 6 := by rcases hr with rfl | rfl <;> decide +kernel
  obtain ⟨k0, k1, k2, k5, l1, l2, l5⟩ := k0
  refine h.q (fun a ha => ?_)
  unfold ctFn
  by_cases h0 : a < r
  · left
    rw [if_pos h0]
    unfold ctKT ctFn
    rw [if_neg (by omega), if_neg (by omega), if_neg (by omega), if_neg (by omega), if_pos h0]
  rw [if_neg h0]
  by_cases e0 : a = r
  · left
    subst e0
    rw [kT_0, mmE_obj k0 (by decide)]
    simp [mmNF, mmFV, mmFT, mmRF, ctMu, k0, ctFT, List.range, List.range.loop, Nat.add_assoc]
  by_cases e1 : a = r + 1
  · right
    subst e1
    have h1 := mmE_14 (B := B) (cA := cA) (μ := ctMu) k1
    rw [mmW_get (mmKD_lt (by omega))] at h1
    have h2 : mmE B cA ctMu (r + 1) = _ := congrArg Prod.snd (Option.some.inj h1)
    dsimp only at h2
    rw [l1] at h2
    refine ⟨_, _, _, _, kT_1, h2, fun j hj => ?_⟩
    unfold ctRf mmRF
    rw [if_pos hj]
    congr 1
  by_cases e2 : a = r + 2
  · right
    subst e2
    have h1 := mmE_15 (B := B) (cA := cA) (μ := ctMu) k2
    rw [mmW_get (mmKD_lt (by omega))] at h1
    have h2 : mmE B cA ctMu (r + 2) = _ := congrArg Prod.snd (Option.some.inj h1)
    dsimp only at h2
    rw [l2] at h2
    refine ⟨_, _, _, _, kT_2, h2, fun j hj => ?_⟩
    unfold ctRf mmRF
    rw [if_pos hj]
    congr 1
  by_cases e5 : a = r + 5
  · right
    subst e5
    have h1 := mmE_16 (B := B) (cA := cA) (μ := ctMu) k5
    rw [mmW_get (mmKD_lt (by omega))] at h1
    have h2 : mmE B cA ctMu (r + 5) = _ := congrArg Prod.snd (Option.some.inj h1)
    dsimp only at h2
    rw [l5] at h2
    refine ⟨_, _, _, _, kT_5, h2, fun j hj => ?_⟩
    unfold ctRf mmRF
    rw [if_pos hj]
    congr 1
  · left
    exact kT_x (by omega) e5

theorem ctT_5 {d r : Nat} {l : Launch} {G : xG} {es : Nat → va_E} (hd : 3 ≤ d) (hr : r = 1 ∨ r = 71) : ∀ (j i : Nat), i + j = 6 → xE true d M_i4 l G 69 1648 (r + 58 + 2 * i) (ctKT G.B G.cA r (ctFT G.B r) (ctRf G.B (r + 6) 4 12) (ctRf G.B (r + 54) 2 2) (ctRf G.B (r + 58) 2 i) es) (57 + 2 * i) (1612 + 6 * i) 99 [.ref (G.B + r), .int (nI i)] [] (xQc G (r + 1) (ctP G r 70 es)) := by
  intro j
  induction j with
  | zero =>
    intro i hi
    have e1 : i = 6 := by omega
    subst e1
    refine x_iload_n (i := 1) (by decide +kernel) rfl ?_
    refine x_bipush (i := 6) 6 (by decide +kernel) rfl ?_
    refine x_icmp (cc := .ge) (off := 22) 124 (by decide +kernel) rfl (fun _ => ?_) (fun q => absurd (show _ from by decide) q)
    exact x_return (by decide +kernel) rfl (by omega) (by omega) (fun a s t h => ⟨none, r + 70, _, rfl, ⟨rfl, rfl, fun _ _ => rfl⟩, by omega, ct_endT hr h⟩)
  | succ j ih =>
    intro i hi
    have hi1 : i < 6 := by omega
    obtain ⟨-, q2, q3, q4⟩ := ct_i12 i (by omega)
    refine x_iload_n (i := 1) (by decide +kernel) rfl ?_
    refine x_bipush (i := 6) 6 (by decide +kernel) rfl ?_
    refine x_icmp (cc := .ge) (off := 22) 124 (by decide +kernel) rfl (fun q => absurd q (ct_i6 i hi1)) (fun _ => ?_)
    refine x_aload_n (i := 0) (by decide +kernel) rfl ?_
    refine x_get (i := 33) (w := 143) (C := RX4) (T := TX4) (N := 9) 8 (by decide +kernel) rfl (by decide) (by decide +kernel) (by omega) kT_0 rfl ?_
    refine x_iload_n (i := 1) (by decide +kernel) rfl ?_
    have hT := ct_t5 hr i hi1
    refine ct_makeN (i1 := 31) (i2 := 39) (w1 := 48) (d' := d - 1) (by decide +kernel) (by decide +kernel) (by decide +kernel) (by decide +kernel) (by decide +kernel) gI_2 (by decide) (cI_2 (by omega) hT.1 hT.2) rfl (by omega) (by omega) (by have e9 : mmNF 2 = 3 := rfl; omega) (by simp [Value.category]) ?_
    rw [kT_make (by omega)]
    refine x_astF (q := r + 58 + 2 * i) i (by decide +kernel) (by omega) kT_5 (by omega) ((kT_x (by omega) (by omega)).trans (mmE_obj hT.1 (by decide))) q2 q3 hi1 ?_
    rw [kT_s5, ctRf_up]
    refine x_iinc (i := 1) (j := 1) (x := nI i) (nI (i + 1)) (by decide +kernel) (by decide) rfl q4 (by simp [Value.category]) ?_
    refine x_goto (off := -22) 99 (by decide +kernel) rfl ?_
    have h9 := ih (i + 1) (by omega)
    have e9 : mmNF 2 = 3 := rfl
    rw [show r + 58 + 2 * (i + 1) = r + 58 + 2 * i + 2 by omega, show 57 + 2 * (i + 1) = 57 + 2 * i + 1 + 1 by omega, show 1612 + 6 * (i + 1) = 1612 + 6 * i + mmNF 2 + 3 by omega] at h9
    exact h9
theorem ctT_2 {d r : Nat} {l : Launch} {G : xG} {es : Nat → va_E} (hd : 3 ≤ d) (hr : r = 1 ∨ r = 71) : ∀ (j i : Nat), i + j = 2 → xE true d M_i4 l G 69 1648 (r + 54 + 2 * i) (ctKT G.B G.cA r (ctFT G.B r) (ctRf G.B (r + 6) 4 12) (ctRf G.B (r + 54) 2 i) (ctRf G.B (r + 58) 2 0) es) (53 + 2 * i) (1528 + 42 * i) 73 [.ref (G.B + r), .int (nI i)] [] (xQc G (r + 1) (ctP G r 70 es)) := by
  intro j
  induction j with
  | zero =>
    intro i hi
    have e1 : i = 2 := by omega
    subst e1
    refine x_iload_n (i := 1) (by decide +kernel) rfl ?_
    refine x_iconst (i := 2) 2 (by decide +kernel) rfl ?_
    refine x_icmp (cc := .ge) (off := 22) 97 (by decide +kernel) rfl (fun _ => ?_) (fun q => absurd (show _ from by decide) q)
    refine x_iconst (i := 0) 0 (by decide +kernel) rfl ?_
    refine x_istore_n (i := 1) (by decide +kernel) (by decide) (by simp [Value.category]) ?_
    exact ctT_5 hd hr 6 0 rfl
  | succ j ih =>
    intro i hi
    have hi1 : i < 2 := by omega
    obtain ⟨-, q2, q3, q4⟩ := ct_i12 i (by omega)
    refine x_iload_n (i := 1) (by decide +kernel) rfl ?_
    refine x_iconst (i := 2) 2 (by decide +kernel) rfl ?_
    refine x_icmp (cc := .ge) (off := 22) 97 (by decide +kernel) rfl (fun q => absurd q (ct_i2 i hi1)) (fun _ => ?_)
    refine x_aload_n (i := 0) (by decide +kernel) rfl ?_
    refine x_get (i := 19) (w := 137) (C := RX4) (T := TX4) (N := 9) 5 (by decide +kernel) rfl (by decide) (by decide +kernel) (by omega) kT_0 rfl ?_
    refine x_iload_n (i := 1) (by decide +kernel) rfl ?_
    have hT := ct_t2 hr i hi1
    refine ct_makeN (i1 := 17) (i2 := 38) (w1 := 46) (d' := d - 1) (by decide +kernel) (by decide +kernel) (by decide +kernel) (by decide +kernel) (by decide +kernel) gI_6 (by decide) (cI_6 (by omega) hT.1 hT.2) rfl (by omega) (by omega) (by have e9 : mmNF 6 = 2 := rfl; omega) (by simp [Value.category]) ?_
    rw [kT_make (by omega)]
    refine x_astV (q := r + 54 + 2 * i) i (by decide +kernel) (by omega) kT_2 (by omega) ((kT_x (by omega) (by omega)).trans (mmE_obj hT.1 (by decide))) q2 q3 hi1 ?_
    rw [kT_s2, ctRf_up]
    refine x_iinc (i := 1) (j := 1) (x := nI i) (nI (i + 1)) (by decide +kernel) (by decide) rfl q4 (by simp [Value.category]) ?_
    refine x_goto (off := -21) 73 (by decide +kernel) rfl ?_
    have h9 := ih (i + 1) (by omega)
    have e9 : mmNF 6 = 2 := rfl
    rw [show r + 54 + 2 * (i + 1) = r + 54 + 2 * i + 2 by omega, show 53 + 2 * (i + 1) = 53 + 2 * i + 1 + 1 by omega, show 1528 + 42 * (i + 1) = 1528 + 42 * i + mmNF 6 + 40 by omega] at h9
    exact h9
theorem ctT_1 {d r : Nat} {l : Launch} {G : xG} {es : Nat → va_E} (hd : 3 ≤ d) (hr : r = 1 ∨ r = 71) : ∀ (j i : Nat), i + j = 12 → xE true d M_i4 l G 69 1648 (r + 6 + 4 * i) (ctKT G.B G.cA r (ctFT G.B r) (ctRf G.B (r + 6) 4 i) (ctRf G.B (r + 54) 2 0) (ctRf G.B (r + 58) 2 0) es) (5 + 4 * i) (28 + 125 * i) 46 [.ref (G.B + r), .int (nI i)] [] (xQc G (r + 1) (ctP G r 70 es)) := by
  intro j
  induction j with
  | zero =>
    intro i hi
    have e1 : i = 12 := by omega
    subst e1
    refine x_iload_n (i := 1) (by decide +kernel) rfl ?_
    refine x_bipush (i := 12) 12 (by decide +kernel) rfl ?_
    refine x_icmp (cc := .ge) (off := 22) 71 (by decide +kernel) rfl (fun _ => ?_) (fun q => absurd (show _ from by decide) q)
    refine x_iconst (i := 0) 0 (by decide +kernel) rfl ?_
    refine x_istore_n (i := 1) (by decide +kernel) (by decide) (by simp [Value.category]) ?_
    exact ctT_2 hd hr 2 0 rfl
  | succ j ih =>
    intro i hi
    have hi1 : i < 12 := by omega
    obtain ⟨-, q2, q3, q4⟩ := ct_i12 i (by omega)
    refine x_iload_n (i := 1) (by decide +kernel) rfl ?_
    refine x_bipush (i := 12) 12 (by decide +kernel) rfl ?_
    refine x_icmp (cc := .ge) (off := 22) 71 (by decide +kernel) rfl (fun q => absurd q (ct_i12 i (by omega)).1) (fun _ => ?_)
    refine x_aload_n (i := 0) (by decide +kernel) rfl ?_
    refine x_get (i := 11) (w := 135) (C := RX4) (T := TX4) (N := 9) 4 (by decide +kernel) rfl (by decide) (by decide +kernel) (by omega) kT_0 rfl ?_
    refine x_iload_n (i := 1) (by decide +kernel) rfl ?_
    have hT := ct_t1 hr i hi1
    refine ct_makeN (i1 := 9) (i2 := 37) (w1 := 44) (d' := d - 1) (by decide +kernel) (by decide +kernel) (by decide +kernel) (by decide +kernel) (by decide +kernel) gI_1 (by decide) (cI_1 (by omega) hT.1 hT.2.1 hT.2.2.1 hT.2.2.2) rfl (by omega) (by omega) (by have e9 : mmNF 1 = 5 := rfl; omega) (by simp [Value.category]) ?_
    rw [kT_make (by omega)]
    refine x_astC (q := r + 6 + 4 * i) i (by decide +kernel) (by omega) kT_1 (by omega) ((kT_x (by omega) (by omega)).trans (mmE_obj hT.1 (by decide))) q2 q3 hi1 ?_
    rw [kT_s1, ctRf_up]
    refine x_iinc (i := 1) (j := 1) (x := nI i) (nI (i + 1)) (by decide +kernel) (by decide) rfl q4 (by simp [Value.category]) ?_
    refine x_goto (off := -22) 46 (by decide +kernel) rfl ?_
    have h9 := ih (i + 1) (by omega)
    have e9 : mmNF 1 = 5 := rfl
    rw [show r + 6 + 4 * (i + 1) = r + 6 + 4 * i + 4 by omega, show 5 + 4 * (i + 1) = 5 + 4 * i + 1 + 3 by omega, show 28 + 125 * (i + 1) = 28 + 125 * i + mmNF 1 + 120 by omega] at h9
    exact h9
theorem cI_4 {d r : Nat} (hd : 3 ≤ d) (hr : r = 1 ∨ r = 71) : ctK d M_i4 69 1648 r 70 4 := by
  have k3 : (mmKD (r + 1 + 1 + 1) = 10 ∧ mmLEN (r + 1 + 1 + 1) = 4) ∧ (mmKD (r + 1 + 1 + 1 + 1) = 13 ∧ mmLEN (r + 1 + 1 + 1 + 1) = 4) := by rcases hr with rfl | rfl <;> decide +kernel
  intro l G es hes
  refine xMet.of true (j := 1) (by decide +kernel) (by simp [Value.category]) rfl ?_
  have z1 : (fun _ => none) = ctRf G.B (r + 6) 4 0 := ctRf_0
  have z2 : (fun _ => none) = ctRf G.B (r + 54) 2 0 := ctRf_0
  have z5 : (fun _ => none) = ctRf G.B (r + 58) 2 0 := ctRf_0
  refine x_aload_n (i := 0) (by decide +kernel) rfl ?_
  refine x_objInit (i := 3) (w := 43) (by decide +kernel) (by decide +kernel) (by omega) rfl ?_
  refine xE.congr _ (kT_in (B := G.B) (cA := G.cA) (f1 := ctRf G.B (r + 6) 4 0) (f2 := ctRf G.B (r + 54) 2 0) (f5 := ctRf G.B (r + 58) 2 0) hes) ?_
  refine x_aload_n (i := 0) (by decide +kernel) rfl ?_
  refine x_bipush (i := 12) 12 (by decide +kernel) rfl ?_
  refine x_anewC (i := 9) (w := 44) 12 (by decide +kernel) (by decide +kernel) (by decide) (by decide) (by decide) (by omega) (by omega) ?_
  rw [z1, ctU_id kT_1]
  refine x_putF (i := 11) (w := 135) (C := RX4) (T := TX4) (N := 9) (ci := 4) 4 (.array (.object "ColumnCasts$Column")) (by decide +kernel) rfl (by decide) (by decide +kernel) rfl rfl rfl (by decide +kernel) rfl rfl (by omega) kT_0 (by simp [ctDf, mmNF]) ?_
  rw [kT_put]
  refine x_aload_n (i := 0) (by decide +kernel) rfl ?_
  refine x_iconst (i := 2) 2 (by decide +kernel) rfl ?_
  refine x_anewV (i := 17) (w := 46) 2 (by decide +kernel) (by decide +kernel) (by decide) (by decide) (by decide) (by omega) (by omega) ?_
  rw [z2, ctU_id kT_2]
  refine x_putF (i := 19) (w := 137) (C := RX4) (T := TX4) (N := 9) (ci := 4) 5 (.array (.object "ColumnCasts$View")) (by decide +kernel) rfl (by decide) (by decide +kernel) rfl rfl rfl (by decide +kernel) rfl rfl (by omega) kT_0 (by simp [ctDf, mmNF]) ?_
  rw [kT_put]
  refine x_aload_n (i := 0) (by decide +kernel) rfl ?_
  refine x_iconst (i := 4) 4 (by decide +kernel) rfl ?_
  refine x_newI 4 (by decide +kernel) (by decide) (by decide) (by decide) (by omega) (by omega) ?_
  rw [ctU_id ((kT_x (by omega) (by omega)).trans (ct_e10 k3.1.1 k3.1.2).symm)]
  refine x_putF (i := 23) (w := 139) (C := RX4) (T := TX4) (N := 9) (ci := 4) 6 (.array .int) (by decide +kernel) rfl (by decide) (by decide +kernel) rfl rfl rfl (by decide +kernel) rfl rfl (by omega) kT_0 (by simp [ctDf, mmNF]) ?_
  rw [kT_put]
  refine x_aload_n (i := 0) (by decide +kernel) rfl ?_
  refine x_iconst (i := 4) 4 (by decide +kernel) rfl ?_
  refine x_newZ 4 (by decide +kernel) (by decide) (by decide) (by decide) (by omega) (by omega) ?_
  rw [ctU_id ((kT_x (by omega) (by omega)).trans (ct_e13 k3.2.1 k3.2.2).symm)]
  refine x_putF (i := 27) (w := 141) (C := RX4) (T := TX4) (N := 9) (ci := 4) 7 (.array .boolean) (by decide +kernel) rfl (by decide) (by decide +kernel) rfl rfl rfl (by decide +kernel) rfl rfl (by omega) kT_0 (by simp [ctDf, mmNF]) ?_
  rw [kT_put]
  refine x_aload_n (i := 0) (by decide +kernel) rfl ?_
  refine x_bipush (i := 6) 6 (by decide +kernel) rfl ?_
  refine x_anewF (i := 31) (w := 48) 6 (by decide +kernel) (by decide +kernel) (by decide) (by decide) (by decide) (by omega) (by omega) ?_
  rw [z5, ctU_id kT_5]
  refine x_putF (i := 33) (w := 143) (C := RX4) (T := TX4) (N := 9) (ci := 4) 8 (.array (.object "ColumnCasts$Filter")) (by decide +kernel) rfl (by decide) (by decide +kernel) rfl rfl rfl (by decide +kernel) rfl rfl (by omega) kT_0 (by simp [ctDf, mmNF]) ?_
  rw [kT_put]
  refine x_iconst (i := 0) 0 (by decide +kernel) rfl ?_
  refine x_istore_n (i := 1) (by decide +kernel) (by decide) (by simp [Value.category]) ?_
  exact ctT_1 hd hr 12 0 rfl
theorem ct_end7 {B : Nat} {cA : Nat → ClassId} : mmE B cA ctMu 0 = .inr (7, (((((((((((((((ctDf 7).set 0 (.ref (B + (0 + 1)))).set 1 (.ref (B + (0 + 1 + 70)))).set 3 (.ref (B + (0 + 1 + 70 + 70)))).set 4 (.ref (B + (0 + 1 + 70 + 70 + 3)))).set 5 (.ref (B + (0 + 1 + 70 + 70 + 3 + 2)))).set 6 (.ref (B + (0 + 1 + 70 + 70 + 3 + 2 + 4)))).set 7 (.ref (B + (0 + 1 + 70 + 70 + 3 + 2 + 4 + 2)))).set 8 (.ref (B + (0 + 1 + 70 + 70 + 3 + 2 + 4 + 2 + 1)))).set 9 (.ref (B + (0 + 1 + 70 + 70 + 3 + 2 + 4 + 2 + 1 + 1)))).set 10 (.ref (B + (0 + 1 + 70 + 70 + 3 + 2 + 4 + 2 + 1 + 1 + 1)))).set 11 (.ref (B + (0 + 1 + 70 + 70 + 3 + 2 + 4 + 2 + 1 + 1 + 1 + 1)))).set 12 (.ref (B + (0 + 1 + 70 + 70 + 3 + 2 + 4 + 2 + 1 + 1 + 1 + 1 + 1)))).set 13 (.ref (B + (0 + 1 + 70 + 70 + 3 + 2 + 4 + 2 + 1 + 1 + 1 + 1 + 1 + 1)))).set 14 (.ref (B + (0 + 1 + 70 + 70 + 3 + 2 + 4 + 2 + 1 + 1 + 1 + 1 + 1 + 1 + 1))))) := by
  rw [mmE_obj (show mmKD 0 = 7 by decide +kernel) (by decide)]
  rfl
theorem cI_7 {d : Nat} (hd : 4 ≤ d)  : ctK d M_i7 159 10000 0 160 7 := by
  intro l G es hes
  refine xMet.of true (j := 0) (by decide +kernel) (by simp [Value.category]) rfl ?_
  refine x_aload_n (i := 0) (by decide +kernel) rfl ?_
  refine x_objInit (i := 1) (w := 35) (by decide +kernel) (by decide +kernel) (by omega) rfl ?_
  refine xE.congr _ (ctKK_in (B := G.B) (cA := G.cA) hes) ?_
  refine x_aload_n (i := 0) (by decide +kernel) rfl ?_
  refine k_make (w2 := 40) (i1 := 7) (i2 := 9) (w1 := 38) (d' := d - 1) (by decide +kernel) (by decide +kernel) (by decide +kernel) (by decide +kernel) (by decide +kernel) gI_4 (by decide) (cI_4 (by omega) (by decide)) rfl (by omega) (by omega) (by decide +kernel) (by simp [Value.category]) (by omega) ?_
  refine k_putF (i := 10) (w := 204) 0 (.object "ColumnCasts$Table") (by decide +kernel) rfl (by decide) (by decide +kernel) rfl rfl rfl (by decide +kernel) rfl rfl (by omega) (by simp [ctDf, mmNF]) ?_
  refine x_aload_n (i := 0) (by decide +kernel) rfl ?_
  refine k_make (w2 := 40) (i1 := 7) (i2 := 9) (w1 := 38) (d' := d - 1) (by decide +kernel) (by decide +kernel) (by decide +kernel) (by decide +kernel) (by decide +kernel) gI_4 (by decide) (cI_4 (by omega) (by decide)) rfl (by omega) (by omega) (by decide +kernel) (by simp [Value.category]) (by omega) ?_
  refine k_putF (i := 16) (w := 205) 1 (.object "ColumnCasts$Table") (by decide +kernel) rfl (by decide) (by decide +kernel) rfl rfl rfl (by decide +kernel) rfl rfl (by omega) (by simp [ctDf, mmNF]) ?_
  refine x_aload_n (i := 0) (by decide +kernel) rfl ?_
  refine k_makeN (i1 := 19) (i2 := 21) (w1 := 163) (d' := d - 1) (by decide +kernel) (by decide +kernel) (by decide +kernel) (by decide +kernel) (by decide +kernel) gI_5 (by decide) (cI_5 (by omega) (by decide +kernel) (by decide +kernel) (by decide +kernel)) rfl (by omega) (by omega) (by decide +kernel) (by simp [Value.category]) (by omega) ?_
  refine k_putF (i := 22) (w := 207) 3 (.object "ColumnCasts$Text") (by decide +kernel) rfl (by decide) (by decide +kernel) rfl rfl rfl (by decide +kernel) rfl rfl (by omega) (by simp [ctDf, mmNF]) ?_
  refine x_aload_n (i := 0) (by decide +kernel) rfl ?_
  refine k_makeN (i1 := 26) (i2 := 28) (w1 := 186) (d' := d - 1) (by decide +kernel) (by decide +kernel) (by decide +kernel) (by decide +kernel) (by decide +kernel) gI_3 (by decide) (cI_3 (by omega) (by decide +kernel) (by decide +kernel)) rfl (by omega) (by omega) (by decide +kernel) (by simp [Value.category]) (by omega) ?_
  refine k_putF (i := 29) (w := 208) 4 (.object "ColumnCasts$Spelling") (by decide +kernel) rfl (by decide) (by decide +kernel) rfl rfl rfl (by decide +kernel) rfl rfl (by omega) (by simp [ctDf, mmNF]) ?_
  refine x_aload_n (i := 0) (by decide +kernel) rfl ?_
  refine k_makeN (i1 := 33) (i2 := 35) (w1 := 198) (d' := d - 1) (by decide +kernel) (by decide +kernel) (by decide +kernel) (by decide +kernel) (by decide +kernel) gI_1 (by decide) (cI_1 (by omega) (by decide +kernel) (by decide +kernel) (by decide +kernel) (by decide +kernel)) rfl (by omega) (by omega) (by decide +kernel) (by simp [Value.category]) (by omega) ?_
  refine k_putF (i := 36) (w := 209) 5 (.object "ColumnCasts$Column") (by decide +kernel) rfl (by decide) (by decide +kernel) rfl rfl rfl (by decide +kernel) rfl rfl (by omega) (by simp [ctDf, mmNF]) ?_
  refine x_aload_n (i := 0) (by decide +kernel) rfl ?_
  refine k_makeN (i1 := 40) (i2 := 42) (w1 := 200) (d' := d - 1) (by decide +kernel) (by decide +kernel) (by decide +kernel) (by decide +kernel) (by decide +kernel) gI_2 (by decide) (cI_2 (by omega) (by decide +kernel) (by decide +kernel)) rfl (by omega) (by omega) (by decide +kernel) (by simp [Value.category]) (by omega) ?_
  refine k_putF (i := 43) (w := 210) 6 (.object "ColumnCasts$Filter") (by decide +kernel) rfl (by decide) (by decide +kernel) rfl rfl rfl (by decide +kernel) rfl rfl (by omega) (by simp [ctDf, mmNF]) ?_
  refine x_aload_n (i := 0) (by decide +kernel) rfl ?_
  refine k_makeN (i1 := 47) (i2 := 49) (w1 := 202) (d' := d - 1) (by decide +kernel) (by decide +kernel) (by decide +kernel) (by decide +kernel) (by decide +kernel) gI_0 (by decide) (cI_0 (by omega) (by decide +kernel)) rfl (by omega) (by omega) (by decide +kernel) (by simp [Value.category]) (by omega) ?_
  refine k_putF (i := 50) (w := 211) 7 (.object "ColumnCasts$Cell") (by decide +kernel) rfl (by decide) (by decide +kernel) rfl rfl rfl (by decide +kernel) rfl rfl (by omega) (by simp [ctDf, mmNF]) ?_
  refine x_aload_n (i := 0) (by decide +kernel) rfl ?_
  refine k_makeN (i1 := 47) (i2 := 49) (w1 := 202) (d' := d - 1) (by decide +kernel) (by decide +kernel) (by decide +kernel) (by decide +kernel) (by decide +kernel) gI_0 (by decide) (cI_0 (by omega) (by decide +kernel)) rfl (by omega) (by omega) (by decide +kernel) (by simp [Value.category]) (by omega) ?_
  refine k_putF (i := 54) (w := 212) 8 (.object "ColumnCasts$Cell") (by decide +kernel) rfl (by decide) (by decide +kernel) rfl rfl rfl (by decide +kernel) rfl rfl (by omega) (by simp [ctDf, mmNF]) ?_
  refine x_aload_n (i := 0) (by decide +kernel) rfl ?_
  refine k_makeN (i1 := 47) (i2 := 49) (w1 := 202) (d' := d - 1) (by decide +kernel) (by decide +kernel) (by decide +kernel) (by decide +kernel) (by decide +kernel) gI_0 (by decide) (cI_0 (by omega) (by decide +kernel)) rfl (by omega) (by omega) (by decide +kernel) (by simp [Value.category]) (by omega) ?_
  refine k_putF (i := 57) (w := 213) 9 (.object "ColumnCasts$Cell") (by decide +kernel) rfl (by decide) (by decide +kernel) rfl rfl rfl (by decide +kernel) rfl rfl (by omega) (by simp [ctDf, mmNF]) ?_
  refine x_aload_n (i := 0) (by decide +kernel) rfl ?_
  refine x_bipush (i := 40) 40 (by decide +kernel) rfl ?_
  refine k_newI 40 (by decide +kernel) (by decide) (by decide) (by decide) (by omega) (by decide +kernel) (by omega) (by decide +kernel) (by decide +kernel) ?_
  refine k_putF (i := 60) (w := 214) 10 (.array .int) (by decide +kernel) rfl (by decide) (by decide +kernel) rfl rfl rfl (by decide +kernel) rfl rfl (by omega) (by simp [ctDf, mmNF]) ?_
  refine x_aload_n (i := 0) (by decide +kernel) rfl ?_
  refine x_bipush (i := 40) 40 (by decide +kernel) rfl ?_
  refine k_newZ 40 (by decide +kernel) (by decide) (by decide) (by decide) (by omega) (by decide +kernel) (by omega) (by decide +kernel) (by decide +kernel) ?_
  refine k_putF (i := 64) (w := 215) 11 (.array .boolean) (by decide +kernel) rfl (by decide) (by decide +kernel) rfl rfl rfl (by decide +kernel) rfl rfl (by omega) (by simp [ctDf, mmNF]) ?_
  refine x_aload_n (i := 0) (by decide +kernel) rfl ?_
  refine x_bipush (i := 40) 40 (by decide +kernel) rfl ?_
  refine k_newI 40 (by decide +kernel) (by decide) (by decide) (by decide) (by omega) (by decide +kernel) (by omega) (by decide +kernel) (by decide +kernel) ?_
  refine k_putF (i := 68) (w := 216) 12 (.array .int) (by decide +kernel) rfl (by decide) (by decide +kernel) rfl rfl rfl (by decide +kernel) rfl rfl (by omega) (by simp [ctDf, mmNF]) ?_
  refine x_aload_n (i := 0) (by decide +kernel) rfl ?_
  refine x_bipush (i := 64) 64 (by decide +kernel) rfl ?_
  refine k_newI 64 (by decide +kernel) (by decide) (by decide) (by decide) (by omega) (by decide +kernel) (by omega) (by decide +kernel) (by decide +kernel) ?_
  refine k_putF (i := 71) (w := 217) 13 (.array .int) (by decide +kernel) rfl (by decide) (by decide +kernel) rfl rfl rfl (by decide +kernel) rfl rfl (by omega) (by simp [ctDf, mmNF]) ?_
  refine x_aload_n (i := 0) (by decide +kernel) rfl ?_
  refine x_bipush (i := 64) 64 (by decide +kernel) rfl ?_
  refine k_newI 64 (by decide +kernel) (by decide) (by decide) (by decide) (by omega) (by decide +kernel) (by omega) (by decide +kernel) (by decide +kernel) ?_
  refine k_putF (i := 74) (w := 218) 14 (.array .int) (by decide +kernel) rfl (by decide) (by decide +kernel) rfl rfl rfl (by decide +kernel) rfl rfl (by omega) (by simp [ctDf, mmNF]) ?_
  exact k_ret (by decide +kernel) rfl rfl (by decide +kernel) (by omega) (by omega) (ct_end7 )
