/-! ===== the JDK: numbers appended, texts made ===== -/
theorem catSet {L : List Value} {i : Nat} {v : Value} (h : ∀ w ∈ L, w.category = 1) (hv : v.category = 1) : ∀ w ∈ L.set i v, w.category = 1 := fun w hw => by
  rcases List.mem_or_eq_of_mem_set hw with q | q
  · exact h w q
  · rw [q]; exact hv
theorem ng_toInt {k : Nat} (h : k < 2 ^ 31) : (-(nI k)).toInt = -(k : Int) := by
  rw [Int32.toInt_neg, nI_toInt h]
  simp only [Int.bmod_def]
  split <;> omega
theorem ng_le {k c : Nat} {m : Int32} (hk : k < 2 ^ 31) (hm : m.toInt = -(c : Int)) : -(nI k) ≤ m ↔ c ≤ k := by
  rw [Int32.le_iff_toInt_le, ng_toInt hk, hm]
  omega
theorem ng_ge {k c : Nat} {m : Int32} (hk : k < 2 ^ 31) (hm : m.toInt = -(c : Int)) : m ≤ -(nI k) ↔ k ≤ c := by
  rw [Int32.le_iff_toInt_le, ng_toInt hk, hm]
  omega
theorem ng_lt {k c : Nat} {m : Int32} (hk : k < 2 ^ 31) (hm : m.toInt = -(c : Int)) : m < -(nI k) ↔ k < c := by
  rw [Int32.lt_iff_toInt_lt, ng_toInt hk, hm]
  omega
theorem ng_div {k : Nat} (hk : k < 2 ^ 30) : -(nI k) / nI 100 = -(nI (k / 100)) := by
  apply Int32.toInt_inj.mp
  rw [Int32.toInt_div, ng_toInt (by omega), ng_toInt (by omega), nI_toInt (by decide), Int.neg_tdiv]
  have e : (k : Int).tdiv ((100 : Nat) : Int) = ((k / 100 : Nat) : Int) := by
    rw [Int.tdiv_eq_ediv_of_nonneg (by omega)]
    omega
  rw [e]
  simp only [Int.bmod_def]
  split <;> omega
theorem ng_rem {k : Nat} (hk : k < 2 ^ 30) : -(nI (k / 100)) * nI 100 - -(nI k) = nI (k % 100) := by
  have e : -(nI (k / 100)) * nI 100 - -(nI k) = nI k - nI (k / 100) * nI 100 := by
    rw [Int32.neg_mul, Int32.sub_eq_add_neg, Int32.neg_neg, Int32.sub_eq_add_neg, Int32.add_comm]
  rw [e, pk_mul, pk_sub (by omega)]
  congr 1
  omega
/-- how many digits -/
def dLen (k : Nat) : Nat := if k < 10 then 1 else if k < 100 then 2 else if k < 1000 then 3 else if k < 10000 then 4 else if k < 100000 then 5 else 6
theorem dLen_le (k : Nat) : 1 ≤ dLen k ∧ dLen k ≤ 6 := by
  unfold dLen
  repeat' split
  all_goals omega
theorem dLen_div {k : Nat} (h : 100 ≤ k) (h6 : k < 1000000) : dLen (k / 100) + 2 = dLen k := by
  unfold dLen
  repeat' split
  all_goals omega
theorem t_size {d : Nat} {l : Launch} {G : xG} {n : Nat} {es : Nat → va_E} {k : Nat} (hd : 0 ≤ d) (hk : k < 1000000) : xMet d 0 0 M_J6_stringSize_0f7a4 l G n es [.int (nI k)] (xPu n es (some (.int (nI (dLen k))))) := by
  refine xMet.of true (j := 3) (by decide +kernel) (catL rfl) rfl ?_
  refine x_iconst (i := 1) (nI 1) (by decide +kernel) (by decide +kernel) ?_
  refine x_istore_n (i := 1) (by decide +kernel) (by decide) (catL rfl) ?_
  refine x_iload_n (i := 0) (by decide +kernel) rfl ?_
  refine x_if (cc := .lt) (off := 8) 11 (by decide +kernel) rfl (fun qq => absurd qq (show ¬ nI k < 0 from nI_pos (by omega))) (fun _ => ?_)
  refine x_iconst (i := 0) (nI 0) (by decide +kernel) (by decide +kernel) ?_
  refine x_istore_n (i := 1) (by decide +kernel) (by decide) (catL rfl) ?_
  refine x_iload_n (i := 0) (by decide +kernel) rfl ?_
  refine x_ineg (-(nI k)) (by decide +kernel) rfl ?_
  refine x_istore_n (i := 0) (by decide +kernel) (by decide) (catL rfl) ?_
  refine x_bipush (i := -10) ((-10)) (by decide +kernel) (by decide +kernel) ?_
  refine x_istore_n (i := 2) (by decide +kernel) (by decide) (catL rfl) ?_
  refine x_iconst (i := 1) (nI 1) (by decide +kernel) (by decide +kernel) ?_
  refine x_istore_n (i := 3) (by decide +kernel) (by decide) (catL rfl) ?_
  refine x_iload_n (i := 3) (by decide +kernel) rfl ?_
  refine x_bipush (i := 10) (nI 10) (by decide +kernel) (by decide +kernel) ?_
  refine x_icmp (cc := .ge) (off := 23) 42 (by decide +kernel) rfl (fun qq => absurd qq (show ¬ nI 10 ≤ nI 1 by decide)) (fun _ => ?_)
  refine x_iload_n (i := 0) (by decide +kernel) rfl ?_
  refine x_iload_n (i := 2) (by decide +kernel) rfl ?_
  refine x_icmp (cc := .le) (off := 7) 31 (by decide +kernel) rfl (fun q => ?_) (fun q => ?_)
  · have q1 : 10 ≤ k := (ng_le (by omega) (by decide)).mp q
    refine x_bipush (i := 10) (nI 10) (by decide +kernel) (by decide +kernel) ?_
    refine x_iload_n (i := 2) (by decide +kernel) rfl ?_
    refine x_imul ((-100)) (by decide +kernel) (by decide +kernel) ?_
    refine x_istore_n (i := 2) (by decide +kernel) (by decide) (catL rfl) ?_
    refine x_iinc (i := 3) (j := 1) (x := nI 1) (nI 2) (by decide +kernel) (by decide) rfl (by decide +kernel) (catL rfl) ?_
    refine x_goto (off := -23) 16 (by decide +kernel) rfl ?_
    refine x_iload_n (i := 3) (by decide +kernel) rfl ?_
    refine x_bipush (i := 10) (nI 10) (by decide +kernel) (by decide +kernel) ?_
    refine x_icmp (cc := .ge) (off := 23) 42 (by decide +kernel) rfl (fun qq => absurd qq (show ¬ nI 10 ≤ nI 2 by decide)) (fun _ => ?_)
    refine x_iload_n (i := 0) (by decide +kernel) rfl ?_
    refine x_iload_n (i := 2) (by decide +kernel) rfl ?_
    refine x_icmp (cc := .le) (off := 7) 31 (by decide +kernel) rfl (fun q => ?_) (fun q => ?_)
    · have q2 : 100 ≤ k := (ng_le (by omega) (by decide)).mp q
      refine x_bipush (i := 10) (nI 10) (by decide +kernel) (by decide +kernel) ?_
      refine x_iload_n (i := 2) (by decide +kernel) rfl ?_
      refine x_imul ((-1000)) (by decide +kernel) (by decide +kernel) ?_
      refine x_istore_n (i := 2) (by decide +kernel) (by decide) (catL rfl) ?_
      refine x_iinc (i := 3) (j := 1) (x := nI 2) (nI 3) (by decide +kernel) (by decide) rfl (by decide +kernel) (catL rfl) ?_
      refine x_goto (off := -23) 16 (by decide +kernel) rfl ?_
      refine x_iload_n (i := 3) (by decide +kernel) rfl ?_
      refine x_bipush (i := 10) (nI 10) (by decide +kernel) (by decide +kernel) ?_
      refine x_icmp (cc := .ge) (off := 23) 42 (by decide +kernel) rfl (fun qq => absurd qq (show ¬ nI 10 ≤ nI 3 by decide)) (fun _ => ?_)
      refine x_iload_n (i := 0) (by decide +kernel) rfl ?_
      refine x_iload_n (i := 2) (by decide +kernel) rfl ?_
      refine x_icmp (cc := .le) (off := 7) 31 (by decide +kernel) rfl (fun q => ?_) (fun q => ?_)
      · have q3 : 1000 ≤ k := (ng_le (by omega) (by decide)).mp q
        refine x_bipush (i := 10) (nI 10) (by decide +kernel) (by decide +kernel) ?_
        refine x_iload_n (i := 2) (by decide +kernel) rfl ?_
        refine x_imul ((-10000)) (by decide +kernel) (by decide +kernel) ?_
        refine x_istore_n (i := 2) (by decide +kernel) (by decide) (catL rfl) ?_
        refine x_iinc (i := 3) (j := 1) (x := nI 3) (nI 4) (by decide +kernel) (by decide) rfl (by decide +kernel) (catL rfl) ?_
        refine x_goto (off := -23) 16 (by decide +kernel) rfl ?_
        refine x_iload_n (i := 3) (by decide +kernel) rfl ?_
        refine x_bipush (i := 10) (nI 10) (by decide +kernel) (by decide +kernel) ?_
        refine x_icmp (cc := .ge) (off := 23) 42 (by decide +kernel) rfl (fun qq => absurd qq (show ¬ nI 10 ≤ nI 4 by decide)) (fun _ => ?_)
        refine x_iload_n (i := 0) (by decide +kernel) rfl ?_
        refine x_iload_n (i := 2) (by decide +kernel) rfl ?_
        refine x_icmp (cc := .le) (off := 7) 31 (by decide +kernel) rfl (fun q => ?_) (fun q => ?_)
        · have q4 : 10000 ≤ k := (ng_le (by omega) (by decide)).mp q
          refine x_bipush (i := 10) (nI 10) (by decide +kernel) (by decide +kernel) ?_
          refine x_iload_n (i := 2) (by decide +kernel) rfl ?_
          refine x_imul ((-100000)) (by decide +kernel) (by decide +kernel) ?_
          refine x_istore_n (i := 2) (by decide +kernel) (by decide) (catL rfl) ?_
          refine x_iinc (i := 3) (j := 1) (x := nI 4) (nI 5) (by decide +kernel) (by decide) rfl (by decide +kernel) (catL rfl) ?_
          refine x_goto (off := -23) 16 (by decide +kernel) rfl ?_
          refine x_iload_n (i := 3) (by decide +kernel) rfl ?_
          refine x_bipush (i := 10) (nI 10) (by decide +kernel) (by decide +kernel) ?_
          refine x_icmp (cc := .ge) (off := 23) 42 (by decide +kernel) rfl (fun qq => absurd qq (show ¬ nI 10 ≤ nI 5 by decide)) (fun _ => ?_)
          refine x_iload_n (i := 0) (by decide +kernel) rfl ?_
          refine x_iload_n (i := 2) (by decide +kernel) rfl ?_
          refine x_icmp (cc := .le) (off := 7) 31 (by decide +kernel) rfl (fun q => ?_) (fun q => ?_)
          · have q5 : 100000 ≤ k := (ng_le (by omega) (by decide)).mp q
            refine x_bipush (i := 10) (nI 10) (by decide +kernel) (by decide +kernel) ?_
            refine x_iload_n (i := 2) (by decide +kernel) rfl ?_
            refine x_imul ((-1000000)) (by decide +kernel) (by decide +kernel) ?_
            refine x_istore_n (i := 2) (by decide +kernel) (by decide) (catL rfl) ?_
            refine x_iinc (i := 3) (j := 1) (x := nI 5) (nI 6) (by decide +kernel) (by decide) rfl (by decide +kernel) (catL rfl) ?_
            refine x_goto (off := -23) 16 (by decide +kernel) rfl ?_
            refine x_iload_n (i := 3) (by decide +kernel) rfl ?_
            refine x_bipush (i := 10) (nI 10) (by decide +kernel) (by decide +kernel) ?_
            refine x_icmp (cc := .ge) (off := 23) 42 (by decide +kernel) rfl (fun qq => absurd qq (show ¬ nI 10 ≤ nI 6 by decide)) (fun _ => ?_)
            refine x_iload_n (i := 0) (by decide +kernel) rfl ?_
            refine x_iload_n (i := 2) (by decide +kernel) rfl ?_
            refine x_icmp (cc := .le) (off := 7) 31 (by decide +kernel) rfl (fun qq => absurd qq (show ¬ -(nI k) ≤ (-1000000 : Int32) from fun z => absurd ((ng_le (c := 1000000) (by omega) (by decide)).mp z) (by omega))) (fun _ => ?_)
            refine x_iload_n (i := 3) (by decide +kernel) rfl ?_
            refine x_iload_n (i := 1) (by decide +kernel) rfl ?_
            refine x_iadd (nI 6) (by decide +kernel) (nI_add _ _) ?_
            exact x_ireturn .int (by decide +kernel) rfl rfl (by omega) (by omega) (fun _ _ _ h => ⟨_, _, _, rfl, ⟨by rw [show dLen k = 6 by unfold dLen; repeat (first | rw [if_neg (by omega)] | rw [if_pos (by omega)])], rfl, rfl⟩, Nat.le_refl _, h⟩)
          · have q5 : k < 100000 := Nat.not_le.mp fun z => q ((ng_le (by omega) (by decide)).mpr z)
            refine x_iload_n (i := 3) (by decide +kernel) rfl ?_
            refine x_iload_n (i := 1) (by decide +kernel) rfl ?_
            refine x_iadd (nI 5) (by decide +kernel) (nI_add _ _) ?_
            exact x_ireturn .int (by decide +kernel) rfl rfl (by omega) (by omega) (fun _ _ _ h => ⟨_, _, _, rfl, ⟨by rw [show dLen k = 5 by unfold dLen; repeat (first | rw [if_neg (by omega)] | rw [if_pos (by omega)])], rfl, rfl⟩, Nat.le_refl _, h⟩)
        · have q4 : k < 10000 := Nat.not_le.mp fun z => q ((ng_le (by omega) (by decide)).mpr z)
          refine x_iload_n (i := 3) (by decide +kernel) rfl ?_
          refine x_iload_n (i := 1) (by decide +kernel) rfl ?_
          refine x_iadd (nI 4) (by decide +kernel) (nI_add _ _) ?_
          exact x_ireturn .int (by decide +kernel) rfl rfl (by omega) (by omega) (fun _ _ _ h => ⟨_, _, _, rfl, ⟨by rw [show dLen k = 4 by unfold dLen; repeat (first | rw [if_neg (by omega)] | rw [if_pos (by omega)])], rfl, rfl⟩, Nat.le_refl _, h⟩)
      · have q3 : k < 1000 := Nat.not_le.mp fun z => q ((ng_le (by omega) (by decide)).mpr z)
        refine x_iload_n (i := 3) (by decide +kernel) rfl ?_
        refine x_iload_n (i := 1) (by decide +kernel) rfl ?_
        refine x_iadd (nI 3) (by decide +kernel) (nI_add _ _) ?_
        exact x_ireturn .int (by decide +kernel) rfl rfl (by omega) (by omega) (fun _ _ _ h => ⟨_, _, _, rfl, ⟨by rw [show dLen k = 3 by unfold dLen; repeat (first | rw [if_neg (by omega)] | rw [if_pos (by omega)])], rfl, rfl⟩, Nat.le_refl _, h⟩)
    · have q2 : k < 100 := Nat.not_le.mp fun z => q ((ng_le (by omega) (by decide)).mpr z)
      refine x_iload_n (i := 3) (by decide +kernel) rfl ?_
      refine x_iload_n (i := 1) (by decide +kernel) rfl ?_
      refine x_iadd (nI 2) (by decide +kernel) (nI_add _ _) ?_
      exact x_ireturn .int (by decide +kernel) rfl rfl (by omega) (by omega) (fun _ _ _ h => ⟨_, _, _, rfl, ⟨by rw [show dLen k = 2 by unfold dLen; repeat (first | rw [if_neg (by omega)] | rw [if_pos (by omega)])], rfl, rfl⟩, Nat.le_refl _, h⟩)
  · have q1 : k < 10 := Nat.not_le.mp fun z => q ((ng_le (by omega) (by decide)).mpr z)
    refine x_iload_n (i := 3) (by decide +kernel) rfl ?_
    refine x_iload_n (i := 1) (by decide +kernel) rfl ?_
    refine x_iadd (nI 1) (by decide +kernel) (nI_add _ _) ?_
    exact x_ireturn .int (by decide +kernel) rfl rfl (by omega) (by omega) (fun _ _ _ h => ⟨_, _, _, rfl, ⟨by rw [show dLen k = 1 by unfold dLen; repeat (first | rw [if_neg (by omega)] | rw [if_pos (by omega)])], rfl, rfl⟩, Nat.le_refl _, h⟩)
theorem t_gcE {d : Nat} {l : Launch} {G : xG} {n v cap idx base : Nat} {Qc : Array Value → State → Outcome → State → Prop} (hvn : v < n) (hcap : cap ≤ 5000) : ∀ (m k pos : Nat) (es : Nat → va_E) (f : Nat → Int32) (x3 x4 : Value), k ≤ m → k < 1000000 → pos = base + dLen k → pos ≤ cap → x3.category = 1 → x4.category = 1 → es v = .inl (G.cA 7, cap, .inl f) → bFit f →
    (∀ es1 g, es1 v = .inl (G.cA 7, cap, .inl g) → bFit g → (∀ j, j < base → g j = f j) → (∀ j, base ≤ j → j < pos → ∃ c, c < 10 ∧ g j = nI (48 + c)) → (∀ j, pos ≤ j → g j = f j) → (∀ x, x ≠ v → es1 x = es x) → ∀ (a : Array Value) (s t : State), ctH G.B G.H0 G.D n es1 t.heap → Qc a s (.returned (some (.int (nI base)))) t) →
    xE true d M_J6_getChars_ba4f3 l G 0 0 n es 0 0 22 [.int (-(nI k)), .int (nI idx), .ref (G.B + v), x3, x4, .int (nI pos), .int (nI 0)] [] Qc := by
  have small : ∀ (k pos : Nat) (es : Nat → va_E) (f : Nat → Int32) (x3 x4 : Value), k < 100 → pos = base + dLen k → pos ≤ cap → x3.category = 1 → x4.category = 1 → es v = .inl (G.cA 7, cap, .inl f) → bFit f →
      (∀ es1 g, es1 v = .inl (G.cA 7, cap, .inl g) → bFit g → (∀ j, j < base → g j = f j) → (∀ j, base ≤ j → j < pos → ∃ c, c < 10 ∧ g j = nI (48 + c)) → (∀ j, pos ≤ j → g j = f j) → (∀ x, x ≠ v → es1 x = es x) → ∀ (a : Array Value) (s t : State), ctH G.B G.H0 G.D n es1 t.heap → Qc a s (.returned (some (.int (nI base)))) t) →
      xE true d M_J6_getChars_ba4f3 l G 0 0 n es 0 0 22 [.int (-(nI k)), .int (nI idx), .ref (G.B + v), x3, x4, .int (nI pos), .int (nI 0)] [] Qc := by
    intro k pos es f x3 x4 hk hp hpc h3 h4 hv hf kk
    have hdl := dLen_le k
    have hcat : ∀ w ∈ [Value.int (-(nI k)), .int (nI idx), .ref (G.B + v), x3, x4, .int (nI pos), .int (nI 0)], w.category = 1 := by
      simp only [List.mem_cons, List.not_mem_nil, or_false, forall_eq_or_imp, forall_eq]
      exact ⟨rfl, rfl, rfl, h3, h4, rfl, rfl⟩
    refine x_iload_n (i := 0) (by decide +kernel) rfl ?_
    refine x_bipush (i := -100) ((-100)) (by decide +kernel) (by decide +kernel) ?_
    refine x_icmp (cc := .gt) (off := 47) 72 (by decide +kernel) rfl (fun _ => ?_) (fun qq => absurd (show (-100 : Int32) < -(nI k) from (ng_lt (c := 100) (by omega) (by decide)).mpr hk) qq)
    refine x_aload_n (i := 2) (by decide +kernel) rfl ?_
    refine x_iinc (i := 5) (j := -1) (x := nI pos) (nI (pos - 1)) (by decide +kernel) (by decide) rfl (by rw [show Int32.ofInt (-1) = -1 by decide]; exact sb_m1 (by omega)) hcat ?_
    refine x_iload (i := 5) (by decide +kernel) rfl ?_
    refine x_onesN (i := 83) (w := 782) (k0 := k) (j := 0) (by decide +kernel) (by decide +kernel) (by decide +kernel) rfl (by decide +kernel) (Int32.neg_neg) (by decide +kernel) (by omega) ?_
    refine x_bastQ (i := (pos - 1)) (c := (48 + k % 10)) (by decide +kernel) hvn hv (by omega) (by omega) (by omega) (fun es1 hu1 ho1 => ?_)
    refine x_iload_n (i := 0) (by decide +kernel) rfl ?_
    refine x_bipush (i := -9) ((-9)) (by decide +kernel) (by decide +kernel) ?_
    refine x_icmp (cc := .ge) (off := 16) 104 (by decide +kernel) rfl (fun q => ?_) (fun q => ?_)
    · have q9 : k ≤ 9 := (ng_ge (by omega) (by decide)).mp q
      have hdk : dLen k = 1 := if_pos (by omega)
      have hb1 : pos - 1 = base := by omega
      refine x_iload (i := 6) (by decide +kernel) rfl ?_
      refine x_if (cc := .eq) (off := 12) 118 (by decide +kernel) rfl (fun _ => ?_) (fun qq => absurd (show nI 0 = 0 from rfl) qq)
      refine x_iload (i := 5) (by decide +kernel) rfl ?_
      rw [hb1] at hu1 ⊢
      exact x_ireturn .int (by decide +kernel) rfl rfl (by omega) (by omega) (fun a s t h => kk _ _ hu1 (hf.upd (by omega)) (fun j hj => pk_un (by omega)) (fun j h1 h2 => ⟨k % 10, by omega, by rw [show j = base by omega]; exact pk_us⟩) (fun j hj => pk_un (by omega)) ho1 a s t h)
    · have q9 : 9 < k := Nat.not_le.mp fun z => q ((ng_ge (by omega) (by decide)).mpr z)
      have hdk : dLen k = 2 := by unfold dLen; rw [if_neg (by omega), if_pos hk]
      have hb1 : pos - 1 - 1 = base := by omega
      refine x_aload_n (i := 2) (by decide +kernel) rfl ?_
      refine x_iinc (i := 5) (j := -1) (x := nI (pos - 1)) (nI (pos - 1 - 1)) (by decide +kernel) (by decide) rfl (by rw [show Int32.ofInt (-1) = -1 by decide]; exact sb_m1 (by omega)) (catSet hcat rfl) ?_
      refine x_iload (i := 5) (by decide +kernel) rfl ?_
      refine x_tensN (i := 87) (w := 784) (k0 := k) (j := 0) (by decide +kernel) (by decide +kernel) (by decide +kernel) rfl (by decide +kernel) (Int32.neg_neg) (by decide +kernel) (by omega) ?_
      refine x_bastQ (i := (pos - 1 - 1)) (c := (48 + k / 10)) (by decide +kernel) hvn hu1 (by omega) (by omega) (by omega) (fun es2 hu2 ho2 => ?_)
      refine x_iload (i := 6) (by decide +kernel) rfl ?_
      refine x_if (cc := .eq) (off := 12) 118 (by decide +kernel) rfl (fun _ => ?_) (fun qq => absurd (show nI 0 = 0 from rfl) qq)
      refine x_iload (i := 5) (by decide +kernel) rfl ?_
      rw [hb1] at hu2 ⊢
      exact x_ireturn .int (by decide +kernel) rfl rfl (by omega) (by omega) (fun a s t h => kk _ _ hu2 ((hf.upd (by omega)).upd (by omega)) (fun j hj => (pk_un (by omega)).trans (pk_un (by omega))) (fun j h1 h2 => by by_cases z : j = base; exact ⟨k / 10, by omega, by rw [z]; exact pk_us⟩; exact ⟨k % 10, by omega, by rw [pk_un z, show j = pos - 1 by omega]; exact pk_us⟩) (fun j hj => (pk_un (by omega)).trans (pk_un (by omega))) (fun x hx => (ho2 x hx).trans (ho1 x hx)) a s t h)
  intro m
  induction m with
  | zero =>
    intro k pos es f x3 x4 hkm hk hp hpc h3 h4 hv hf kk
    exact small k pos es f x3 x4 (by omega) hp hpc h3 h4 hv hf kk
  | succ m ih =>
    intro k pos es f x3 x4 hkm hk hp hpc h3 h4 hv hf kk
    by_cases h100 : k < 100
    · exact small k pos es f x3 x4 h100 hp hpc h3 h4 hv hf kk
    · have hdl := dLen_le k
      have hd2 := dLen_div (k := k) (by omega) hk
      have hdl2 := dLen_le (k / 100)
      have hcat : ∀ w ∈ [Value.int (-(nI k)), .int (nI idx), .ref (G.B + v), x3, x4, .int (nI pos), .int (nI 0)], w.category = 1 := by
        simp only [List.mem_cons, List.not_mem_nil, or_false, forall_eq_or_imp, forall_eq]
        exact ⟨rfl, rfl, rfl, h3, h4, rfl, rfl⟩
      refine x_iload_n (i := 0) (by decide +kernel) rfl ?_
      refine x_bipush (i := -100) ((-100)) (by decide +kernel) (by decide +kernel) ?_
      refine x_icmp (cc := .gt) (off := 47) 72 (by decide +kernel) rfl (fun qq => absurd qq (show ¬ (-100 : Int32) < -(nI k) from fun z => h100 ((ng_lt (c := 100) (by omega) (by decide)).mp z))) (fun _ => ?_)
      refine x_iload_n (i := 0) (by decide +kernel) rfl ?_
      refine x_bipush (i := 100) (nI 100) (by decide +kernel) (by decide +kernel) ?_
      refine x_idiv (-(nI (k / 100))) (by decide +kernel) (by decide) (ng_div (by omega)) ?_
      refine x_istore_n (i := 3) (by decide +kernel) (by decide) hcat ?_
      refine x_iload_n (i := 3) (by decide +kernel) rfl ?_
      refine x_bipush (i := 100) (nI 100) (by decide +kernel) (by decide +kernel) ?_
      refine x_imul (-(nI (k / 100)) * nI 100) (by decide +kernel) rfl ?_
      refine x_iload_n (i := 0) (by decide +kernel) rfl ?_
      refine x_isub (nI (k % 100)) (by decide +kernel) (ng_rem (by omega)) ?_
      refine x_istore (i := 4) (by decide +kernel) (by decide) (catSet hcat rfl) ?_
      refine x_iload_n (i := 3) (by decide +kernel) rfl ?_
      refine x_istore_n (i := 0) (by decide +kernel) (by decide) (catSet (catSet hcat rfl) rfl) ?_
      refine x_aload_n (i := 2) (by decide +kernel) rfl ?_
      refine x_iinc (i := 5) (j := -1) (x := nI pos) (nI (pos - 1)) (by decide +kernel) (by decide) rfl (by rw [show Int32.ofInt (-1) = -1 by decide]; exact sb_m1 (by omega)) (catSet (catSet (catSet hcat rfl) rfl) rfl) ?_
      refine x_iload (i := 5) (by decide +kernel) rfl ?_
      refine x_ones (i := 83) (w := 782) (k0 := k % 100) (j := 4) (by decide +kernel) (by decide +kernel) (by decide +kernel) rfl (by decide +kernel) (by omega) ?_
      refine x_bastQ (i := (pos - 1)) (c := (48 + k % 100 % 10)) (by decide +kernel) hvn hv (by omega) (by omega) (by omega) (fun es1 hu1 ho1 => ?_)
      refine x_aload_n (i := 2) (by decide +kernel) rfl ?_
      refine x_iinc (i := 5) (j := -1) (x := nI (pos - 1)) (nI (pos - 1 - 1)) (by decide +kernel) (by decide) rfl (by rw [show Int32.ofInt (-1) = -1 by decide]; exact sb_m1 (by omega)) (catSet (catSet (catSet (catSet hcat rfl) rfl) rfl) rfl) ?_
      refine x_iload (i := 5) (by decide +kernel) rfl ?_
      refine x_tens (i := 87) (w := 784) (k0 := k % 100) (j := 4) (by decide +kernel) (by decide +kernel) (by decide +kernel) rfl (by decide +kernel) (by omega) ?_
      refine x_bastQ (i := (pos - 1 - 1)) (c := (48 + k % 100 / 10)) (by decide +kernel) hvn hu1 (by omega) (by omega) (by omega) (fun es2 hu2 ho2 => ?_)
      refine x_goto (off := -47) 22 (by decide +kernel) rfl ?_
      refine ih (k / 100) (pos - 1 - 1) _ _ _ _ (by omega) (by omega) (by omega) (by omega) rfl rfl hu2 ((hf.upd (by omega)).upd (by omega)) (fun es1 g e1 e2 e3 e4 e5 e6 => ?_)
      refine kk es1 g e1 e2 (fun j hj => (e3 j hj).trans ((pk_un (by omega)).trans (pk_un (by omega)))) (fun j h1 h2 => ?_) (fun j hj => (e5 j (by omega)).trans ((pk_un (by omega)).trans (pk_un (by omega)))) (fun x hx => (e6 x hx).trans ((ho2 x hx).trans (ho1 x hx)))
      by_cases z1 : j < pos - 1 - 1
      · exact e4 j h1 z1
      · by_cases z2 : j = pos - 1
        · exact ⟨k % 100 % 10, by omega, by rw [e5 j (by omega), pk_un (by omega), z2]; exact pk_us⟩
        · exact ⟨k % 100 / 10, by omega, by rw [e5 j (by omega), show j = pos - 1 - 1 by omega]; exact pk_us⟩
theorem t_getChars {d : Nat} {l : Launch} {G : xG} {n : Nat} {es : Nat → va_E} {v cap idx k : Nat} {f : Nat → Int32} (hd : 0 ≤ d) (hvn : v < n) (hv : es v = .inl (G.cA 7, cap, .inl f)) (hf : bFit f) (hcap : cap ≤ 5000) (hk : k < 1000000) (hi : idx ≤ cap) (hdl : dLen k ≤ idx) : xMet d 0 0 M_J6_getChars_ba4f3 l G n es [.int (nI k), .int (nI idx), .ref (G.B + v)] (fun o n1 es1 => o = some (.int (nI (idx - dLen k))) ∧ n1 = n ∧ ∃ g, es1 v = .inl (G.cA 7, cap, .inl g) ∧ bFit g ∧ (∀ j, j < idx - dLen k → g j = f j) ∧ (∀ j, idx - dLen k ≤ j → j < idx → ∃ c, c < 10 ∧ g j = nI (48 + c)) ∧ ∀ x, x ≠ v → es1 x = es x) := by
  refine xMet.of true (j := 4) (by decide +kernel) (catL rfl) rfl ?_
  refine x_iload_n (i := 1) (by decide +kernel) rfl ?_
  refine x_istore (i := 5) (by decide +kernel) (by decide) (catL rfl) ?_
  refine x_iload_n (i := 0) (by decide +kernel) rfl ?_
  refine x_if (cc := .ge) (off := 7) 11 (by decide +kernel) rfl (fun _ => ?_) (fun qq => absurd (show 0 ≤ nI k from nI_pos' (by omega)) qq)
  refine x_iconst (i := 0) (nI 0) (by decide +kernel) (by decide +kernel) ?_
  refine x_istore (i := 6) (by decide +kernel) (by decide) (catL rfl) ?_
  refine x_iload (i := 6) (by decide +kernel) rfl ?_
  refine x_if (cc := .ne) (off := 6) 22 (by decide +kernel) rfl (fun qq => absurd (show nI 0 = 0 from rfl) qq) (fun _ => ?_)
  refine x_iload_n (i := 0) (by decide +kernel) rfl ?_
  refine x_ineg (-(nI k)) (by decide +kernel) rfl ?_
  refine x_istore_n (i := 0) (by decide +kernel) (by decide) (catL rfl) ?_
  exact t_gcE hvn hcap k k idx es f _ _ (Nat.le_refl _) hk (base := idx - dLen k) (by omega) hi rfl rfl hv hf (fun es1 g e1 e2 e3 e4 e5 e6 a s t h => ⟨_, _, _, rfl, ⟨rfl, rfl, g, e1, e2, e3, e4, e6⟩, Nat.le_refl _, h⟩)
/-- decimal digits -/
def digT (t : List Int32) : Prop := (1 ≤ t.length ∧ t.length ≤ 6) ∧ ∀ x ∈ t, ∃ c, c < 10 ∧ x = nI (48 + c)
theorem digs_of {g : Nat → Int32} {m : Nat} : ∀ (z : Nat), (∀ j, m ≤ j → j < m + z → ∃ c, c < 10 ∧ g j = nI (48 + c)) → ∃ u : List Int32, u.length = z ∧ (∀ x ∈ u, ∃ c, c < 10 ∧ x = nI (48 + c)) ∧ ∀ (j : Nat) (x : Int32), u[j]? = some x → g (m + j) = x := by
  intro z h
  refine ⟨(List.range z).map fun j => g (m + j), by simp, fun x hx => ?_, fun j x hj => ?_⟩
  · obtain ⟨j, hj, rfl⟩ := List.mem_map.mp hx
    exact h (m + j) (by omega) (by have := List.mem_range.mp hj; omega)
  · rw [List.getElem?_map] at hj
    obtain ⟨i, hi, rfl⟩ := Option.map_eq_some_iff.mp hj
    have := (List.getElem?_eq_some_iff.mp hi)
    obtain ⟨hl, he⟩ := this
    simp at he
    rw [he]
theorem t_appI {d : Nat} {l : Launch} {G : xG} {n : Nat} {es : Nat → va_E} {mc ms k0 z r v cap m k : Nat} {f : Nat → Int32} {Qc : Array Value → State → Outcome → State → Prop} (hd : 2 ≤ d) (hk0 : k0 ≤ mc) (hz : z ≤ ms) (hr : r < n) (hvn : v < n) (hrv : r ≠ v) (he : es r = .inr (9, [.ref (G.B + v), .int 0, .int 0, .int (nI m)])) (hv : es v = .inl (G.cA 7, cap, .inl f)) (hf : bFit f) (hk : k < 1000000) (hm : m + dLen k ≤ cap) (hcap : cap ≤ 5000) (kk : ∀ es1 g, es1 r = .inr (9, [.ref (G.B + v), .int 0, .int 0, .int (nI (m + dLen k))]) → es1 v = .inl (G.cA 7, cap, .inl g) → bFit g → (∀ j, j < m → g j = f j) → (∀ j, m ≤ j → j < m + dLen k → ∃ c, c < 10 ∧ g j = nI (48 + c)) → (∀ x, x ≠ r → x ≠ v → es1 x = es x) → ∀ (a : Array Value) (s t : State), ctH G.B G.H0 G.D n es1 t.heap → Qc a s (.returned (some (.ref (G.B + r)))) t) : xE true d M_J5_append_c97b9 l G mc ms n es k0 z 17 [.ref (G.B + r), .int (nI k), .int (nI m), .int (nI (m + dLen k))] [] Qc := by
  refine x_aload_n (i := 0) (by decide +kernel) rfl ?_
  refine x_callUp (i := 83) (d' := (d - 1)) (w := 616) (w2 := 618) (Mc := M_J5_isLatin1_aae02) (x := yJ5_isLatin1_aae02) (C := RJ4) (b0 := cJ5_isLatin1_aae02) (m0 := 1) (r0 := (some .boolean)) [] rfl (by decide +kernel) (by decide +kernel) xg_J5_isLatin1_aae02 (by decide +kernel) (mm_in 617 (by decide +kernel) rfl) (mm_in 620 (by decide +kernel) rfl) (by decide +kernel) (fun _ _ h _ => h _ (mm_in 619 (by decide +kernel) rfl)) (xRc.own (q := vwCl.getD 9 ("", TX0, 0)) hr he rfl) (t_latin (by omega) hr he) (by omega) (by omega) (by omega) rfl (by simp [Value.category]) ?_
  refine x_if (cc := .eq) (off := 16) 37 (by decide +kernel) rfl (fun qq => absurd qq (show ¬ (nI 1 = 0) by decide)) (fun _ => ?_)
  refine x_iload_n (i := 1) (by decide +kernel) rfl ?_
  refine x_iload_n (i := 3) (by decide +kernel) rfl ?_
  refine x_aload_n (i := 0) (by decide +kernel) rfl ?_
  refine x_get (i := 15) (ci := 9) (T := TJ4) (w := 522) 0 (by decide +kernel) rfl (by decide) (by decide +kernel) hr he rfl ?_
  refine x_callS (i := 248) (d' := (d - 1)) (w := 779) (Mc := M_J6_getChars_ba4f3) [.int (nI k), .int (nI (m + dLen k)), .ref (G.B + v)] rfl (by decide +kernel) (by decide +kernel) g_J6_getChars_ba4f3 (t_getChars (by omega) hvn hv hf hcap hk hm (by omega)) (by omega) (by omega) (by omega) rfl (fun v1 n1 es1 hP _ => by have := hP.2.1; omega) (by simp [Value.category]) (fun v1 n1 es1 hP hn => ?_)
  obtain ⟨rfl, rfl, g, g1, g2, g3, g4, g5⟩ := hP
  have e1_r : es1 r = .inr (9, [.ref (G.B + v), .int 0, .int 0, .int (nI m)]) := (g5 r (by omega)).trans he
  refine x_pop (by decide +kernel) rfl ?_
  refine x_goto (off := 14) 48 (by decide +kernel) rfl ?_
  refine x_aload_n (i := 0) (by decide +kernel) rfl ?_
  refine x_iload_n (i := 3) (by decide +kernel) rfl ?_
  refine x_putQ (i := 79) (w := 525) (ci := 9) (T := TJ4) 3 .int (by decide +kernel) rfl (by decide) (by decide +kernel) rfl (by decide +kernel) rfl rfl hr e1_r (by simp) (fun es2 hu2 ho2 => ?_)
  have e2_r : es2 r = .inr (9, [.ref (G.B + v), .int 0, .int 0, .int (nI (m + dLen k))]) := hu2
  have e2_v : es2 v = .inl (G.cA 7, cap, .inl g) := (ho2 v (by omega)).trans g1
  refine x_aload_n (i := 0) (by decide +kernel) rfl ?_
  exact x_areturn (.object RJ5) (by decide +kernel) rfl (Or.inl ⟨_, rfl⟩) (by omega) (by omega) (fun a s t h => kk _ g e2_r e2_v g2 (fun j hj => g3 j (by omega)) (fun j h1 h2 => g4 j (by omega) h2) (fun x h1 h2 => (ho2 x h1).trans (g5 x h2)) a s t h)
theorem t_app5I {d : Nat} {l : Launch} {G : xG} {n : Nat} {es : Nat → va_E} {r v k : Nat} {t : List Int32} (hd : 5 ≤ d) (hb : bLd G n es r v t) (hk : k < 1000000) (hl : t.length ≤ 900) : xMet d 1 (2 * (t.length + 6)) M_J5_append_c97b9 l G n es [.ref (G.B + r), .int (nI k)] (fun o n1 es1 => ∃ u, digT u ∧ bPost G n es r v (t ++ u) o n1 es1) := by
  obtain ⟨hr, hvn, he, cap, f, hv, hlc, hcc, hf, hh⟩ := id hb
  have hrv := hb.ne
  have hdl := dLen_le k
  refine xMet.of true (j := 2) (by decide +kernel) (catL rfl) rfl ?_
  refine x_aload_n (i := 0) (by decide +kernel) rfl ?_
  refine x_get (i := 79) (ci := 9) (T := TJ4) (w := 525) 3 (by decide +kernel) rfl (by decide) (by decide +kernel) hr he rfl ?_
  refine x_istore_n (i := 2) (by decide +kernel) (by decide) (catL rfl) ?_
  refine x_iload_n (i := 2) (by decide +kernel) rfl ?_
  refine x_iload_n (i := 1) (by decide +kernel) rfl ?_
  refine x_callSp (i := 245) (d' := (d - 1)) (w := 776) (Mc := M_J6_stringSize_0f7a4) [.int (nI k)] rfl (by decide +kernel) (by decide +kernel) g_J6_stringSize_0f7a4 (t_size (by omega) hk) (by omega) (by omega) (by omega) rfl (by simp [Value.category]) ?_
  refine x_iadd (nI (t.length + (dLen k))) (by decide +kernel) (nI_add _ _) ?_
  refine x_istore_n (i := 3) (by decide +kernel) (by decide) (catL rfl) ?_
  refine x_aload_n (i := 0) (by decide +kernel) rfl ?_
  refine x_iload_n (i := 3) (by decide +kernel) rfl ?_
  by_cases hcap : t.length + dLen k ≤ cap
  · refine x_callUp (i := 100) (d' := (d - 1)) (w := 583) (w2 := 904) (Mc := M_J5_ensureCapacityInternal_d00df) (x := yJ5_ensureCapacityInternal_d00df) (C := RJ4) (b0 := cJ5_ensureCapacityInternal_d00df) (m0 := 3) (r0 := none) [.int (nI (t.length + (dLen k)))] rfl (by decide +kernel) (by decide +kernel) xg_J5_ensureCapacityInternal_d00df (by decide +kernel) (mm_in 585 (by decide +kernel) rfl) (mm_in 586 (by decide +kernel) rfl) (by decide +kernel) (fun _ _ _ hS => va_Nw.use rfl (hS.2.2.2.2.2.2.2.2.2.2.1.2 yJ5_ensureCapacityInternal_d00df (by simp [xPriv]))) (xRc.own (q := vwCl.getD 9 ("", TX0, 0)) hr he rfl) (t_ens0 (by omega) hr hvn hrv he hv hcap (by omega)) (by omega) (by omega) (by omega) rfl (by simp [Value.category]) ?_
    exact t_appI (by omega) (by omega) (by omega) hr hvn hrv he hv hf hk (by omega) (by omega) (fun es1 g e1 e2 e3 e4 e5 e6 a s tt h => by obtain ⟨u, hu1, hu2, hu3⟩ := digs_of (g := g) (m := t.length) (dLen k) (fun j h1 h2 => e5 j h1 h2); rw [← hu1] at e1; exact ⟨_, _, _, rfl, ⟨u, ⟨by omega, hu2⟩, rfl, Or.inl rfl, v, bLd.mkS hr hvn e1 e2 e3 hh e4 hu3 (by omega) (by omega), Or.inl rfl, fun x _ h1 h2 => e6 x h1 h2⟩, Nat.le_refl _, h⟩)
  · refine x_callU (i := 100) (d' := (d - 1)) (w := 583) (w2 := 904) (Mc := M_J5_ensureCapacityInternal_d00df) (x := yJ5_ensureCapacityInternal_d00df) (C := RJ4) (b0 := cJ5_ensureCapacityInternal_d00df) (m0 := 3) (r0 := none) [.int (nI (t.length + (dLen k)))] rfl (by decide +kernel) (by decide +kernel) xg_J5_ensureCapacityInternal_d00df (by decide +kernel) (mm_in 585 (by decide +kernel) rfl) (mm_in 586 (by decide +kernel) rfl) (by decide +kernel) (fun _ _ _ hS => va_Nw.use rfl (hS.2.2.2.2.2.2.2.2.2.2.1.2 yJ5_ensureCapacityInternal_d00df (by simp [xPriv]))) (xRc.own (q := vwCl.getD 9 ("", TX0, 0)) hr he rfl) (t_ens1 (by omega) hr hvn hrv he hv hf (by omega) (by omega)) (by omega) (by omega) (by omega) rfl (fun v1 n1 es1 hP _ => by have := hP.2.1; omega) (by simp [Value.category]) (fun v1 n1 es1 hP hn => ?_)
    obtain ⟨rfl, rfl, h3, h4, g, h5, h6, h7⟩ := hP
    exact t_appI (by omega) (by omega) (by omega) (by omega) (by omega) (by omega) h4 h5 h6 hk (by omega) (by omega) (fun es2 g2 e1 e2 e3 e4 e5 e6 a s tt h => by obtain ⟨u, hu1, hu2, hu3⟩ := digs_of (g := g2) (m := t.length) (dLen k) (fun j h1 h2 => e5 j h1 h2); rw [← hu1] at e1; exact ⟨_, _, _, rfl, ⟨u, ⟨by omega, hu2⟩, rfl, Or.inr rfl, n, bLd.mkS (by omega) (by omega) e1 e2 e3 (hh.of fun j hj => h7 j (by omega)) e4 hu3 (by omega) (by omega), Or.inr rfl, fun x h0 h1 h2 => (e6 x h1 (by omega)).trans (h3 x h1 (by omega))⟩, by omega, h⟩)
theorem t_appendI {d : Nat} {l : Launch} {G : xG} {n : Nat} {es : Nat → va_E} {r v k : Nat} {t : List Int32} (hd : 6 ≤ d) (hb : bLd G n es r v t) (hk : k < 1000000) (hl : t.length ≤ 900) : xMet d 1 (2 * (t.length + 6)) M_J4_append_bf812 l G n es [.ref (G.B + r), .int (nI k)] (fun o n1 es1 => ∃ u, digT u ∧ bPost G n es r v (t ++ u) o n1 es1) := by
  refine xMet.of false (j := 0) (by decide +kernel) (catL rfl) rfl ?_
  refine x_aload_n (i := 0) (by decide +kernel) rfl ?_
  refine x_iload_n (i := 1) (by decide +kernel) rfl ?_
  refine x_callSU (i := 53) (d' := (d - 1)) (w := 773) (w2 := 911) (w3 := 534) (Mc := M_J5_append_c97b9) (ci := 9) (q := (RJ4, TJ4, 4)) [.int (nI k)] rfl (by decide +kernel) (by decide +kernel) xg_J5_append_c97b9 (by decide) (by decide +kernel) (by decide +kernel) rfl (xRc.own (q := vwCl.getD 9 ("", TX0, 0)) hb.1 hb.2.2.1 rfl) (t_app5I (by omega) hb hk hl) (by omega) (by omega) (by omega) rfl (fun _ _ _ _ q => by cases q) (by simp [Value.category]) (fun v1 n1 es1 hP hn => ?_)
  obtain ⟨u, hu, rfl, h1, h2⟩ := hP
  refine x_pop (by decide +kernel) rfl ?_
  refine x_aload_n (i := 0) (by decide +kernel) rfl ?_
  exact x_areturn (.object RJ4) (by decide +kernel) rfl (Or.inl ⟨_, rfl⟩) (by omega) (by omega) (fun _ _ _ h => ⟨_, _, _, rfl, ⟨u, hu, rfl, h1, h2⟩, hn, h⟩)
theorem t_initS {d : Nat} {l : Launch} {G : xG} {n : Nat} {es : Nat → va_E} {r v q : Nat} {t : List Int32} (hd : 4 ≤ d) (hb : bLd G n es r v t) (hqn : q < n) (hqr : q ≠ r) (hqv : q ≠ v) (hq : es q = .inr (8, [.null, .int 0, .int 0, .int 0])) (hl : t.length ≤ 900) : xMet d 1 t.length M_J0_init_db425 l G n es [.ref (G.B + q), .ref (G.B + r), .null] (fun o n1 es1 => o = none ∧ n1 = n + 1 ∧ (∀ x, x ≠ q → x ≠ n → es1 x = es x) ∧ ∃ g, es1 q = .inr (8, [.ref (G.B + n), .int 0, .int 0, .int 0]) ∧ es1 n = .inl (G.cA 7, t.length, .inl g) ∧ bFit g ∧ hasT g t) := by
  obtain ⟨hr, hvn, he, cap, f, hv, hlc, hcc, hf, hh⟩ := id hb
  have hrv := hb.ne
  refine xMet.of true (j := 2) (by decide +kernel) (catL rfl) rfl ?_
  refine x_aload_n (i := 0) (by decide +kernel) rfl ?_
  refine x_objInit (i := 1) (w := 708) (by decide +kernel) (by decide +kernel) (by omega) rfl ?_
  refine x_aload_n (i := 1) (by decide +kernel) rfl ?_
  refine x_callUp (i := 552) (d' := (d - 1)) (w := 709) (w2 := 711) (Mc := M_J5_getValue_6d5f1) (x := yJ5_getValue_6d5f1) (C := RJ4) (b0 := cJ5_getValue_6d5f1) (m0 := 1) (r0 := (some (.array .byte))) [] rfl (by decide +kernel) (by decide +kernel) xg_J5_getValue_6d5f1 (by decide +kernel) (mm_in 710 (by decide +kernel) rfl) (mm_in 713 (by decide +kernel) rfl) (by decide +kernel) (fun _ _ h _ => h _ (mm_in 712 (by decide +kernel) rfl)) (xRc.own (q := vwCl.getD 9 ("", TX0, 0)) hr he rfl) (t_getValue (by omega) hr he) (by omega) (by omega) (by omega) rfl (by simp [Value.category]) ?_
  refine x_astore_n (i := 3) (by decide +kernel) (by decide) (catL rfl) ?_
  refine x_aload_n (i := 1) (by decide +kernel) rfl ?_
  refine x_callUp (i := 549) (d' := (d - 1)) (w := 714) (w2 := 716) (Mc := M_J4_length_8abf5) (x := yJ5_length_8abf5) (C := RJ4) (b0 := cJ5_length_8abf5) (m0 := 1) (r0 := (some .int)) [] rfl (by decide +kernel) (by decide +kernel) xg_J4_length_8abf5 (by decide +kernel) (mm_in 715 (by decide +kernel) rfl) (mm_in 721 (by decide +kernel) rfl) (by decide +kernel) (fun _ _ h _ => h _ (mm_in 717 (by decide +kernel) rfl)) (xRc.own (q := vwCl.getD 9 ("", TX0, 0)) hr he rfl) (t_blen (by omega) hr he) (by omega) (by omega) (by omega) rfl (by simp [Value.category]) ?_
  refine x_istore (i := 4) (by decide +kernel) (by decide) (catL rfl) ?_
  refine x_aload_n (i := 1) (by decide +kernel) rfl ?_
  refine x_callUp (i := 1047) (d' := (d - 1)) (w := 722) (w2 := 618) (Mc := M_J5_isLatin1_aae02) (x := yJ5_isLatin1_aae02) (C := RJ4) (b0 := cJ5_isLatin1_aae02) (m0 := 1) (r0 := (some .boolean)) [] rfl (by decide +kernel) (by decide +kernel) xg_J5_isLatin1_aae02 (by decide +kernel) (mm_in 617 (by decide +kernel) rfl) (mm_in 620 (by decide +kernel) rfl) (by decide +kernel) (fun _ _ h _ => h _ (mm_in 619 (by decide +kernel) rfl)) (xRc.own (q := vwCl.getD 9 ("", TX0, 0)) hr he rfl) (t_latin (by omega) hr he) (by omega) (by omega) (by omega) rfl (by simp [Value.category]) ?_
  refine x_if (cc := .eq) (off := 22) 41 (by decide +kernel) rfl (fun qq => absurd qq (show ¬ (nI 1 = 0) by decide)) (fun _ => ?_)
  refine x_aload_n (i := 0) (by decide +kernel) rfl ?_
  refine x_iconst (i := 0) (nI 0) (by decide +kernel) (by decide +kernel) ?_
  refine x_putFQ (i := 15) (w := 743) (ci := 8) (T := TJ0) 1 .byte (by decide +kernel) rfl (by decide) (by decide +kernel) rfl rfl rfl (by decide +kernel) rfl rfl hqn hq (by simp) (fun es1 hu1 ho1 => ?_)
  have e1_q : es1 q = .inr (8, [.null, .int (nI 0), .int 0, .int 0]) := hu1
  have e1_r : es1 r = .inr (9, [.ref (G.B + v), .int 0, .int 0, .int (nI t.length)]) := (ho1 r (by omega)).trans he
  have e1_v : es1 v = .inl (G.cA 7, cap, .inl f) := (ho1 v (by omega)).trans hv
  refine x_aload_n (i := 0) (by decide +kernel) rfl ?_
  refine x_aload_n (i := 3) (by decide +kernel) rfl ?_
  refine x_iconst (i := 0) (nI 0) (by decide +kernel) (by decide +kernel) ?_
  refine x_iload (i := 4) (by decide +kernel) rfl ?_
  refine x_callS (i := 54) (d' := (d - 1)) (w := 723) (Mc := M_J7_copyOfRange_39247) [.ref (G.B + v), .int (nI 0), .int (nI t.length)] rfl (by decide +kernel) (by decide +kernel) g_J7_copyOfRange_39247 (t_range (by omega) hvn e1_v hf hlc (by omega)) (by omega) (by omega) (by omega) rfl (fun v1 n1 es1 hP _ => by have := hP.2.1; omega) (by simp [Value.category]) (fun v1 n1 es2 hP hn => ?_)
  obtain ⟨rfl, rfl, h3, g, h4, h5, h6⟩ := hP
  have e2_r : es2 r = .inr (9, [.ref (G.B + v), .int 0, .int 0, .int (nI t.length)]) := (h3 r (by omega)).trans e1_r
  have e2_v : es2 v = .inl (G.cA 7, cap, .inl f) := (h3 v (by omega)).trans e1_v
  have e2_q : es2 q = .inr (8, [.null, .int (nI 0), .int 0, .int 0]) := (h3 q (by omega)).trans e1_q
  refine x_putFQ (i := 9) (w := 742) (ci := 8) (T := TJ0) 0 (.array .byte) (by decide +kernel) rfl (by decide) (by decide +kernel) rfl rfl rfl (by decide +kernel) rfl rfl (by omega) e2_q (by simp) (fun es3 hu3 ho3 => ?_)
  have e3_q : es3 q = .inr (8, [.ref (G.B + n), .int (nI 0), .int 0, .int 0]) := hu3
  have e3_r : es3 r = .inr (9, [.ref (G.B + v), .int 0, .int 0, .int (nI t.length)]) := (ho3 r (by omega)).trans e2_r
  have e3_v : es3 v = .inl (G.cA 7, cap, .inl f) := (ho3 v (by omega)).trans e2_v
  have e3_n : es3 n = .inl (G.cA 7, t.length, .inl g) := (ho3 n (by omega)).trans h4
  refine x_goto (off := 59) 97 (by decide +kernel) rfl ?_
  exact x_return (by decide +kernel) rfl (by omega) (by omega) (fun _ _ _ h => ⟨_, _, _, rfl, ⟨rfl, rfl, fun x h1 h2 => (ho3 x h1).trans ((h3 x h2).trans (ho1 x h1)), g, e3_q, e3_n, h5, hh.of h6⟩, by omega, h⟩)
theorem t_initB {d : Nat} {l : Launch} {G : xG} {n : Nat} {es : Nat → va_E} {r v q : Nat} {t : List Int32} (hd : 5 ≤ d) (hb : bLd G n es r v t) (hqn : q < n) (hqr : q ≠ r) (hqv : q ≠ v) (hq : es q = .inr (8, [.null, .int 0, .int 0, .int 0])) (hl : t.length ≤ 900) : xMet d 1 t.length M_J0_init_81219 l G n es [.ref (G.B + q), .ref (G.B + r)] (fun o n1 es1 => o = none ∧ n1 = n + 1 ∧ (∀ x, x ≠ q → x ≠ n → es1 x = es x) ∧ ∃ g, es1 q = .inr (8, [.ref (G.B + n), .int 0, .int 0, .int 0]) ∧ es1 n = .inl (G.cA 7, t.length, .inl g) ∧ bFit g ∧ hasT g t) := by
  refine xMet.of false (j := 0) (by decide +kernel) (catL rfl) rfl ?_
  refine x_aload_n (i := 0) (by decide +kernel) rfl ?_
  refine x_aload_n (i := 1) (by decide +kernel) rfl ?_
  refine x_null (by decide +kernel) ?_
  refine x_callI (i := 489) (d' := (d - 1)) (w := 705) (Mc := M_J0_init_db425) [.ref (G.B + r), .null] rfl (by decide +kernel) (by decide +kernel) xg_J0_init_db425 rfl rfl (t_initS (by omega) hb hqn hqr hqv hq hl) (by omega) (by omega) (by omega) rfl (fun _ _ _ _ q => by cases q) (by simp [Value.category]) (fun v1 n1 es1 hP hn => ?_)
  obtain ⟨rfl, rfl, hP⟩ := hP
  exact x_return (by decide +kernel) rfl (by omega) (by omega) (fun _ _ _ h => ⟨_, _, _, rfl, ⟨rfl, rfl, hP⟩, by omega, h⟩)
theorem t_toString {d : Nat} {l : Launch} {G : xG} {n : Nat} {es : Nat → va_E} {r v : Nat} {t : List Int32} (hd : 6 ≤ d) (hb : bLd G n es r v t) (hl : t.length ≤ 900) : xMet d 2 (4 + t.length) M_J4_toString_0e30d l G n es [.ref (G.B + r)] (fun o n1 es1 => o = some (.ref (G.B + n)) ∧ n1 = n + 2 ∧ (∀ x, x < n → es1 x = es x) ∧ tS G n1 es1 (fun x => n ≤ x) (G.B + n) t) := by
  have hm8 : mmNF 8 = 4 := rfl
  refine xMet.of false (j := 0) (by decide +kernel) (catL rfl) rfl ?_
  refine x_newQ (i := 18) (w1 := 700) (ci := 8) (q := (RJ0, TJ0, 4)) (by decide +kernel) (by decide +kernel) rfl (mm_in 701 (by decide +kernel) rfl) (mm_in 20 (by decide +kernel) rfl) (by omega) (by show 0 + 4 ≤ _; omega) (fun es1 hu1 ho1 => ?_)
  have hb1 : bLd G (n + 1) es1 r v t := hb.fr (by omega) (ho1 r (by have := hb.1; omega)) (ho1 v (by have := hb.2.1; omega))
  refine x_dup (by decide +kernel) rfl ?_
  refine x_aload_n (i := 0) (by decide +kernel) rfl ?_
  refine x_callI (i := 137) (d' := (d - 1)) (w := 702) (Mc := M_J0_init_81219) [.ref (G.B + r)] rfl (by decide +kernel) (by decide +kernel) xg_J0_init_81219 rfl rfl (t_initB (by omega) hb1 (by omega) (by have := hb.1; omega) (by have := hb.2.1; omega) hu1 hl) (by omega) (by omega) (by omega) rfl (fun _ _ _ _ q => by cases q) (by simp [Value.category]) (fun v1 n1 es2 hP hn => ?_)
  obtain ⟨rfl, rfl, h3, g, h4, h5, h6, h7⟩ := hP
  exact x_areturn (.object RJ0) (by decide +kernel) rfl (Or.inl ⟨_, rfl⟩) (by omega) (by omega) (fun _ _ _ h => ⟨_, _, _, rfl, ⟨rfl, rfl, fun x hx => (h3 x (by omega) (by omega)).trans (ho1 x (by omega)), Or.inr ⟨n, n + 1, _, _, g, rfl, by omega, by omega, Nat.le_refl _, Nat.le_succ _, h4, h5, h6, h7⟩⟩, by omega, h⟩)
