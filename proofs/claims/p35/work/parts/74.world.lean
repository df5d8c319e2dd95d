/-! ===== what is known at the law's entry ===== -/
theorem lw_ist : ∀ (ci : Nat) (q : vw_C), vwCl[ci]? = some q → Cond.instantiable q.1 q.2.2 ∈ mmT := by
  intro ci q h
  match ci, h with
  | 0, h => cases h; exact mm_in 98 (by decide +kernel) rfl
  | 1, h => cases h; exact mm_in 50 (by decide +kernel) rfl
  | 2, h => cases h; exact mm_in 92 (by decide +kernel) rfl
  | 3, h => cases h; exact mm_in 187 (by decide +kernel) rfl
  | 4, h => cases h; exact mm_in 39 (by decide +kernel) rfl
  | 5, h => cases h; exact mm_in 164 (by decide +kernel) rfl
  | 6, h => cases h; exact mm_in 78 (by decide +kernel) rfl
  | 7, h => cases h; exact mm_in 31 (by decide +kernel) rfl
  | 8, h => cases h; exact mm_in 701 (by decide +kernel) rfl
  | 9, h => cases h; exact mm_in 505 (by decide +kernel) rfl
  | n + 10, h => simp [vwCl] at h
theorem lw_D {s : State} {args : Array Value} (hts : ∀ w ∈ mmT, w.before args s = true) : ∃ D : va_G, ∀ (c : Nat) (q : vw_C), vwCl[c]? = some q → u_Kn s q.1 q.2.1 q.2.2 (D.1 c) (D.2 c) := by
  have h0 : ∀ c : Nat, ∃ z : ClassId × (Nat → Nat), ∀ q : vw_C, vwCl[c]? = some q → u_Kn s q.1 q.2.1 q.2.2 z.1 z.2 := by
    intro c
    cases hc : vwCl[c]? with
    | none => exact ⟨(0, fun _ => 0), fun q hq => by cases hq⟩
    | some q =>
      obtain ⟨C, T, N⟩ := q
      obtain ⟨-, -, hin, -⟩ := mm_cls hc
      obtain ⟨cC, iS, h⟩ := u_known (C := C) (T := T) (N := N) (n := N) hts hin (hts _ (lw_ist c _ hc))
      exact ⟨(cC, iS), fun q hq => by cases hq; exact h⟩
  obtain ⟨f, hf⟩ := Classical.axiomOfChoice h0
  exact ⟨(fun c => (f c).1, fun c => (f c).2), hf⟩
theorem lw_arr {s : State} {args : Array Value} (hts : ∀ w ∈ lw_tbl, w.before args s = true) : ∃ cA : Nat → ClassId, ∀ (k : Nat) (q : ClassId × FieldType), (mmTys cA)[k]? = some q → ArrOfT s q.1 q.2 ∧ va_RA s q.1 q.2 := by
  have hp : ∀ ty : FieldType, Cond.arrayClass ty ∈ lw_tbl → ∃ cA, ArrOfT s cA ty ∧ s.vm.findClass ("[" ++ ty.toString) = some cA := by
    intro ty h
    obtain ⟨c, k, comp, h1, h2, h3⟩ := Cond.arrayClass_spec (hts _ h)
    exact ⟨c, fun n z => ⟨(fun k h => by cases h), k, h2, comp, h3⟩, h1⟩
  have hq : ∀ C : String, Cond.arrayOver (.object C) ∈ lw_tbl → ∃ cA, ArrOfT s cA (.object C) ∧ va_RA s cA (.object C) := by
    intro C h
    obtain ⟨comp, c, k, h1, -, h2, h3, h4⟩ := Cond.arrayOver_spec (hts _ h)
    exact ⟨c, fun n z => ⟨(fun k h => by cases h), k, h2, comp, h3⟩, k, comp, h2, h3, h1, h4⟩
  obtain ⟨c0, a0, b0⟩ := hp .int (List.mem_of_getElem? (i := 74) (by decide +kernel))
  obtain ⟨c1, a1, b1⟩ := hp .long (List.mem_of_getElem? (i := 76) (by decide +kernel))
  obtain ⟨c2, a2, b2⟩ := hp .double (List.mem_of_getElem? (i := 77) (by decide +kernel))
  obtain ⟨c3, a3, b3⟩ := hp .boolean (List.mem_of_getElem? (i := 75) (by decide +kernel))
  obtain ⟨c4, a4, b4⟩ := hq RX1 (List.mem_of_getElem? (i := 45) (by decide +kernel))
  obtain ⟨c5, a5, b5⟩ := hq RX6 (List.mem_of_getElem? (i := 47) (by decide +kernel))
  obtain ⟨c6, a6, b6⟩ := hq RX2 (List.mem_of_getElem? (i := 49) (by decide +kernel))
  obtain ⟨c7, a7, b7⟩ := hp .byte (List.mem_of_getElem? (i := 535) (by decide +kernel))
  refine ⟨fun k => [c0, c1, c2, c3, c4, c5, c6, c7].getD k 0, fun k q h => ?_⟩
  match k, h with
  | 0, h => cases h; exact ⟨a0, b0⟩
  | 1, h => cases h; exact ⟨a1, b1⟩
  | 2, h => cases h; exact ⟨a2, b2⟩
  | 3, h => cases h; exact ⟨a3, b3⟩
  | 4, h => cases h; exact ⟨a4, b4⟩
  | 5, h => cases h; exact ⟨a5, b5⟩
  | 6, h => cases h; exact ⟨a6, b6⟩
  | 7, h => cases h; exact ⟨a7, b7⟩
  | n + 8, h => simp [mmTys] at h
theorem lw_nest : ∀ q ∈ mmNest, Cond.methodLinkNest q.1 q.2.1 q.2.2 "ColumnCasts" ∈ lw_tbl := by decide +kernel
def lw_tm : Nat → Term := fun i => match i with
  | 0 => .string "ColumnCasts$Text" 51
  | 1 => .string "ColumnCastsLaw" 18
  | 2 => .string "ColumnCastsLaw" 35
  | 3 => .string "ColumnCastsLaw" 41
  | 4 => .string "ColumnCastsLaw" 47
  | 5 => .string "ColumnCastsLaw" 49
  | 6 => .string "ColumnCastsLaw" 62
  | 7 => .string "ColumnCastsLaw" 64
  | _ => .string "ColumnCastsLaw" 70
abbrev lw_F : List Cond := flatC (Jvm.Cond.and given_1 narrow_1)
theorem lw_len : ∀ i, i < 9 → xLen.getD i 0 < 2 ^ 31 := by decide
def lwB : List Nat := [343, 267, 318, 281, 290, 300, 261, 273, 330]
def lwN : List Nat := [0, 356, 361, 358, 359, 360, 355, 357, 362, 356, 0, 321, 284, 293, 310, 268, 276, 333, 361, 321, 0, 323, 324, 325, 320, 322, 338, 358, 284, 323, 0, 295, 312, 283, 285, 335, 359, 293, 324, 295, 0, 313, 292, 294, 336, 360, 310, 325, 312, 313, 0, 309, 311, 337, 355, 268, 320, 283, 292, 309, 0, 275, 332, 357, 276, 322, 285, 294, 311, 275, 0, 334, 362, 333, 338, 335, 336, 337, 332, 334, 0]
theorem lw_ex : ∀ i, i < 9 → lw_F[lwB.getD i 0 - 4]? = some (Cond.exactly (lw_tm i) "java/lang/String") := by decide +kernel
theorem lw_co : ∀ i, i < 9 → lw_F[lwB.getD i 0 - 3]? = some (Cond.eq (.field (lw_tm i) "java/lang/String" "coder" "B") (.int 0)) := by decide +kernel
theorem lw_ar : ∀ i, i < 9 → lw_F[lwB.getD i 0 - 2]? = some (Cond.arrayOf (.field (lw_tm i) "java/lang/String" "value" "[B") .byte) := by decide +kernel
theorem lw_le : ∀ i, i < 9 → lw_F[lwB.getD i 0 - 1]? = some (Cond.eq (.length (.field (lw_tm i) "java/lang/String" "value" "[B")) (.int (Int32.ofNat (xLen.getD i 0)))) := by decide +kernel
theorem lw_el : ∀ i, i < 9 → ∀ j, j < xLen.getD i 0 → lw_F[lwB.getD i 0 + j]? = some (Cond.eq (.elem (.field (lw_tm i) "java/lang/String" "value" "[B") (.int (Int32.ofNat j))) (.int ((xByt.getD i []).getD j 0))) := by decide +kernel
theorem lw_ne : ∀ i, i < 9 → ∀ j, j < 9 → i ≠ j → lw_F[lwN.getD (9 * i + j) 0]? = some (Cond.not (Cond.eq (lw_tm i) (lw_tm j))) ∨ lw_F[lwN.getD (9 * i + j) 0]? = some (Cond.not (Cond.eq (lw_tm j) (lw_tm i))) := by decide +kernel
theorem lw_d1s : (lw_F.drop 12).take 100 = (List.range 100).map fun j => Cond.eq (.elem (.static "java/lang/Integer" "DigitOnes" "[B") (.int (Int32.ofNat j))) (.int (nI (48 + j % 10))) := by decide +kernel
theorem lw_d2s : (lw_F.drop 115).take 100 = (List.range 100).map fun j => Cond.eq (.elem (.static "java/lang/Integer" "DigitTens" "[B") (.int (Int32.ofNat j))) (.int (nI (48 + j / 10))) := by decide +kernel
theorem lw_d1 (j : Nat) (hj : j < 100) : Cond.eq (.elem (.static "java/lang/Integer" "DigitOnes" "[B") (.int (Int32.ofNat j))) (.int (nI (48 + j % 10))) ∈ lw_F := List.mem_of_mem_drop (List.mem_of_mem_take (by rw [lw_d1s]; exact List.mem_map.mpr ⟨j, List.mem_range.mpr hj, rfl⟩))
theorem lw_d2 (j : Nat) (hj : j < 100) : Cond.eq (.elem (.static "java/lang/Integer" "DigitTens" "[B") (.int (Int32.ofNat j))) (.int (nI (48 + j / 10))) ∈ lw_F := List.mem_of_mem_drop (List.mem_of_mem_take (by rw [lw_d2s]; exact List.mem_map.mpr ⟨j, List.mem_range.mpr hj, rfl⟩))
theorem lw_DigitOnes {s : State} {b : Nat} (hts : ∀ w ∈ lw_tbl, w.before #[Value.ref b] s = true) (hs : ∀ w ∈ lw_F, w.before #[Value.ref b] s = true) (hA : ∀ a : Nat, a < s.heap.size → ¬ (fun q => s.heap.size ≤ q) a) : xDg "DigitOnes" (fun j => j % 10) (fun q => s.heap.size ≤ q) s s.heap := by
  obtain ⟨t, ht, hT⟩ := va_Tof (args := #[Value.ref b]) (s := s) (tm := .static "java/lang/Integer" "DigitOnes" "[B") (ty := .byte) (N := 100) (f := fun j => .int (nI (48 + j % 10))) (A := fun q => s.heap.size ≤ q) (by decide) (hs _ (by decide +kernel)) (va_eqt (hs (Cond.eq (.length (.static "java/lang/Integer" "DigitOnes" "[B")) (.int (Int32.ofNat 100))) (by decide +kernel))) (fun j hj => va_eqt (hs _ (lw_d1 j hj))) hA
  exact ⟨t, va_Zref (hts _ (List.mem_of_getElem? (i := 783) (by decide +kernel))) (hts _ (List.mem_of_getElem? (i := 28) (by decide +kernel))) ht hA, hT⟩
theorem lw_DigitTens {s : State} {b : Nat} (hts : ∀ w ∈ lw_tbl, w.before #[Value.ref b] s = true) (hs : ∀ w ∈ lw_F, w.before #[Value.ref b] s = true) (hA : ∀ a : Nat, a < s.heap.size → ¬ (fun q => s.heap.size ≤ q) a) : xDg "DigitTens" (fun j => j / 10) (fun q => s.heap.size ≤ q) s s.heap := by
  obtain ⟨t, ht, hT⟩ := va_Tof (args := #[Value.ref b]) (s := s) (tm := .static "java/lang/Integer" "DigitTens" "[B") (ty := .byte) (N := 100) (f := fun j => .int (nI (48 + j / 10))) (A := fun q => s.heap.size ≤ q) (by decide) (hs _ (by decide +kernel)) (va_eqt (hs (Cond.eq (.length (.static "java/lang/Integer" "DigitTens" "[B")) (.int (Int32.ofNat 100))) (by decide +kernel))) (fun j hj => va_eqt (hs _ (lw_d2 j hj))) hA
  exact ⟨t, va_Zref (hts _ (List.mem_of_getElem? (i := 785) (by decide +kernel))) (hts _ (List.mem_of_getElem? (i := 28) (by decide +kernel))) ht hA, hT⟩
theorem lw_priv {s : State} {b : Nat} (hts : ∀ w ∈ lw_tbl, w.before #[Value.ref b] s = true) : ∀ y ∈ xPriv, va_Nw (.selects RJ4 y y) s := by
  intro y hy
  simp only [xPriv, List.mem_cons, List.not_mem_nil, or_false] at hy
  have hC : (Cond.instantiable RJ4 4).before #[Value.ref b] s = true := hts _ (List.mem_of_getElem? (i := 505) (by decide +kernel))
  rcases hy with rfl | rfl | rfl | rfl
  · exact va_Nw.of rfl (x_selP hC (hts _ (List.mem_of_getElem? (i := 584) (by decide +kernel))) (hts _ (List.mem_of_getElem? (i := 585) (by decide +kernel))) (hts _ (List.mem_of_getElem? (i := 904) (by decide +kernel))))
  · exact va_Nw.of rfl (x_selP hC (hts _ (List.mem_of_getElem? (i := 588) (by decide +kernel))) (hts _ (List.mem_of_getElem? (i := 589) (by decide +kernel))) (hts _ (List.mem_of_getElem? (i := 905) (by decide +kernel))))
  · exact va_Nw.of rfl (x_selP hC (hts _ (List.mem_of_getElem? (i := 682) (by decide +kernel))) (hts _ (List.mem_of_getElem? (i := 683) (by decide +kernel))) (hts _ (List.mem_of_getElem? (i := 909) (by decide +kernel))))
  · exact va_Nw.of rfl (x_selP hC (hts _ (List.mem_of_getElem? (i := 686) (by decide +kernel))) (hts _ (List.mem_of_getElem? (i := 687) (by decide +kernel))) (hts _ (List.mem_of_getElem? (i := 910) (by decide +kernel))))
theorem lw_world {p : Program} {s : State} {m : MethodId} {meth : Method} {c : Code} {b L : Nat} {xs : Nat → Int32} (C0 : lw_At p s m meth c b L xs) : ∃ (sk sv : Nat → Nat) (D : va_G) (cA : Nat → ClassId), xS (s.heap.size, s.heap, sk, sv, D, cA, b, L, xs) s := by
  obtain ⟨hx, hb, hr, hml, hown, hts, hX, hbl, hlk, hgv⟩ := id C0
  have htm : ∀ w ∈ mmT, w.before #[Value.ref b] s = true := fun w hw => hts w (List.mem_filter.mp hw).1
  have hs := flat_of_before _ hgv
  have hA : ∀ a : Nat, a < s.heap.size → ¬ (fun q => s.heap.size ≤ q) a := fun a h1 h2 => by
    have h2 : s.heap.size ≤ a := h2
    omega
  obtain ⟨D, hD⟩ := lw_D htm
  obtain ⟨cA, hcA⟩ := lw_arr hts
  obtain ⟨sk, sv, hS, hev⟩ := vk_Sof (args := #[Value.ref b]) (s := s) (N := 9) (tm := lw_tm) (len := xLen) (byt := xByt) (A := fun q => s.heap.size ≤ q) lw_len (fun i hi => hs _ (List.mem_of_getElem? (lw_ex i hi))) (fun i hi => hs _ (List.mem_of_getElem? (lw_co i hi))) (fun i hi => hs _ (List.mem_of_getElem? (lw_ar i hi))) (fun i hi => hs _ (List.mem_of_getElem? (lw_le i hi))) (fun i hi j hj => hs _ (List.mem_of_getElem? (lw_el i hi j hj)))
    (fun i j hi hj hne => (lw_ne i hi j hj hne).elim (fun h => Or.inl (hs _ (List.mem_of_getElem? h))) (fun h => Or.inr (hs _ (List.mem_of_getElem? h)))) hA
  have hm := hev 0 (by omega)
  have ht := va_eqv (hs (Cond.eq (.string "ColumnCastsLaw" 60) (.string "ColumnCasts$Text" 51)) (by decide +kernel)) hm
  have hz := va_Zqof (A := fun q => s.heap.size ≤ q) (hts (.laysStatic "jdk/internal/util/Preconditions" "SIOOBE_FORMATTER" "Ljava/util/function/BiFunction;") (List.mem_of_getElem? (i := 553) (by decide +kernel))) (hts _ (List.mem_of_getElem? (i := 23) (by decide +kernel))) (hs (Cond.isRef (.static "jdk/internal/util/Preconditions" "SIOOBE_FORMATTER" "Ljava/util/function/BiFunction;")) (by decide +kernel)) hA
  refine ⟨sk, sv, D, cA, rfl, ⟨hD, hcA⟩, vk_R.of (hts _ (List.mem_of_getElem? (i := 819) (by decide +kernel))) hm, ?_, hS, ?_, ?_, fun q hq => va_Nw.of rfl (hts _ (lw_nest q hq)), ⟨va_AO.of (hts _ (List.mem_of_getElem? (i := 45) (by decide +kernel))), va_AO.of (hts _ (List.mem_of_getElem? (i := 47) (by decide +kernel))), va_AO.of (hts _ (List.mem_of_getElem? (i := 49) (by decide +kernel)))⟩, ⟨lw_DigitOnes hts hs hA, lw_DigitTens hts hs hA⟩, ⟨va_Nw.of rfl (hts _ (List.mem_of_getElem? (i := 610) (by decide +kernel))), lw_priv hts⟩, hX⟩
  · intro q hq
    simp only [xRef, List.mem_cons, List.not_mem_nil, or_false] at hq
    rcases hq with rfl | rfl | rfl | rfl | rfl | rfl | rfl | rfl | rfl
    · exact vk_R.of (hts _ (List.mem_of_getElem? (i := 536) (by decide +kernel))) ht
    · exact vk_R.of (hts _ (List.mem_of_getElem? (i := 753) (by decide +kernel))) (hev 1 (by omega))
    · exact vk_R.of (hts _ (List.mem_of_getElem? (i := 767) (by decide +kernel))) (hev 2 (by omega))
    · exact vk_R.of (hts _ (List.mem_of_getElem? (i := 758) (by decide +kernel))) (hev 3 (by omega))
    · exact vk_R.of (hts _ (List.mem_of_getElem? (i := 762) (by decide +kernel))) (hev 4 (by omega))
    · exact vk_R.of (hts _ (List.mem_of_getElem? (i := 763) (by decide +kernel))) (hev 5 (by omega))
    · exact vk_R.of (hts _ (List.mem_of_getElem? (i := 649) (by decide +kernel))) (hev 6 (by omega))
    · exact vk_R.of (hts _ (List.mem_of_getElem? (i := 754) (by decide +kernel))) (hev 7 (by omega))
    · exact vk_R.of (hts _ (List.mem_of_getElem? (i := 794) (by decide +kernel))) (hev 8 (by omega))
  · exact va_Zof (hts _ (List.mem_of_getElem? (i := 514) (by decide +kernel))) (hts _ (List.mem_of_getElem? (i := 20) (by decide +kernel))) (va_eqi (hs (Cond.eq (.static "java/lang/String" "COMPACT_STRINGS" "Z") (.int 1)) (by decide +kernel))) hA
  · rcases hz with h | ⟨t, h⟩
    · exact ⟨.null, Or.inl rfl, h⟩
    · exact ⟨.ref t, Or.inr ⟨t, rfl⟩, h⟩
