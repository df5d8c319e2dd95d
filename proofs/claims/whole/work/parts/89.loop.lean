/-! ===== what is known at the law's entry ===== -/
theorem lw_ist : ∀ (ci : Nat) (q : vw_C), vwCl[ci]? = some q → Cond.instantiable q.1 q.2.2 ∈ mmT := by
  intro ci q h
  match ci, h with
  | 0, h => cases h; exact mm_in 150 (by decide +kernel) rfl
  | 1, h => cases h; exact mm_in 102 (by decide +kernel) rfl
  | 2, h => cases h; exact mm_in 144 (by decide +kernel) rfl
  | 3, h => cases h; exact mm_in 248 (by decide +kernel) rfl
  | 4, h => cases h; exact mm_in 91 (by decide +kernel) rfl
  | 5, h => cases h; exact mm_in 225 (by decide +kernel) rfl
  | 6, h => cases h; exact mm_in 130 (by decide +kernel) rfl
  | 7, h => cases h; exact mm_in 83 (by decide +kernel) rfl
  | 8, h => cases h; exact mm_in 931 (by decide +kernel) rfl
  | n + 9, h => simp [vwCl] at h
theorem lw_D {s : State} {args : Array Value} (hts : ∀ w ∈ mmT, w.before args s = true) : ∃ D : va_G, ∀ (c : Nat) (q : vw_C), vwCl[c]? = some q → u_Kn s q.1 q.2.1 q.2.2 (D.1 c) (D.2 c) := by
  have h0 : ∀ c : Nat, ∃ z : ClassId × (Nat → Nat), ∀ q : vw_C, vwCl[c]? = some q → u_Kn s q.1 q.2.1 q.2.2 z.1 z.2 := by
    intro c
    cases hc : vwCl[c]? with
    | none => exact ⟨(0, fun _ => 0), fun q hq => by cases hq⟩
    | some q =>
      obtain ⟨C, T, N⟩ := q
      obtain ⟨-, -, hin, -⟩ := mm_cls hc
      obtain ⟨cC, iS, h⟩ := u_known (C := C) (T := T) (N := N) (n := N) hts hin (hts _ (lw_ist c _ hc))
      exact ⟨(cC, iS), fun q hq => by cases hq; exact h⟩
  obtain ⟨f, hf⟩ := Classical.axiomOfChoice h0
  exact ⟨(fun c => (f c).1, fun c => (f c).2), hf⟩
theorem lw_arr {s : State} {args : Array Value} (hts : ∀ w ∈ lw_tbl, w.before args s = true) : ∃ cA : Nat → ClassId, ∀ (k : Nat) (q : ClassId × FieldType), (mmTys cA)[k]? = some q → ArrOfT s q.1 q.2 ∧ va_RA s q.1 q.2 := by
  have hp : ∀ ty : FieldType, Cond.arrayClass ty ∈ lw_tbl → ∃ cA, ArrOfT s cA ty ∧ s.vm.findClass ("[" ++ ty.toString) = some cA := by
    intro ty h
    obtain ⟨c, k, comp, h1, h2, h3⟩ := Cond.arrayClass_spec (hts _ h)
    exact ⟨c, fun n z => ⟨(fun k h => by cases h), k, h2, comp, h3⟩, h1⟩
  have hq : ∀ C : String, Cond.arrayOver (.object C) ∈ lw_tbl → ∃ cA, ArrOfT s cA (.object C) ∧ va_RA s cA (.object C) := by
    intro C h
    obtain ⟨comp, c, k, h1, -, h2, h3, h4⟩ := Cond.arrayOver_spec (hts _ h)
    exact ⟨c, fun n z => ⟨(fun k h => by cases h), k, h2, comp, h3⟩, k, comp, h2, h3, h1, h4⟩
  obtain ⟨c0, a0, b0⟩ := hp .int (List.mem_of_getElem? (i := 126) (by decide +kernel))
  obtain ⟨c1, a1, b1⟩ := hp .long (List.mem_of_getElem? (i := 128) (by decide +kernel))
  obtain ⟨c2, a2, b2⟩ := hp .double (List.mem_of_getElem? (i := 129) (by decide +kernel))
  obtain ⟨c3, a3, b3⟩ := hp .boolean (List.mem_of_getElem? (i := 127) (by decide +kernel))
  obtain ⟨c4, a4, b4⟩ := hq RX1 (List.mem_of_getElem? (i := 97) (by decide +kernel))
  obtain ⟨c5, a5, b5⟩ := hq RX6 (List.mem_of_getElem? (i := 99) (by decide +kernel))
  obtain ⟨c6, a6, b6⟩ := hq RX2 (List.mem_of_getElem? (i := 101) (by decide +kernel))
  refine ⟨fun k => [c0, c1, c2, c3, c4, c5, c6].getD k 0, fun k q h => ?_⟩
  match k, h with
  | 0, h => cases h; exact ⟨a0, b0⟩
  | 1, h => cases h; exact ⟨a1, b1⟩
  | 2, h => cases h; exact ⟨a2, b2⟩
  | 3, h => cases h; exact ⟨a3, b3⟩
  | 4, h => cases h; exact ⟨a4, b4⟩
  | 5, h => cases h; exact ⟨a5, b5⟩
  | 6, h => cases h; exact ⟨a6, b6⟩
  | n + 7, h => simp [mmTys] at h
theorem lw_nest : ∀ q ∈ mmNest, Cond.methodLinkNest q.1 q.2.1 q.2.2 "ColumnCasts" ∈ lw_tbl := by decide +kernel
def lw_tm : Nat → Term := fun _ => .string "ColumnCastsModel" 282
theorem lw_el : ∀ j, j < 11 → (Cond.eq (.elem (.field (.string "ColumnCastsModel" 282) "java/lang/String" "value" "[B") (.int (Int32.ofNat j))) (.int (([122, 98, 99, 115, 105, 108, 102, 100, 119, 111, 110] : List Int32).getD j 0))) ∈ flatC (Jvm.Cond.and given_1 narrow_1) := by decide +kernel
theorem lw_world {p : Program} {s : State} {m : MethodId} {meth : Method} {c : Code} {b L : Nat} {xs : Nat → Int32} (C0 : lw_At p s m meth c b L xs) : ∃ (sk sv : Nat → Nat) (D : va_G) (cA : Nat → ClassId), lwC p s m meth c b L xs sk sv D cA := by
  obtain ⟨hx, hb, hr, hml, hown, hts, hX, hbl, hlk, hgv⟩ := id C0
  have htm : ∀ w ∈ mmT, w.before #[Value.ref b] s = true := fun w hw => hts w (List.mem_filter.mp hw).1
  have hs := flat_of_before _ hgv
  have hA : ∀ a : Nat, a < s.heap.size → ¬ (fun q => s.heap.size ≤ q) a := fun a h1 h2 => by
    have h2 : s.heap.size ≤ a := h2
    omega
  obtain ⟨D, hD⟩ := lw_D htm
  obtain ⟨cA, hcA⟩ := lw_arr hts
  obtain ⟨sk, sv, hS, hev⟩ := vk_Sof (args := #[Value.ref b]) (s := s) (N := 1) (tm := lw_tm) (len := [11]) (byt := [[122, 98, 99, 115, 105, 108, 102, 100, 119, 111, 110]]) (A := fun q => s.heap.size ≤ q)
    (fun i hi => by rcases (show i = 0 by omega) with rfl; decide) (fun i hi => hs _ (by unfold lw_tm; decide +kernel)) (fun i hi => hs _ (by unfold lw_tm; decide +kernel)) (fun i hi => hs _ (by unfold lw_tm; decide +kernel))
    (fun i hi => by rcases (show i = 0 by omega) with rfl; exact hs _ (by unfold lw_tm; decide +kernel))
    (fun i hi j hj => by rcases (show i = 0 by omega) with rfl; exact hs _ (lw_el j hj))
    (fun i j hi hj hne => absurd (show i = j by omega) hne) hA
  have hm := hev 0 (by omega)
  have ht := va_eqv (hs (Cond.eq (.string "ColumnCasts$Text" 51) (.string "ColumnCastsModel" 282)) (by decide +kernel)) hm
  have hp := va_eqv (hs (Cond.eq (.string "ColumnCasts$Spelling" 26) (.string "ColumnCastsModel" 282)) (by decide +kernel)) hm
  have hz := va_Zqof (A := fun q => s.heap.size ≤ q) (hts (.laysStatic "jdk/internal/util/Preconditions" "SIOOBE_FORMATTER" "Ljava/util/function/BiFunction;") (List.mem_of_getElem? (i := 783) (by decide +kernel))) (hts _ (List.mem_of_getElem? (i := 78) (by decide +kernel))) (hs (Cond.isRef (.static "jdk/internal/util/Preconditions" "SIOOBE_FORMATTER" "Ljava/util/function/BiFunction;")) (by decide +kernel)) hA
  refine ⟨sk, sv, D, cA, C0, ⟨rfl, ⟨hD, hcA⟩, vk_R.of (hts _ (List.mem_of_getElem? (i := 765) (by decide +kernel))) ht, vk_R.of (hts _ (List.mem_of_getElem? (i := 864) (by decide +kernel))) hp, vk_R.of (hts _ (List.mem_of_getElem? (i := 1300) (by decide +kernel))) hm, hS, ?_, ?_, fun q hq => va_Nw.of rfl (hts _ (lw_nest q hq))⟩, va_AO.of (hts _ (List.mem_of_getElem? (i := 97) (by decide +kernel))), va_AO.of (hts _ (List.mem_of_getElem? (i := 99) (by decide +kernel))), va_AO.of (hts _ (List.mem_of_getElem? (i := 101) (by decide +kernel)))⟩
  · exact va_Zof (hts _ (List.mem_of_getElem? (i := 775) (by decide +kernel))) (hts _ (List.mem_of_getElem? (i := 76) (by decide +kernel))) (va_eqi (hs (Cond.eq (.static "java/lang/String" "COMPACT_STRINGS" "Z") (.int 1)) (by decide +kernel))) hA
  · rcases hz with h | ⟨t, h⟩
    · exact ⟨.null, Or.inl rfl, h⟩
    · exact ⟨.ref t, Or.inr ⟨t, rfl⟩, h⟩
theorem lw_and31 (x : Int32) : ∃ j, j < 32 ∧ x &&& 31 = nI j := by
  refine ⟨x.toBitVec.toNat % 32, Nat.mod_lt _ (by decide), ?_⟩
  apply Int32.toBitVec_inj.mp
  apply BitVec.eq_of_toNat_eq
  rw [Int32.toBitVec_and, BitVec.toNat_and]
  have e1 : (31 : Int32).toBitVec.toNat = 2 ^ 5 - 1 := by decide
  rw [e1, Nat.and_two_pow_sub_one_eq_mod]
  show _ = (BitVec.ofNat 32 (x.toBitVec.toNat % 32)).toNat
  rw [BitVec.toNat_ofNat]
  have : x.toBitVec.toNat % 32 < 32 := Nat.mod_lt _ (by decide)
  omega
theorem lw_lt {i L : Nat} (hL : L ≤ 3584) (hi : i ≤ 4000) : Int32.ofNat L - 7 < nI i ↔ L < i + 7 := by
  rw [Int32.lt_iff_toInt_lt]
  have e1 : (Int32.ofNat L - 7).toInt = (L : Int) - 7 := nI_subI (a := L) (b := 7) (by omega) (by decide)
  rw [e1, nI_toInt (by omega)]
  omega
theorem lw_exit {p : Program} {l : Launch} {e : Env} {s : State} {m : MethodId} {below : List Frame} {meth : Method} {c : Code} {b L : Nat} {xs : Nat → Int32} {sk sv : Nat → Nat} {D : va_G} {cA : Nat → ClassId} {μ : mmMem} (C : lwC p s m meth c b L xs sk sv D cA) {H : Heap} {locs : List Loc} {ls : Array Slot} (hH : mmH s.heap.size s.heap D cA μ H) (hS : va_S (fun q => s.heap.size ≤ q) s.heap H locs) : W p l e room_1 s m #[.ref b] below meth c H locs 600000 7302250 (lw_Z below #[.ref b] s) (F0 m 1317 ls []) := by
  obtain ⟨hx, hb, hr, hml, hown, -, hX, hbl, hlk, -⟩ := C.1
  refine va_forget hS.2.2 ?_
  refine lv_iconst (n := 1) (v := 1) hx hb (by decide +kernel) rfl ?_
  refine W.base ?_
  exact lw_ret (d0 := s.drawn) (Drawn.sameBut.refl s.drawn lw_cs) hx hb hr hlk (by decide +kernel)
theorem lw_sw : decode code 33 = .ok (.tableswitch 1278 0 31 #[143, 166, 189, 212, 235, 278, 292, 375, 438, 471, 504, 537, 560, 593, 688, 737, 760, 843, 876, 899, 922, 965, 1018, 1071, 1104, 1127, 1160, 1183, 1196, 1229, 1242, 1255], 143) := by decide +kernel
theorem lw_loop {p : Program} {l : Launch} {e : Env} {s : State} {m : MethodId} {below : List Frame} {meth : Method} {c : Code} {b L : Nat} {xs : Nat → Int32} {sk sv : Nat → Nat} {D : va_G} {cA : Nat → ClassId} (C : lwC p s m meth c b L xs sk sv D cA) (hL2 : L ≤ 3584) : ∀ (f i : Nat) (μ : mmMem) (S : aS), L + 7 - i ≤ f → i ≤ L + 7 → CS μ S → MS μ S → lwE p l e s m below meth c b D cA μ 18 [.ref b, .ref (s.heap.size + 0), .ref (s.heap.size + 160), .int (nI i)] [] := by
  intro f
  induction f with
  | zero =>
    intro i μ S hf hi hC hM H locs ls hls hH hS
    obtain ⟨hx, hb, hr, hml, hown, -, hX, hbl, hlk, -⟩ := C.1
    refine lv_iload_n (i := 3) hx hb (show decode code 18 = .ok (.iload_n 3, 1) by decide +kernel) rfl (hls.at (v := .int (nI i)) rfl (fun hq => by cases hq)) ?_
    refine lv_aload_n (i := 0) hx hb (show decode code (18 + 1) = .ok (.aload_n 0, 1) by decide +kernel) rfl (hls.at (v := .ref b) rfl (fun hq => by cases hq)) ?_
    refine va_slen hx hb hX hbl (by simp; omega) hS (by decide +kernel) ?_
    refine lv_bipush (n := 7) (v := 7) hx hb (by decide +kernel) (by decide) ?_
    refine lv_isub hx hb (by decide +kernel) ?_
    refine lv_icmp_gt (off := 1293) (tgt := 1317) hx hb (by decide +kernel) rfl (fun q => ?_) (fun q => absurd ((lw_lt hL2 (by omega)).mpr (by omega)) q)
    exact lw_exit C (hH := hH) (hS := hS)
  | succ f ih =>
    intro i μ S hf hi hC hM H locs ls hls hH hS
    obtain ⟨hx, hb, hr, hml, hown, -, hX, hbl, hlk, -⟩ := C.1
    refine lv_iload_n (i := 3) hx hb (show decode code 18 = .ok (.iload_n 3, 1) by decide +kernel) rfl (hls.at (v := .int (nI i)) rfl (fun hq => by cases hq)) ?_
    refine lv_aload_n (i := 0) hx hb (show decode code (18 + 1) = .ok (.aload_n 0, 1) by decide +kernel) rfl (hls.at (v := .ref b) rfl (fun hq => by cases hq)) ?_
    refine va_slen hx hb hX hbl (by simp; omega) hS (by decide +kernel) ?_
    refine lv_bipush (n := 7) (v := 7) hx hb (by decide +kernel) (by decide) ?_
    refine lv_isub hx hb (by decide +kernel) ?_
    refine lv_icmp_gt (off := 1293) (tgt := 1317) hx hb (by decide +kernel) rfl (fun q => ?_) (fun q => ?_)
    · exact lw_exit C (hH := hH) (hS := hS)
    · have hi7 : i + 7 ≤ L := Nat.not_lt.mp fun w => q ((lw_lt hL2 (by omega)).mpr (by omega))
      have back : ∀ (ν : mmMem) (S' : aS), CS ν S' → MS ν S' → lwE p l e s m below meth c b D cA ν 1311 [.ref b, .ref (s.heap.size + 0), .ref (s.heap.size + 160), .int (nI i)] [] := by
        intro ν S' hC' hM' H locs ls hls hH hS
        obtain ⟨lv, hlv, hmem⟩ := hls
        obtain ⟨q, hq⟩ := List.getElem?_of_mem (hmem 3 (.int (nI i)) rfl (fun hq => by cases hq))
        have e7 : nI i + Int32.ofInt 7 = nI (i + 7) := nI_add i 7
        refine lv_iinc (i := 3) (n := 7) hx hb (by decide +kernel) hlv hq e7 (by decide) rfl (fun ls2 hls2 => ?_)
        refine lv_goto (off := -1296) (tgt := 18) hx hb (by decide +kernel) rfl ?_
        exact ih (i + 7) ν S' (by omega) (by omega) hC' hM' H locs ls2 (scLs.st hmem hls2 (by simp [Value.category])) hH hS
      have e2 : (nI i).toNatClampNeg = i := nI_clamp (by omega)
      obtain ⟨j, hj, ej⟩ := lw_and31 (xs i)
      refine lv_aload_n (i := 0) hx hb (show decode code 27 = .ok (.aload_n 0, 1) by decide +kernel) rfl (hls.at (v := .ref b) rfl (fun hq => by cases hq)) ?_
      refine lv_iload_n (i := 3) hx hb (show decode code 28 = .ok (.iload_n 3, 1) by decide +kernel) rfl (hls.at (v := .int (nI i)) rfl (fun hq => by cases hq)) ?_
      refine va_sld hx hb hX hbl (by simp; omega) hS (vp_in_nI (by omega) (by omega)) (by decide +kernel) ?_
      rw [e2]
      refine lv_bipush (n := 31) (v := 31) hx hb (by decide +kernel) (by decide) ?_
      refine lv_iand hx hb (by decide +kernel) ?_
      rw [ej]
      have hjs : j = 0 ∨ j = 1 ∨ j = 2 ∨ j = 3 ∨ j = 4 ∨ j = 5 ∨ j = 6 ∨ j = 7 ∨ j = 8 ∨ j = 9 ∨ j = 10 ∨ j = 11 ∨ j = 12 ∨ j = 13 ∨ j = 14 ∨ j = 15 ∨ j = 16 ∨ j = 17 ∨ j = 18 ∨ j = 19 ∨ j = 20 ∨ j = 21 ∨ j = 22 ∨ j = 23 ∨ j = 24 ∨ j = 25 ∨ j = 26 ∨ j = 27 ∨ j = 28 ∨ j = 29 ∨ j = 30 ∨ j = 31 := by omega
      rcases hjs with rfl | rfl | rfl | rfl | rfl | rfl | rfl | rfl | rfl | rfl | rfl | rfl | rfl | rfl | rfl | rfl | rfl | rfl | rfl | rfl | rfl | rfl | rfl | rfl | rfl | rfl | rfl | rfl | rfl | rfl | rfl | rfl
      · exact lv_tableIn (off := 143) (tgt := 176) hx hb lw_sw (by decide) (by decide) (by decide +kernel) rfl (lw_k0 C hL2 i hi7 hC hM back H locs ls hls hH hS)
      · exact lv_tableIn (off := 166) (tgt := 199) hx hb lw_sw (by decide) (by decide) (by decide +kernel) rfl (lw_k1 C hL2 i hi7 hC hM back H locs ls hls hH hS)
      · exact lv_tableIn (off := 189) (tgt := 222) hx hb lw_sw (by decide) (by decide) (by decide +kernel) rfl (lw_k2 C hL2 i hi7 hC hM back H locs ls hls hH hS)
      · exact lv_tableIn (off := 212) (tgt := 245) hx hb lw_sw (by decide) (by decide) (by decide +kernel) rfl (lw_k3 C hL2 i hi7 hC hM back H locs ls hls hH hS)
      · exact lv_tableIn (off := 235) (tgt := 268) hx hb lw_sw (by decide) (by decide) (by decide +kernel) rfl (lw_k4 C hL2 i hi7 hC hM back H locs ls hls hH hS)
      · exact lv_tableIn (off := 278) (tgt := 311) hx hb lw_sw (by decide) (by decide) (by decide +kernel) rfl (lw_k5 C hL2 i hi7 hC hM back H locs ls hls hH hS)
      · exact lv_tableIn (off := 292) (tgt := 325) hx hb lw_sw (by decide) (by decide) (by decide +kernel) rfl (lw_k6 C hL2 i hi7 hC hM back H locs ls hls hH hS)
      · exact lv_tableIn (off := 375) (tgt := 408) hx hb lw_sw (by decide) (by decide) (by decide +kernel) rfl (lw_k7 C hL2 i hi7 hC hM back H locs ls hls hH hS)
      · exact lv_tableIn (off := 438) (tgt := 471) hx hb lw_sw (by decide) (by decide) (by decide +kernel) rfl (lw_k8 C hL2 i hi7 hC hM back H locs ls hls hH hS)
      · exact lv_tableIn (off := 471) (tgt := 504) hx hb lw_sw (by decide) (by decide) (by decide +kernel) rfl (lw_k9 C hL2 i hi7 hC hM back H locs ls hls hH hS)
      · exact lv_tableIn (off := 504) (tgt := 537) hx hb lw_sw (by decide) (by decide) (by decide +kernel) rfl (lw_k10 C hL2 i hi7 hC hM back H locs ls hls hH hS)
      · exact lv_tableIn (off := 537) (tgt := 570) hx hb lw_sw (by decide) (by decide) (by decide +kernel) rfl (lw_k11 C hL2 i hi7 hC hM back H locs ls hls hH hS)
      · exact lv_tableIn (off := 560) (tgt := 593) hx hb lw_sw (by decide) (by decide) (by decide +kernel) rfl (lw_k12 C hL2 i hi7 hC hM back H locs ls hls hH hS)
      · exact lv_tableIn (off := 593) (tgt := 626) hx hb lw_sw (by decide) (by decide) (by decide +kernel) rfl (lw_k13 C hL2 i hi7 hC hM back H locs ls hls hH hS)
      · exact lv_tableIn (off := 688) (tgt := 721) hx hb lw_sw (by decide) (by decide) (by decide +kernel) rfl (lw_k14 C hL2 i hi7 hC hM back H locs ls hls hH hS)
      · exact lv_tableIn (off := 737) (tgt := 770) hx hb lw_sw (by decide) (by decide) (by decide +kernel) rfl (lw_k15 C hL2 i hi7 hC hM back H locs ls hls hH hS)
      · exact lv_tableIn (off := 760) (tgt := 793) hx hb lw_sw (by decide) (by decide) (by decide +kernel) rfl (lw_k16 C hL2 i hi7 hC hM back H locs ls hls hH hS)
      · exact lv_tableIn (off := 843) (tgt := 876) hx hb lw_sw (by decide) (by decide) (by decide +kernel) rfl (lw_k17 C hL2 i hi7 hC hM back H locs ls hls hH hS)
      · exact lv_tableIn (off := 876) (tgt := 909) hx hb lw_sw (by decide) (by decide) (by decide +kernel) rfl (lw_k18 C hL2 i hi7 hC hM back H locs ls hls hH hS)
      · exact lv_tableIn (off := 899) (tgt := 932) hx hb lw_sw (by decide) (by decide) (by decide +kernel) rfl (lw_k19 C hL2 i hi7 hC hM back H locs ls hls hH hS)
      · exact lv_tableIn (off := 922) (tgt := 955) hx hb lw_sw (by decide) (by decide) (by decide +kernel) rfl (lw_k20 C hL2 i hi7 hC hM back H locs ls hls hH hS)
      · exact lv_tableIn (off := 965) (tgt := 998) hx hb lw_sw (by decide) (by decide) (by decide +kernel) rfl (lw_k21 C hL2 i hi7 hC hM back H locs ls hls hH hS)
      · exact lv_tableIn (off := 1018) (tgt := 1051) hx hb lw_sw (by decide) (by decide) (by decide +kernel) rfl (lw_k22 C hL2 i hi7 hC hM back H locs ls hls hH hS)
      · exact lv_tableIn (off := 1071) (tgt := 1104) hx hb lw_sw (by decide) (by decide) (by decide +kernel) rfl (lw_k23 C hL2 i hi7 hC hM back H locs ls hls hH hS)
      · exact lv_tableIn (off := 1104) (tgt := 1137) hx hb lw_sw (by decide) (by decide) (by decide +kernel) rfl (lw_k24 C hL2 i hi7 hC hM back H locs ls hls hH hS)
      · exact lv_tableIn (off := 1127) (tgt := 1160) hx hb lw_sw (by decide) (by decide) (by decide +kernel) rfl (lw_k25 C hL2 i hi7 hC hM back H locs ls hls hH hS)
      · exact lv_tableIn (off := 1160) (tgt := 1193) hx hb lw_sw (by decide) (by decide) (by decide +kernel) rfl (lw_k26 C hL2 i hi7 hC hM back H locs ls hls hH hS)
      · exact lv_tableIn (off := 1183) (tgt := 1216) hx hb lw_sw (by decide) (by decide) (by decide +kernel) rfl (lw_k27 C hL2 i hi7 hC hM back H locs ls hls hH hS)
      · exact lv_tableIn (off := 1196) (tgt := 1229) hx hb lw_sw (by decide) (by decide) (by decide +kernel) rfl (lw_k28 C hL2 i hi7 hC hM back H locs ls hls hH hS)
      · exact lv_tableIn (off := 1229) (tgt := 1262) hx hb lw_sw (by decide) (by decide) (by decide +kernel) rfl (lw_k29 C hL2 i hi7 hC hM back H locs ls hls hH hS)
      · exact lv_tableIn (off := 1242) (tgt := 1275) hx hb lw_sw (by decide) (by decide) (by decide +kernel) rfl (lw_k30 C hL2 i hi7 hC hM back H locs ls hls hH hS)
      · exact lv_tableIn (off := 1255) (tgt := 1288) hx hb lw_sw (by decide) (by decide) (by decide +kernel) rfl (lw_k31 C hL2 i hi7 hC hM back H locs ls hls hH hS)
