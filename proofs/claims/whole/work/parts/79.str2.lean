/-! ===== String's methods on the constant ===== -/
theorem w_coder {d : Nat} {l : Launch} {B : Nat} {H0 : Heap} {sk sv : Nat → Nat} {D : va_G} {cA : Nat → ClassId} {μ : mmMem}  : scMet d M_J0_coder_7d493 l B H0 sk sv D cA μ [.ref (sk 0)] (scQc B H0 D cA (some (.int 0)) μ) := by
  refine scMet.of (n := 0) (by decide +kernel) (by simp [Value.category]) rfl ?_
  refine sc_compact rfl (by decide +kernel) ?_
  refine sc_if (cc := .eq) (off := 10) 13 (by decide +kernel) rfl (fun q => absurd q (by simp only [mmCt, mmCf]; decide)) (fun _ => ?_)
  refine sc_aload_n (i := 0) (by decide +kernel) rfl ?_
  refine sc_coder rfl (by decide +kernel) ?_
  refine sc_goto (off := 4) 14 (by decide +kernel) rfl ?_
  exact sc_ireturn .byte (by decide +kernel) rfl rfl (fun _ _ _ h => ⟨rfl, h⟩)
theorem w_latin {d : Nat} {l : Launch} {B : Nat} {H0 : Heap} {sk sv : Nat → Nat} {D : va_G} {cA : Nat → ClassId} {μ : mmMem}  : scMet d M_J0_isLatin1_aae02 l B H0 sk sv D cA μ [.ref (sk 0)] (scQc B H0 D cA (some (.int 1)) μ) := by
  refine scMet.of (n := 0) (by decide +kernel) (by simp [Value.category]) rfl ?_
  refine sc_compact rfl (by decide +kernel) ?_
  refine sc_if (cc := .eq) (off := 14) 17 (by decide +kernel) rfl (fun q => absurd q (by simp only [mmCt, mmCf]; decide)) (fun _ => ?_)
  refine sc_aload_n (i := 0) (by decide +kernel) rfl ?_
  refine sc_coder rfl (by decide +kernel) ?_
  refine sc_if (cc := .ne) (off := 7) 17 (by decide +kernel) rfl (fun q => absurd rfl q) (fun _ => ?_)
  refine sc_iconst (n := 1) 1 (by decide +kernel) rfl ?_
  refine sc_goto (off := 4) 18 (by decide +kernel) rfl ?_
  exact sc_ireturn .boolean (by decide +kernel) rfl rfl (fun _ _ _ h => ⟨rfl, h⟩)
theorem w_pcheck {d : Nat} {l : Launch} {B : Nat} {H0 : Heap} {sk sv : Nat → Nat} {D : va_G} {cA : Nat → ClassId} {μ : mmMem} {x y : Int32} {v : Value} (h0 : ¬ x < 0) (h1 : x < y) (hv : v.category = 1) : scMet d M_J3_checkIndex_8e157 l B H0 sk sv D cA μ [.int x, .int y, v] (scQc B H0 D cA (some (.int x)) μ) := by
  refine scMet.of (n := 0) (by decide +kernel) (by simp only [List.mem_cons, List.not_mem_nil, or_false, forall_eq_or_imp, forall_eq]; exact ⟨rfl, rfl, hv⟩) rfl ?_
  refine sc_iload_n (i := 0) (by decide +kernel) rfl ?_
  refine sc_if (cc := .lt) (off := 8) 9 (by decide +kernel) rfl (fun q => absurd q h0) (fun _ => ?_)
  refine sc_iload_n (i := 0) (by decide +kernel) rfl ?_
  refine sc_iload_n (i := 1) (by decide +kernel) rfl ?_
  refine sc_icmp (cc := .lt) (off := 10) 16 (by decide +kernel) rfl (fun _ => ?_) (fun q => absurd h1 q)
  refine sc_iload_n (i := 0) (by decide +kernel) rfl ?_
  exact sc_ireturn .int (by decide +kernel) rfl rfl (fun _ _ _ h => ⟨rfl, h⟩)
theorem w_check {d : Nat} {l : Launch} {B : Nat} {H0 : Heap} {sk sv : Nat → Nat} {D : va_G} {cA : Nat → ClassId} {μ : mmMem} {x y : Int32} (hd : 1 ≤ d) (h0 : ¬ x < 0) (h1 : x < y) : scMet d M_J0_checkIndex_df160 l B H0 sk sv D cA μ [.int x, .int y] (scQc B H0 D cA none μ) := by
  refine scMet.of (n := 0) (by decide +kernel) (by simp [Value.category]) rfl ?_
  refine sc_iload_n (i := 0) (by decide +kernel) rfl ?_
  refine sc_iload_n (i := 1) (by decide +kernel) rfl ?_
  refine sc_form rfl (by decide +kernel) (fun v hv => ?_)
  have hc : v.category = 1 := by rcases hv with rfl | ⟨t, rfl⟩ <;> rfl
  refine sc_callS (d' := d - 1) (n := 1059) (w := 784) [.int x, .int y, v] rfl (by decide +kernel) (by decide +kernel) gS_pcheck (by omega) rfl (by simp) (w_pcheck h0 h1 hc) ?_
  refine sc_pop (by decide +kernel) rfl ?_
  exact sc_return (by decide +kernel) rfl (fun _ _ _ h => ⟨rfl, h⟩)
theorem sc_k0 : ∀ k, k < 11 → ¬ nI k < 0 ∧ nI k < 11 := by decide +kernel
theorem sc_l0 : ∀ k, k < 11 → ((ltr k &&& 255).toUInt32 % 65536).toInt32 = ltr k ∧ narrow .char (.int (ltr k)) = .int (ltr k) := by decide +kernel
theorem w_lchar {d : Nat} {l : Launch} {B : Nat} {H0 : Heap} {sk sv : Nat → Nat} {D : va_G} {cA : Nat → ClassId} {μ : mmMem} {k : Nat} (hd : 2 ≤ d) (hk : k < 11) : scMet d M_J1_charAt_3b067 l B H0 sk sv D cA μ [.ref (sv 0), .int (nI k)] (scQc B H0 D cA (some (.int (ltr k))) μ) := by
  refine scMet.of (n := 0) (by decide +kernel) (by simp [Value.category]) rfl ?_
  refine sc_iload_n (i := 1) (by decide +kernel) rfl ?_
  refine sc_aload_n (i := 0) (by decide +kernel) rfl ?_
  refine sc_alen (by decide +kernel) ?_
  refine sc_callS (d' := d - 1) (n := 9) (w := 779) [.int (nI k), .int 11] rfl (by decide +kernel) (by decide +kernel) gS_checkIndex (by omega) rfl (by simp) (w_check (by omega) (sc_k0 k hk).1 (sc_k0 k hk).2) ?_
  refine sc_aload_n (i := 0) (by decide +kernel) rfl ?_
  refine sc_iload_n (i := 1) (by decide +kernel) rfl ?_
  refine sc_baload (by decide +kernel) rfl hk ?_
  refine sc_sipush (n := 255) 255 (by decide +kernel) rfl ?_
  refine sc_iand (by decide +kernel) ?_
  refine sc_i2c (ltr k) (by decide +kernel) (sc_l0 k hk).1 ?_
  exact sc_ireturn .char (by decide +kernel) rfl (sc_l0 k hk).2 (fun _ _ _ h => ⟨rfl, h⟩)
theorem w_lengthE {d : Nat} {l : Launch} {B : Nat} {H0 : Heap} {sk sv : Nat → Nat} {D : va_G} {cA : Nat → ClassId} {μ : mmMem} {Qc : Array Value → State → Outcome → State → Prop} (hd : 1 ≤ d) (hQ : ∀ (a : Array Value) (s t : State), mmH B H0 D cA μ t.heap → Qc a s (.returned (some (.int 11))) t) : scMet d M_J0_length_8abf5 l B H0 sk sv D cA μ [.ref (sk 0)] Qc := by
  refine scMet.of (n := 0) (by decide +kernel) (by simp [Value.category]) rfl ?_
  refine sc_aload_n (i := 0) (by decide +kernel) rfl ?_
  refine sc_value rfl (by decide +kernel) ?_
  refine sc_alen (by decide +kernel) ?_
  refine sc_aload_n (i := 0) (by decide +kernel) rfl ?_
  refine sc_callV (d' := d - 1) (n := 335) (w := 869) [] rfl rfl (by decide +kernel) (by decide +kernel) gS_coder (by omega) rfl (by simp [Value.category]) w_coder ?_
  refine sc_ishr (by decide +kernel) ?_
  exact sc_ireturn .int (by decide +kernel) rfl rfl hQ
theorem w_charE {d k : Nat} {l : Launch} {B : Nat} {H0 : Heap} {sk sv : Nat → Nat} {D : va_G} {cA : Nat → ClassId} {μ : mmMem} {Qc : Array Value → State → Outcome → State → Prop} (hd : 3 ≤ d) (hk : k < 11) (hQ : ∀ (a : Array Value) (s t : State), mmH B H0 D cA μ t.heap → Qc a s (.returned (some (.int (ltr k)))) t) : scMet d M_J0_charAt_5068e l B H0 sk sv D cA μ [.ref (sk 0), .int (nI k)] Qc := by
  refine scMet.of (n := 0) (by decide +kernel) (by simp [Value.category]) rfl ?_
  refine sc_aload_n (i := 0) (by decide +kernel) rfl ?_
  refine sc_callV (d' := d - 1) (n := 492) (w := 770) [] rfl rfl (by decide +kernel) (by decide +kernel) gS_isLatin1 (by omega) rfl (by simp) w_latin ?_
  refine sc_if (cc := .eq) (off := 12) 16 (by decide +kernel) rfl (fun q => absurd q (by simp only [mmCt, mmCf]; decide)) (fun _ => ?_)
  refine sc_aload_n (i := 0) (by decide +kernel) rfl ?_
  refine sc_value rfl (by decide +kernel) ?_
  refine sc_iload_n (i := 1) (by decide +kernel) rfl ?_
  refine sc_callS (d' := d - 1) (n := 495) (w := 776) [.ref (sv 0), .int (nI k)] rfl (by decide +kernel) (by decide +kernel) gS_lcharAt (by omega) rfl (by simp) (w_lchar (by omega) hk) ?_
  exact sc_ireturn .char (by decide +kernel) rfl (sc_l0 k hk).2 hQ
theorem sc_strOK : strOK := by
  refine ⟨fun d μ K hd hK => ?_, fun d k μ K hd hk hK => ?_⟩
  · refine sc_mm (d' := 1) gS_length rfl (by omega) (fun l B H0 sk sv D cA => ?_)
    exact w_lengthE (Nat.le_refl _) (fun a s t h => ⟨some (.int 11), μ, rfl, hK, h⟩)
  · refine sc_mm (d' := 3) gS_charAt rfl (by omega) (fun l B H0 sk sv D cA => ?_)
    exact w_charE (Nat.le_refl _) hk (fun a s t h => ⟨some (.int (ltr k)), μ, rfl, hK, h⟩)

theorem w_can {d : Nat} {l : Launch} {B : Nat} {H0 : Heap} {sk sv : Nat → Nat} {D : va_G} {cA : Nat → ClassId} {μ : mmMem} {x : Int32} (h0 : ¬ x < 0) (h1 : ¬ (255 : Int32) < x) : scMet d M_J1_canEncode_9a6ad l B H0 sk sv D cA μ [.int x] (scQc B H0 D cA (some (.int 1)) μ) := by
  refine scMet.of (n := 0) (by decide +kernel) (by simp [Value.category]) rfl ?_
  refine sc_iload_n (i := 0) (by decide +kernel) rfl ?_
  refine sc_if (cc := .lt) (off := 14) 15 (by decide +kernel) rfl (fun q => absurd q h0) (fun _ => ?_)
  refine sc_iload_n (i := 0) (by decide +kernel) rfl ?_
  refine sc_sipush (n := 255) 255 (by decide +kernel) rfl ?_
  refine sc_icmp (cc := .gt) (off := 7) 15 (by decide +kernel) rfl (fun q => absurd q h1) (fun _ => ?_)
  refine sc_iconst (n := 1) 1 (by decide +kernel) rfl ?_
  refine sc_goto (off := 4) 16 (by decide +kernel) rfl ?_
  exact sc_ireturn .boolean (by decide +kernel) rfl rfl (fun _ _ _ h => ⟨rfl, h⟩)
theorem w_max0 {d : Nat} {l : Launch} {B : Nat} {H0 : Heap} {sk sv : Nat → Nat} {D : va_G} {cA : Nat → ClassId} {μ : mmMem}  : scMet d M_J9_max_7cf53 l B H0 sk sv D cA μ [.int 0, .int 0] (scQc B H0 D cA (some (.int 0)) μ) := by
  refine scMet.of (n := 0) (by decide +kernel) (by simp [Value.category]) rfl ?_
  refine sc_iload_n (i := 0) (by decide +kernel) rfl ?_
  refine sc_iload_n (i := 1) (by decide +kernel) rfl ?_
  refine sc_icmp (cc := .lt) (off := 7) 9 (by decide +kernel) rfl (fun q => absurd q (by simp only [mmCt, mmCf]; decide)) (fun _ => ?_)
  refine sc_iload_n (i := 0) (by decide +kernel) rfl ?_
  refine sc_goto (off := 4) 10 (by decide +kernel) rfl ?_
  exact sc_ireturn .int (by decide +kernel) rfl rfl (fun _ _ _ h => ⟨rfl, h⟩)
theorem w_min11 {d : Nat} {l : Launch} {B : Nat} {H0 : Heap} {sk sv : Nat → Nat} {D : va_G} {cA : Nat → ClassId} {μ : mmMem}  : scMet d M_J9_min_7cf53 l B H0 sk sv D cA μ [.int 11, .int 11] (scQc B H0 D cA (some (.int 11)) μ) := by
  refine scMet.of (n := 0) (by decide +kernel) (by simp [Value.category]) rfl ?_
  refine sc_iload_n (i := 0) (by decide +kernel) rfl ?_
  refine sc_iload_n (i := 1) (by decide +kernel) rfl ?_
  refine sc_icmp (cc := .gt) (off := 7) 9 (by decide +kernel) rfl (fun q => absurd q (by simp only [mmCt, mmCf]; decide)) (fun _ => ?_)
  refine sc_iload_n (i := 0) (by decide +kernel) rfl ?_
  refine sc_goto (off := 4) 10 (by decide +kernel) rfl ?_
  exact sc_ireturn .int (by decide +kernel) rfl rfl (fun _ _ _ h => ⟨rfl, h⟩)
theorem sc_k1 : ∀ k, k < 11 → nI k < 11 ∧ nI k + Int32.ofInt 1 = nI (k + 1) := by decide +kernel
theorem w_loop {d : Nat} {l : Launch} {B : Nat} {H0 : Heap} {sk sv : Nat → Nat} {D : va_G} {cA : Nat → ClassId} {μ : mmMem} {x : Int32} (hx7 : x.toInt8.toInt32 = x) : ∀ (n k : Nat), k + n = 11 → scE d M_J1_indexOfChar_4cfef l B H0 sk sv D cA μ 7 [.ref (sv 0), .int x, .int 0, .int 11, .int x, .int (nI k)] [] (scQc B H0 D cA (some (.int (leadAns (pKind [x] 0 n k)))) μ) := by
  intro n
  induction n with
  | zero =>
    intro k hk
    have e1 : k = 11 := by omega
    subst e1
    refine sc_iload (i := 5) (by decide +kernel) rfl ?_
    refine sc_iload_n (i := 3) (by decide +kernel) rfl ?_
    refine sc_icmp (cc := .ge) (off := 21) 31 (by decide +kernel) rfl (fun _ => ?_) (fun q => absurd (show _ from by decide) q)
    refine sc_iconst (n := -1) (-1) (by decide +kernel) rfl ?_
    exact sc_ireturn .int (by decide +kernel) rfl rfl (fun _ _ _ h => ⟨rfl, h⟩)
  | succ n ih =>
    intro k hk
    have hk1 : k < 11 := by omega
    refine sc_iload (i := 5) (by decide +kernel) rfl ?_
    refine sc_iload_n (i := 3) (by decide +kernel) rfl ?_
    refine sc_icmp (cc := .ge) (off := 21) 31 (by decide +kernel) rfl (fun q => absurd (sc_k1 k hk1).1 (Int32.not_lt.mpr q)) (fun _ => ?_)
    refine sc_aload_n (i := 0) (by decide +kernel) rfl ?_
    refine sc_iload (i := 5) (by decide +kernel) rfl ?_
    refine sc_baload (by decide +kernel) rfl hk1 ?_
    refine sc_iload (i := 4) (by decide +kernel) rfl ?_
    have hp : pKind [x] 0 (n + 1) k = if x = ltr k then some k else pKind [x] 0 n (k + 1) := rfl
    rw [hp]
    refine sc_icmp (cc := .ne) (off := 6) 25 (by decide +kernel) rfl (fun q => ?_) (fun q => ?_)
    · have q1 : ¬ ltr k = x := q
      rw [if_neg (fun z => q1 z.symm)]
      refine sc_iinc (i := 5) (n := 1) (x := nI k) (nI (k + 1)) (by decide +kernel) (by decide) rfl (sc_k1 k hk1).2 (by simp [Value.category]) ?_
      refine sc_goto (off := -21) 7 (by decide +kernel) rfl ?_
      exact ih (k + 1) (by omega)
    · have q1 : ltr k = x := q
      rw [if_pos q1.symm]
      refine sc_iload (i := 5) (by decide +kernel) rfl ?_
      exact sc_ireturn .int (by decide +kernel) rfl rfl (fun _ _ _ h => ⟨rfl, h⟩)
theorem w_iochar {d : Nat} {l : Launch} {B : Nat} {H0 : Heap} {sk sv : Nat → Nat} {D : va_G} {cA : Nat → ClassId} {μ : mmMem} {x : Int32} (hx7 : x.toInt8.toInt32 = x) : scMet d M_J1_indexOfChar_4cfef l B H0 sk sv D cA μ [.ref (sv 0), .int x, .int 0, .int 11] (scQc B H0 D cA (some (.int (ixO x))) μ) := by
  refine scMet.of (n := 2) (by decide +kernel) (by simp [Value.category]) rfl ?_
  refine sc_iload_n (i := 1) (by decide +kernel) rfl ?_
  refine sc_i2b x (by decide +kernel) hx7 ?_
  refine sc_istore (i := 4) (by decide +kernel) (by decide) (by simp [Value.category]) ?_
  refine sc_iload_n (i := 2) (by decide +kernel) rfl ?_
  refine sc_istore (i := 5) (by decide +kernel) (by decide) (by simp [Value.category]) ?_
  exact w_loop hx7 11 0 rfl
theorem w_lindex {d : Nat} {l : Launch} {B : Nat} {H0 : Heap} {sk sv : Nat → Nat} {D : va_G} {cA : Nat → ClassId} {μ : mmMem} {x : Int32} (hd : 1 ≤ d) (h0 : ¬ x < 0) (h1 : ¬ (255 : Int32) < x) (hx7 : x.toInt8.toInt32 = x) : scMet d M_J1_indexOf_4cfef l B H0 sk sv D cA μ [.ref (sv 0), .int x, .int 0, .int 11] (scQc B H0 D cA (some (.int (ixO x))) μ) := by
  refine scMet.of (n := 0) (by decide +kernel) (by simp [Value.category]) rfl ?_
  refine sc_iload_n (i := 1) (by decide +kernel) rfl ?_
  refine sc_callS (d' := d - 1) (n := 88) (w := 1313) [.int x] rfl (by decide +kernel) (by decide +kernel) gS_canEncode (by omega) rfl (by simp) (w_can h0 h1) ?_
  refine sc_if (cc := .ne) (off := 5) 9 (by decide +kernel) rfl (fun _ => ?_) (fun q => absurd q (by simp only [mmCt, mmCf]; decide))
  refine sc_iload_n (i := 2) (by decide +kernel) rfl ?_
  refine sc_iconst (n := 0) 0 (by decide +kernel) rfl ?_
  refine sc_callS (d' := d - 1) (n := 92) (w := 1316) [.int 0, .int 0] rfl (by decide +kernel) (by decide +kernel) gS_max (by omega) rfl (by simp) w_max0 ?_
  refine sc_istore_n (i := 2) (by decide +kernel) (by decide) (by simp [Value.category]) ?_
  refine sc_iload_n (i := 3) (by decide +kernel) rfl ?_
  refine sc_aload_n (i := 0) (by decide +kernel) rfl ?_
  refine sc_alen (by decide +kernel) ?_
  refine sc_callS (d' := d - 1) (n := 38) (w := 1319) [.int 11, .int 11] rfl (by decide +kernel) (by decide +kernel) gS_min (by omega) rfl (by simp) w_min11 ?_
  refine sc_istore_n (i := 3) (by decide +kernel) (by decide) (by simp [Value.category]) ?_
  refine sc_iload_n (i := 2) (by decide +kernel) rfl ?_
  refine sc_iload_n (i := 3) (by decide +kernel) rfl ?_
  refine sc_icmp (cc := .lt) (off := 5) 29 (by decide +kernel) rfl (fun _ => ?_) (fun q => absurd (show _ from by decide) q)
  refine sc_aload_n (i := 0) (by decide +kernel) rfl ?_
  refine sc_iload_n (i := 1) (by decide +kernel) rfl ?_
  refine sc_iload_n (i := 2) (by decide +kernel) rfl ?_
  refine sc_iload_n (i := 3) (by decide +kernel) rfl ?_
  refine sc_callS (d' := d - 1) (n := 95) (w := 1322) [.ref (sv 0), .int x, .int 0, .int 11] rfl (by decide +kernel) (by decide +kernel) gS_indexOfChar (by omega) rfl (by simp) (w_iochar hx7) ?_
  exact sc_ireturn .int (by decide +kernel) rfl rfl (fun _ _ _ h => ⟨rfl, h⟩)
theorem w_index2 {d : Nat} {l : Launch} {B : Nat} {H0 : Heap} {sk sv : Nat → Nat} {D : va_G} {cA : Nat → ClassId} {μ : mmMem} {x : Int32} (hd : 2 ≤ d) (h0 : ¬ x < 0) (h1 : ¬ (255 : Int32) < x) (hx7 : x.toInt8.toInt32 = x) : scMet d M_J0_indexOf_7cf53 l B H0 sk sv D cA μ [.ref (sk 0), .int x, .int 0] (scQc B H0 D cA (some (.int (ixO x))) μ) := by
  refine scMet.of (n := 0) (by decide +kernel) (by simp [Value.category]) rfl ?_
  refine sc_aload_n (i := 0) (by decide +kernel) rfl ?_
  refine sc_callV (d' := d - 1) (n := 492) (w := 770) [] rfl rfl (by decide +kernel) (by decide +kernel) gS_isLatin1 (by omega) rfl (by simp) w_latin ?_
  refine sc_if (cc := .eq) (off := 19) 23 (by decide +kernel) rfl (fun q => absurd q (by simp only [mmCt, mmCf]; decide)) (fun _ => ?_)
  refine sc_aload_n (i := 0) (by decide +kernel) rfl ?_
  refine sc_value rfl (by decide +kernel) ?_
  refine sc_iload_n (i := 1) (by decide +kernel) rfl ?_
  refine sc_iload_n (i := 2) (by decide +kernel) rfl ?_
  refine sc_aload_n (i := 0) (by decide +kernel) rfl ?_
  refine sc_callV (d' := d - 1) (n := 505) (w := 1309) [] rfl rfl (by decide +kernel) (by decide +kernel) gS_length (by omega) rfl (by simp [Value.category]) (w_lengthE (by omega) (fun _ _ _ h => ⟨rfl, h⟩)) ?_
  refine sc_callS (d' := d - 1) (n := 637) (w := 1310) [.ref (sv 0), .int x, .int 0, .int 11] rfl (by decide +kernel) (by decide +kernel) gS_lindexOf (by omega) rfl (by simp) (w_lindex (by omega) h0 h1 hx7) ?_
  refine sc_goto (off := 16) 36 (by decide +kernel) rfl ?_
  exact sc_ireturn .int (by decide +kernel) rfl rfl (fun _ _ _ h => ⟨rfl, h⟩)
theorem w_index1 {d : Nat} {l : Launch} {B : Nat} {H0 : Heap} {sk sv : Nat → Nat} {D : va_G} {cA : Nat → ClassId} {μ : mmMem} {x : Int32} {Qc : Array Value → State → Outcome → State → Prop} (hd : 3 ≤ d) (h0 : ¬ x < 0) (h1 : ¬ (255 : Int32) < x) (hx7 : x.toInt8.toInt32 = x) (hQ : ∀ (a : Array Value) (s t : State), mmH B H0 D cA μ t.heap → Qc a s (.returned (some (.int (ixO x)))) t) : scMet d M_J0_indexOf_0f7a4 l B H0 sk sv D cA μ [.ref (sk 0), .int x] Qc := by
  refine scMet.of (n := 0) (by decide +kernel) (by simp [Value.category]) rfl ?_
  refine sc_aload_n (i := 0) (by decide +kernel) rfl ?_
  refine sc_iload_n (i := 1) (by decide +kernel) rfl ?_
  refine sc_iconst (n := 0) 0 (by decide +kernel) rfl ?_
  refine sc_callV (d' := d - 1) (n := 633) (w := 1305) [.int x, .int 0] rfl rfl (by decide +kernel) (by decide +kernel) gS_indexOf2 (by omega) rfl (by simp) (w_index2 (by omega) h0 h1 hx7) ?_
  exact sc_ireturn .int (by decide +kernel) rfl rfl hQ
theorem sc_x7 : ∀ n, n < 128 → ¬ nI n < 0 ∧ ¬ (255 : Int32) < nI n ∧ (nI n).toInt8.toInt32 = nI n := by decide +kernel
theorem sc_ixOK : ixOK := by
  intro d μ K x hd hx hK
  have hxn : x = nI x.toNatClampNeg := by
    have e : x = Int32.ofInt x.toInt := (Int32.ofInt_toInt x).symm
    have e2 : x.toInt = ((x.toInt.toNat : Nat) : Int) := by omega
    show x = Int32.ofNat x.toInt.toNat
    rw [e2] at e
    exact e.trans rfl
  obtain ⟨h0, h1, h7⟩ := sc_x7 x.toNatClampNeg (by show x.toInt.toNat < 128; omega)
  rw [← hxn] at h0 h1 h7
  refine sc_mm (d' := 3) gS_indexOf1 rfl (by omega) (fun l B H0 sk sv D cA => ?_)
  exact w_index1 (Nat.le_refl _) h0 h1 h7 (fun a s t h => ⟨some (.int (ixO x)), μ, rfl, hK, h⟩)
