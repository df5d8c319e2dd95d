/-! ===== builders, as the law uses them ===== -/
def M_L_cell : mmMi := (yL_cell, cL_cell, 3, (some .int))
theorem g_L_cell : mmGd M_L_cell true 2 := ⟨mm_in 498 (by decide +kernel) rfl, mm_in 9 (by decide +kernel) rfl, (by decide +kernel), by decide, (show _ from mm_in 497 (by decide +kernel) rfl)⟩
def M_L_pick : mmMi := (yL_pick, cL_pick, 3, (some .int))
theorem g_L_pick : mmGd M_L_pick true 3 := ⟨mm_in 495 (by decide +kernel) rfl, mm_in 9 (by decide +kernel) rfl, (by decide +kernel), by decide, (show _ from mm_in 494 (by decide +kernel) rfl)⟩
def M_L_word : mmMi := (yL_word, cL_word, 3, (some (.object RJ0)))
theorem g_L_word : mmGd M_L_word true 2 := ⟨mm_in 761 (by decide +kernel) rfl, mm_in 9 (by decide +kernel) rfl, (by decide +kernel), by decide, (show _ from mm_in 760 (by decide +kernel) rfl)⟩
def M_L_number : mmMi := (yL_number, cL_number, 2, (some (.object RJ0)))
theorem g_L_number : mmGd M_L_number true 2 := ⟨mm_in 766 (by decide +kernel) rfl, mm_in 9 (by decide +kernel) rfl, (by decide +kernel), by decide, (show _ from mm_in 765 (by decide +kernel) rfl)⟩
def M_L_item : mmMi := (yL_item, cL_item, 3, (some (.object RJ0)))
theorem g_L_item : mmGd M_L_item true 3 := ⟨mm_in 757 (by decide +kernel) rfl, mm_in 9 (by decide +kernel) rfl, (by decide +kernel), by decide, (show _ from mm_in 756 (by decide +kernel) rfl)⟩
def M_L_column : mmMi := (yL_column, cL_column, 6, (some (.object RJ0)))
theorem g_L_column : mmGd M_L_column true 4 := ⟨mm_in 503 (by decide +kernel) rfl, mm_in 9 (by decide +kernel) rfl, (by decide +kernel), by decide, (show _ from mm_in 502 (by decide +kernel) rfl)⟩
def M_L_read : mmMi := (yL_read, cL_read, 3, (some .int))
theorem g_L_read : mmGd M_L_read true 2 := ⟨mm_in 797 (by decide +kernel) rfl, mm_in 9 (by decide +kernel) rfl, (by decide +kernel), by decide, (show _ from mm_in 796 (by decide +kernel) rfl)⟩
def M_L_looks : mmMi := (yL_looks, cL_looks, 5, none)
theorem g_L_looks : mmGd M_L_looks true 4 := ⟨mm_in 875 (by decide +kernel) rfl, mm_in 9 (by decide +kernel) rfl, (by decide +kernel), by decide, (show _ from mm_in 874 (by decide +kernel) rfl)⟩
def M_L_isLike : mmMi := (yL_isLike, cL_isLike, 6, (some .boolean))
theorem g_L_isLike : mmGd M_L_isLike true 4 := ⟨mm_in 902 (by decide +kernel) rfl, mm_in 9 (by decide +kernel) rfl, (by decide +kernel), by decide, (show _ from mm_in 901 (by decide +kernel) rfl)⟩
theorem x_newSB {d : Nat} {M : mmMi} {l : Launch} {G : xG} {mc ms n : Nat} {es : Nat → va_E} {k z : Nat} {L st : List Value} {pc : Nat} {Qc : Array Value → State → Outcome → State → Prop} (hcl : M.1.cls = RL) (hd1 : decode M.2.1 pc = .ok (.new 15, 3)) (hd2 : decode M.2.1 (pc + 3) = .ok (.dup, 1)) (hd3 : decode M.2.1 (pc + 4) = .ok (.invokespecial 17, 3)) (hd : 3 ≤ d) (hk : k + 2 ≤ mc) (hz : z + 20 ≤ ms) (hr8 : (st.map fun v => v.category).sum ≤ 7) (kk : ∀ es1, bLd G (n + 2) es1 n (n + 1) [] → (∀ x, x < n → es1 x = es x) → xE false d M l G mc ms (n + 2) es1 (k + 2) (z + 20) (pc + 7) L (.ref (G.B + n) :: st) Qc) : xE false d M l G mc ms n es k z pc L st Qc := by
  have hm9 : mmNF 9 = 4 := rfl
  refine x_newQ (i := 15) (w1 := 504) (ci := 9) (q := (RJ4, TJ4, 4)) hd1 (by rw [hcl]; decide +kernel) rfl (mm_in 505 (by decide +kernel) rfl) (mm_in 19 (by decide +kernel) rfl) (by omega) (by omega) (fun es1 hu1 ho1 => ?_)
  refine x_dup hd2 rfl ?_
  refine x_callI (i := 17) (d' := 2) (w := 506) (Mc := M_J4_init_da8c8) [] rfl hd3 (by rw [hcl]; decide +kernel) xg_J4_init_da8c8 rfl rfl (t_init4 (Nat.le_refl _) (by omega) hu1) (by omega) (by omega) (by omega) rfl (fun _ _ _ _ q => by cases q) (by simp only [List.map_cons, List.sum_cons]; show 1 + _ ≤ 8; omega) (fun v1 n1 es2 hP hn => ?_)
  obtain ⟨rfl, rfl, h3, h4⟩ := hP
  exact x_widen _ _ (by omega) (by omega) (kk es2 h4 (fun x hx => (h3 x (by omega) (by omega)).trans (ho1 x (by omega))))
theorem x_appC {d : Nat} {M : mmMi} {l : Launch} {G : xG} {mc ms n : Nat} {es : Nat → va_E} {k z : Nat} {L st : List Value} {pc : Nat} {Qc : Array Value → State → Outcome → State → Prop} {r v c : Nat} {t : List Int32} (hcl : M.1.cls = RL) (hd0 : decode M.2.1 pc = .ok (.invokevirtual 28, 3)) (hd : 7 ≤ d) (hb : bLd G n es r v t) (hc : c < 128) (hl : t.length ≤ 180) (hk : k + 1 ≤ mc) (hz : z + 400 ≤ ms) (hr8 : (st.map fun v => v.category).sum ≤ 8) (kk : ∀ n1 es1 v1, (n1 = n ∨ n1 = n + 1) → bLd G n1 es1 r v1 (t ++ [nI c]) → (v1 = v ∨ v1 = n) → (∀ x, x < n → x ≠ r → x ≠ v → es1 x = es x) → xE false d M l G mc ms n1 es1 (k + 1) (z + 400) (pc + 3) L (.ref (G.B + r) :: st) Qc) : xE false d M l G mc ms n es k z pc L (.int (nI c) :: .ref (G.B + r) :: st) Qc := by
  refine x_callV (i := 28) (d' := 6) (w := 576) (Mc := M_J4_append_cf468) [.int (nI c)] rfl hd0 (by rw [hcl]; decide +kernel) g_J4_append_cf468 hb.rc (t_appendC (Nat.le_refl _) hb hc (by omega)) (by omega) (by omega) (by omega) rfl (fun _ _ _ _ q => by cases q) hr8 (fun o n1 es1 hP hn => ?_)
  obtain ⟨rfl, h1, v1, h2, h3, h4⟩ := hP
  exact x_widen _ _ (by omega) (by omega) (kk n1 es1 v1 h1 h2 h3 h4)
theorem x_appS {d : Nat} {M : mmMi} {l : Launch} {G : xG} {mc ms n : Nat} {es : Nat → va_E} {k z : Nat} {L st : List Value} {pc : Nat} {Qc : Array Value → State → Outcome → State → Prop} {r v a : Nat} {U : Nat → Prop} {t u : List Int32} (hcl : M.1.cls = RL) (hd0 : decode M.2.1 pc = .ok (.invokevirtual 20, 3)) (hd : 7 ≤ d) (hb : bLd G n es r v t) (ht : tS G n es U a u) (hU : ∀ x, x < n → U x → x ≠ r) (hl : t.length + u.length ≤ 200) (hk : k + 1 ≤ mc) (hz : z + 400 ≤ ms) (hr8 : (st.map fun v => v.category).sum ≤ 8) (kk : ∀ n1 es1 v1, (n1 = n ∨ n1 = n + 1) → bLd G n1 es1 r v1 (t ++ u) → (v1 = v ∨ v1 = n) → (∀ x, x < n → x ≠ r → x ≠ v → es1 x = es x) → xE false d M l G mc ms n1 es1 (k + 1) (z + 400) (pc + 3) L (.ref (G.B + r) :: st) Qc) : xE false d M l G mc ms n es k z pc L (.ref a :: .ref (G.B + r) :: st) Qc := by
  refine x_callV (i := 20) (d' := 6) (w := 650) (Mc := M_J4_append_15ec4) [.ref a] rfl hd0 (by rw [hcl]; decide +kernel) g_J4_append_15ec4 hb.rc (t_appendS (Nat.le_refl _) hb ht hU (by omega)) (by omega) (by omega) (by omega) rfl (fun _ _ _ _ q => by cases q) hr8 (fun o n1 es1 hP hn => ?_)
  obtain ⟨rfl, h1, v1, h2, h3, h4⟩ := hP
  exact x_widen _ _ (by omega) (by omega) (kk n1 es1 v1 h1 h2 h3 h4)
theorem x_appI {d : Nat} {M : mmMi} {l : Launch} {G : xG} {mc ms n : Nat} {es : Nat → va_E} {k z : Nat} {L st : List Value} {pc : Nat} {Qc : Array Value → State → Outcome → State → Prop} {r v c : Nat} {t : List Int32} (hcl : M.1.cls = RL) (hd0 : decode M.2.1 pc = .ok (.invokevirtual 38, 3)) (hd : 7 ≤ d) (hb : bLd G n es r v t) (hc : c < 1000000) (hl : t.length ≤ 180) (hk : k + 1 ≤ mc) (hz : z + 400 ≤ ms) (hr8 : (st.map fun v => v.category).sum ≤ 8) (kk : ∀ n1 es1 v1 u, digT u → (n1 = n ∨ n1 = n + 1) → bLd G n1 es1 r v1 (t ++ u) → (v1 = v ∨ v1 = n) → (∀ x, x < n → x ≠ r → x ≠ v → es1 x = es x) → xE false d M l G mc ms n1 es1 (k + 1) (z + 400) (pc + 3) L (.ref (G.B + r) :: st) Qc) : xE false d M l G mc ms n es k z pc L (.int (nI c) :: .ref (G.B + r) :: st) Qc := by
  refine x_callV (i := 38) (d' := 6) (w := 769) (Mc := M_J4_append_bf812) [.int (nI c)] rfl hd0 (by rw [hcl]; decide +kernel) g_J4_append_bf812 hb.rc (t_appendI (Nat.le_refl _) hb hc (by omega)) (by omega) (by omega) (by omega) rfl (fun _ _ _ _ q => by cases q) hr8 (fun o n1 es1 hP hn => ?_)
  obtain ⟨u, hu, rfl, h1, v1, h2, h3, h4⟩ := hP
  exact x_widen _ _ (by omega) (by omega) (kk n1 es1 v1 u hu h1 h2 h3 h4)
theorem x_toS {d : Nat} {M : mmMi} {l : Launch} {G : xG} {mc ms n : Nat} {es : Nat → va_E} {k z : Nat} {L st : List Value} {pc : Nat} {Qc : Array Value → State → Outcome → State → Prop} {r v : Nat} {t : List Int32} (hcl : M.1.cls = RL) (hd0 : decode M.2.1 pc = .ok (.invokevirtual 31, 3)) (hd : 7 ≤ d) (hb : bLd G n es r v t) (hl : t.length ≤ 200) (hk : k + 2 ≤ mc) (hz : z + 300 ≤ ms) (hr8 : (st.map fun v => v.category).sum ≤ 8) (kk : ∀ es1, (∀ x, x < n → es1 x = es x) → tS G (n + 2) es1 (fun x => n ≤ x ∧ x < n + 2) (G.B + n) t → xE false d M l G mc ms (n + 2) es1 (k + 2) (z + 300) (pc + 3) L (.ref (G.B + n) :: st) Qc) : xE false d M l G mc ms n es k z pc L (.ref (G.B + r) :: st) Qc := by
  refine x_callV (i := 31) (d' := 6) (w := 696) (Mc := M_J4_toString_0e30d) [] rfl hd0 (by rw [hcl]; decide +kernel) g_J4_toString_0e30d hb.rc (t_toString (Nat.le_refl _) hb (by omega)) (by omega) (by omega) (by omega) rfl (fun _ _ _ _ q => by cases q) hr8 (fun o n1 es1 hP hn => ?_)
  obtain ⟨rfl, rfl, h3, h4⟩ := hP
  exact x_widen _ _ (by omega) (by omega) (kk es1 h3 (h4.mono fun x hx hU => ⟨hU, hx⟩))
theorem l_cell {d : Nat} {l : Launch} {G : xG} {n : Nat} {es : Nat → va_E} {i : Nat} (hd : 0 ≤ d) (hi : i < 100000) (hL : G.L < 2 ^ 31) : xMet d 0 0 M_L_cell l G n es [.ref G.b, .int (nI i)] (fun o n1 es1 => ∃ x : Int32, o = some (.int x) ∧ n1 = n ∧ es1 = es) := by
  refine xMet.of false (j := 1) (by decide +kernel) (catL rfl) rfl ?_
  refine x_ldc (i := 7) (w := 499) (69069 : Int32) (by decide +kernel) (by decide +kernel) ?_
  refine x_iload_n (i := 1) (by decide +kernel) rfl ?_
  refine x_aload_n (i := 0) (by decide +kernel) rfl ?_
  refine x_slen (by decide +kernel) ?_
  refine x_icmp (cc := .ge) (off := 9) 14 (by decide +kernel) rfl (fun q => ?_) (fun q => ?_)
  · refine x_iconst (i := 0) (nI 0) (by decide +kernel) (by decide +kernel) ?_
    refine x_sipush (i := 1009) (nI 1009) (by decide +kernel) (by decide +kernel) ?_
    refine x_iload_n (i := 1) (by decide +kernel) rfl ?_
    refine x_imul (nI (1009 * i)) (by decide +kernel) (pk_mul _ _) ?_
    refine x_iadd (nI (0 + (1009 * i))) (by decide +kernel) (nI_add _ _) ?_
    refine x_imul ((69069 : Int32) * (nI (0 + (1009 * i)))) (by decide +kernel) rfl ?_
    refine x_sipush (i := 12345) (nI 12345) (by decide +kernel) (by decide +kernel) ?_
    refine x_iadd (((69069 : Int32) * (nI (0 + (1009 * i)))) + (nI 12345)) (by decide +kernel) rfl ?_
    refine x_istore_n (i := 2) (by decide +kernel) (by decide) (catL rfl) ?_
    refine x_iload_n (i := 2) (by decide +kernel) rfl ?_
    refine x_iload_n (i := 2) (by decide +kernel) rfl ?_
    refine x_bipush (i := 13) (nI 13) (by decide +kernel) (by decide +kernel) ?_
    refine x_iushr (((((69069 : Int32) * (nI (0 + (1009 * i)))) + (nI 12345)).toUInt32 >>> ((nI 13).toUInt32 &&& Int32.toUInt32 31)).toInt32) (by decide +kernel) rfl ?_
    refine x_ixor ((((69069 : Int32) * (nI (0 + (1009 * i)))) + (nI 12345)) ^^^ (((((69069 : Int32) * (nI (0 + (1009 * i)))) + (nI 12345)).toUInt32 >>> ((nI 13).toUInt32 &&& Int32.toUInt32 31)).toInt32)) (by decide +kernel) rfl ?_
    refine x_ldc (i := 8) (w := 500) (1103515245 : Int32) (by decide +kernel) (by decide +kernel) ?_
    refine x_imul (((((69069 : Int32) * (nI (0 + (1009 * i)))) + (nI 12345)) ^^^ (((((69069 : Int32) * (nI (0 + (1009 * i)))) + (nI 12345)).toUInt32 >>> ((nI 13).toUInt32 &&& Int32.toUInt32 31)).toInt32)) * (1103515245 : Int32)) (by decide +kernel) rfl ?_
    refine x_istore_n (i := 2) (by decide +kernel) (by decide) (catL rfl) ?_
    refine x_iload_n (i := 2) (by decide +kernel) rfl ?_
    refine x_iload_n (i := 2) (by decide +kernel) rfl ?_
    refine x_bipush (i := 16) (nI 16) (by decide +kernel) (by decide +kernel) ?_
    refine x_iushr (((((((69069 : Int32) * (nI (0 + (1009 * i)))) + (nI 12345)) ^^^ (((((69069 : Int32) * (nI (0 + (1009 * i)))) + (nI 12345)).toUInt32 >>> ((nI 13).toUInt32 &&& Int32.toUInt32 31)).toInt32)) * (1103515245 : Int32)).toUInt32 >>> ((nI 16).toUInt32 &&& Int32.toUInt32 31)).toInt32) (by decide +kernel) rfl ?_
    refine x_ixor ((((((69069 : Int32) * (nI (0 + (1009 * i)))) + (nI 12345)) ^^^ (((((69069 : Int32) * (nI (0 + (1009 * i)))) + (nI 12345)).toUInt32 >>> ((nI 13).toUInt32 &&& Int32.toUInt32 31)).toInt32)) * (1103515245 : Int32)) ^^^ (((((((69069 : Int32) * (nI (0 + (1009 * i)))) + (nI 12345)) ^^^ (((((69069 : Int32) * (nI (0 + (1009 * i)))) + (nI 12345)).toUInt32 >>> ((nI 13).toUInt32 &&& Int32.toUInt32 31)).toInt32)) * (1103515245 : Int32)).toUInt32 >>> ((nI 16).toUInt32 &&& Int32.toUInt32 31)).toInt32)) (by decide +kernel) rfl ?_
    exact x_ireturn .int (by decide +kernel) rfl rfl (by omega) (by omega) (fun _ _ _ h => ⟨_, _, _, rfl, ⟨_, rfl, rfl, rfl⟩, Nat.le_refl _, h⟩)
  · refine x_aload_n (i := 0) (by decide +kernel) rfl ?_
    refine x_iload_n (i := 1) (by decide +kernel) rfl ?_
    have hil : i < G.L := Nat.not_le.mp fun z => q (nI_le z (by omega))
    refine x_sld (by decide +kernel) (vp_in_nI hil hL) ?_
    refine x_goto (off := 4) 15 (by decide +kernel) rfl ?_
    refine x_sipush (i := 1009) (nI 1009) (by decide +kernel) (by decide +kernel) ?_
    refine x_iload_n (i := 1) (by decide +kernel) rfl ?_
    refine x_imul (nI (1009 * i)) (by decide +kernel) (pk_mul _ _) ?_
    refine x_iadd ((G.xs (nI i).toNatClampNeg) + (nI (1009 * i))) (by decide +kernel) rfl ?_
    refine x_imul ((69069 : Int32) * ((G.xs (nI i).toNatClampNeg) + (nI (1009 * i)))) (by decide +kernel) rfl ?_
    refine x_sipush (i := 12345) (nI 12345) (by decide +kernel) (by decide +kernel) ?_
    refine x_iadd (((69069 : Int32) * ((G.xs (nI i).toNatClampNeg) + (nI (1009 * i)))) + (nI 12345)) (by decide +kernel) rfl ?_
    refine x_istore_n (i := 2) (by decide +kernel) (by decide) (catL rfl) ?_
    refine x_iload_n (i := 2) (by decide +kernel) rfl ?_
    refine x_iload_n (i := 2) (by decide +kernel) rfl ?_
    refine x_bipush (i := 13) (nI 13) (by decide +kernel) (by decide +kernel) ?_
    refine x_iushr (((((69069 : Int32) * ((G.xs (nI i).toNatClampNeg) + (nI (1009 * i)))) + (nI 12345)).toUInt32 >>> ((nI 13).toUInt32 &&& Int32.toUInt32 31)).toInt32) (by decide +kernel) rfl ?_
    refine x_ixor ((((69069 : Int32) * ((G.xs (nI i).toNatClampNeg) + (nI (1009 * i)))) + (nI 12345)) ^^^ (((((69069 : Int32) * ((G.xs (nI i).toNatClampNeg) + (nI (1009 * i)))) + (nI 12345)).toUInt32 >>> ((nI 13).toUInt32 &&& Int32.toUInt32 31)).toInt32)) (by decide +kernel) rfl ?_
    refine x_ldc (i := 8) (w := 500) (1103515245 : Int32) (by decide +kernel) (by decide +kernel) ?_
    refine x_imul (((((69069 : Int32) * ((G.xs (nI i).toNatClampNeg) + (nI (1009 * i)))) + (nI 12345)) ^^^ (((((69069 : Int32) * ((G.xs (nI i).toNatClampNeg) + (nI (1009 * i)))) + (nI 12345)).toUInt32 >>> ((nI 13).toUInt32 &&& Int32.toUInt32 31)).toInt32)) * (1103515245 : Int32)) (by decide +kernel) rfl ?_
    refine x_istore_n (i := 2) (by decide +kernel) (by decide) (catL rfl) ?_
    refine x_iload_n (i := 2) (by decide +kernel) rfl ?_
    refine x_iload_n (i := 2) (by decide +kernel) rfl ?_
    refine x_bipush (i := 16) (nI 16) (by decide +kernel) (by decide +kernel) ?_
    refine x_iushr (((((((69069 : Int32) * ((G.xs (nI i).toNatClampNeg) + (nI (1009 * i)))) + (nI 12345)) ^^^ (((((69069 : Int32) * ((G.xs (nI i).toNatClampNeg) + (nI (1009 * i)))) + (nI 12345)).toUInt32 >>> ((nI 13).toUInt32 &&& Int32.toUInt32 31)).toInt32)) * (1103515245 : Int32)).toUInt32 >>> ((nI 16).toUInt32 &&& Int32.toUInt32 31)).toInt32) (by decide +kernel) rfl ?_
    refine x_ixor ((((((69069 : Int32) * ((G.xs (nI i).toNatClampNeg) + (nI (1009 * i)))) + (nI 12345)) ^^^ (((((69069 : Int32) * ((G.xs (nI i).toNatClampNeg) + (nI (1009 * i)))) + (nI 12345)).toUInt32 >>> ((nI 13).toUInt32 &&& Int32.toUInt32 31)).toInt32)) * (1103515245 : Int32)) ^^^ (((((((69069 : Int32) * ((G.xs (nI i).toNatClampNeg) + (nI (1009 * i)))) + (nI 12345)) ^^^ (((((69069 : Int32) * ((G.xs (nI i).toNatClampNeg) + (nI (1009 * i)))) + (nI 12345)).toUInt32 >>> ((nI 13).toUInt32 &&& Int32.toUInt32 31)).toInt32)) * (1103515245 : Int32)).toUInt32 >>> ((nI 16).toUInt32 &&& Int32.toUInt32 31)).toInt32)) (by decide +kernel) rfl ?_
    exact x_ireturn .int (by decide +kernel) rfl rfl (by omega) (by omega) (fun _ _ _ h => ⟨_, _, _, rfl, ⟨_, rfl, rfl, rfl⟩, Nat.le_refl _, h⟩)
theorem ush8 (x : Int32) : ∃ c, c < 16777216 ∧ (x.toUInt32 >>> ((nI 8).toUInt32 &&& Int32.toUInt32 31)).toInt32 = nI c := by
  have h := pk_ushr x (nI 8) 8 (by decide +kernel)
  refine ⟨x.toBitVec.toNat / 2 ^ 8, by have := x.toBitVec.isLt; omega, ?_⟩
  apply Int32.toBitVec_inj.mp
  apply BitVec.eq_of_toNat_eq
  rw [h]
  show _ = (BitVec.ofNat 32 _).toNat
  rw [BitVec.toNat_ofNat]
  have := x.toBitVec.isLt
  omega
theorem l_pick {d : Nat} {l : Launch} {G : xG} {n : Nat} {es : Nat → va_E} {i m : Nat} (hd : 1 ≤ d) (hi : i < 100000) (hL : G.L < 2 ^ 31) (h0 : 0 < m) (hm : m < 16777216) : xMet d 0 0 M_L_pick l G n es [.ref G.b, .int (nI i), .int (nI m)] (fun o n1 es1 => ∃ c, c < m ∧ o = some (.int (nI c)) ∧ n1 = n ∧ es1 = es) := by
  refine xMet.of false (j := 0) (by decide +kernel) (catL rfl) rfl ?_
  refine x_aload_n (i := 0) (by decide +kernel) rfl ?_
  refine x_iload_n (i := 1) (by decide +kernel) rfl ?_
  refine x_callS (i := 9) (d' := 0) (w := 496) (Mc := M_L_cell) [.ref G.b, .int (nI i)] rfl (by decide +kernel) (by decide +kernel) g_L_cell (l_cell (Nat.zero_le _) hi hL) (by omega) (by omega) (by omega) rfl (fun _ _ _ _ q => by cases q) (by simp [Value.category]) (fun o1 n1 es1 hP hn => ?_)
  obtain ⟨x, rfl, rfl, rfl⟩ := hP
  refine x_bipush (i := 8) (nI 8) (by decide +kernel) (by decide +kernel) ?_
  obtain ⟨c, hc, ec⟩ := ush8 x
  refine x_iushr (nI c) (by decide +kernel) ec ?_
  refine x_iload_n (i := 2) (by decide +kernel) rfl ?_
  refine x_irem (nI (c % m)) (by decide +kernel) (nI_ne0 h0 (by omega)) (pk_rem (by omega) h0 (by omega)) ?_
  exact x_ireturn .int (by decide +kernel) rfl rfl (by omega) (by omega) (fun _ _ _ h => ⟨_, _, _, rfl, ⟨c % m, Nat.mod_lt _ h0, rfl, rfl, rfl⟩, Nat.le_refl _, h⟩)
