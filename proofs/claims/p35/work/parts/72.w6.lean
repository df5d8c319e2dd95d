/-! ===== the law: its columns read, and its start ===== -/
theorem lw_l1 {l : Launch} {G : xG} {m : Nat} (hL : G.L < 2 ^ 31) (hm1 : 0 < m) (hm8 : m ≤ 8) :
    ∀ (j i n : Nat) (es : Nat → va_E) (S : aS) (kk zz : Nat), i + j = 8 → kk ≤ 160 + 240 * i → zz ≤ 10019 + 45000 * i → tR m i S.1 → S.2.2.2.2 = [] → xV G n es S → xE false 14 M_L_law l G 680218 7061593 n es kk zz 26 [.ref G.b, .ref (G.B + 0), .int (nI m), .int (nI i), .retAddr 7, .retAddr 7, .retAddr 7, .retAddr 7, .retAddr 7, .retAddr 7, .retAddr 7, .retAddr 7] [] lwQ := by
  intro j
  induction j with
  | zero =>
    intro i n es S kk zz hj hkk hzz hR hX hV
    have e : i = 8 := by omega
    subst e
    refine x_iload_n (i := 3) (by decide +kernel) rfl ?_
    refine x_bipush (i := 8) (8) (by decide +kernel) (by decide +kernel) ?_
    refine x_icmp (cc := .ge) (off := 83) 112 (by decide +kernel) rfl (fun _ => ?_) (fun q => absurd (show (8 : Int32) ≤ nI 8 by decide) q)
    refine x_iconst (i := 2) (nI 2) (by decide +kernel) (by decide +kernel) ?_
    refine x_iload_n (i := 2) (by decide +kernel) rfl ?_
    refine x_imul (nI (2 * m)) (by decide +kernel) (pk_mul 2 m) ?_
    refine x_newJ (2 * m) (by decide +kernel) (nI_pos (by omega)) (nI_clamp (by omega)) (by omega) (by omega) (by omega) ?_
    refine x_astore_n (i := 3) (by decide +kernel) (by decide) (catL rfl) ?_
    refine x_iconst (i := 0) (nI 0) (by decide +kernel) (by decide +kernel) ?_
    refine x_istore (i := 4) (by decide +kernel) (by decide) (catL rfl) ?_
    have hV1 : xV G (n + 1) (ctU es n (.inl (G.cA 1, 2 * m, .inr (.inl fun _ => 0)))) S := hV.grow (by omega) (fun a ha => ctU_ne (by omega))
    exact lw_l2c (kk := kk + 1) (zz := zz + 2 * m) (by omega) (by omega) hV.1 (Nat.lt_succ_self n) (fun es T I f hG hT hf => lw_l4 (by omega) (by omega) hL hm1 hm8 hV.1 (Nat.lt_succ_self n) hG hT hf) 8 0 _ S.1 S.2.1 _ rfl hR ⟨S, rfl, rfl, hX, hV1⟩ (ctU_at _ _ _)
  | succ j ih =>
    intro i n es S kk zz hj hkk hzz hR hX hV
    refine x_iload_n (i := 3) (by decide +kernel) rfl ?_
    refine x_bipush (i := 8) (8) (by decide +kernel) (by decide +kernel) ?_
    refine x_icmp (cc := .ge) (off := 83) 112 (by decide +kernel) rfl (fun q => absurd (show nI i < 8 from nI_lt (b := 8) (by omega) (by decide)) (Int32.not_lt.mpr q)) (fun _ => ?_)
    refine x_aload_n (i := 0) (by decide +kernel) rfl ?_
    refine x_iconst (i := 1) (nI 1) (by decide +kernel) (by decide +kernel) ?_
    refine x_iload_n (i := 3) (by decide +kernel) rfl ?_
    refine x_iadd (nI (1 + i)) (by decide +kernel) (nI_add 1 i) ?_
    refine x_bipush (i := 11) (nI 11) (by decide +kernel) (by decide +kernel) ?_
    refine x_callS (i := 24) (w := 493) (d' := 1) (Mc := M_L_pick) [.ref G.b, .int (nI (1 + i)), .int (nI 11)] rfl (by decide +kernel) (by decide +kernel) g_L_pick (l_pick (Nat.le_refl _) (by omega) hL (by decide) (by decide)) (by decide) (by omega) (by omega) rfl (fun _ _ _ _ q => by cases q) (by simp [Value.category]) (fun v1 n1 es1 hP1 _ => ?_)
    obtain ⟨kd, hkd, rfl, hn1, he1⟩ := hP1
    replace hn1 := hn1.symm
    replace he1 := he1.symm
    subst hn1 he1
    refine x_istore (i := 4) (by decide +kernel) (by decide) (catL rfl) ?_
    refine x_aload_n (i := 0) (by decide +kernel) rfl ?_
    refine x_bipush (i := 100) (nI 100) (by decide +kernel) (by decide +kernel) ?_
    refine x_bipush (i := 100) (nI 100) (by decide +kernel) (by decide +kernel) ?_
    refine x_iload_n (i := 3) (by decide +kernel) rfl ?_
    refine x_imul (nI (100 * i)) (by decide +kernel) (pk_mul 100 i) ?_
    refine x_iadd (nI (100 + 100 * i)) (by decide +kernel) (nI_add 100 (100 * i)) ?_
    refine x_iload (i := 4) (by decide +kernel) rfl ?_
    refine x_iload_n (i := 2) (by decide +kernel) rfl ?_
    refine x_callS (i := 97) (w := 501) (d' := 10) (Mc := M_L_column) [.ref G.b, .int (nI (100 + 100 * i)), .int (nI kd), .int (nI m)] rfl (by decide +kernel) (by decide +kernel) g_L_column (l_column (Nat.le_refl _) (by omega) hL (by omega) hm8) (by decide) (by omega) (by omega) rfl (fun _ _ _ _ q => by cases q) (by simp [Value.category]) (fun v2 n2 es2 hP2 hn2 => ?_)
    obtain ⟨a, t, rfl, hct, hts, hE⟩ := hP2
    have hlen := hct.len hm8
    refine x_astore (i := 5) (by decide +kernel) (by decide) (catL rfl) ?_
    refine x_aload (i := 5) (by decide +kernel) rfl ?_
    refine x_callVp (i := 72) (d' := 1) (w := 798) (Mc := M_J0_length_8abf5) [] rfl (by decide +kernel) (by decide +kernel) g_J0_length_8abf5 hts.rc (t_length (Nat.le_refl _) hts) (by decide) (by omega) (by omega) rfl (by simp [Value.category]) ?_
    refine x_bipush (i := 100) (nI 100) (by decide +kernel) (by decide +kernel) ?_
    refine x_icmp (cc := .le) (off := 28) 94 (by decide +kernel) rfl (fun _ => ?_) (fun q => absurd (show nI t.length ≤ nI 100 from nI_le hlen (by decide)) q)
    refine x_aload_n (i := 1) (by decide +kernel) rfl ?_
    refine x_aload (i := 5) (by decide +kernel) rfl ?_
    have h160 := hV.1
    obtain ⟨r1, r2, r3, r4⟩ := p_read (S := S) (t := t) (kd := kd) (m := m) (by omega) hm1 hct hR.1 (by have := hR.2.1; omega)
    refine x_callS (i := 101) (w := 795) (d' := 12) (Mc := M_L_read) [.ref (G.B + 0), .ref a] rfl (by decide +kernel) (by decide +kernel) g_L_read (l_read (Nat.le_refl _) (hct.asc (by omega)) hlen hX (hV.grow hn2 hE) (hts.mono (fun x _ hx => by have := hx.1; omega))) (by decide) (by omega) (by omega) rfl (fun _ _ _ _ q => by cases q) (by simp [Value.category]) (fun v3 n3 es3 hP3 _ => ?_)
    obtain ⟨rfl, hn3, hV3, he3⟩ := hP3
    replace hn3 := hn3.symm
    subst hn3
    refine x_iload_n (i := 3) (by decide +kernel) rfl ?_
    refine x_icmp (cc := .eq) (off := 5) 106 (by decide +kernel) rfl (fun _ => ?_) (fun q => absurd (show (sp_read (sTx S t)).1 = nI i from by rw [r1, hR.2.1]) q)
    refine x_iinc (i := 3) (j := 1) (x := (nI i)) (nI (i + 1)) (by decide +kernel) (by decide) rfl (nI_add i 1) (catL rfl) ?_
    refine x_goto (off := -83) 26 (by decide +kernel) rfl ?_
    refine x_junk [.ref G.b, .ref (G.B + 0), .int (nI m), .int (nI (i + 1)), .retAddr 7, .retAddr 7, .retAddr 7, .retAddr 7, .retAddr 7, .retAddr 7, .retAddr 7, .retAddr 7] (by simp [jOK]) ?_
    exact ih (i + 1) n2 es3 (sp_read (sTx S t)).2 _ _ (by omega) (by omega) (by omega) (by rw [r2]; exact hR.add r4) r3 hV3
theorem lw_l0 {l : Launch} {G : xG} {es : Nat → va_E} (hL : G.L < 2 ^ 31) : xE true 14 M_L_law l G 680218 7061593 0 es 0 0 0 [.ref G.b, .retAddr 7, .retAddr 7, .retAddr 7, .retAddr 7, .retAddr 7, .retAddr 7, .retAddr 7, .retAddr 7, .retAddr 7, .retAddr 7, .retAddr 7] [] lwQ := by
  have e7 : 0 + mmNF 7 + 10000 = 10019 := by decide +kernel
  refine ct_make (w2 := 32) (w1 := 30) (i1 := 77) (i2 := 93) (d' := 4) (cj := 7) (mc' := 159) (ms' := 10000) (w := 160) (Mc := M_i7) (by decide +kernel) (by decide +kernel) (by decide +kernel) (by decide +kernel) (by decide +kernel) gI_7 (by decide) (cI_7 (Nat.le_refl _)) rfl (by decide) (by decide) (by rw [e7]; decide) (by simp) ?_
  rw [e7]
  have hV : xV G 160 (ctFn G.B G.cA 0 es) S0 := ⟨Nat.le_refl _, ctMu, fun a _ => if_neg (Nat.not_lt_zero _), CS_0⟩
  refine xE.flag ?_
  show xE false 14 M_L_law l G 680218 7061593 160 (ctFn G.B G.cA 0 es) 160 10019 7 [.ref G.b, .retAddr 7, .retAddr 7, .retAddr 7, .retAddr 7, .retAddr 7, .retAddr 7, .retAddr 7, .retAddr 7, .retAddr 7, .retAddr 7, .retAddr 7] [.ref (G.B + 0)] lwQ
  refine x_astore_n (i := 1) (by decide +kernel) (by decide) (catL rfl) ?_
  refine x_iconst (i := 1) (nI 1) (by decide +kernel) (by decide +kernel) ?_
  refine x_aload_n (i := 0) (by decide +kernel) rfl ?_
  refine x_iconst (i := 0) (nI 0) (by decide +kernel) (by decide +kernel) ?_
  refine x_bipush (i := 8) (nI 8) (by decide +kernel) (by decide +kernel) ?_
  refine x_callS (i := 24) (w := 493) (d' := 1) (Mc := M_L_pick) [.ref G.b, .int (nI 0), .int (nI 8)] rfl (by decide +kernel) (by decide +kernel) g_L_pick (l_pick (Nat.le_refl _) (by decide) hL (by decide) (by decide)) (by decide) (by omega) (by omega) rfl (fun _ _ _ _ q => by cases q) (by simp [Value.category]) (fun v2 n2 es2 hP2 _ => ?_)
  obtain ⟨c8, hc8, rfl, hn2, he2⟩ := hP2
  replace hn2 := hn2.symm
  replace he2 := he2.symm
  subst hn2 he2
  obtain ⟨m, hm⟩ : ∃ m, m = 1 + c8 := ⟨_, rfl⟩
  refine x_iadd (nI m) (by decide +kernel) (hm ▸ nI_add 1 c8) ?_
  refine x_istore_n (i := 2) (by decide +kernel) (by decide) (catL rfl) ?_
  refine x_aload_n (i := 1) (by decide +kernel) rfl ?_
  refine x_iload_n (i := 2) (by decide +kernel) rfl ?_
  obtain ⟨a0, hs0, hR0⟩ := p_size0 (m := m) (by omega)
  refine x_cI (i := 94) (w := 262) (d9 := 5) (S := S0) (R := (a0, sT S0 (szT S0.1 m))) [nI m] rfl (by decide +kernel) (by decide +kernel) rfl (by decide) (by simp) (by decide) (by decide) hV (fun μ hC => c_size (Nat.le_refl _) hC (fun ν h1 _ => by rw [hs0] at h1 ⊢; exact ⟨rfl, h1⟩)) (fun es1 hV1 _ => ?_)
  refine x_pop (by decide +kernel) rfl ?_
  refine x_iconst (i := 0) (nI 0) (by decide +kernel) (by decide +kernel) ?_
  refine x_istore_n (i := 3) (by decide +kernel) (by decide) (catL rfl) ?_
  exact lw_l1 hL (by omega) (by omega) 8 0 160 es1 _ 160 10019 rfl (Nat.le_refl _) (Nat.le_refl _) hR0 rfl hV1
