/-! ===== the law: its end ===== -/
theorem lw_l4 {l : Launch} {G : xG} {n m w kk zz : Nat} {es : Nat → va_E} {T : aT} {I : Option aT} {f0 : Nat → Int64} (hkk : kk ≤ 680218) (hzz : zz ≤ 7061593) (hL : G.L < 2 ^ 31) (hm1 : 0 < m) (hm8 : m ≤ 8) (hw : 160 ≤ w) (hwn : w < n) (hG : tG m T) (hT : xT G n es T I) (hf : es w = .inl (G.cA 1, 2 * m, .inr (.inl f0))) : xE false 14 M_L_law l G 680218 7061593 n es kk zz 448 [.ref G.b, .ref (G.B + 0), .int (nI m), .ref (G.B + w), .retAddr 7, .retAddr 7, .retAddr 7, .retAddr 7, .retAddr 7, .retAddr 7, .retAddr 7, .retAddr 7] [] lwQ := by
  have hm := hG.1
  refine x_aload_n (i := 0) (by decide +kernel) rfl ?_
  refine x_sipush (i := 950) (nI 950) (by decide +kernel) (by decide +kernel) ?_
  refine x_bipush (i := 8) (nI 8) (by decide +kernel) (by decide +kernel) ?_
  refine x_callS (i := 24) (w := 493) (d' := 1) (Mc := M_L_pick) [.ref G.b, .int (nI 950), .int (nI 8)] rfl (by decide +kernel) (by decide +kernel) g_L_pick (l_pick (Nat.le_refl _) (by decide) hL (by decide) (by decide)) (by decide) (by omega) (by omega) rfl (fun _ _ _ _ q => by cases q) (by simp [Value.category]) (fun v1 n1 es1 hP1 _ => ?_)
  obtain ⟨c, hc, rfl, hn1, he1⟩ := hP1
  replace hn1 := hn1.symm
  replace he1 := he1.symm
  subst hn1 he1
  obtain ⟨col, hcol, hgn⟩ := hG.at hc
  refine x_istore (i := 4) (by decide +kernel) (by decide) (catL rfl) ?_
  refine x_aload_n (i := 1) (by decide +kernel) rfl ?_
  refine x_iload (i := 4) (by decide +kernel) rfl ?_
  refine x_iload_n (i := 2) (by decide +kernel) rfl ?_
  refine x_aload_n (i := 3) (by decide +kernel) rfl ?_
  refine x_callS (i := 104) (w := 873) (d' := 6) (Mc := M_L_looks) [.ref (G.B + 0), .int (nI c), .int (nI m), .ref (G.B + w)] rfl (by decide +kernel) (by decide +kernel) g_L_looks (l_looks (by decide) hT hm hcol hgn hw hwn hf) (by decide) (by omega) (by omega) rfl (fun _ _ _ _ q => by cases q) (by simp [Value.category]) (fun v2 n2 es2 hP2 _ => ?_)
  obtain ⟨rfl, hn2, hT2, ⟨f, hf2, hF⟩, he2⟩ := hP2
  replace hn2 := hn2.symm
  subst hn2
  have ok := hT.ok
  refine x_aload_n (i := 1) (by decide +kernel) rfl ?_
  refine x_iload (i := 4) (by decide +kernel) rfl ?_
  refine x_iconst (i := 1) (1) (by decide +kernel) (by decide +kernel) ?_
  refine y_call (i := 131) (w := 357) (d9 := 4) (T := T) (I := I) (sp := sp_key (nI c) true) [nI c, 1] (nI 1) (setK T [(c, true)]) I rfl (by decide +kernel) (by decide +kernel) rfl (by decide) (by simp [Value.category]) (by omega) (by omega) hT2 (fun S μ hC => c_key (b := true) (Nat.le_refl _) hC (fun ν h1 _ => ⟨rfl, h1⟩)) (q_key ok hcol hgn hc hG.2.2.2) (fun es3 hT3 he3 => ?_)
  have hf3 := (he3 w hw).trans hf2
  refine x_pop (by decide +kernel) rfl ?_
  refine x_aload_n (i := 1) (by decide +kernel) rfl ?_
  refine x_iconst (i := 0) (0) (by decide +kernel) (by decide +kernel) ?_
  refine y_callA (i := 135) (w := 365) (d9 := 6) (T := (setK T [(c, true)])) (I := I) (sp := sp_sort 0) (I' := I) [0] (fun _ T' => ∃ l', T' = ((setK T [(c, true)]).1, (setK T [(c, true)]).2.1, l', (setK T [(c, true)]).2.2.2)) rfl (by decide +kernel) (by decide +kernel) rfl (by decide) (by simp [Value.category]) (by omega) (by omega) hT3 (fun S μ hC => c_sort (Nat.le_refl _) hC (fun ν h1 _ => ⟨rfl, h1⟩)) (fun S e1 e2 => by
    have h9 := p_sort (S := S) (by rw [e1]; rfl)
    rw [e1, e2] at h9
    exact h9) (fun an4 T4 es4 hR4 hT4 he4 => ?_)
  have hf4 := (he4 w hw).trans hf3
  obtain ⟨l9, e9⟩ := hR4
  have hm2 : T4.1 = m := by rw [e9]; exact hm
  have hcol2 : T4.2.1[c]? = some col := by rw [e9]; exact hcol
  have hl8 : T4.2.1.length = 8 := by rw [e9]; exact hG.2.1
  have hg8 : ∀ x ∈ T4.2.1, x.2.1 = false := by rw [e9]; exact hG.2.2.1
  have hk1 : T4.2.2.2.2.1.length = 1 := by rw [e9]; rfl
  have okk := hT4.ok
  refine x_pop (by decide +kernel) rfl ?_
  refine x_aload_n (i := 1) (by decide +kernel) rfl ?_
  refine x_iconst (i := 0) (0) (by decide +kernel) (by decide +kernel) ?_
  refine x_iconst (i := 0) (0) (by decide +kernel) (by decide +kernel) ?_
  refine y_call (i := 138) (w := 353) (d9 := 3) (T := T4) (I := I) (sp := sp_viewed 0 0) [0, 0] (vw0 T4) T4 I rfl (by decide +kernel) (by decide +kernel) rfl (by decide) (by simp [Value.category]) (by omega) (by omega) hT4 (fun S μ hC => c_viewed (Nat.le_refl _) hC (fun ν h1 _ => ⟨rfl, h1⟩)) q_viewed (fun es5 hT5 he5 => ?_)
  have hf5 := (he5 w hw).trans hf4
  refine x_istore (i := 5) (by decide +kernel) (by decide) (catL rfl) ?_
  refine x_aload_n (i := 1) (by decide +kernel) rfl ?_
  refine y_call (i := 118) (w := 458) (d9 := 5) (T := T4) (I := I) (sp := sp_image) [] (nI m) T4 (some T4) rfl (by decide +kernel) (by decide +kernel) rfl (by decide) (by simp [Value.category]) (by omega) (by omega) hT5 (fun S μ hC => c_image (Nat.le_refl _) hC (fun ν h1 _ => ⟨rfl, h1⟩)) (q_image hm2) (fun es6 hT6 he6 => ?_)
  have hf6 := (he6 w hw).trans hf5
  refine x_iload_n (i := 2) (by decide +kernel) rfl ?_
  refine x_icmp (cc := .eq) (off := 5) 499 (by decide +kernel) rfl (fun _ => ?_) (fun q => absurd rfl q)
  refine x_aload_n (i := 1) (by decide +kernel) rfl ?_
  refine x_aload_n (i := 0) (by decide +kernel) rfl ?_
  refine x_sipush (i := 951) (nI 951) (by decide +kernel) (by decide +kernel) ?_
  refine x_bipush (i := 12) (nI 12) (by decide +kernel) (by decide +kernel) ?_
  refine x_callS (i := 24) (w := 493) (d' := 1) (Mc := M_L_pick) [.ref G.b, .int (nI 951), .int (nI 12)] rfl (by decide +kernel) (by decide +kernel) g_L_pick (l_pick (Nat.le_refl _) (by decide) hL (by decide) (by decide)) (by decide) (by omega) (by omega) rfl (fun _ _ _ _ q => by cases q) (by simp [Value.category]) (fun v7 n7 es7 hP7 _ => ?_)
  obtain ⟨s12, hs12, rfl, hn7, he7⟩ := hP7
  replace hn7 := hn7.symm
  replace he7 := he7.symm
  subst hn7 he7
  refine y_callA (i := 94) (w := 262) (d9 := 5) (T := T4) (I := (some T4)) (sp := sp_size (nI s12)) (I' := (some T4)) [nI s12] (fun _ _ => True) rfl (by decide +kernel) (by decide +kernel) rfl (by decide) (by simp [Value.category]) (by omega) (by omega) hT6 (fun S μ hC => c_size (Nat.le_refl _) hC (fun ν h1 _ => ⟨rfl, h1⟩)) (fun S e1 e2 => ⟨trivial, p_sizeA.1.trans e2, p_sizeA.2⟩) (fun an8 T8 es8 hR8 hT8 he8 => ?_)
  have hf8 := (he8 w hw).trans hf6
  refine x_pop (by decide +kernel) rfl ?_
  refine x_aload_n (i := 1) (by decide +kernel) rfl ?_
  refine x_iload (i := 4) (by decide +kernel) rfl ?_
  refine y_callA (i := 141) (w := 298) (d9 := 3) (T := T8) (I := (some T4)) (sp := sp_drop (nI c)) (I' := (some T4)) [nI c] (fun _ _ => True) rfl (by decide +kernel) (by decide +kernel) rfl (by decide) (by simp [Value.category]) (by omega) (by omega) hT8 (fun S μ hC => c_drop (Nat.le_refl _) hC (fun ν h1 _ => ⟨rfl, h1⟩)) (fun S e1 e2 => ⟨trivial, p_dropA.1.trans e2, p_dropA.2⟩) (fun an9 T9 es9 hR9 hT9 he9 => ?_)
  have hf9 := (he9 w hw).trans hf8
  refine x_pop (by decide +kernel) rfl ?_
  refine x_aload_n (i := 1) (by decide +kernel) rfl ?_
  refine x_iconst (i := 3) (3) (by decide +kernel) (by decide +kernel) ?_
  refine y_callA (i := 144) (w := 282) (d9 := 4) (T := T9) (I := (some T4)) (sp := sp_column 3) (I' := (some T4)) [3] (fun _ _ => True) rfl (by decide +kernel) (by decide +kernel) rfl (by decide) (by simp [Value.category]) (by omega) (by omega) hT9 (fun S μ hC => c_column (Nat.le_refl _) hC (fun ν h1 _ => ⟨rfl, h1⟩)) (fun S e1 e2 => ⟨trivial, p_columnA.1.trans e2, p_columnA.2⟩) (fun an10 T10 es10 hR10 hT10 he10 => ?_)
  have hf10 := (he10 w hw).trans hf9
  refine x_pop (by decide +kernel) rfl ?_
  refine x_aload_n (i := 1) (by decide +kernel) rfl ?_
  refine x_iconst (i := -1) (-1) (by decide +kernel) (by decide +kernel) ?_
  refine x_iconst (i := 0) (0) (by decide +kernel) (by decide +kernel) ?_
  refine y_callA (i := 131) (w := 357) (d9 := 4) (T := T10) (I := (some T4)) (sp := sp_key (-1) false) (I' := (some T4)) [-1, 0] (fun _ _ => True) rfl (by decide +kernel) (by decide +kernel) rfl (by decide) (by simp [Value.category]) (by omega) (by omega) hT10 (fun S μ hC => c_key (b := false) (Nat.le_refl _) hC (fun ν h1 _ => ⟨rfl, h1⟩)) (fun S e1 e2 => ⟨trivial, p_keyA.1.trans e2, p_keyA.2⟩) (fun an11 T11 es11 hR11 hT11 he11 => ?_)
  have hf11 := (he11 w hw).trans hf10
  refine x_pop (by decide +kernel) rfl ?_
  refine x_aload_n (i := 1) (by decide +kernel) rfl ?_
  refine x_iconst (i := 0) (0) (by decide +kernel) (by decide +kernel) ?_
  refine y_callA (i := 146) (w := 342) (d9 := 4) (T := T11) (I := (some T4)) (sp := sp_view 0) (I' := (some T4)) [0] (fun _ _ => True) rfl (by decide +kernel) (by decide +kernel) rfl (by decide) (by simp [Value.category]) (by omega) (by omega) hT11 (fun S μ hC => c_view (Nat.le_refl _) hC (fun ν h1 _ => ⟨rfl, h1⟩)) (fun S e1 e2 => ⟨trivial, p_viewA.1.trans e2, p_viewA.2⟩) (fun an12 T12 es12 hR12 hT12 he12 => ?_)
  have hf12 := (he12 w hw).trans hf11
  refine x_pop (by decide +kernel) rfl ?_
  refine x_aload_n (i := 1) (by decide +kernel) rfl ?_
  refine y_call (i := 128) (w := 485) (d9 := 5) (T := T12) (I := (some T4)) (sp := sp_undo) [] (nI m) T4 (some T4) rfl (by decide +kernel) (by decide +kernel) rfl (by decide) (by simp [Value.category]) (by omega) (by omega) hT12 (fun S μ hC => c_undo (Nat.le_refl _) hC (fun ν h1 _ => ⟨rfl, h1⟩)) (q_undo hm2) (fun es13 hT13 he13 => ?_)
  have hf13 := (he13 w hw).trans hf12
  refine x_iload_n (i := 2) (by decide +kernel) rfl ?_
  refine x_icmp (cc := .ne) (off := 53) 597 (by decide +kernel) rfl (fun q => absurd rfl q) (fun _ => ?_)
  refine x_aload_n (i := 1) (by decide +kernel) rfl ?_
  refine x_iconst (i := 0) (0) (by decide +kernel) (by decide +kernel) ?_
  refine y_call (i := 149) (w := 489) (d9 := 2) (T := T4) (I := (some T4)) (sp := sp_count 0) [0] (nI m) T4 (some T4) rfl (by decide +kernel) (by decide +kernel) rfl (by decide) (by simp [Value.category]) (by omega) (by omega) hT13 (fun S μ hC => c_count (Nat.le_refl _) hC (fun ν h1 _ => ⟨rfl, h1⟩)) (q_count0 hm2) (fun es14 hT14 he14 => ?_)
  have hf14 := (he14 w hw).trans hf13
  refine x_iload_n (i := 2) (by decide +kernel) rfl ?_
  refine x_icmp (cc := .ne) (off := 44) 597 (by decide +kernel) rfl (fun q => absurd rfl q) (fun _ => ?_)
  refine x_aload_n (i := 1) (by decide +kernel) rfl ?_
  refine x_iconst (i := 1) (1) (by decide +kernel) (by decide +kernel) ?_
  refine y_call (i := 149) (w := 489) (d9 := 2) (T := T4) (I := (some T4)) (sp := sp_count 1) [1] (8) T4 (some T4) rfl (by decide +kernel) (by decide +kernel) rfl (by decide) (by simp [Value.category]) (by omega) (by omega) hT14 (fun S μ hC => c_count (Nat.le_refl _) hC (fun ν h1 _ => ⟨rfl, h1⟩)) (q_count1 hl8) (fun es15 hT15 he15 => ?_)
  have hf15 := (he15 w hw).trans hf14
  refine x_bipush (i := 8) (8) (by decide +kernel) (by decide +kernel) ?_
  refine x_icmp (cc := .ne) (off := 34) 597 (by decide +kernel) rfl (fun q => absurd rfl q) (fun _ => ?_)
  refine x_aload_n (i := 1) (by decide +kernel) rfl ?_
  refine x_iconst (i := 2) (2) (by decide +kernel) (by decide +kernel) ?_
  refine y_call (i := 149) (w := 489) (d9 := 2) (T := T4) (I := (some T4)) (sp := sp_count 2) [2] (1) T4 (some T4) rfl (by decide +kernel) (by decide +kernel) rfl (by decide) (by simp [Value.category]) (by omega) (by omega) hT15 (fun S μ hC => c_count (Nat.le_refl _) hC (fun ν h1 _ => ⟨rfl, h1⟩)) (q_count2 hk1) (fun es16 hT16 he16 => ?_)
  have hf16 := (he16 w hw).trans hf15
  refine x_iconst (i := 1) (1) (by decide +kernel) (by decide +kernel) ?_
  refine x_icmp (cc := .ne) (off := 25) 597 (by decide +kernel) rfl (fun q => absurd rfl q) (fun _ => ?_)
  refine x_aload_n (i := 1) (by decide +kernel) rfl ?_
  refine x_iconst (i := 0) (0) (by decide +kernel) (by decide +kernel) ?_
  refine x_iconst (i := 0) (0) (by decide +kernel) (by decide +kernel) ?_
  refine y_call (i := 138) (w := 353) (d9 := 3) (T := T4) (I := (some T4)) (sp := sp_viewed 0 0) [0, 0] (vw0 T4) T4 (some T4) rfl (by decide +kernel) (by decide +kernel) rfl (by decide) (by simp [Value.category]) (by omega) (by omega) hT16 (fun S μ hC => c_viewed (Nat.le_refl _) hC (fun ν h1 _ => ⟨rfl, h1⟩)) q_viewed (fun es17 hT17 he17 => ?_)
  have hf17 := (he17 w hw).trans hf16
  refine x_iload (i := 5) (by decide +kernel) rfl ?_
  refine x_icmp (cc := .ne) (off := 14) 597 (by decide +kernel) rfl (fun q => absurd rfl q) (fun _ => ?_)
  refine x_aload_n (i := 1) (by decide +kernel) rfl ?_
  refine x_iload (i := 4) (by decide +kernel) rfl ?_
  refine x_iload_n (i := 2) (by decide +kernel) rfl ?_
  refine x_aload_n (i := 3) (by decide +kernel) rfl ?_
  refine x_callS (i := 124) (w := 900) (d' := 6) (Mc := M_L_isLike) [.ref (G.B + 0), .int (nI c), .int (nI m), .ref (G.B + w)] rfl (by decide +kernel) (by decide +kernel) g_L_isLike (l_like (by decide) hT17 hm2 hcol2 hgn hw hwn hF hf17) (by decide) (by omega) (by omega) rfl (fun _ _ _ _ q => by cases q) (by simp [Value.category]) (fun v18 n18 es18 hP18 _ => ?_)
  obtain ⟨rfl, hn18, hT18, he18⟩ := hP18
  replace hn18 := hn18.symm
  subst hn18
  have hf18 := (he18 w hw).trans hf17
  refine x_if (cc := .ne) (off := 5) 599 (by decide +kernel) rfl (fun _ => ?_) (fun q => absurd (show (1 : Int32) = 0 from q) (by decide))
  refine x_aload_n (i := 0) (by decide +kernel) rfl ?_
  refine x_sipush (i := 952) (nI 952) (by decide +kernel) (by decide +kernel) ?_
  refine x_iload_n (i := 2) (by decide +kernel) rfl ?_
  refine x_callS (i := 24) (w := 493) (d' := 1) (Mc := M_L_pick) [.ref G.b, .int (nI 952), .int (nI m)] rfl (by decide +kernel) (by decide +kernel) g_L_pick (l_pick (Nat.le_refl _) (by decide) hL hm1 (by omega)) (by decide) (by omega) (by omega) rfl (fun _ _ _ _ q => by cases q) (by simp [Value.category]) (fun v19 n19 es19 hP19 _ => ?_)
  obtain ⟨r, hr, rfl, hn19, he19⟩ := hP19
  replace hn19 := hn19.symm
  replace he19 := he19.symm
  subst hn19 he19
  refine x_istore (i := 6) (by decide +kernel) (by decide) (catL rfl) ?_
  refine x_aload_n (i := 0) (by decide +kernel) rfl ?_
  refine x_sipush (i := 953) (nI 953) (by decide +kernel) (by decide +kernel) ?_
  refine x_iload_n (i := 2) (by decide +kernel) rfl ?_
  refine x_callS (i := 24) (w := 493) (d' := 1) (Mc := M_L_pick) [.ref G.b, .int (nI 953), .int (nI m)] rfl (by decide +kernel) (by decide +kernel) g_L_pick (l_pick (Nat.le_refl _) (by decide) hL hm1 (by omega)) (by decide) (by omega) (by omega) rfl (fun _ _ _ _ q => by cases q) (by simp [Value.category]) (fun v20 n20 es20 hP20 _ => ?_)
  obtain ⟨q, hq, rfl, hn20, he20⟩ := hP20
  replace hn20 := hn20.symm
  replace he20 := he20.symm
  subst hn20 he20
  have hGk : tG m (setK T4 []) := ⟨hm2, hl8, hg8, rfl⟩
  refine x_istore (i := 7) (by decide +kernel) (by decide) (catL rfl) ?_
  refine x_aload_n (i := 1) (by decide +kernel) rfl ?_
  refine x_iload (i := 6) (by decide +kernel) rfl ?_
  refine x_iload (i := 7) (by decide +kernel) rfl ?_
  refine y_call (i := 152) (w := 330) (d9 := 4) (T := T4) (I := (some T4)) (sp := sp_differs (nI r) (nI q)) [nI r, nI q] (difAt r q T4.2.1 0) T4 (some T4) rfl (by decide +kernel) (by decide +kernel) rfl (by decide) (by simp [Value.category]) (by omega) (by omega) hT18 (fun S μ hC => c_differs (Nat.le_refl _) hC (fun ν h1 _ => ⟨rfl, h1⟩)) (q_differs okk (by omega) (by omega)) (fun es21 hT21 he21 => ?_)
  have hf21 := (he21 w hw).trans hf18
  refine x_istore (i := 8) (by decide +kernel) (by decide) (catL rfl) ?_
  refine x_aload_n (i := 1) (by decide +kernel) rfl ?_
  refine x_iload (i := 6) (by decide +kernel) rfl ?_
  refine x_iload (i := 7) (by decide +kernel) rfl ?_
  refine y_call (i := 155) (w := 314) (d9 := 3) (T := T4) (I := (some T4)) (sp := sp_swap (nI r) (nI q)) [nI r, nI q] (8) (swT T4 r q) (some T4) rfl (by decide +kernel) (by decide +kernel) rfl (by decide) (by simp [Value.category]) (by omega) (by omega) hT21 (fun S μ hC => c_swap (Nat.le_refl _) hC (fun ν h1 _ => ⟨rfl, h1⟩)) (q_swap okk (by omega) (by omega) hl8 hg8) (fun es22 hT22 he22 => ?_)
  have hf22 := (he22 w hw).trans hf21
  have ok3 := hT22.ok
  have hG3 := hGk.sw (r := r) (q := q)
  have hm3 : (swT T4 r q).1 = m := hm2
  refine x_istore (i := 9) (by decide +kernel) (by decide) (catL rfl) ?_
  refine x_iload (i := 9) (by decide +kernel) rfl ?_
  refine x_bipush (i := 8) (8) (by decide +kernel) (by decide +kernel) ?_
  refine x_icmp (cc := .ne) (off := 80) 723 (by decide +kernel) rfl (fun q => absurd rfl q) (fun _ => ?_)
  refine x_aload_n (i := 1) (by decide +kernel) rfl ?_
  refine x_iload (i := 6) (by decide +kernel) rfl ?_
  refine x_iload (i := 7) (by decide +kernel) rfl ?_
  refine y_call (i := 152) (w := 330) (d9 := 4) (T := (swT T4 r q)) (I := (some T4)) (sp := sp_differs (nI r) (nI q)) [nI r, nI q] (difAt r q (swT T4 r q).2.1 0) (swT T4 r q) (some T4) rfl (by decide +kernel) (by decide +kernel) rfl (by decide) (by simp [Value.category]) (by omega) (by omega) hT22 (fun S μ hC => c_differs (Nat.le_refl _) hC (fun ν h1 _ => ⟨rfl, h1⟩)) (q_differs ok3 (by omega) (by omega)) (fun es23 hT23 he23 => ?_)
  have hf23 := (he23 w hw).trans hf22
  refine x_iload (i := 8) (by decide +kernel) rfl ?_
  refine x_icmp (cc := .ne) (off := 67) 723 (by decide +kernel) rfl (fun q => absurd (dif_sw _ _) q) (fun _ => ?_)
  refine x_aload_n (i := 1) (by decide +kernel) rfl ?_
  refine x_iload (i := 7) (by decide +kernel) rfl ?_
  refine x_iload (i := 6) (by decide +kernel) rfl ?_
  refine y_call (i := 155) (w := 314) (d9 := 3) (T := (swT T4 r q)) (I := (some T4)) (sp := sp_swap (nI q) (nI r)) [nI q, nI r] (8) (swT (swT T4 r q) q r) (some T4) rfl (by decide +kernel) (by decide +kernel) rfl (by decide) (by simp [Value.category]) (by omega) (by omega) hT23 (fun S μ hC => c_swap (Nat.le_refl _) hC (fun ν h1 _ => ⟨rfl, h1⟩)) (q_swap ok3 (by omega) (by omega) hG3.2.1 hG3.2.2.1) (fun es24 hT24 he24 => ?_)
  have hf24 := (he24 w hw).trans hf23
  rw [sw_sw] at hT24
  refine x_bipush (i := 8) (8) (by decide +kernel) (by decide +kernel) ?_
  refine x_icmp (cc := .ne) (off := 54) 723 (by decide +kernel) rfl (fun q => absurd rfl q) (fun _ => ?_)
  refine x_aload_n (i := 1) (by decide +kernel) rfl ?_
  refine x_iload (i := 4) (by decide +kernel) rfl ?_
  refine x_iload_n (i := 2) (by decide +kernel) rfl ?_
  refine x_aload_n (i := 3) (by decide +kernel) rfl ?_
  refine x_callS (i := 124) (w := 900) (d' := 6) (Mc := M_L_isLike) [.ref (G.B + 0), .int (nI c), .int (nI m), .ref (G.B + w)] rfl (by decide +kernel) (by decide +kernel) g_L_isLike (l_like (by decide) hT24 hm2 hcol2 hgn hw hwn hF hf24) (by decide) (by omega) (by omega) rfl (fun _ _ _ _ q => by cases q) (by simp [Value.category]) (fun v25 n25 es25 hP25 _ => ?_)
  obtain ⟨rfl, hn25, hT25, he25⟩ := hP25
  replace hn25 := hn25.symm
  subst hn25
  have hf25 := (he25 w hw).trans hf24
  refine x_if (cc := .eq) (off := 43) 723 (by decide +kernel) rfl (fun q => absurd (show (1 : Int32) = 0 from q) (by decide)) (fun _ => ?_)
  refine x_aload_n (i := 1) (by decide +kernel) rfl ?_
  refine x_iload_n (i := 2) (by decide +kernel) rfl ?_
  refine x_iconst (i := 0) (0) (by decide +kernel) (by decide +kernel) ?_
  refine y_call (i := 155) (w := 314) (d9 := 3) (T := T4) (I := (some T4)) (sp := sp_swap (nI m) 0) [nI m, 0] (-21) T4 (some T4) rfl (by decide +kernel) (by decide +kernel) rfl (by decide) (by simp [Value.category]) (by omega) (by omega) hT25 (fun S μ hC => c_swap (Nat.le_refl _) hC (fun ν h1 _ => ⟨rfl, h1⟩)) (q_swapNo hm2 (by omega)) (fun es26 hT26 he26 => ?_)
  have hf26 := (he26 w hw).trans hf25
  refine x_bipush (i := -21) (-21) (by decide +kernel) (by decide +kernel) ?_
  refine x_icmp (cc := .ne) (off := 32) 723 (by decide +kernel) rfl (fun q => absurd rfl q) (fun _ => ?_)
  refine x_aload_n (i := 1) (by decide +kernel) rfl ?_
  refine x_bipush (i := 8) (8) (by decide +kernel) (by decide +kernel) ?_
  refine x_iconst (i := 0) (0) (by decide +kernel) (by decide +kernel) ?_
  refine y_call (i := 121) (w := 450) (d9 := 7) (T := T4) (I := (some T4)) (sp := sp_cast 8 0) [8, 0] (-23) T4 (some T4) rfl (by decide +kernel) (by decide +kernel) rfl (by decide) (by simp [Value.category]) (by omega) (by omega) hT26 (fun S μ hC => c_cast (Nat.le_refl _) hC (fun ν h1 _ => ⟨rfl, h1⟩)) (q_cast8 hl8) (fun es27 hT27 he27 => ?_)
  have hf27 := (he27 w hw).trans hf26
  refine x_bipush (i := -23) (-23) (by decide +kernel) (by decide +kernel) ?_
  refine x_icmp (cc := .ne) (off := 20) 723 (by decide +kernel) rfl (fun q => absurd rfl q) (fun _ => ?_)
  refine x_aload_n (i := 1) (by decide +kernel) rfl ?_
  refine x_iload (i := 4) (by decide +kernel) rfl ?_
  refine x_bipush (i := 11) (11) (by decide +kernel) (by decide +kernel) ?_
  refine y_call (i := 114) (w := 404) (d9 := 7) (T := T4) (I := (some T4)) (sp := sp_loses (nI c) 11) [nI c, 11] (-2) T4 (some T4) rfl (by decide +kernel) (by decide +kernel) rfl (by decide) (by simp [Value.category]) (by omega) (by omega) hT27 (fun S μ hC => c_loses (Nat.le_refl _) hC (fun ν h1 _ => ⟨rfl, h1⟩)) (q_loses11 okk hcol2 hgn) (fun es28 hT28 he28 => ?_)
  have hf28 := (he28 w hw).trans hf27
  refine x_bipush (i := -2) (-2) (by decide +kernel) (by decide +kernel) ?_
  refine x_icmp (cc := .ne) (off := 7) 723 (by decide +kernel) rfl (fun q => absurd rfl q) (fun _ => ?_)
  refine x_iconst (i := 1) (1) (by decide +kernel) (by decide +kernel) ?_
  refine x_goto (off := 4) 724 (by decide +kernel) rfl ?_
  exact x_ireturn .boolean (by decide +kernel) rfl rfl (by omega) (by omega) (fun _ _ _ _ => rfl)
