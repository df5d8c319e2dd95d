/-! ===== the law: all kinds, all columns ===== -/
theorem lw_l3k {l : Launch} {G : xG} {n m c w h kk zz : Nat} {bits : Int32} {f : Nat → Int64} {g : Nat → aC} (hkk : kk ≤ 680218) (hzz : zz ≤ 7061593) (hcc : c < 8) (hh : h ≤ 10) (hw : 160 ≤ w) (hwn : w < n) (hF : wasF f m g) (hbit : ∀ k, k < 11 → (bits >>> (nI k &&& 31)) &&& 1 = if lostAt g (nI k) m 0 = -5 then 1 else 0)
    (kx : ∀ (es : Nat → va_E) (T : aT) (I : Option aT), tG m T → xT G n es T I → es w = .inl (G.cA 1, 2 * m, .inr (.inl f)) → xE false 14 M_L_law l G 680218 7061593 n es kk zz 442 [.ref G.b, .ref (G.B + 0), .int (nI m), .ref (G.B + w), .int (nI c), .retAddr 7, .retAddr 7, .retAddr 7, .retAddr 7, .retAddr 7, .retAddr 7, .retAddr 7] [] lwQ) :
    ∀ (j k : Nat) (es : Nat → va_E) (T : aT) (I : Option aT) (col : aCol), k + j = 11 → tG m T → T.2.1[c]? = some col → col.1 = nI h → (∀ r, r < m → col.2.2 r = g r) → xT G n es T I → es w = .inl (G.cA 1, 2 * m, .inr (.inl f)) → xE false 14 M_L_law l G 680218 7061593 n es kk zz 185 [.ref G.b, .ref (G.B + 0), .int (nI m), .ref (G.B + w), .int (nI c), .int (nI h), .int bits, .int (nI k), .retAddr 7, .retAddr 7, .retAddr 7, .retAddr 7] [] lwQ := by
  intro j
  induction j with
  | zero =>
    intro k es T I col hj hG hc h1 hcol hT hf
    have e : k = 11 := by omega
    subst e
    refine x_iload (i := 7) (by decide +kernel) rfl ?_
    refine x_bipush (i := 10) (10) (by decide +kernel) (by decide +kernel) ?_
    refine x_icmp (cc := .gt) (off := 253) 442 (by decide +kernel) rfl (fun _ => ?_) (fun q => absurd (show (10 : Int32) < nI 11 by decide) q)
    refine x_junk [.ref G.b, .ref (G.B + 0), .int (nI m), .ref (G.B + w), .int (nI c), .retAddr 7, .retAddr 7, .retAddr 7, .retAddr 7, .retAddr 7, .retAddr 7, .retAddr 7] (by simp [jOK]) ?_
    exact kx es T I hG hT hf
  | succ j ih =>
    intro k es T I col hj hG hc h1 hcol hT hf
    refine lw_l3 hkk hzz hcc hh (by omega) hw hwn hF (hbit k (by omega)) hG hc h1 hcol hT hf (fun es T I col hG hc h1 hcol hT hf => ?_)
    refine x_iinc (i := 7) (j := 1) (x := (nI k)) (nI (k + 1)) (by decide +kernel) (by decide) rfl (nI_add k 1) (catL rfl) ?_
    refine x_goto (off := -254) 185 (by decide +kernel) rfl ?_
    exact ih (k + 1) es T I col (by omega) hG hc h1 hcol hT hf
theorem lw_l2 {l : Launch} {G : xG} {n m c w kk zz : Nat} {es : Nat → va_E} {T : aT} {I : Option aT} {f0 : Nat → Int64} (hkk : kk ≤ 680218) (hzz : zz ≤ 7061593) (hcc : c < 8) (hw : 160 ≤ w) (hwn : w < n) (hG : tG m T) (hT : xT G n es T I) (hf : es w = .inl (G.cA 1, 2 * m, .inr (.inl f0)))
    (kx : ∀ (es : Nat → va_E) (T : aT) (I : Option aT) (f : Nat → Int64), tG m T → xT G n es T I → es w = .inl (G.cA 1, 2 * m, .inr (.inl f)) → xE false 14 M_L_law l G 680218 7061593 n es kk zz 121 [.ref G.b, .ref (G.B + 0), .int (nI m), .ref (G.B + w), .int (nI (c + 1)), .retAddr 7, .retAddr 7, .retAddr 7, .retAddr 7, .retAddr 7, .retAddr 7, .retAddr 7] [] lwQ) : xE false 14 M_L_law l G 680218 7061593 n es kk zz 121 [.ref G.b, .ref (G.B + 0), .int (nI m), .ref (G.B + w), .int (nI c), .retAddr 7, .retAddr 7, .retAddr 7, .retAddr 7, .retAddr 7, .retAddr 7, .retAddr 7] [] lwQ := by
  refine x_iload (i := 4) (by decide +kernel) rfl ?_
  refine x_bipush (i := 8) (8) (by decide +kernel) (by decide +kernel) ?_
  refine x_icmp (cc := .ge) (off := 323) 448 (by decide +kernel) rfl (fun q => absurd (show nI c < 8 from nI_lt (b := 8) hcc (by decide)) (Int32.not_lt.mpr q)) (fun _ => ?_)
  refine x_aload_n (i := 1) (by decide +kernel) rfl ?_
  refine x_iload (i := 4) (by decide +kernel) rfl ?_
  refine x_iload_n (i := 2) (by decide +kernel) rfl ?_
  refine x_aload_n (i := 3) (by decide +kernel) rfl ?_
  obtain ⟨col, hc, hgn⟩ := hG.at hcc
  have hm := hG.1
  refine x_callS (i := 104) (w := 873) (d' := 6) (Mc := M_L_looks) [.ref (G.B + 0), .int (nI c), .int (nI m), .ref (G.B + w)] rfl (by decide +kernel) (by decide +kernel) g_L_looks (l_looks (by decide) hT hm hc hgn hw hwn hf) (by decide) (by omega) (by omega) rfl (fun _ _ _ _ q => by cases q) (by simp [Value.category]) (fun v1 n1 es1 hP1 _ => ?_)
  obtain ⟨rfl, hn1, hT1, ⟨f, hf1, hF⟩, he1⟩ := hP1
  replace hn1 := hn1.symm
  subst hn1
  have ok := hT1.ok
  obtain ⟨h, hh, h1⟩ := nI_kind ⟨(ok.2.2.1 col (List.mem_of_getElem? hc)).1, (ok.2.2.1 col (List.mem_of_getElem? hc)).2.1⟩
  have hown : lostAt col.2.2 (nI h) m 0 = -5 := lostAt_all m 0 (fun r _ hr => by
    have h9 := (ok.2.2.1 col (List.mem_of_getElem? hc)).2.2 r (by omega)
    rw [h1] at h9
    exact cbk_own hh h9.1 h9.2)
  have h9 : lostAt col.2.2 (nI 9) m 0 = -5 := lostAt_all m 0 (fun r _ hr => cbk_9)
  obtain ⟨hb1, hb2⟩ := casts_bit (f := col.2.2) (n := m)
  refine x_aload_n (i := 1) (by decide +kernel) rfl ?_
  refine x_iload (i := 4) (by decide +kernel) rfl ?_
  refine y_call (i := 108) (w := 310) (d9 := 3) (T := T) (I := I) (sp := sp_kindOf (nI c)) [nI c] col.1 T I rfl (by decide +kernel) (by decide +kernel) rfl (by decide) (by simp [Value.category]) (by omega) (by omega) hT1 (fun S μ hC => c_kindOf (Nat.le_refl _) hC (fun ν h1 _ => ⟨rfl, h1⟩)) (q_kindOf ok hc hgn) (fun es2 hT2 he2 => ?_)
  have hf2 := (he2 w hw).trans hf1
  rw [h1]
  refine x_istore (i := 5) (by decide +kernel) (by decide) (catL rfl) ?_
  refine x_aload_n (i := 1) (by decide +kernel) rfl ?_
  refine x_iload (i := 4) (by decide +kernel) rfl ?_
  refine y_call (i := 111) (w := 446) (d9 := 7) (T := T) (I := I) (sp := sp_casts (nI c)) [nI c] (castsF col.2.2 m 11 0 0) T I rfl (by decide +kernel) (by decide +kernel) rfl (by decide) (by simp [Value.category]) (by omega) (by omega) hT2 (fun S μ hC => c_casts (Nat.le_refl _) hC (fun ν h1 _ => ⟨rfl, h1⟩)) (q_casts ok hc hgn hm) (fun es3 hT3 he3 => ?_)
  have hf3 := (he3 w hw).trans hf2
  generalize hbe : castsF col.2.2 m 11 0 0 = bits at hb1 hb2 ⊢
  refine x_istore (i := 6) (by decide +kernel) (by decide) (catL rfl) ?_
  refine x_iload (i := 6) (by decide +kernel) rfl ?_
  refine x_iload (i := 5) (by decide +kernel) rfl ?_
  refine x_ishr (bits >>> (nI h &&& 31)) (by decide +kernel) rfl ?_
  refine x_iconst (i := 1) (1) (by decide +kernel) (by decide +kernel) ?_
  refine x_iand (1) (by decide +kernel) (shr_bit (hb1 h (by omega)) hown) ?_
  refine x_if (cc := .eq) (off := 21) 180 (by decide +kernel) rfl (fun q => absurd (show (1 : Int32) = 0 from q) (by decide)) (fun _ => ?_)
  refine x_iload (i := 6) (by decide +kernel) rfl ?_
  refine x_bipush (i := 9) (nI 9) (by decide +kernel) (by decide +kernel) ?_
  refine x_ishr (bits >>> (nI 9 &&& 31)) (by decide +kernel) rfl ?_
  refine x_iconst (i := 1) (1) (by decide +kernel) (by decide +kernel) ?_
  refine x_iand (1) (by decide +kernel) (shr_bit (hb1 9 (by decide)) h9) ?_
  refine x_if (cc := .eq) (off := 11) 180 (by decide +kernel) rfl (fun q => absurd (show (1 : Int32) = 0 from q) (by decide)) (fun _ => ?_)
  refine x_iload (i := 6) (by decide +kernel) rfl ?_
  refine x_bipush (i := 11) (11) (by decide +kernel) (by decide +kernel) ?_
  refine x_ishr (0) (by decide +kernel) hb2 ?_
  refine x_if (cc := .eq) (off := 5) 182 (by decide +kernel) rfl (fun _ => ?_) (fun q => absurd rfl q)
  refine x_iconst (i := 0) (nI 0) (by decide +kernel) (by decide +kernel) ?_
  refine x_istore (i := 7) (by decide +kernel) (by decide) (catL rfl) ?_
  refine lw_l3k hkk hzz hcc hh hw hwn hF hb1 (fun es9 T9 I9 hG9 hT9 hf9 => ?_) 11 0 _ T I col rfl hG hc h1 (fun _ _ => rfl) hT3 hf3
  refine x_iinc (i := 4) (j := 1) (x := (nI c)) (nI (c + 1)) (by decide +kernel) (by decide) rfl (nI_add c 1) (catL rfl) ?_
  refine x_goto (off := -324) 121 (by decide +kernel) rfl ?_
  exact kx es9 T9 I9 f hG9 hT9 hf9
theorem lw_l2c {l : Launch} {G : xG} {n m w kk zz : Nat} (hkk : kk ≤ 680218) (hzz : zz ≤ 7061593) (hw : 160 ≤ w) (hwn : w < n)
    (kx : ∀ (es : Nat → va_E) (T : aT) (I : Option aT) (f : Nat → Int64), tG m T → xT G n es T I → es w = .inl (G.cA 1, 2 * m, .inr (.inl f)) → xE false 14 M_L_law l G 680218 7061593 n es kk zz 448 [.ref G.b, .ref (G.B + 0), .int (nI m), .ref (G.B + w), .retAddr 7, .retAddr 7, .retAddr 7, .retAddr 7, .retAddr 7, .retAddr 7, .retAddr 7, .retAddr 7] [] lwQ) :
    ∀ (j c : Nat) (es : Nat → va_E) (T : aT) (I : Option aT) (f : Nat → Int64), c + j = 8 → tG m T → xT G n es T I → es w = .inl (G.cA 1, 2 * m, .inr (.inl f)) → xE false 14 M_L_law l G 680218 7061593 n es kk zz 121 [.ref G.b, .ref (G.B + 0), .int (nI m), .ref (G.B + w), .int (nI c), .retAddr 7, .retAddr 7, .retAddr 7, .retAddr 7, .retAddr 7, .retAddr 7, .retAddr 7] [] lwQ := by
  intro j
  induction j with
  | zero =>
    intro c es T I f hj hG hT hf
    have e : c = 8 := by omega
    subst e
    refine x_iload (i := 4) (by decide +kernel) rfl ?_
    refine x_bipush (i := 8) (8) (by decide +kernel) (by decide +kernel) ?_
    refine x_icmp (cc := .ge) (off := 323) 448 (by decide +kernel) rfl (fun _ => ?_) (fun q => absurd (show (8 : Int32) ≤ nI 8 by decide) q)
    refine x_junk [.ref G.b, .ref (G.B + 0), .int (nI m), .ref (G.B + w), .retAddr 7, .retAddr 7, .retAddr 7, .retAddr 7, .retAddr 7, .retAddr 7, .retAddr 7, .retAddr 7] (by simp [jOK]) ?_
    exact kx es T I f hG hT hf
  | succ j ih =>
    intro c es T I f hj hG hT hf
    exact lw_l2 hkk hzz (by omega) hw hwn hG hT hf (fun es T I f hG hT hf => ih (c + 1) es T I f (by omega) hG hT hf)
