/-! ===== the law: one column, one kind ===== -/
theorem q_kindOf {T : aT} {I : Option aT} {c : Nat} {col : aCol} (ok : okT T) (h : T.2.1[c]? = some col) (g : col.2.1 = false) : ∀ S : aS, S.1 = T → S.2.1 = I → (sp_kindOf (nI c) S).1 = col.1 ∧ (sp_kindOf (nI c) S).2.1 = T ∧ (sp_kindOf (nI c) S).2.2.1 = I ∧ (sp_kindOf (nI c) S).2.2.2.2.2 = S.2.2.2.2 := by
  rintro S rfl rfl
  rw [p_kindOf ok h g]
  exact ⟨rfl, rfl, rfl, rfl⟩
theorem q_casts {T : aT} {I : Option aT} {c : Nat} {col : aCol} {m : Nat} (ok : okT T) (h : T.2.1[c]? = some col) (g : col.2.1 = false) (hm : T.1 = m) : ∀ S : aS, S.1 = T → S.2.1 = I → (sp_casts (nI c) S).1 = castsF col.2.2 m 11 0 0 ∧ (sp_casts (nI c) S).2.1 = T ∧ (sp_casts (nI c) S).2.2.1 = I ∧ (sp_casts (nI c) S).2.2.2.2.2 = S.2.2.2.2 := by
  rintro S rfl rfl
  rw [p_casts ok h g, hm]
  exact ⟨rfl, rfl, rfl, rfl⟩
theorem q_loses {T : aT} {I : Option aT} {c : Nat} {col : aCol} {m k : Nat} (ok : okT T) (h : T.2.1[c]? = some col) (g : col.2.1 = false) (hm : T.1 = m) (hk : k ≤ 10) : ∀ S : aS, S.1 = T → S.2.1 = I → (sp_loses (nI c) (nI k) S).1 = lostAt col.2.2 (nI k) m 0 ∧ (sp_loses (nI c) (nI k) S).2.1 = T ∧ (sp_loses (nI c) (nI k) S).2.2.1 = I ∧ (sp_loses (nI c) (nI k) S).2.2.2.2.2 = S.2.2.2.2 := by
  rintro S rfl rfl
  rw [p_loses ok h g hk, hm]
  exact ⟨rfl, rfl, rfl, rfl⟩
theorem q_loses11 {T : aT} {I : Option aT} {c : Nat} {col : aCol} (ok : okT T) (h : T.2.1[c]? = some col) (g : col.2.1 = false) : ∀ S : aS, S.1 = T → S.2.1 = I → (sp_loses (nI c) 11 S).1 = -2 ∧ (sp_loses (nI c) 11 S).2.1 = T ∧ (sp_loses (nI c) 11 S).2.2.1 = I ∧ (sp_loses (nI c) 11 S).2.2.2.2.2 = S.2.2.2.2 := by
  rintro S rfl rfl
  rw [p_loses11 ok h g]
  exact ⟨rfl, rfl, rfl, rfl⟩
theorem q_image {T : aT} {I : Option aT} {m : Nat} (hm : T.1 = m) : ∀ S : aS, S.1 = T → S.2.1 = I → (sp_image S).1 = nI m ∧ (sp_image S).2.1 = T ∧ (sp_image S).2.2.1 = (some T) ∧ (sp_image S).2.2.2.2.2 = S.2.2.2.2 := by
  rintro S rfl rfl
  rw [← hm]
  exact ⟨rfl, rfl, rfl, rfl⟩
theorem q_cast {T : aT} {I : Option aT} {c : Nat} {col : aCol} {m k : Nat} (ok : okT T) (h : T.2.1[c]? = some col) (g : col.2.1 = false) (hm : T.1 = m) (hk : k ≤ 10) (hl : lostAt col.2.2 (nI k) m 0 = -5) : ∀ S : aS, S.1 = T → S.2.1 = I → (sp_cast (nI c) (nI k) S).1 = col.1 ∧ (sp_cast (nI c) (nI k) S).2.1 = (T.1, T.2.1.set c (castCol (nI k) col), T.2.2) ∧ (sp_cast (nI c) (nI k) S).2.2.1 = I ∧ (sp_cast (nI c) (nI k) S).2.2.2.2.2 = S.2.2.2.2 := by
  rintro S rfl rfl
  rw [p_cast ok h g hk (by rw [hm]; exact hl)]
  exact ⟨rfl, rfl, rfl, rfl⟩
theorem q_castNo {T : aT} {I : Option aT} {c : Nat} {col : aCol} {m k : Nat} (ok : okT T) (h : T.2.1[c]? = some col) (g : col.2.1 = false) (hm : T.1 = m) (hk : k ≤ 10) (hl : ¬ lostAt col.2.2 (nI k) m 0 = -5) : ∀ S : aS, S.1 = T → S.2.1 = I → (sp_cast (nI c) (nI k) S).1 = -1000 - lostAt col.2.2 (nI k) m 0 ∧ (sp_cast (nI c) (nI k) S).2.1 = T ∧ (sp_cast (nI c) (nI k) S).2.2.1 = I ∧ (sp_cast (nI c) (nI k) S).2.2.2.2.2 = S.2.2.2.2 := by
  rintro S rfl rfl
  rw [p_castNo ok h g hk (by rw [hm]; exact hl), hm]
  exact ⟨rfl, rfl, rfl, rfl⟩
theorem q_cast8 {T : aT} {I : Option aT}  (h : T.2.1.length = 8) : ∀ S : aS, S.1 = T → S.2.1 = I → (sp_cast 8 0 S).1 = -23 ∧ (sp_cast 8 0 S).2.1 = T ∧ (sp_cast 8 0 S).2.2.1 = I ∧ (sp_cast 8 0 S).2.2.2.2.2 = S.2.2.2.2 := by
  rintro S rfl rfl
  rw [p_cast8 h]
  exact ⟨rfl, rfl, rfl, rfl⟩
theorem q_swap {T : aT} {I : Option aT} {r q : Nat} (ok : okT T) (hr : r < T.1) (hq : q < T.1) (hl : T.2.1.length = 8) (hg : ∀ c ∈ T.2.1, c.2.1 = false) : ∀ S : aS, S.1 = T → S.2.1 = I → (sp_swap (nI r) (nI q) S).1 = 8 ∧ (sp_swap (nI r) (nI q) S).2.1 = swT T r q ∧ (sp_swap (nI r) (nI q) S).2.2.1 = I ∧ (sp_swap (nI r) (nI q) S).2.2.2.2.2 = S.2.2.2.2 := by
  rintro S rfl rfl
  rw [p_swap ok hr hq hl hg]
  exact ⟨rfl, rfl, rfl, rfl⟩
theorem q_swapNo {T : aT} {I : Option aT} {m : Nat} (hm : T.1 = m) (h40 : m ≤ 40) : ∀ S : aS, S.1 = T → S.2.1 = I → (sp_swap (nI m) 0 S).1 = -21 ∧ (sp_swap (nI m) 0 S).2.1 = T ∧ (sp_swap (nI m) 0 S).2.2.1 = I ∧ (sp_swap (nI m) 0 S).2.2.2.2.2 = S.2.2.2.2 := by
  rintro S rfl rfl
  rw [p_swapNo hm h40]
  exact ⟨rfl, rfl, rfl, rfl⟩
theorem q_differs {T : aT} {I : Option aT} {r q : Nat} (ok : okT T) (hr : r < T.1) (hq : q < T.1) : ∀ S : aS, S.1 = T → S.2.1 = I → (sp_differs (nI r) (nI q) S).1 = difAt r q T.2.1 0 ∧ (sp_differs (nI r) (nI q) S).2.1 = T ∧ (sp_differs (nI r) (nI q) S).2.2.1 = I ∧ (sp_differs (nI r) (nI q) S).2.2.2.2.2 = S.2.2.2.2 := by
  rintro S rfl rfl
  rw [p_differs ok hr hq]
  exact ⟨rfl, rfl, rfl, rfl⟩
theorem q_key {T : aT} {I : Option aT} {c : Nat} {col : aCol} (ok : okT T) (h : T.2.1[c]? = some col) (g : col.2.1 = false) (hc : c < 8) (hk : T.2.2.2.2.1 = []) : ∀ S : aS, S.1 = T → S.2.1 = I → (sp_key (nI c) true S).1 = nI 1 ∧ (sp_key (nI c) true S).2.1 = setK T [(c, true)] ∧ (sp_key (nI c) true S).2.2.1 = I ∧ (sp_key (nI c) true S).2.2.2.2.2 = S.2.2.2.2 := by
  rintro S rfl rfl
  rw [p_key ok h g hc hk]
  exact ⟨rfl, rfl, rfl, rfl⟩
theorem q_viewed {T : aT} {I : Option aT}   : ∀ S : aS, S.1 = T → S.2.1 = I → (sp_viewed 0 0 S).1 = vw0 T ∧ (sp_viewed 0 0 S).2.1 = T ∧ (sp_viewed 0 0 S).2.2.1 = I ∧ (sp_viewed 0 0 S).2.2.2.2.2 = S.2.2.2.2 := by
  rintro S rfl rfl
  rw [p_viewed]
  exact ⟨rfl, rfl, rfl, rfl⟩
theorem q_undo {T T0 : aT} {m : Nat} (hm : T0.1 = m) : ∀ S : aS, S.1 = T → S.2.1 = some T0 → (sp_undo S).1 = nI m ∧ (sp_undo S).2.1 = T0 ∧ (sp_undo S).2.2.1 = some T0 ∧ (sp_undo S).2.2.2.2.2 = S.2.2.2.2 := by
  rintro S rfl e2
  rw [← hm]
  exact p_undo e2
theorem q_count0 {T : aT} {I : Option aT} {m : Nat} (hm : T.1 = m) : ∀ S : aS, S.1 = T → S.2.1 = I → (sp_count 0 S).1 = nI m ∧ (sp_count 0 S).2.1 = T ∧ (sp_count 0 S).2.2.1 = I ∧ (sp_count 0 S).2.2.2.2.2 = S.2.2.2.2 := by
  rintro S rfl rfl
  rw [← hm]
  exact ⟨rfl, rfl, rfl, rfl⟩
theorem q_count1 {T : aT} {I : Option aT}  (h : T.2.1.length = 8) : ∀ S : aS, S.1 = T → S.2.1 = I → (sp_count 1 S).1 = 8 ∧ (sp_count 1 S).2.1 = T ∧ (sp_count 1 S).2.2.1 = I ∧ (sp_count 1 S).2.2.2.2.2 = S.2.2.2.2 := by
  rintro S rfl rfl
  refine ⟨?_, rfl, rfl, rfl⟩
  unfold sp_count
  rw [h]
  rfl
theorem q_count2 {T : aT} {I : Option aT}  (h : T.2.2.2.2.1.length = 1) : ∀ S : aS, S.1 = T → S.2.1 = I → (sp_count 2 S).1 = 1 ∧ (sp_count 2 S).2.1 = T ∧ (sp_count 2 S).2.2.1 = I ∧ (sp_count 2 S).2.2.2.2.2 = S.2.2.2.2 := by
  rintro S rfl rfl
  refine ⟨?_, rfl, rfl, rfl⟩
  unfold sp_count
  rw [h]
  rfl
theorem shr_bit {x : Int32} {k : Nat} {p : Prop} [Decidable p] (h : (x >>> (nI k &&& 31)) &&& 1 = if p then 1 else 0) (hp : p) : (x >>> (nI k &&& 31)) &&& 1 = 1 := h.trans (if_pos hp)
theorem shr_bit0 {x : Int32} {k : Nat} {p : Prop} [Decidable p] (h : (x >>> (nI k &&& 31)) &&& 1 = if p then 1 else 0) (hp : ¬ p) : (x >>> (nI k &&& 31)) &&& 1 = 0 := h.trans (if_neg hp)
theorem k9_ok : ∀ k, k ≤ 10 → (9 ≤ nI k ↔ 9 ≤ k) ∧ (nI k = 9 ↔ k = 9) := by decide +kernel
theorem lw_l3 {l : Launch} {G : xG} {n m c w h k kk zz : Nat} {bits : Int32} {f : Nat → Int64} {g : Nat → aC} {es : Nat → va_E} {T : aT} {I : Option aT} {col : aCol} (hkk : kk ≤ 680218) (hzz : zz ≤ 7061593) (hcc : c < 8) (hh : h ≤ 10) (hk : k ≤ 10) (hw : 160 ≤ w) (hwn : w < n) (hF : wasF f m g) (hbit : (bits >>> (nI k &&& 31)) &&& 1 = if lostAt g (nI k) m 0 = -5 then 1 else 0) (hG : tG m T) (hc : T.2.1[c]? = some col) (h1 : col.1 = nI h) (hcol : ∀ r, r < m → col.2.2 r = g r) (hT : xT G n es T I) (hf : es w = .inl (G.cA 1, 2 * m, .inr (.inl f))) (kx : ∀ (es : Nat → va_E) (T : aT) (I : Option aT) (col : aCol), tG m T → T.2.1[c]? = some col → col.1 = nI h → (∀ r, r < m → col.2.2 r = g r) → xT G n es T I → es w = .inl (G.cA 1, 2 * m, .inr (.inl f)) → xE false 14 M_L_law l G 680218 7061593 n es kk zz 436 [.ref G.b, .ref (G.B + 0), .int (nI m), .ref (G.B + w), .int (nI c), .int (nI h), .int bits, .int (nI k), .retAddr 7, .retAddr 7, .retAddr 7, .retAddr 7] [] lwQ) : xE false 14 M_L_law l G 680218 7061593 n es kk zz 185 [.ref G.b, .ref (G.B + 0), .int (nI m), .ref (G.B + w), .int (nI c), .int (nI h), .int bits, .int (nI k), .retAddr 7, .retAddr 7, .retAddr 7, .retAddr 7] [] lwQ := by
  have ok := hT.ok
  have hm := hG.1
  have hgn : col.2.1 = false := hG.2.2.1 col (List.mem_of_getElem? hc)
  have hlg : lostAt col.2.2 (nI k) m 0 = lostAt g (nI k) m 0 := lostAt_cg m 0 (fun i _ hi => hcol i (by omega))
  have hFc : wasF f m col.2.2 := hF.cg hcol
  have hcell : ∀ r, r < m → okC (col.2.2 r) ∧ fitK (nI h) (col.2.2 r) := fun r hr => by
    have h9 := (ok.2.2.1 col (List.mem_of_getElem? hc)).2.2 r (by omega)
    rw [h1] at h9
    exact h9
  refine x_iload (i := 7) (by decide +kernel) rfl ?_
  refine x_bipush (i := 10) (10) (by decide +kernel) (by decide +kernel) ?_
  refine x_icmp (cc := .gt) (off := 253) 442 (by decide +kernel) rfl (fun q => absurd q (fun z => k10_no k hk (Or.inr z))) (fun _ => ?_)
  refine x_aload_n (i := 1) (by decide +kernel) rfl ?_
  refine x_iload (i := 4) (by decide +kernel) rfl ?_
  refine x_iload (i := 7) (by decide +kernel) rfl ?_
  refine y_call (i := 114) (w := 404) (d9 := 7) (T := T) (I := I) (sp := sp_loses (nI c) (nI k)) [nI c, nI k] (lostAt col.2.2 (nI k) m 0) T I rfl (by decide +kernel) (by decide +kernel) rfl (by decide) (by simp [Value.category]) (by omega) (by omega) hT (fun S μ hC => c_loses (Nat.le_refl _) hC (fun ν h1 _ => ⟨rfl, h1⟩)) (q_loses ok hc hgn hm hk) (fun es1 hT1 he1 => ?_)
  have hf1 := (he1 w hw).trans hf
  refine x_istore (i := 8) (by decide +kernel) (by decide) (catL rfl) ?_
  refine x_iload (i := 6) (by decide +kernel) rfl ?_
  refine x_iload (i := 7) (by decide +kernel) rfl ?_
  by_cases hl : lostAt col.2.2 (nI k) m 0 = -5
  · refine x_ishr (bits >>> (nI k &&& 31)) (by decide +kernel) rfl ?_
    refine x_iconst (i := 1) (1) (by decide +kernel) (by decide +kernel) ?_
    refine x_iand (1) (by decide +kernel) (shr_bit hbit (hlg ▸ hl)) ?_
    refine x_iconst (i := 1) (1) (by decide +kernel) (by decide +kernel) ?_
    refine x_icmp (cc := .ne) (off := 7) 217 (by decide +kernel) rfl (fun q => absurd rfl q) (fun _ => ?_)
    refine x_iconst (i := 1) (1) (by decide +kernel) (by decide +kernel) ?_
    refine x_goto (off := 4) 218 (by decide +kernel) rfl ?_
    refine x_istore (i := 9) (by decide +kernel) (by decide) (catL rfl) ?_
    refine x_iload (i := 8) (by decide +kernel) rfl ?_
    refine x_bipush (i := -5) (-5) (by decide +kernel) (by decide +kernel) ?_
    refine x_icmp (cc := .ne) (off := 7) 231 (by decide +kernel) rfl (fun q => absurd hl q) (fun _ => ?_)
    refine x_iconst (i := 1) (1) (by decide +kernel) (by decide +kernel) ?_
    refine x_goto (off := 4) 232 (by decide +kernel) rfl ?_
    refine x_iload (i := 9) (by decide +kernel) rfl ?_
    refine x_icmp (cc := .eq) (off := 5) 239 (by decide +kernel) rfl (fun _ => ?_) (fun q => absurd rfl q)
    refine x_aload_n (i := 1) (by decide +kernel) rfl ?_
    refine y_call (i := 118) (w := 458) (d9 := 5) (T := T) (I := I) (sp := sp_image) [] (nI m) T (some T) rfl (by decide +kernel) (by decide +kernel) rfl (by decide) (by simp [Value.category]) (by omega) (by omega) hT1 (fun S μ hC => c_image (Nat.le_refl _) hC (fun ν h1 _ => ⟨rfl, h1⟩)) (q_image hm) (fun es6 hT6 he6 => ?_)
    have hf6 := (he6 w hw).trans hf1
    refine x_iload_n (i := 2) (by decide +kernel) rfl ?_
    refine x_icmp (cc := .eq) (off := 5) 249 (by decide +kernel) rfl (fun _ => ?_) (fun q => absurd rfl q)
    refine x_aload_n (i := 1) (by decide +kernel) rfl ?_
    refine x_iload (i := 4) (by decide +kernel) rfl ?_
    refine x_iload (i := 7) (by decide +kernel) rfl ?_
    refine y_call (i := 121) (w := 450) (d9 := 7) (T := T) (I := (some T)) (sp := sp_cast (nI c) (nI k)) [nI c, nI k] col.1 (T.1, T.2.1.set c (castCol (nI k) col), T.2.2) (some T) rfl (by decide +kernel) (by decide +kernel) rfl (by decide) (by simp [Value.category]) (by omega) (by omega) hT6 (fun S μ hC => c_cast (Nat.le_refl _) hC (fun ν h1 _ => ⟨rfl, h1⟩)) (q_cast ok hc hgn hm hk hl) (fun es7 hT7 he7 => ?_)
    have hf7 := (he7 w hw).trans hf6
    have hG1 : tG m (T.1, T.2.1.set c (castCol (nI k) col), T.2.2) := hG.put hgn
    have hc1 : ((T.1, T.2.1.set c (castCol (nI k) col), T.2.2) : aT).2.1[c]? = some (castCol (nI k) col) := by rw [List.getElem?_set_self (lt_of_get hc)]
    have ok1 := hT7.ok
    have hback : ∀ r, r < m → cbk (castC (nI k) (col.2.2 r)) (nI h) = true ∧ (h ≠ 9 → castC (nI h) (castC (nI k) (col.2.2 r)) = col.2.2 r) := fun r hr => cast_back hh hk (hcell r hr).1 (hcell r hr).2 (lostAt_ok (r := 0) (j := m) (by have := ok.1; omega) hl r (by omega) (by omega))
    have hl1 : lostAt (castCol (nI k) col).2.2 (nI h) m 0 = -5 := lostAt_all m 0 (fun i _ hi => (hback i (by omega)).1)
    refine x_istore (i := 10) (by decide +kernel) (by decide) (catL rfl) ?_
    refine x_iload (i := 9) (by decide +kernel) rfl ?_
    refine x_if (cc := .ne) (off := 38) 299 (by decide +kernel) rfl (fun _ => ?_) (fun q => absurd (show (1 : Int32) = 0 from q) (by decide))
    refine x_iload (i := 10) (by decide +kernel) rfl ?_
    refine x_iload (i := 5) (by decide +kernel) rfl ?_
    refine x_icmp (cc := .ne) (off := 14) 317 (by decide +kernel) rfl (fun q => absurd h1 q) (fun _ => ?_)
    refine x_aload_n (i := 1) (by decide +kernel) rfl ?_
    refine x_iload (i := 4) (by decide +kernel) rfl ?_
    refine y_call (i := 108) (w := 310) (d9 := 3) (T := (T.1, T.2.1.set c (castCol (nI k) col), T.2.2)) (I := (some T)) (sp := sp_kindOf (nI c)) [nI c] (nI k) (T.1, T.2.1.set c (castCol (nI k) col), T.2.2) (some T) rfl (by decide +kernel) (by decide +kernel) rfl (by decide) (by simp [Value.category]) (by omega) (by omega) hT7 (fun S μ hC => c_kindOf (Nat.le_refl _) hC (fun ν h1 _ => ⟨rfl, h1⟩)) (q_kindOf ok1 hc1 hgn) (fun es8 hT8 he8 => ?_)
    have hf8 := (he8 w hw).trans hf7
    refine x_iload (i := 7) (by decide +kernel) rfl ?_
    refine x_icmp (cc := .eq) (off := 5) 319 (by decide +kernel) rfl (fun _ => ?_) (fun q => absurd rfl q)
    refine x_iload (i := 7) (by decide +kernel) rfl ?_
    refine x_bipush (i := 9) (9) (by decide +kernel) (by decide +kernel) ?_
    have hkn := k9_ok k hk
    have hhn := k9_ok h hh
    by_cases hb9 : k < 9 ∧ h < 9
    · refine x_icmp (cc := .ge) (off := 14) 337 (by decide +kernel) rfl (fun q => absurd q (fun z => by have := hkn.1.mp z; omega)) (fun _ => ?_)
      refine x_iload (i := 5) (by decide +kernel) rfl ?_
      refine x_bipush (i := 9) (9) (by decide +kernel) (by decide +kernel) ?_
      refine x_icmp (cc := .ge) (off := 7) 337 (by decide +kernel) rfl (fun q => absurd q (fun z => by have := hhn.1.mp z; omega)) (fun _ => ?_)
      refine x_iconst (i := 1) (1) (by decide +kernel) (by decide +kernel) ?_
      refine x_goto (off := 4) 338 (by decide +kernel) rfl ?_
      refine x_istore (i := 11) (by decide +kernel) (by decide) (catL rfl) ?_
      refine x_iload (i := 11) (by decide +kernel) rfl ?_
      refine x_if (cc := .eq) (off := 29) 371 (by decide +kernel) rfl (fun q => absurd (show (1 : Int32) = 0 from q) (by decide)) (fun _ => ?_)
      refine x_aload_n (i := 1) (by decide +kernel) rfl ?_
      refine x_iload (i := 4) (by decide +kernel) rfl ?_
      refine x_iload (i := 5) (by decide +kernel) rfl ?_
      refine y_call (i := 121) (w := 450) (d9 := 7) (T := (T.1, T.2.1.set c (castCol (nI k) col), T.2.2)) (I := (some T)) (sp := sp_cast (nI c) (nI h)) [nI c, nI h] (nI k) (((T.1, T.2.1.set c (castCol (nI k) col), T.2.2)).1, ((T.1, T.2.1.set c (castCol (nI k) col), T.2.2)).2.1.set c (castCol (nI h) (castCol (nI k) col)), ((T.1, T.2.1.set c (castCol (nI k) col), T.2.2)).2.2) (some T) rfl (by decide +kernel) (by decide +kernel) rfl (by decide) (by simp [Value.category]) (by omega) (by omega) hT8 (fun S μ hC => c_cast (Nat.le_refl _) hC (fun ν h1 _ => ⟨rfl, h1⟩)) (q_cast ok1 hc1 hgn hm hh hl1) (fun es9 hT9 he9 => ?_)
      have hf9 := (he9 w hw).trans hf8
      have hG2 : tG m (((T.1, T.2.1.set c (castCol (nI k) col), T.2.2)).1, ((T.1, T.2.1.set c (castCol (nI k) col), T.2.2)).2.1.set c (castCol (nI h) (castCol (nI k) col)), ((T.1, T.2.1.set c (castCol (nI k) col), T.2.2)).2.2) := hG1.put hgn
      have hc2 : ((((T.1, T.2.1.set c (castCol (nI k) col), T.2.2)).1, ((T.1, T.2.1.set c (castCol (nI k) col), T.2.2)).2.1.set c (castCol (nI h) (castCol (nI k) col)), ((T.1, T.2.1.set c (castCol (nI k) col), T.2.2)).2.2) : aT).2.1[c]? = some (castCol (nI h) (castCol (nI k) col)) := by rw [List.getElem?_set_self (lt_of_get hc1)]
      have hcol2 : ∀ r, r < m → ((castCol (nI h) (castCol (nI k) col)) : aCol).2.2 r = g r := fun r hr => ((hback r hr).2 (by omega)).trans (hcol r hr)
      refine x_iload (i := 7) (by decide +kernel) rfl ?_
      refine x_icmp (cc := .ne) (off := 14) 369 (by decide +kernel) rfl (fun q => absurd rfl q) (fun _ => ?_)
      refine x_aload_n (i := 1) (by decide +kernel) rfl ?_
      refine x_iload (i := 4) (by decide +kernel) rfl ?_
      refine x_iload_n (i := 2) (by decide +kernel) rfl ?_
      refine x_aload_n (i := 3) (by decide +kernel) rfl ?_
      refine x_callS (i := 124) (w := 900) (d' := 6) (Mc := M_L_isLike) [.ref (G.B + 0), .int (nI c), .int (nI m), .ref (G.B + w)] rfl (by decide +kernel) (by decide +kernel) g_L_isLike (l_like (by decide) hT9 hm hc2 hgn hw hwn (hF.cg hcol2) hf9) (by decide) (by omega) (by omega) rfl (fun _ _ _ _ q => by cases q) (by simp [Value.category]) (fun v10 n10 es10 hP10 _ => ?_)
      obtain ⟨rfl, hn10, hT10, he10⟩ := hP10
      replace hn10 := hn10.symm
      subst hn10
      have hf10 := (he10 w hw).trans hf9
      refine x_if (cc := .ne) (off := 70) 436 (by decide +kernel) rfl (fun _ => ?_) (fun q => absurd (show (1 : Int32) = 0 from q) (by decide))
      refine x_junk [.ref G.b, .ref (G.B + 0), .int (nI m), .ref (G.B + w), .int (nI c), .int (nI h), .int bits, .int (nI k), .retAddr 7, .retAddr 7, .retAddr 7, .retAddr 7] (by simp [jOK]) ?_
      exact kx _ _ _ (castCol (nI h) (castCol (nI k) col)) hG2 hc2 rfl hcol2 hT10 hf10
    · by_cases hk9 : 9 ≤ k
      · refine x_icmp (cc := .ge) (off := 14) 337 (by decide +kernel) rfl (fun _ => ?_) (fun q => absurd (hkn.1.mpr hk9) q)
        refine x_iconst (i := 0) (0) (by decide +kernel) (by decide +kernel) ?_
        refine x_istore (i := 11) (by decide +kernel) (by decide) (catL rfl) ?_
        refine x_iload (i := 11) (by decide +kernel) rfl ?_
        refine x_if (cc := .eq) (off := 29) 371 (by decide +kernel) rfl (fun _ => ?_) (fun q => absurd rfl q)
        refine x_aload_n (i := 1) (by decide +kernel) rfl ?_
        refine x_iload (i := 4) (by decide +kernel) rfl ?_
        refine x_iload (i := 5) (by decide +kernel) rfl ?_
        refine y_call (i := 121) (w := 450) (d9 := 7) (T := (T.1, T.2.1.set c (castCol (nI k) col), T.2.2)) (I := (some T)) (sp := sp_cast (nI c) (nI h)) [nI c, nI h] (nI k) (((T.1, T.2.1.set c (castCol (nI k) col), T.2.2)).1, ((T.1, T.2.1.set c (castCol (nI k) col), T.2.2)).2.1.set c (castCol (nI h) (castCol (nI k) col)), ((T.1, T.2.1.set c (castCol (nI k) col), T.2.2)).2.2) (some T) rfl (by decide +kernel) (by decide +kernel) rfl (by decide) (by simp [Value.category]) (by omega) (by omega) hT8 (fun S μ hC => c_cast (Nat.le_refl _) hC (fun ν h1 _ => ⟨rfl, h1⟩)) (q_cast ok1 hc1 hgn hm hh hl1) (fun es11 hT11 he11 => ?_)
        have hf11 := (he11 w hw).trans hf8
        have hG2 : tG m (((T.1, T.2.1.set c (castCol (nI k) col), T.2.2)).1, ((T.1, T.2.1.set c (castCol (nI k) col), T.2.2)).2.1.set c (castCol (nI h) (castCol (nI k) col)), ((T.1, T.2.1.set c (castCol (nI k) col), T.2.2)).2.2) := hG1.put hgn
        have hc2 : ((((T.1, T.2.1.set c (castCol (nI k) col), T.2.2)).1, ((T.1, T.2.1.set c (castCol (nI k) col), T.2.2)).2.1.set c (castCol (nI h) (castCol (nI k) col)), ((T.1, T.2.1.set c (castCol (nI k) col), T.2.2)).2.2) : aT).2.1[c]? = some (castCol (nI h) (castCol (nI k) col)) := by rw [List.getElem?_set_self (lt_of_get hc1)]
        refine x_iload (i := 7) (by decide +kernel) rfl ?_
        refine x_icmp (cc := .ne) (off := 21) 402 (by decide +kernel) rfl (fun q => absurd rfl q) (fun _ => ?_)
        refine x_iload (i := 5) (by decide +kernel) rfl ?_
        refine x_bipush (i := 9) (9) (by decide +kernel) (by decide +kernel) ?_
        have htail : ∀ es9, xT G n es9 (((T.1, T.2.1.set c (castCol (nI k) col), T.2.2)).1, ((T.1, T.2.1.set c (castCol (nI k) col), T.2.2)).2.1.set c (castCol (nI h) (castCol (nI k) col)), ((T.1, T.2.1.set c (castCol (nI k) col), T.2.2)).2.2) (some T) → es9 w = .inl (G.cA 1, 2 * m, .inr (.inl f)) → xE false 14 M_L_law l G 680218 7061593 n es9 kk zz 404 [.ref G.b, .ref (G.B + 0), .int (nI m), .ref (G.B + w), .int (nI c), .int (nI h), .int bits, .int (nI k), .int (lostAt col.2.2 (nI k) m 0), .int (1), .int col.1, .int (0)] [] lwQ := by
          intro es9 hT9 hf9
          refine x_aload_n (i := 1) (by decide +kernel) rfl ?_
          refine y_call (i := 128) (w := 485) (d9 := 5) (T := (((T.1, T.2.1.set c (castCol (nI k) col), T.2.2)).1, ((T.1, T.2.1.set c (castCol (nI k) col), T.2.2)).2.1.set c (castCol (nI h) (castCol (nI k) col)), ((T.1, T.2.1.set c (castCol (nI k) col), T.2.2)).2.2)) (I := (some T)) (sp := sp_undo) [] (nI m) T (some T) rfl (by decide +kernel) (by decide +kernel) rfl (by decide) (by simp [Value.category]) (by omega) (by omega) hT9 (fun S μ hC => c_undo (Nat.le_refl _) hC (fun ν h1 _ => ⟨rfl, h1⟩)) (q_undo hm) (fun es12 hT12 he12 => ?_)
          have hf12 := (he12 w hw).trans hf9
          refine x_iload_n (i := 2) (by decide +kernel) rfl ?_
          refine x_icmp (cc := .ne) (off := 25) 434 (by decide +kernel) rfl (fun q => absurd rfl q) (fun _ => ?_)
          refine x_aload_n (i := 1) (by decide +kernel) rfl ?_
          refine x_iload (i := 4) (by decide +kernel) rfl ?_
          refine y_call (i := 108) (w := 310) (d9 := 3) (T := T) (I := (some T)) (sp := sp_kindOf (nI c)) [nI c] col.1 T (some T) rfl (by decide +kernel) (by decide +kernel) rfl (by decide) (by simp [Value.category]) (by omega) (by omega) hT12 (fun S μ hC => c_kindOf (Nat.le_refl _) hC (fun ν h1 _ => ⟨rfl, h1⟩)) (q_kindOf ok hc hgn) (fun es13 hT13 he13 => ?_)
          have hf13 := (he13 w hw).trans hf12
          refine x_iload (i := 5) (by decide +kernel) rfl ?_
          refine x_icmp (cc := .ne) (off := 14) 434 (by decide +kernel) rfl (fun q => absurd h1 q) (fun _ => ?_)
          refine x_aload_n (i := 1) (by decide +kernel) rfl ?_
          refine x_iload (i := 4) (by decide +kernel) rfl ?_
          refine x_iload_n (i := 2) (by decide +kernel) rfl ?_
          refine x_aload_n (i := 3) (by decide +kernel) rfl ?_
          refine x_callS (i := 124) (w := 900) (d' := 6) (Mc := M_L_isLike) [.ref (G.B + 0), .int (nI c), .int (nI m), .ref (G.B + w)] rfl (by decide +kernel) (by decide +kernel) g_L_isLike (l_like (by decide) hT13 hm hc hgn hw hwn hFc hf13) (by decide) (by omega) (by omega) rfl (fun _ _ _ _ q => by cases q) (by simp [Value.category]) (fun v14 n14 es14 hP14 _ => ?_)
          obtain ⟨rfl, hn14, hT14, he14⟩ := hP14
          replace hn14 := hn14.symm
          subst hn14
          have hf14 := (he14 w hw).trans hf13
          refine x_if (cc := .ne) (off := 5) 436 (by decide +kernel) rfl (fun _ => ?_) (fun q => absurd (show (1 : Int32) = 0 from q) (by decide))
          refine x_junk [.ref G.b, .ref (G.B + 0), .int (nI m), .ref (G.B + w), .int (nI c), .int (nI h), .int bits, .int (nI k), .retAddr 7, .retAddr 7, .retAddr 7, .retAddr 7] (by simp [jOK]) ?_
          exact kx _ T _ col hG hc h1 hcol hT14 hf14
        by_cases h9 : h = 9
        · refine x_icmp (cc := .eq) (off := 16) 404 (by decide +kernel) rfl (fun _ => ?_) (fun q => absurd (hhn.2.mpr h9) q)
          exact htail _ hT11 hf11
        · refine x_icmp (cc := .eq) (off := 16) 404 (by decide +kernel) rfl (fun q => absurd q (fun z => h9 (hhn.2.mp z))) (fun _ => ?_)
          have hcol2 : ∀ r, r < m → ((castCol (nI h) (castCol (nI k) col)) : aCol).2.2 r = g r := fun r hr => ((hback r hr).2 h9).trans (hcol r hr)
          refine x_aload_n (i := 1) (by decide +kernel) rfl ?_
          refine x_iload (i := 4) (by decide +kernel) rfl ?_
          refine x_iload_n (i := 2) (by decide +kernel) rfl ?_
          refine x_aload_n (i := 3) (by decide +kernel) rfl ?_
          refine x_callS (i := 124) (w := 900) (d' := 6) (Mc := M_L_isLike) [.ref (G.B + 0), .int (nI c), .int (nI m), .ref (G.B + w)] rfl (by decide +kernel) (by decide +kernel) g_L_isLike (l_like (by decide) hT11 hm hc2 hgn hw hwn (hF.cg hcol2) hf11) (by decide) (by omega) (by omega) rfl (fun _ _ _ _ q => by cases q) (by simp [Value.category]) (fun v15 n15 es15 hP15 _ => ?_)
          obtain ⟨rfl, hn15, hT15, he15⟩ := hP15
          replace hn15 := hn15.symm
          subst hn15
          have hf15 := (he15 w hw).trans hf11
          refine x_if (cc := .ne) (off := 5) 404 (by decide +kernel) rfl (fun _ => ?_) (fun q => absurd (show (1 : Int32) = 0 from q) (by decide))
          exact htail _ hT15 hf15
      · refine x_icmp (cc := .ge) (off := 14) 337 (by decide +kernel) rfl (fun q => absurd q (fun z => hk9 (hkn.1.mp z))) (fun _ => ?_)
        refine x_iload (i := 5) (by decide +kernel) rfl ?_
        refine x_bipush (i := 9) (9) (by decide +kernel) (by decide +kernel) ?_
        refine x_icmp (cc := .ge) (off := 7) 337 (by decide +kernel) rfl (fun _ => ?_) (fun q => absurd (hhn.1.mpr (by omega)) q)
        refine x_iconst (i := 0) (0) (by decide +kernel) (by decide +kernel) ?_
        refine x_istore (i := 11) (by decide +kernel) (by decide) (catL rfl) ?_
        refine x_iload (i := 11) (by decide +kernel) rfl ?_
        refine x_if (cc := .eq) (off := 29) 371 (by decide +kernel) rfl (fun _ => ?_) (fun q => absurd rfl q)
        refine x_aload_n (i := 1) (by decide +kernel) rfl ?_
        refine x_iload (i := 4) (by decide +kernel) rfl ?_
        refine x_iload (i := 5) (by decide +kernel) rfl ?_
        refine y_call (i := 121) (w := 450) (d9 := 7) (T := (T.1, T.2.1.set c (castCol (nI k) col), T.2.2)) (I := (some T)) (sp := sp_cast (nI c) (nI h)) [nI c, nI h] (nI k) (((T.1, T.2.1.set c (castCol (nI k) col), T.2.2)).1, ((T.1, T.2.1.set c (castCol (nI k) col), T.2.2)).2.1.set c (castCol (nI h) (castCol (nI k) col)), ((T.1, T.2.1.set c (castCol (nI k) col), T.2.2)).2.2) (some T) rfl (by decide +kernel) (by decide +kernel) rfl (by decide) (by simp [Value.category]) (by omega) (by omega) hT8 (fun S μ hC => c_cast (Nat.le_refl _) hC (fun ν h1 _ => ⟨rfl, h1⟩)) (q_cast ok1 hc1 hgn hm hh hl1) (fun es16 hT16 he16 => ?_)
        have hf16 := (he16 w hw).trans hf8
        have hG2 : tG m (((T.1, T.2.1.set c (castCol (nI k) col), T.2.2)).1, ((T.1, T.2.1.set c (castCol (nI k) col), T.2.2)).2.1.set c (castCol (nI h) (castCol (nI k) col)), ((T.1, T.2.1.set c (castCol (nI k) col), T.2.2)).2.2) := hG1.put hgn
        have hc2 : ((((T.1, T.2.1.set c (castCol (nI k) col), T.2.2)).1, ((T.1, T.2.1.set c (castCol (nI k) col), T.2.2)).2.1.set c (castCol (nI h) (castCol (nI k) col)), ((T.1, T.2.1.set c (castCol (nI k) col), T.2.2)).2.2) : aT).2.1[c]? = some (castCol (nI h) (castCol (nI k) col)) := by rw [List.getElem?_set_self (lt_of_get hc1)]
        refine x_iload (i := 7) (by decide +kernel) rfl ?_
        refine x_icmp (cc := .ne) (off := 21) 402 (by decide +kernel) rfl (fun q => absurd rfl q) (fun _ => ?_)
        refine x_iload (i := 5) (by decide +kernel) rfl ?_
        refine x_bipush (i := 9) (9) (by decide +kernel) (by decide +kernel) ?_
        have htail : ∀ es9, xT G n es9 (((T.1, T.2.1.set c (castCol (nI k) col), T.2.2)).1, ((T.1, T.2.1.set c (castCol (nI k) col), T.2.2)).2.1.set c (castCol (nI h) (castCol (nI k) col)), ((T.1, T.2.1.set c (castCol (nI k) col), T.2.2)).2.2) (some T) → es9 w = .inl (G.cA 1, 2 * m, .inr (.inl f)) → xE false 14 M_L_law l G 680218 7061593 n es9 kk zz 404 [.ref G.b, .ref (G.B + 0), .int (nI m), .ref (G.B + w), .int (nI c), .int (nI h), .int bits, .int (nI k), .int (lostAt col.2.2 (nI k) m 0), .int (1), .int col.1, .int (0)] [] lwQ := by
          intro es9 hT9 hf9
          refine x_aload_n (i := 1) (by decide +kernel) rfl ?_
          refine y_call (i := 128) (w := 485) (d9 := 5) (T := (((T.1, T.2.1.set c (castCol (nI k) col), T.2.2)).1, ((T.1, T.2.1.set c (castCol (nI k) col), T.2.2)).2.1.set c (castCol (nI h) (castCol (nI k) col)), ((T.1, T.2.1.set c (castCol (nI k) col), T.2.2)).2.2)) (I := (some T)) (sp := sp_undo) [] (nI m) T (some T) rfl (by decide +kernel) (by decide +kernel) rfl (by decide) (by simp [Value.category]) (by omega) (by omega) hT9 (fun S μ hC => c_undo (Nat.le_refl _) hC (fun ν h1 _ => ⟨rfl, h1⟩)) (q_undo hm) (fun es17 hT17 he17 => ?_)
          have hf17 := (he17 w hw).trans hf9
          refine x_iload_n (i := 2) (by decide +kernel) rfl ?_
          refine x_icmp (cc := .ne) (off := 25) 434 (by decide +kernel) rfl (fun q => absurd rfl q) (fun _ => ?_)
          refine x_aload_n (i := 1) (by decide +kernel) rfl ?_
          refine x_iload (i := 4) (by decide +kernel) rfl ?_
          refine y_call (i := 108) (w := 310) (d9 := 3) (T := T) (I := (some T)) (sp := sp_kindOf (nI c)) [nI c] col.1 T (some T) rfl (by decide +kernel) (by decide +kernel) rfl (by decide) (by simp [Value.category]) (by omega) (by omega) hT17 (fun S μ hC => c_kindOf (Nat.le_refl _) hC (fun ν h1 _ => ⟨rfl, h1⟩)) (q_kindOf ok hc hgn) (fun es18 hT18 he18 => ?_)
          have hf18 := (he18 w hw).trans hf17
          refine x_iload (i := 5) (by decide +kernel) rfl ?_
          refine x_icmp (cc := .ne) (off := 14) 434 (by decide +kernel) rfl (fun q => absurd h1 q) (fun _ => ?_)
          refine x_aload_n (i := 1) (by decide +kernel) rfl ?_
          refine x_iload (i := 4) (by decide +kernel) rfl ?_
          refine x_iload_n (i := 2) (by decide +kernel) rfl ?_
          refine x_aload_n (i := 3) (by decide +kernel) rfl ?_
          refine x_callS (i := 124) (w := 900) (d' := 6) (Mc := M_L_isLike) [.ref (G.B + 0), .int (nI c), .int (nI m), .ref (G.B + w)] rfl (by decide +kernel) (by decide +kernel) g_L_isLike (l_like (by decide) hT18 hm hc hgn hw hwn hFc hf18) (by decide) (by omega) (by omega) rfl (fun _ _ _ _ q => by cases q) (by simp [Value.category]) (fun v19 n19 es19 hP19 _ => ?_)
          obtain ⟨rfl, hn19, hT19, he19⟩ := hP19
          replace hn19 := hn19.symm
          subst hn19
          have hf19 := (he19 w hw).trans hf18
          refine x_if (cc := .ne) (off := 5) 436 (by decide +kernel) rfl (fun _ => ?_) (fun q => absurd (show (1 : Int32) = 0 from q) (by decide))
          refine x_junk [.ref G.b, .ref (G.B + 0), .int (nI m), .ref (G.B + w), .int (nI c), .int (nI h), .int bits, .int (nI k), .retAddr 7, .retAddr 7, .retAddr 7, .retAddr 7] (by simp [jOK]) ?_
          exact kx _ T _ col hG hc h1 hcol hT19 hf19
        by_cases h9 : h = 9
        · refine x_icmp (cc := .eq) (off := 16) 404 (by decide +kernel) rfl (fun _ => ?_) (fun q => absurd (hhn.2.mpr h9) q)
          exact htail _ hT16 hf16
        · refine x_icmp (cc := .eq) (off := 16) 404 (by decide +kernel) rfl (fun q => absurd q (fun z => h9 (hhn.2.mp z))) (fun _ => ?_)
          have hcol2 : ∀ r, r < m → ((castCol (nI h) (castCol (nI k) col)) : aCol).2.2 r = g r := fun r hr => ((hback r hr).2 h9).trans (hcol r hr)
          refine x_aload_n (i := 1) (by decide +kernel) rfl ?_
          refine x_iload (i := 4) (by decide +kernel) rfl ?_
          refine x_iload_n (i := 2) (by decide +kernel) rfl ?_
          refine x_aload_n (i := 3) (by decide +kernel) rfl ?_
          refine x_callS (i := 124) (w := 900) (d' := 6) (Mc := M_L_isLike) [.ref (G.B + 0), .int (nI c), .int (nI m), .ref (G.B + w)] rfl (by decide +kernel) (by decide +kernel) g_L_isLike (l_like (by decide) hT16 hm hc2 hgn hw hwn (hF.cg hcol2) hf16) (by decide) (by omega) (by omega) rfl (fun _ _ _ _ q => by cases q) (by simp [Value.category]) (fun v20 n20 es20 hP20 _ => ?_)
          obtain ⟨rfl, hn20, hT20, he20⟩ := hP20
          replace hn20 := hn20.symm
          subst hn20
          have hf20 := (he20 w hw).trans hf16
          refine x_if (cc := .ne) (off := 5) 404 (by decide +kernel) rfl (fun _ => ?_) (fun q => absurd (show (1 : Int32) = 0 from q) (by decide))
          exact htail _ hT20 hf20
  · refine x_ishr (bits >>> (nI k &&& 31)) (by decide +kernel) rfl ?_
    refine x_iconst (i := 1) (1) (by decide +kernel) (by decide +kernel) ?_
    refine x_iand (0) (by decide +kernel) (shr_bit0 hbit (fun z => hl (hlg.trans z))) ?_
    refine x_iconst (i := 1) (1) (by decide +kernel) (by decide +kernel) ?_
    refine x_icmp (cc := .ne) (off := 7) 217 (by decide +kernel) rfl (fun _ => ?_) (fun q => absurd q (show ¬ (0 : Int32) = 1 by decide))
    refine x_iconst (i := 0) (0) (by decide +kernel) (by decide +kernel) ?_
    refine x_istore (i := 9) (by decide +kernel) (by decide) (catL rfl) ?_
    refine x_iload (i := 8) (by decide +kernel) rfl ?_
    refine x_bipush (i := -5) (-5) (by decide +kernel) (by decide +kernel) ?_
    refine x_icmp (cc := .ne) (off := 7) 231 (by decide +kernel) rfl (fun _ => ?_) (fun q => absurd q hl)
    refine x_iconst (i := 0) (0) (by decide +kernel) (by decide +kernel) ?_
    refine x_iload (i := 9) (by decide +kernel) rfl ?_
    refine x_icmp (cc := .eq) (off := 5) 239 (by decide +kernel) rfl (fun _ => ?_) (fun q => absurd rfl q)
    refine x_aload_n (i := 1) (by decide +kernel) rfl ?_
    refine y_call (i := 118) (w := 458) (d9 := 5) (T := T) (I := I) (sp := sp_image) [] (nI m) T (some T) rfl (by decide +kernel) (by decide +kernel) rfl (by decide) (by simp [Value.category]) (by omega) (by omega) hT1 (fun S μ hC => c_image (Nat.le_refl _) hC (fun ν h1 _ => ⟨rfl, h1⟩)) (q_image hm) (fun es2 hT2 he2 => ?_)
    have hf2 := (he2 w hw).trans hf1
    refine x_iload_n (i := 2) (by decide +kernel) rfl ?_
    refine x_icmp (cc := .eq) (off := 5) 249 (by decide +kernel) rfl (fun _ => ?_) (fun q => absurd rfl q)
    refine x_aload_n (i := 1) (by decide +kernel) rfl ?_
    refine x_iload (i := 4) (by decide +kernel) rfl ?_
    refine x_iload (i := 7) (by decide +kernel) rfl ?_
    refine y_call (i := 121) (w := 450) (d9 := 7) (T := T) (I := (some T)) (sp := sp_cast (nI c) (nI k)) [nI c, nI k] (-1000 - lostAt col.2.2 (nI k) m 0) T (some T) rfl (by decide +kernel) (by decide +kernel) rfl (by decide) (by simp [Value.category]) (by omega) (by omega) hT2 (fun S μ hC => c_cast (Nat.le_refl _) hC (fun ν h1 _ => ⟨rfl, h1⟩)) (q_castNo ok hc hgn hm hk hl) (fun es3 hT3 he3 => ?_)
    have hf3 := (he3 w hw).trans hf2
    refine x_istore (i := 10) (by decide +kernel) (by decide) (catL rfl) ?_
    refine x_iload (i := 9) (by decide +kernel) rfl ?_
    refine x_if (cc := .ne) (off := 38) 299 (by decide +kernel) rfl (fun q => absurd rfl q) (fun _ => ?_)
    refine x_iload (i := 10) (by decide +kernel) rfl ?_
    refine x_sipush (i := -1000) (-1000) (by decide +kernel) (by decide +kernel) ?_
    refine x_iload (i := 8) (by decide +kernel) rfl ?_
    refine x_isub (-1000 - lostAt col.2.2 (nI k) m 0) (by decide +kernel) rfl ?_
    refine x_icmp (cc := .ne) (off := 25) 297 (by decide +kernel) rfl (fun q => absurd rfl q) (fun _ => ?_)
    refine x_aload_n (i := 1) (by decide +kernel) rfl ?_
    refine x_iload (i := 4) (by decide +kernel) rfl ?_
    refine y_call (i := 108) (w := 310) (d9 := 3) (T := T) (I := (some T)) (sp := sp_kindOf (nI c)) [nI c] col.1 T (some T) rfl (by decide +kernel) (by decide +kernel) rfl (by decide) (by simp [Value.category]) (by omega) (by omega) hT3 (fun S μ hC => c_kindOf (Nat.le_refl _) hC (fun ν h1 _ => ⟨rfl, h1⟩)) (q_kindOf ok hc hgn) (fun es4 hT4 he4 => ?_)
    have hf4 := (he4 w hw).trans hf3
    refine x_iload (i := 5) (by decide +kernel) rfl ?_
    refine x_icmp (cc := .ne) (off := 14) 297 (by decide +kernel) rfl (fun q => absurd h1 q) (fun _ => ?_)
    refine x_aload_n (i := 1) (by decide +kernel) rfl ?_
    refine x_iload (i := 4) (by decide +kernel) rfl ?_
    refine x_iload_n (i := 2) (by decide +kernel) rfl ?_
    refine x_aload_n (i := 3) (by decide +kernel) rfl ?_
    refine x_callS (i := 124) (w := 900) (d' := 6) (Mc := M_L_isLike) [.ref (G.B + 0), .int (nI c), .int (nI m), .ref (G.B + w)] rfl (by decide +kernel) (by decide +kernel) g_L_isLike (l_like (by decide) hT4 hm hc hgn hw hwn hFc hf4) (by decide) (by omega) (by omega) rfl (fun _ _ _ _ q => by cases q) (by simp [Value.category]) (fun v5 n5 es5 hP5 _ => ?_)
    obtain ⟨rfl, hn5, hT5, he5⟩ := hP5
    replace hn5 := hn5.symm
    subst hn5
    have hf5 := (he5 w hw).trans hf4
    refine x_if (cc := .ne) (off := 142) 436 (by decide +kernel) rfl (fun _ => ?_) (fun q => absurd (show (1 : Int32) = 0 from q) (by decide))
    refine x_junk [.ref G.b, .ref (G.B + 0), .int (nI m), .ref (G.B + w), .int (nI c), .int (nI h), .int bits, .int (nI k), .retAddr 7, .retAddr 7, .retAddr 7, .retAddr 7] (by simp [jOK]) ?_
    exact kx _ T _ col hG hc h1 hcol hT5 hf5
