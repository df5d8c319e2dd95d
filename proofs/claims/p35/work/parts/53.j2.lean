/-! ===== the JDK: rows of bytes, builders made and grown ===== -/
theorem t_newLen {d : Nat} {l : Launch} {G : xG} {n : Nat} {es : Nat → va_E} {a b c : Nat} (hd : 1 ≤ d) (h0 : 0 < a + max b c) (h1 : a + max b c < 2 ^ 30) : xMet d 0 0 M_J8_newLength_cabcc l G n es [.int (nI a), .int (nI b), .int (nI c)] (xPu n es (some (.int (nI (a + max b c))))) := by
  refine xMet.of true (j := 1) (by decide +kernel) (catL rfl) rfl ?_
  refine x_iload_n (i := 0) (by decide +kernel) rfl ?_
  refine x_iload_n (i := 1) (by decide +kernel) rfl ?_
  refine x_iload_n (i := 2) (by decide +kernel) rfl ?_
  refine x_callSp (i := 194) (d' := (d - 1)) (w := 594) (Mc := M_J9_max_7cf53) [.int (nI b), .int (nI c)] rfl (by decide +kernel) (by decide +kernel) g_J9_max_7cf53 (t_max (by omega) (by omega) (by omega)) (by omega) (by omega) (by omega) rfl (by simp [Value.category]) ?_
  refine x_iadd (nI (a + (max b c))) (by decide +kernel) (nI_add _ _) ?_
  refine x_istore_n (i := 3) (by decide +kernel) (by decide) (catL rfl) ?_
  refine x_iconst (i := 0) (nI 0) (by decide +kernel) (by decide +kernel) ?_
  refine x_iload_n (i := 3) (by decide +kernel) rfl ?_
  refine x_icmp (cc := .ge) (off := 11) 21 (by decide +kernel) rfl (fun qq => absurd qq (show ¬ nI (a + max b c) ≤ nI 0 from nI_ge (by omega) (by omega))) (fun _ => ?_)
  refine x_iload_n (i := 3) (by decide +kernel) rfl ?_
  refine x_ldc (i := 200) (w := 597) (2147483639 : Int32) (by decide +kernel) (by decide +kernel) ?_
  refine x_icmp (cc := .gt) (off := 5) 21 (by decide +kernel) rfl (fun qq => absurd qq (show ¬ (2147483639 : Int32) < nI (a + max b c) from nI_nlt (b := a + max b c) (a := 2147483639) (by omega) (by decide) |> fun z => z)) (fun _ => ?_)
  refine x_iload_n (i := 3) (by decide +kernel) rfl ?_
  exact x_ireturn .int (by decide +kernel) rfl rfl (by omega) (by omega) (fun _ _ _ h => ⟨_, _, _, rfl, ⟨rfl, rfl, rfl⟩, Nat.le_refl _, h⟩)
theorem t_newCap {d : Nat} {l : Launch} {G : xG} {n : Nat} {es : Nat → va_E} {r v cap need : Nat} {f : Nat → Int32} {v2 v3 : Value} (hd : 2 ≤ d) (hr : r < n) (hvn : v < n) (hrv : r ≠ v) (he : es r = .inr (9, [.ref (G.B + v), .int 0, v2, v3])) (hv : es v = .inl (G.cA 7, cap, .inl f)) (hc : cap < need) (hn : need < 100000) : xMet d 0 0 M_J5_newCapacity_0f7a4 l G n es [.ref (G.B + r), .int (nI need)] (xPu n es (some (.int (nI (cap + max (need - cap) (cap + 2)))))) := by
  refine xMet.of true (j := 4) (by decide +kernel) (catL rfl) rfl ?_
  refine x_aload_n (i := 0) (by decide +kernel) rfl ?_
  refine x_get (i := 15) (ci := 9) (T := TJ4) (w := 522) 0 (by decide +kernel) rfl (by decide) (by decide +kernel) hr he rfl ?_
  refine x_alen (by decide +kernel) hvn hv ?_
  refine x_istore_n (i := 2) (by decide +kernel) (by decide) (catL rfl) ?_
  refine x_iload_n (i := 1) (by decide +kernel) rfl ?_
  refine x_aload_n (i := 0) (by decide +kernel) rfl ?_
  refine x_get (i := 22) (ci := 9) (T := TJ4) (w := 523) 1 (by decide +kernel) rfl (by decide) (by decide +kernel) hr he rfl ?_
  refine x_ishl (nI need) (by decide +kernel) (sb_shl0 _) ?_
  refine x_istore_n (i := 3) (by decide +kernel) (by decide) (catL rfl) ?_
  refine x_iload_n (i := 3) (by decide +kernel) rfl ?_
  refine x_iload_n (i := 2) (by decide +kernel) rfl ?_
  refine x_isub (nI (need - cap)) (by decide +kernel) (pk_sub (by omega)) ?_
  refine x_istore (i := 4) (by decide +kernel) (by decide) (catL rfl) ?_
  refine x_iload_n (i := 2) (by decide +kernel) rfl ?_
  refine x_iload (i := 4) (by decide +kernel) rfl ?_
  refine x_iload_n (i := 2) (by decide +kernel) rfl ?_
  refine x_iconst (i := 2) (nI 2) (by decide +kernel) (by decide +kernel) ?_
  refine x_aload_n (i := 0) (by decide +kernel) rfl ?_
  refine x_get (i := 22) (ci := 9) (T := TJ4) (w := 523) 1 (by decide +kernel) rfl (by decide) (by decide +kernel) hr he rfl ?_
  refine x_ishl (nI 2) (by decide +kernel) (sb_shl0 _) ?_
  refine x_iadd (nI (cap + 2)) (by decide +kernel) (nI_add _ _) ?_
  refine x_callSp (i := 114) (d' := (d - 1)) (w := 591) (Mc := M_J8_newLength_cabcc) [.int (nI cap), .int (nI (need - cap)), .int (nI (cap + 2))] rfl (by decide +kernel) (by decide +kernel) g_J8_newLength_cabcc (t_newLen (by omega) (by omega) (by omega)) (by omega) (by omega) (by omega) rfl (by simp [Value.category]) ?_
  refine x_istore (i := 5) (by decide +kernel) (by decide) (catL rfl) ?_
  refine x_iload (i := 5) (by decide +kernel) rfl ?_
  refine x_ldc (i := 39) (w := 601) (2147483647 : Int32) (by decide +kernel) (by decide +kernel) ?_
  refine x_icmp (cc := .ne) (off := 13) 51 (by decide +kernel) rfl (fun _ => ?_) (fun qq => absurd qq (show ¬ nI (cap + max (need - cap) (cap + 2)) = (2147483647 : Int32) from fun z => absurd ((nI_eq (b := 2147483647) (by omega) (by decide)).mp z) (by omega)))
  refine x_iload (i := 5) (by decide +kernel) rfl ?_
  refine x_aload_n (i := 0) (by decide +kernel) rfl ?_
  refine x_get (i := 22) (ci := 9) (T := TJ4) (w := 523) 1 (by decide +kernel) rfl (by decide) (by decide +kernel) hr he rfl ?_
  refine x_ishr (nI (cap + max (need - cap) (cap + 2))) (by decide +kernel) (sb_shr0 _) ?_
  exact x_ireturn .int (by decide +kernel) rfl rfl (by omega) (by omega) (fun _ _ _ h => ⟨_, _, _, rfl, ⟨rfl, rfl, rfl⟩, Nat.le_refl _, h⟩)
theorem t_copyOf {d : Nat} {l : Launch} {G : xG} {n : Nat} {es : Nat → va_E} {v cap q : Nat} {f : Nat → Int32} (hd : 1 ≤ d) (hvn : v < n) (hv : es v = .inl (G.cA 7, cap, .inl f)) (hf : bFit f) (hc : cap < q) (hq : q ≤ 5000) : xMet d 1 q M_J7_copyOf_9075b l G n es [.ref (G.B + v), .int (nI q)] (fun o n1 es1 => o = some (.ref (G.B + n)) ∧ n1 = n + 1 ∧ (∀ x, x ≠ n → es1 x = es x) ∧ ∃ g, es1 n = .inl (G.cA 7, q, .inl g) ∧ bFit g ∧ ∀ j, j < cap → g j = f j) := by
  refine xMet.of true (j := 1) (by decide +kernel) (catL rfl) rfl ?_
  refine x_iload_n (i := 1) (by decide +kernel) rfl ?_
  refine x_aload_n (i := 0) (by decide +kernel) rfl ?_
  refine x_alen (by decide +kernel) hvn hv ?_
  refine x_icmp (cc := .ne) (off := 11) 14 (by decide +kernel) rfl (fun _ => ?_) (fun qq => absurd qq (show ¬ nI q = nI cap from fun z => absurd ((nI_eq (by omega) (by omega)).mp z) (by omega)))
  refine x_iload_n (i := 1) (by decide +kernel) rfl ?_
  refine x_newBQ (N := q) (by decide +kernel) rfl (by omega) (by omega) (by omega) (fun es1 hu1 ho1 => ?_)
  have e1_v : es1 v = .inl (G.cA 7, cap, .inl f) := (ho1 v (by omega)).trans hv
  refine x_astore_n (i := 2) (by decide +kernel) (by decide) (catL rfl) ?_
  refine x_aload_n (i := 0) (by decide +kernel) rfl ?_
  refine x_iconst (i := 0) (nI 0) (by decide +kernel) (by decide +kernel) ?_
  refine x_aload_n (i := 2) (by decide +kernel) rfl ?_
  refine x_iconst (i := 0) (nI 0) (by decide +kernel) (by decide +kernel) ?_
  refine x_aload_n (i := 0) (by decide +kernel) rfl ?_
  refine x_alen (by decide +kernel) (by omega) e1_v ?_
  refine x_iload_n (i := 1) (by decide +kernel) rfl ?_
  refine x_callSp (i := 304) (d' := (d - 1)) (w := 612) (Mc := M_J9_min_7cf53) [.int (nI cap), .int (nI q)] rfl (by decide +kernel) (by decide +kernel) g_J9_min_7cf53 (t_min (by omega) (by omega) (by omega)) (by omega) (by omega) (by omega) rfl (by simp [Value.category]) ?_
  refine x_copyOQ (i := 150) (w := 615) (sp := 0) (dp := 0) (c0 := min cap q) (by decide +kernel) (by decide +kernel) (by omega) (by omega) e1_v (by omega) hu1 hf (by omega) (by omega) (by omega) (by omega) (by simp [Value.category]) (fun es2 hu2 ho2 => ?_)
  have e2_v : es2 v = .inl (G.cA 7, cap, .inl f) := (ho2 v (by omega)).trans e1_v
  refine x_aload_n (i := 2) (by decide +kernel) rfl ?_
  exact x_areturn (.array .byte) (by decide +kernel) rfl (Or.inr ⟨_, rfl⟩) (by omega) (by omega) (fun _ _ _ h => ⟨_, _, _, rfl, ⟨rfl, rfl, fun x hx => (ho2 x hx).trans (ho1 x hx), _, hu2, hf.cpy bFit.z, fun j hj => pk_cpy_in (by omega) (by omega) |>.trans (by rw [show 0 + (j - 0) = j by omega])⟩, by omega, h⟩)
theorem t_chkLen {d : Nat} {l : Launch} {G : xG} {n : Nat} {es : Nat → va_E} {m : Nat} (hd : 0 ≤ d) (hm : m < 2 ^ 31) : xMet d 0 0 M_J7_checkLength_df160 l G n es [.int (nI 0), .int (nI m)] (xPu n es none) := by
  refine xMet.of true (j := 0) (by decide +kernel) (catL rfl) rfl ?_
  refine x_iload_n (i := 1) (by decide +kernel) rfl ?_
  refine x_iload_n (i := 0) (by decide +kernel) rfl ?_
  refine x_icmp (cc := .ge) (off := 35) 37 (by decide +kernel) rfl (fun _ => ?_) (fun qq => absurd (show nI 0 ≤ nI m from nI_le (Nat.zero_le _) (by omega)) qq)
  exact x_return (by decide +kernel) rfl (by omega) (by omega) (fun _ _ _ h => ⟨_, _, _, rfl, ⟨rfl, rfl, rfl⟩, Nat.le_refl _, h⟩)
theorem t_rangeB {d : Nat} {l : Launch} {G : xG} {n : Nat} {es : Nat → va_E} {v cap m : Nat} {f : Nat → Int32} (hd : 1 ≤ d) (hvn : v < n) (hv : es v = .inl (G.cA 7, cap, .inl f)) (hf : bFit f) (hc : m ≤ cap) (hq : cap ≤ 5000) : xMet d 1 m M_J7_copyOfRangeByte_39247 l G n es [.ref (G.B + v), .int (nI 0), .int (nI m)] (fun o n1 es1 => o = some (.ref (G.B + n)) ∧ n1 = n + 1 ∧ (∀ x, x ≠ n → es1 x = es x) ∧ ∃ g, es1 n = .inl (G.cA 7, m, .inl g) ∧ bFit g ∧ ∀ j, j < m → g j = f j) := by
  refine xMet.of true (j := 2) (by decide +kernel) (catL rfl) rfl ?_
  refine x_iload_n (i := 1) (by decide +kernel) rfl ?_
  refine x_iload_n (i := 2) (by decide +kernel) rfl ?_
  refine x_callSp (i := 343) (d' := (d - 1)) (w := 729) (Mc := M_J7_checkLength_df160) [.int (nI 0), .int (nI m)] rfl (by decide +kernel) (by decide +kernel) g_J7_checkLength_df160 (t_chkLen (by omega) (by omega)) (by omega) (by omega) (by omega) rfl (by simp [Value.category]) ?_
  refine x_iload_n (i := 2) (by decide +kernel) rfl ?_
  refine x_iload_n (i := 1) (by decide +kernel) rfl ?_
  refine x_isub (nI (m - 0)) (by decide +kernel) (pk_sub (by omega)) ?_
  refine x_istore_n (i := 3) (by decide +kernel) (by decide) (catL rfl) ?_
  refine x_iload_n (i := 3) (by decide +kernel) rfl ?_
  refine x_newBQ (N := m) (by decide +kernel) (by rw [Nat.sub_zero]) (by omega) (by omega) (by omega) (fun es1 hu1 ho1 => ?_)
  have e1_v : es1 v = .inl (G.cA 7, cap, .inl f) := (ho1 v (by omega)).trans hv
  refine x_astore (i := 4) (by decide +kernel) (by decide) (catL rfl) ?_
  refine x_aload_n (i := 0) (by decide +kernel) rfl ?_
  refine x_iload_n (i := 1) (by decide +kernel) rfl ?_
  refine x_aload (i := 4) (by decide +kernel) rfl ?_
  refine x_iconst (i := 0) (nI 0) (by decide +kernel) (by decide +kernel) ?_
  refine x_aload_n (i := 0) (by decide +kernel) rfl ?_
  refine x_alen (by decide +kernel) (by omega) e1_v ?_
  refine x_iload_n (i := 1) (by decide +kernel) rfl ?_
  refine x_isub (nI (cap - 0)) (by decide +kernel) (pk_sub (by omega)) ?_
  refine x_iload_n (i := 3) (by decide +kernel) rfl ?_
  refine x_callSp (i := 304) (d' := (d - 1)) (w := 612) (Mc := M_J9_min_7cf53) [.int (nI (cap - 0)), .int (nI (m - 0))] rfl (by decide +kernel) (by decide +kernel) g_J9_min_7cf53 (t_min (by omega) (by omega) (by omega)) (by omega) (by omega) (by omega) rfl (by simp [Value.category]) ?_
  refine x_copyOQ (i := 150) (w := 615) (sp := 0) (dp := 0) (c0 := min (cap - 0) (m - 0)) (by decide +kernel) (by decide +kernel) (by omega) (by omega) e1_v (by omega) hu1 hf (by omega) (by omega) (by omega) (by omega) (by simp [Value.category]) (fun es2 hu2 ho2 => ?_)
  have e2_v : es2 v = .inl (G.cA 7, cap, .inl f) := (ho2 v (by omega)).trans e1_v
  refine x_aload (i := 4) (by decide +kernel) rfl ?_
  exact x_areturn (.array .byte) (by decide +kernel) rfl (Or.inr ⟨_, rfl⟩) (by omega) (by omega) (fun _ _ _ h => ⟨_, _, _, rfl, ⟨rfl, rfl, fun x hx => (ho2 x hx).trans (ho1 x hx), _, hu2, hf.cpy bFit.z, fun j hj => pk_cpy_in (by omega) (by omega) |>.trans (by rw [show 0 + (j - 0) = j by omega])⟩, by omega, h⟩)
theorem t_range {d : Nat} {l : Launch} {G : xG} {n : Nat} {es : Nat → va_E} {v cap m : Nat} {f : Nat → Int32} (hd : 2 ≤ d) (hvn : v < n) (hv : es v = .inl (G.cA 7, cap, .inl f)) (hf : bFit f) (hc : m ≤ cap) (hq : cap ≤ 5000) : xMet d 1 m M_J7_copyOfRange_39247 l G n es [.ref (G.B + v), .int (nI 0), .int (nI m)] (fun o n1 es1 => o = some (.ref (G.B + n)) ∧ n1 = n + 1 ∧ (∀ x, x ≠ n → es1 x = es x) ∧ ∃ g, es1 n = .inl (G.cA 7, m, .inl g) ∧ bFit g ∧ ∀ j, j < m → g j = f j) := by
  refine xMet.of true (j := 0) (by decide +kernel) (catL rfl) rfl ?_
  refine x_iload_n (i := 1) (by decide +kernel) rfl ?_
  refine x_if (cc := .ne) (off := 9) 10 (by decide +kernel) rfl (fun qq => absurd (show nI 0 = 0 from rfl) qq) (fun _ => ?_)
  refine x_iload_n (i := 2) (by decide +kernel) rfl ?_
  refine x_aload_n (i := 0) (by decide +kernel) rfl ?_
  refine x_alen (by decide +kernel) hvn hv ?_
  refine x_icmp (cc := .eq) (off := 10) 17 (by decide +kernel) rfl (fun q => ?_) (fun q => ?_)
  · refine x_aload_n (i := 0) (by decide +kernel) rfl ?_
    have hmc : m = cap := (nI_eq (by omega) (by omega)).mp q
    subst hmc
    refine x_cloneBQ (i := 310) (w := 605) (by decide +kernel) (by decide +kernel) (by omega) hvn hv hf (by simp [Value.category]) (by omega) (by omega) (fun es1 hu1 ho1 => ?_)
    refine x_castB (i := 311) (w := 611) (by decide +kernel) (by decide +kernel) (by omega) hu1 ?_
    exact x_areturn (.array .byte) (by decide +kernel) rfl (Or.inr ⟨_, rfl⟩) (by omega) (by omega) (fun _ _ _ h => ⟨_, _, _, rfl, ⟨rfl, rfl, ho1, _, hu1, hf, fun _ _ => rfl⟩, by omega, h⟩)
  · refine x_aload_n (i := 0) (by decide +kernel) rfl ?_
    refine x_iload_n (i := 1) (by decide +kernel) rfl ?_
    refine x_iload_n (i := 2) (by decide +kernel) rfl ?_
    refine x_callS (i := 339) (d' := (d - 1)) (w := 726) (Mc := M_J7_copyOfRangeByte_39247) [.ref (G.B + v), .int (nI 0), .int (nI m)] rfl (by decide +kernel) (by decide +kernel) g_J7_copyOfRangeByte_39247 (t_rangeB (by omega) hvn hv hf hc hq) (by omega) (by omega) (by omega) rfl (fun v1 n1 es1 hP _ => by have := hP.2.1; omega) (by simp [Value.category]) (fun v1 n1 es1 hP hn => ?_)
    obtain ⟨rfl, rfl, h3, h4⟩ := hP
    exact x_areturn (.array .byte) (by decide +kernel) rfl (Or.inr ⟨_, rfl⟩) (by omega) (by omega) (fun _ _ _ h => ⟨_, _, _, rfl, ⟨rfl, rfl, h3, h4⟩, by omega, h⟩)
theorem t_init5 {d : Nat} {l : Launch} {G : xG} {n : Nat} {es : Nat → va_E} {r : Nat} (hd : 1 ≤ d) (hr : r < n) (he : es r = .inr (9, [.null, .int 0, .int 0, .int 0])) : xMet d 1 16 M_J5_init_d00df l G n es [.ref (G.B + r), .int (nI 16)] (fun o n1 es1 => o = none ∧ n1 = n + 1 ∧ (∀ x, x ≠ r → x ≠ n → es1 x = es x) ∧ es1 r = .inr (9, [.ref (G.B + n), .int 0, .int 0, .int 0]) ∧ es1 n = .inl (G.cA 7, 16, .inl fun _ => 0)) := by
  refine xMet.of true (j := 0) (by decide +kernel) (catL rfl) rfl ?_
  refine x_aload_n (i := 0) (by decide +kernel) rfl ?_
  refine x_objInit (i := 3) (w := 512) (by decide +kernel) (by decide +kernel) (by omega) rfl ?_
  refine x_compact (i := 18) (w := 513) (by decide +kernel) (by decide +kernel) ?_
  refine x_if (cc := .eq) (off := 18) 25 (by decide +kernel) rfl (fun qq => absurd qq (show ¬ ((1 : Int32) = 0) by decide)) (fun _ => ?_)
  refine x_aload_n (i := 0) (by decide +kernel) rfl ?_
  refine x_iload_n (i := 1) (by decide +kernel) rfl ?_
  refine x_newBQ (N := 16) (by decide +kernel) rfl (by omega) (by omega) (by omega) (fun es1 hu1 ho1 => ?_)
  have e1_r : es1 r = .inr (9, [.null, .int 0, .int 0, .int 0]) := (ho1 r (by omega)).trans he
  refine x_putQ (i := 15) (w := 522) (ci := 9) (T := TJ4) 0 (.array .byte) (by decide +kernel) rfl (by decide) (by decide +kernel) rfl (by decide +kernel) rfl rfl (by omega) e1_r (by simp) (fun es2 hu2 ho2 => ?_)
  have e2_r : es2 r = .inr (9, [.ref (G.B + n), .int 0, .int 0, .int 0]) := hu2
  have e2_n : es2 n = .inl (G.cA 7, 16, .inl (fun _ => 0)) := (ho2 n (by omega)).trans hu1
  refine x_aload_n (i := 0) (by decide +kernel) rfl ?_
  refine x_iconst (i := 0) (nI 0) (by decide +kernel) (by decide +kernel) ?_
  refine x_putQ (i := 22) (w := 523) (ci := 9) (T := TJ4) 1 .byte (by decide +kernel) rfl (by decide) (by decide +kernel) rfl (by decide +kernel) rfl rfl (by omega) e2_r (by simp) (fun es3 hu3 ho3 => ?_)
  have e3_r : es3 r = .inr (9, [.ref (G.B + n), .int (nI 0), .int 0, .int 0]) := hu3
  have e3_n : es3 n = .inl (G.cA 7, 16, .inl (fun _ => 0)) := (ho3 n (by omega)).trans e2_n
  refine x_goto (off := 16) 38 (by decide +kernel) rfl ?_
  exact x_return (by decide +kernel) rfl (by omega) (by omega) (fun _ _ _ h => ⟨_, _, _, rfl, ⟨rfl, rfl, fun x h1 h2 => (ho3 x h1).trans ((ho2 x h1).trans (ho1 x h2)), e3_r, e3_n⟩, by omega, h⟩)
theorem t_init4 {d : Nat} {l : Launch} {G : xG} {n : Nat} {es : Nat → va_E} {r : Nat} (hd : 2 ≤ d) (hr : r < n) (he : es r = .inr (9, [.null, .int 0, .int 0, .int 0])) : xMet d 1 16 M_J4_init_da8c8 l G n es [.ref (G.B + r)] (fun o n1 es1 => o = none ∧ n1 = n + 1 ∧ (∀ x, x ≠ r → x ≠ n → es1 x = es x) ∧ bLd G n1 es1 r n []) := by
  refine xMet.of true (j := 0) (by decide +kernel) (catL rfl) rfl ?_
  refine x_aload_n (i := 0) (by decide +kernel) rfl ?_
  refine x_bipush (i := 16) (nI 16) (by decide +kernel) (by decide +kernel) ?_
  refine x_callI (i := 1) (d' := (d - 1)) (w := 509) (Mc := M_J5_init_d00df) [.int (nI 16)] rfl (by decide +kernel) (by decide +kernel) xg_J5_init_d00df rfl rfl (t_init5 (by omega) hr he) (by omega) (by omega) (by omega) rfl (fun v1 n1 es1 hP _ => by have := hP.2.1; omega) (by simp [Value.category]) (fun v1 n1 es1 hP hn => ?_)
  obtain ⟨rfl, rfl, h3, h4, h5⟩ := hP
  exact x_return (by decide +kernel) rfl (by omega) (by omega) (fun _ _ _ h => ⟨_, _, _, rfl, ⟨rfl, rfl, h3, by omega, by omega, h4, 16, _, h5, by decide, by decide, bFit.z, fun j x hj => by cases hj⟩, by omega, h⟩)
theorem t_ens0 {d : Nat} {l : Launch} {G : xG} {n : Nat} {es : Nat → va_E} {r v cap need : Nat} {f : Nat → Int32} {v2 v3 : Value} (hd : 0 ≤ d) (hr : r < n) (hvn : v < n) (hrv : r ≠ v) (he : es r = .inr (9, [.ref (G.B + v), .int 0, v2, v3])) (hv : es v = .inl (G.cA 7, cap, .inl f)) (hc : need ≤ cap) (hn : cap < 100000) : xMet d 0 0 M_J5_ensureCapacityInternal_d00df l G n es [.ref (G.B + r), .int (nI need)] (xPu n es none) := by
  refine xMet.of true (j := 1) (by decide +kernel) (catL rfl) rfl ?_
  refine x_aload_n (i := 0) (by decide +kernel) rfl ?_
  refine x_get (i := 15) (ci := 9) (T := TJ4) (w := 522) 0 (by decide +kernel) rfl (by decide) (by decide +kernel) hr he rfl ?_
  refine x_alen (by decide +kernel) hvn hv ?_
  refine x_aload_n (i := 0) (by decide +kernel) rfl ?_
  refine x_get (i := 22) (ci := 9) (T := TJ4) (w := 523) 1 (by decide +kernel) rfl (by decide) (by decide +kernel) hr he rfl ?_
  refine x_ishr (nI cap) (by decide +kernel) (sb_shr0 _) ?_
  refine x_istore_n (i := 2) (by decide +kernel) (by decide) (catL rfl) ?_
  refine x_iload_n (i := 1) (by decide +kernel) rfl ?_
  refine x_iload_n (i := 2) (by decide +kernel) rfl ?_
  refine x_isub (nI need - nI cap) (by decide +kernel) rfl ?_
  refine x_if (cc := .le) (off := 24) 38 (by decide +kernel) rfl (fun _ => ?_) (fun qq => absurd (show nI need - nI cap ≤ 0 by rw [Int32.le_iff_toInt_le, pk_sub_toInt (by omega) (by omega), Int32.toInt_zero]; omega) qq)
  exact x_return (by decide +kernel) rfl (by omega) (by omega) (fun _ _ _ h => ⟨_, _, _, rfl, ⟨rfl, rfl, rfl⟩, Nat.le_refl _, h⟩)
theorem t_ens1 {d : Nat} {l : Launch} {G : xG} {n : Nat} {es : Nat → va_E} {r v cap need : Nat} {f : Nat → Int32} {v2 v3 : Value} (hd : 3 ≤ d) (hr : r < n) (hvn : v < n) (hrv : r ≠ v) (he : es r = .inr (9, [.ref (G.B + v), .int 0, v2, v3])) (hv : es v = .inl (G.cA 7, cap, .inl f)) (hf : bFit f) (hc : cap < need) (hn : need ≤ 2000) : xMet d 1 (cap + max (need - cap) (cap + 2)) M_J5_ensureCapacityInternal_d00df l G n es [.ref (G.B + r), .int (nI need)] (fun o n1 es1 => o = none ∧ n1 = n + 1 ∧ (∀ x, x ≠ r → x ≠ n → es1 x = es x) ∧ es1 r = .inr (9, [.ref (G.B + n), .int 0, v2, v3]) ∧ ∃ g, es1 n = .inl (G.cA 7, cap + max (need - cap) (cap + 2), .inl g) ∧ bFit g ∧ ∀ j, j < cap → g j = f j) := by
  refine xMet.of true (j := 1) (by decide +kernel) (catL rfl) rfl ?_
  refine x_aload_n (i := 0) (by decide +kernel) rfl ?_
  refine x_get (i := 15) (ci := 9) (T := TJ4) (w := 522) 0 (by decide +kernel) rfl (by decide) (by decide +kernel) hr he rfl ?_
  refine x_alen (by decide +kernel) hvn hv ?_
  refine x_aload_n (i := 0) (by decide +kernel) rfl ?_
  refine x_get (i := 22) (ci := 9) (T := TJ4) (w := 523) 1 (by decide +kernel) rfl (by decide) (by decide +kernel) hr he rfl ?_
  refine x_ishr (nI cap) (by decide +kernel) (sb_shr0 _) ?_
  refine x_istore_n (i := 2) (by decide +kernel) (by decide) (catL rfl) ?_
  refine x_iload_n (i := 1) (by decide +kernel) rfl ?_
  refine x_iload_n (i := 2) (by decide +kernel) rfl ?_
  refine x_isub (nI (need - cap)) (by decide +kernel) (pk_sub (by omega)) ?_
  refine x_if (cc := .le) (off := 24) 38 (by decide +kernel) rfl (fun qq => absurd qq (show ¬ nI (need - cap) ≤ 0 from nI_nle (by omega) (by omega))) (fun _ => ?_)
  refine x_aload_n (i := 0) (by decide +kernel) rfl ?_
  refine x_aload_n (i := 0) (by decide +kernel) rfl ?_
  refine x_get (i := 15) (ci := 9) (T := TJ4) (w := 522) 0 (by decide +kernel) rfl (by decide) (by decide +kernel) hr he rfl ?_
  refine x_aload_n (i := 0) (by decide +kernel) rfl ?_
  refine x_iload_n (i := 1) (by decide +kernel) rfl ?_
  refine x_callUp (i := 104) (d' := (d - 1)) (w := 587) (w2 := 905) (Mc := M_J5_newCapacity_0f7a4) (x := yJ5_newCapacity_0f7a4) (C := RJ4) (b0 := cJ5_newCapacity_0f7a4) (m0 := 6) (r0 := (some .int)) [.int (nI need)] rfl (by decide +kernel) (by decide +kernel) xg_J5_newCapacity_0f7a4 (by decide +kernel) (mm_in 589 (by decide +kernel) rfl) (mm_in 590 (by decide +kernel) rfl) (by decide +kernel) (fun _ _ _ hS => va_Nw.use rfl (hS.2.2.2.2.2.2.2.2.2.2.1.2 yJ5_newCapacity_0f7a4 (by simp [xPriv]))) (xRc.own (q := vwCl.getD 9 ("", TX0, 0)) hr he rfl) (t_newCap (by omega) hr hvn hrv he hv hc (by omega)) (by omega) (by omega) (by omega) rfl (by simp [Value.category]) ?_
  refine x_aload_n (i := 0) (by decide +kernel) rfl ?_
  refine x_get (i := 22) (ci := 9) (T := TJ4) (w := 523) 1 (by decide +kernel) rfl (by decide) (by decide +kernel) hr he rfl ?_
  refine x_ishl (nI (cap + max (need - cap) (cap + 2))) (by decide +kernel) (sb_shl0 _) ?_
  refine x_callS (i := 108) (d' := (d - 1)) (w := 602) (Mc := M_J7_copyOf_9075b) [.ref (G.B + v), .int (nI (cap + max (need - cap) (cap + 2)))] rfl (by decide +kernel) (by decide +kernel) g_J7_copyOf_9075b (t_copyOf (by omega) hvn hv hf (by omega) (by omega)) (by omega) (by omega) (by omega) rfl (fun v1 n1 es1 hP _ => by have := hP.2.1; omega) (by simp [Value.category]) (fun v1 n1 es1 hP hn => ?_)
  obtain ⟨rfl, rfl, h3, g, h4, h5, h6⟩ := hP
  have e1_r : es1 r = .inr (9, [.ref (G.B + v), .int 0, v2, v3]) := (h3 r (by omega)).trans he
  have e1_v : es1 v = .inl (G.cA 7, cap, .inl f) := (h3 v (by omega)).trans hv
  refine x_putQ (i := 15) (w := 522) (ci := 9) (T := TJ4) 0 (.array .byte) (by decide +kernel) rfl (by decide) (by decide +kernel) rfl (by decide +kernel) rfl rfl (by omega) e1_r (by simp) (fun es2 hu2 ho2 => ?_)
  have e2_r : es2 r = .inr (9, [.ref (G.B + n), .int 0, v2, v3]) := hu2
  have e2_v : es2 v = .inl (G.cA 7, cap, .inl f) := (ho2 v (by omega)).trans e1_v
  have e2_n : es2 n = .inl (G.cA 7, cap + max (need - cap) (cap + 2), .inl g) := (ho2 n (by omega)).trans h4
  exact x_return (by decide +kernel) rfl (by omega) (by omega) (fun _ _ _ h => ⟨_, _, _, rfl, ⟨rfl, rfl, fun x h1 h2 => (ho2 x h1).trans (h3 x h2), e2_r, g, e2_n, h5, h6⟩, by omega, h⟩)
