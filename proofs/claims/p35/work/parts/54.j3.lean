/-! ===== the JDK: what is appended ===== -/
def bPost (G : xG) (n : Nat) (es : Nat → va_E) (r v : Nat) (t : List Int32) : Option Value → Nat → (Nat → va_E) → Prop := fun o n1 es1 => o = some (.ref (G.B + r)) ∧ (n1 = n ∨ n1 = n + 1) ∧ ∃ v1, bLd G n1 es1 r v1 t ∧ (v1 = v ∨ v1 = n) ∧ ∀ x, x < n → x ≠ r → x ≠ v → es1 x = es x
theorem bLd.mk1 {G : xG} {n r v cap c : Nat} {es : Nat → va_E} {t : List Int32} {g : Nat → Int32} (hr : r < n) (hv : v < n) (e1 : es r = .inr (9, [.ref (G.B + v), .int 0, .int 0, .int (nI (t.length + 1))])) (e2 : es v = .inl (G.cA 7, cap, .inl (upd g t.length (nI c)))) (hg : bFit g) (hh : hasT g t) (hc : c < 128) (h1 : t.length + 1 ≤ cap) (h2 : cap ≤ 16 + 2 * (t.length + 1)) : bLd G n es r v (t ++ [nI c]) := by
  have hl : (t ++ [nI c]).length = t.length + 1 := by simp
  refine ⟨hr, hv, by rw [hl]; exact e1, cap, _, e2, by omega, by omega, hg.upd hc, (hh.of (fun j hj => pk_un (by omega))).app (fun j x hj => ?_)⟩
  cases j with
  | zero =>
    cases hj
    exact pk_us
  | succ j => cases hj
theorem bLd.mkS {G : xG} {n r v cap : Nat} {es : Nat → va_E} {t u : List Int32} {f g : Nat → Int32} (hr : r < n) (hv : v < n) (e1 : es r = .inr (9, [.ref (G.B + v), .int 0, .int 0, .int (nI (t.length + u.length))])) (e2 : es v = .inl (G.cA 7, cap, .inl g)) (hg : bFit g) (hh : hasT f t) (h3 : ∀ j, j < t.length → g j = f j) (h4 : ∀ (j : Nat) (x : Int32), u[j]? = some x → g (t.length + j) = x) (h1 : t.length + u.length ≤ cap) (h2 : cap ≤ 16 + 2 * (t.length + u.length)) : bLd G n es r v (t ++ u) := by
  have hl : (t ++ u).length = t.length + u.length := by simp
  exact ⟨hr, hv, by rw [hl]; exact e1, cap, g, e2, by omega, by omega, hg, (hh.of h3).app h4⟩
theorem t_appC {d : Nat} {l : Launch} {G : xG} {n : Nat} {es : Nat → va_E} {mc ms k z r v cap c m : Nat} {f : Nat → Int32} {Qc : Array Value → State → Outcome → State → Prop} (hd : 2 ≤ d) (hk : k ≤ mc) (hz : z ≤ ms) (hr : r < n) (hvn : v < n) (hrv : r ≠ v) (he : es r = .inr (9, [.ref (G.B + v), .int 0, .int 0, .int (nI m)])) (hv : es v = .inl (G.cA 7, cap, .inl f)) (hm : m < cap) (hcap : cap ≤ 5000) (hc : c < 128) (kk : ∀ es1, es1 r = .inr (9, [.ref (G.B + v), .int 0, .int 0, .int (nI (m + 1))]) → es1 v = .inl (G.cA 7, cap, .inl (upd f m (nI c))) → (∀ x, x ≠ r → x ≠ v → es1 x = es x) → ∀ (a : Array Value) (s t : State), ctH G.B G.H0 G.D n es1 t.heap → Qc a s (.returned (some (.ref (G.B + r)))) t) : xE true d M_J5_append_3fe6f l G mc ms n es k z 10 [.ref (G.B + r), .int (nI c)] [] Qc := by
  refine x_aload_n (i := 0) (by decide +kernel) rfl ?_
  refine x_callUp (i := 83) (d' := (d - 1)) (w := 616) (w2 := 618) (Mc := M_J5_isLatin1_aae02) (x := yJ5_isLatin1_aae02) (C := RJ4) (b0 := cJ5_isLatin1_aae02) (m0 := 1) (r0 := (some .boolean)) [] rfl (by decide +kernel) (by decide +kernel) xg_J5_isLatin1_aae02 (by decide +kernel) (mm_in 617 (by decide +kernel) rfl) (mm_in 620 (by decide +kernel) rfl) (by decide +kernel) (fun _ _ h _ => h _ (mm_in 619 (by decide +kernel) rfl)) (xRc.own (q := vwCl.getD 9 ("", TX0, 0)) hr he rfl) (t_latin (by omega) hr he) (by omega) (by omega) (by omega) rfl (by simp [Value.category]) ?_
  refine x_if (cc := .eq) (off := 31) 45 (by decide +kernel) rfl (fun qq => absurd qq (show ¬ (nI 1 = 0) by decide)) (fun _ => ?_)
  refine x_iload_n (i := 1) (by decide +kernel) rfl ?_
  refine x_callSp (i := 191) (d' := (d - 1)) (w := 621) (Mc := M_J1_canEncode_fc78d) [.int (nI c)] rfl (by decide +kernel) (by decide +kernel) g_J1_canEncode_fc78d (t_can (by omega) hc) (by omega) (by omega) (by omega) rfl (by simp [Value.category]) ?_
  refine x_if (cc := .eq) (off := 24) 45 (by decide +kernel) rfl (fun qq => absurd qq (show ¬ (nI 1 = 0) by decide)) (fun _ => ?_)
  refine x_aload_n (i := 0) (by decide +kernel) rfl ?_
  refine x_get (i := 15) (ci := 9) (T := TJ4) (w := 522) 0 (by decide +kernel) rfl (by decide) (by decide +kernel) hr he rfl ?_
  refine x_aload_n (i := 0) (by decide +kernel) rfl ?_
  refine x_dup (by decide +kernel) rfl ?_
  refine x_get (i := 79) (ci := 9) (T := TJ4) (w := 525) 3 (by decide +kernel) rfl (by decide) (by decide +kernel) hr he rfl ?_
  refine x_dup_x1 (by decide +kernel) rfl rfl ?_
  refine x_iconst (i := 1) (nI 1) (by decide +kernel) (by decide +kernel) ?_
  refine x_iadd (nI (m + 1)) (by decide +kernel) (nI_add _ _) ?_
  refine x_putQ (i := 79) (w := 525) (ci := 9) (T := TJ4) 3 .int (by decide +kernel) rfl (by decide) (by decide +kernel) rfl (by decide +kernel) rfl rfl hr he (by simp) (fun es1 hu1 ho1 => ?_)
  have e1_r : es1 r = .inr (9, [.ref (G.B + v), .int 0, .int 0, .int (nI (m + 1))]) := hu1
  have e1_v : es1 v = .inl (G.cA 7, cap, .inl f) := (ho1 v (by omega)).trans hv
  refine x_iload_n (i := 1) (by decide +kernel) rfl ?_
  refine x_i2b (nI c) (by decide +kernel) (nar_nI c hc).2 ?_
  refine x_bastQ (i := m) (c := c) (by decide +kernel) hvn e1_v (by omega) (by omega) (by omega) (fun es2 hu2 ho2 => ?_)
  have e2_r : es2 r = .inr (9, [.ref (G.B + v), .int 0, .int 0, .int (nI (m + 1))]) := (ho2 r (by omega)).trans e1_r
  refine x_goto (off := 33) 75 (by decide +kernel) rfl ?_
  refine x_aload_n (i := 0) (by decide +kernel) rfl ?_
  exact x_areturn (.object RJ5) (by decide +kernel) rfl (Or.inl ⟨_, rfl⟩) (by omega) (by omega) (fun a s t h => kk _ e2_r hu2 (fun x h1 h2 => (ho2 x h2).trans (ho1 x h1)) a s t h)
theorem t_app5C {d : Nat} {l : Launch} {G : xG} {n : Nat} {es : Nat → va_E} {r v c : Nat} {t : List Int32} (hd : 5 ≤ d) (hb : bLd G n es r v t) (hc : c < 128) (hl : t.length ≤ 900) : xMet d 1 (2 * (t.length + 1)) M_J5_append_3fe6f l G n es [.ref (G.B + r), .int (nI c)] (bPost G n es r v (t ++ [nI c])) := by
  obtain ⟨hr, hvn, he, cap, f, hv, hlc, hcc, hf, hh⟩ := id hb
  have hrv := hb.ne
  refine xMet.of true (j := 0) (by decide +kernel) (catL rfl) rfl ?_
  refine x_aload_n (i := 0) (by decide +kernel) rfl ?_
  refine x_aload_n (i := 0) (by decide +kernel) rfl ?_
  refine x_get (i := 79) (ci := 9) (T := TJ4) (w := 525) 3 (by decide +kernel) rfl (by decide) (by decide +kernel) hr he rfl ?_
  refine x_iconst (i := 1) (nI 1) (by decide +kernel) (by decide +kernel) ?_
  refine x_iadd (nI (t.length + 1)) (by decide +kernel) (nI_add _ _) ?_
  by_cases hcap : t.length + 1 ≤ cap
  · refine x_callUp (i := 100) (d' := (d - 1)) (w := 583) (w2 := 904) (Mc := M_J5_ensureCapacityInternal_d00df) (x := yJ5_ensureCapacityInternal_d00df) (C := RJ4) (b0 := cJ5_ensureCapacityInternal_d00df) (m0 := 3) (r0 := none) [.int (nI (t.length + 1))] rfl (by decide +kernel) (by decide +kernel) xg_J5_ensureCapacityInternal_d00df (by decide +kernel) (mm_in 585 (by decide +kernel) rfl) (mm_in 586 (by decide +kernel) rfl) (by decide +kernel) (fun _ _ _ hS => va_Nw.use rfl (hS.2.2.2.2.2.2.2.2.2.2.1.2 yJ5_ensureCapacityInternal_d00df (by simp [xPriv]))) (xRc.own (q := vwCl.getD 9 ("", TX0, 0)) hr he rfl) (t_ens0 (by omega) hr hvn hrv he hv hcap (by omega)) (by omega) (by omega) (by omega) rfl (by simp [Value.category]) ?_
    exact t_appC (by omega) (by omega) (by omega) hr hvn hrv he hv (by omega) (by omega) hc (fun es1 e1 e2 e3 a s tt h => ⟨_, _, _, rfl, ⟨rfl, Or.inl rfl, v, bLd.mk1 hr hvn e1 e2 hf hh hc hcap (by omega), Or.inl rfl, fun x _ h1 h2 => e3 x h1 h2⟩, Nat.le_refl _, h⟩)
  · refine x_callU (i := 100) (d' := (d - 1)) (w := 583) (w2 := 904) (Mc := M_J5_ensureCapacityInternal_d00df) (x := yJ5_ensureCapacityInternal_d00df) (C := RJ4) (b0 := cJ5_ensureCapacityInternal_d00df) (m0 := 3) (r0 := none) [.int (nI (t.length + 1))] rfl (by decide +kernel) (by decide +kernel) xg_J5_ensureCapacityInternal_d00df (by decide +kernel) (mm_in 585 (by decide +kernel) rfl) (mm_in 586 (by decide +kernel) rfl) (by decide +kernel) (fun _ _ _ hS => va_Nw.use rfl (hS.2.2.2.2.2.2.2.2.2.2.1.2 yJ5_ensureCapacityInternal_d00df (by simp [xPriv]))) (xRc.own (q := vwCl.getD 9 ("", TX0, 0)) hr he rfl) (t_ens1 (by omega) hr hvn hrv he hv hf (by omega) (by omega)) (by omega) (by omega) (by omega) rfl (fun v1 n1 es1 hP _ => by have := hP.2.1; omega) (by simp [Value.category]) (fun v1 n1 es1 hP hn => ?_)
    obtain ⟨rfl, rfl, h3, h4, g, h5, h6, h7⟩ := hP
    exact t_appC (by omega) (by omega) (by omega) (by omega) (by omega) (by omega) h4 h5 (by omega) (by omega) hc (fun es2 e1 e2 e3 a s tt h => ⟨_, _, _, rfl, ⟨rfl, Or.inr rfl, n, bLd.mk1 (by omega) (by omega) e1 e2 h6 (hh.of fun j hj => h7 j (by omega)) hc (by omega) (by omega), Or.inr rfl, fun x h0 h1 h2 => (e3 x h1 (by omega)).trans (h3 x h1 (by omega))⟩, by omega, h⟩)
theorem t_appendC {d : Nat} {l : Launch} {G : xG} {n : Nat} {es : Nat → va_E} {r v c : Nat} {t : List Int32} (hd : 6 ≤ d) (hb : bLd G n es r v t) (hc : c < 128) (hl : t.length ≤ 900) : xMet d 1 (2 * (t.length + 1)) M_J4_append_cf468 l G n es [.ref (G.B + r), .int (nI c)] (bPost G n es r v (t ++ [nI c])) := by
  refine xMet.of false (j := 0) (by decide +kernel) (catL rfl) rfl ?_
  refine x_aload_n (i := 0) (by decide +kernel) rfl ?_
  refine x_iload_n (i := 1) (by decide +kernel) rfl ?_
  refine x_callSU (i := 50) (d' := (d - 1)) (w := 580) (w2 := 903) (w3 := 534) (Mc := M_J5_append_3fe6f) (ci := 9) (q := (RJ4, TJ4, 4)) [.int (nI c)] rfl (by decide +kernel) (by decide +kernel) xg_J5_append_3fe6f (by decide) (by decide +kernel) (by decide +kernel) rfl (xRc.own (q := vwCl.getD 9 ("", TX0, 0)) hb.1 hb.2.2.1 rfl) (t_app5C (by omega) hb hc hl) (by omega) (by omega) (by omega) rfl (fun _ _ _ _ q => by cases q) (by simp [Value.category]) (fun v1 n1 es1 hP hn => ?_)
  obtain ⟨rfl, h1, h2⟩ := hP
  refine x_pop (by decide +kernel) rfl ?_
  refine x_aload_n (i := 0) (by decide +kernel) rfl ?_
  exact x_areturn (.object RJ4) (by decide +kernel) rfl (Or.inl ⟨_, rfl⟩) (by omega) (by omega) (fun _ _ _ h => ⟨_, _, _, rfl, ⟨rfl, h1, h2⟩, hn, h⟩)
theorem t_infl {d : Nat} {l : Launch} {G : xG} {n : Nat} {es : Nat → va_E} {r a : Nat} {v0 v2 v3 : Value} {U : Nat → Prop} {u : List Int32} (hd : 1 ≤ d) (hr : r < n) (he : es r = .inr (9, [v0, .int 0, v2, v3])) (ht : tS G n es U a u) : xMet d 0 0 M_J5_inflateIfNeededFor_a7421 l G n es [.ref (G.B + r), .ref a] (xPu n es none) := by
  refine xMet.of true (j := 0) (by decide +kernel) (catL rfl) rfl ?_
  refine x_compact (i := 18) (w := 513) (by decide +kernel) (by decide +kernel) ?_
  refine x_if (cc := .eq) (off := 18) 21 (by decide +kernel) rfl (fun qq => absurd qq (show ¬ ((1 : Int32) = 0) by decide)) (fun _ => ?_)
  refine x_aload_n (i := 0) (by decide +kernel) rfl ?_
  refine x_get (i := 22) (ci := 9) (T := TJ4) (w := 523) 1 (by decide +kernel) rfl (by decide) (by decide +kernel) hr he rfl ?_
  refine x_aload_n (i := 1) (by decide +kernel) rfl ?_
  refine x_callVp (i := 40) (d' := (d - 1)) (w := 689) (Mc := M_J0_coder_7d493) [] rfl (by decide +kernel) (by decide +kernel) g_J0_coder_7d493 ht.rc (t_coder (by omega) ht) (by omega) (by omega) (by omega) rfl (by simp [Value.category]) ?_
  refine x_icmp (cc := .eq) (off := 7) 21 (by decide +kernel) rfl (fun _ => ?_) (fun qq => absurd (show (0 : Int32) = 0 from rfl) qq)
  exact x_return (by decide +kernel) rfl (by omega) (by omega) (fun _ _ _ h => ⟨_, _, _, rfl, ⟨rfl, rfl, rfl⟩, Nat.le_refl _, h⟩)
theorem t_getBytes {d : Nat} {l : Launch} {G : xG} {n : Nat} {es : Nat → va_E} {v a m cap : Nat} {f : Nat → Int32} {U : Nat → Prop} {u : List Int32} (hd : 1 ≤ d) (ht : tS G n es U a u) (hvn : v < n) (hv : es v = .inl (G.cA 7, cap, .inl f)) (hf : bFit f) (hm : m + u.length ≤ cap) (hcap : cap ≤ 5000) : xMet d 0 0 M_J0_getBytes_840e7 l G n es [.ref a, .ref (G.B + v), .int (nI m), .int 0] (fun o n1 es1 => o = none ∧ n1 = n ∧ ∃ g, es1 v = .inl (G.cA 7, cap, .inl g) ∧ bFit g ∧ (∀ j, j < m → g j = f j) ∧ (∀ (j : Nat) (x : Int32), u[j]? = some x → g (m + j) = x) ∧ ∀ x, x ≠ v → es1 x = es x) := by
  refine xMet.of true (j := 0) (by decide +kernel) (catL rfl) rfl ?_
  refine x_aload_n (i := 0) (by decide +kernel) rfl ?_
  refine x_callVp (i := 335) (d' := (d - 1)) (w := 677) (Mc := M_J0_coder_7d493) [] rfl (by decide +kernel) (by decide +kernel) g_J0_coder_7d493 ht.rc (t_coder (by omega) ht) (by omega) (by omega) (by omega) rfl (by simp [Value.category]) ?_
  refine x_iload_n (i := 3) (by decide +kernel) rfl ?_
  refine x_icmp (cc := .ne) (off := 23) 28 (by decide +kernel) rfl (fun qq => absurd (show (0 : Int32) = 0 from rfl) qq) (fun _ => ?_)
  refine x_aload_n (i := 0) (by decide +kernel) rfl ?_
  refine x_tval (i := 9) (w := 742) (by decide +kernel) (by decide +kernel) ht (fun wa1 ta1 => ?_)
  refine x_iconst (i := 0) (nI 0) (by decide +kernel) (by decide +kernel) ?_
  refine x_aload_n (i := 1) (by decide +kernel) rfl ?_
  refine x_iload_n (i := 2) (by decide +kernel) rfl ?_
  refine x_iload_n (i := 3) (by decide +kernel) rfl ?_
  refine x_ishl (nI m) (by decide +kernel) (sb_shl0 _) ?_
  refine x_aload_n (i := 0) (by decide +kernel) rfl ?_
  refine x_tval (i := 9) (w := 742) (by decide +kernel) (by decide +kernel) ht (fun wa2 ta2 => ?_)
  refine x_talen (by decide +kernel) ta2 ?_
  refine x_copyTQ (i := 212) (w := 694) (dp := m) (by decide +kernel) (by decide +kernel) (by omega) ta1 hvn hv hf hm (by omega) (by simp [Value.category]) (fun g es1 g1 g2 g3 hu1 ho1 => ?_)
  refine x_goto (off := 18) 43 (by decide +kernel) rfl ?_
  exact x_return (by decide +kernel) rfl (by omega) (by omega) (fun _ _ _ h => ⟨_, _, _, rfl, ⟨rfl, rfl, g, hu1, g1, g2, g3, ho1⟩, Nat.le_refl _, h⟩)
theorem t_putStr {d : Nat} {l : Launch} {G : xG} {n : Nat} {es : Nat → va_E} {r v a m cap : Nat} {v2 v3 : Value} {f : Nat → Int32} {U : Nat → Prop} {u : List Int32} (hd : 2 ≤ d) (hr : r < n) (he : es r = .inr (9, [.ref (G.B + v), .int 0, v2, v3])) (ht : tS G n es U a u) (hvn : v < n) (hv : es v = .inl (G.cA 7, cap, .inl f)) (hf : bFit f) (hm : m + u.length ≤ cap) (hcap : cap ≤ 5000) : xMet d 0 0 M_J5_putStringAt_47b60 l G n es [.ref (G.B + r), .int (nI m), .ref a] (fun o n1 es1 => o = none ∧ n1 = n ∧ ∃ g, es1 v = .inl (G.cA 7, cap, .inl g) ∧ bFit g ∧ (∀ j, j < m → g j = f j) ∧ (∀ (j : Nat) (x : Int32), u[j]? = some x → g (m + j) = x) ∧ ∀ x, x ≠ v → es1 x = es x) := by
  refine xMet.of true (j := 0) (by decide +kernel) (catL rfl) rfl ?_
  refine x_aload_n (i := 0) (by decide +kernel) rfl ?_
  refine x_aload_n (i := 2) (by decide +kernel) rfl ?_
  refine x_callUp (i := 397) (d' := (d - 1)) (w := 685) (w2 := 910) (Mc := M_J5_inflateIfNeededFor_a7421) (x := yJ5_inflateIfNeededFor_a7421) (C := RJ4) (b0 := cJ5_inflateIfNeededFor_a7421) (m0 := 2) (r0 := none) [.ref a] rfl (by decide +kernel) (by decide +kernel) xg_J5_inflateIfNeededFor_a7421 (by decide +kernel) (mm_in 687 (by decide +kernel) rfl) (mm_in 688 (by decide +kernel) rfl) (by decide +kernel) (fun _ _ _ hS => va_Nw.use rfl (hS.2.2.2.2.2.2.2.2.2.2.1.2 yJ5_inflateIfNeededFor_a7421 (by simp [xPriv]))) (xRc.own (q := vwCl.getD 9 ("", TX0, 0)) hr he rfl) (t_infl (by omega) hr he ht) (by omega) (by omega) (by omega) rfl (by simp [Value.category]) ?_
  refine x_aload_n (i := 2) (by decide +kernel) rfl ?_
  refine x_aload_n (i := 0) (by decide +kernel) rfl ?_
  refine x_get (i := 15) (ci := 9) (T := TJ4) (w := 522) 0 (by decide +kernel) rfl (by decide) (by decide +kernel) hr he rfl ?_
  refine x_iload_n (i := 1) (by decide +kernel) rfl ?_
  refine x_aload_n (i := 0) (by decide +kernel) rfl ?_
  refine x_get (i := 22) (ci := 9) (T := TJ4) (w := 523) 1 (by decide +kernel) rfl (by decide) (by decide +kernel) hr he rfl ?_
  refine x_callV (i := 399) (d' := (d - 1)) (w := 690) (Mc := M_J0_getBytes_840e7) [.ref (G.B + v), .int (nI m), .int 0] rfl (by decide +kernel) (by decide +kernel) g_J0_getBytes_840e7 ht.rc (t_getBytes (by omega) ht hvn hv hf hm hcap) (by omega) (by omega) (by omega) rfl (fun v1 n1 es1 hP _ => by have := hP.2.1; omega) (by simp [Value.category]) (fun v1 n1 es1 hP hn => ?_)
  obtain ⟨rfl, rfl, hP⟩ := hP
  exact x_return (by decide +kernel) rfl (by omega) (by omega) (fun _ _ _ h => ⟨_, _, _, rfl, ⟨rfl, rfl, hP⟩, Nat.le_refl _, h⟩)
theorem t_appS {d : Nat} {l : Launch} {G : xG} {n : Nat} {es : Nat → va_E} {mc ms k z r v a cap m : Nat} {f : Nat → Int32} {U : Nat → Prop} {u : List Int32} {Qc : Array Value → State → Outcome → State → Prop} (hd : 3 ≤ d) (hk : k ≤ mc) (hz : z ≤ ms) (hr : r < n) (hvn : v < n) (hrv : r ≠ v) (he : es r = .inr (9, [.ref (G.B + v), .int 0, .int 0, .int (nI m)])) (hv : es v = .inl (G.cA 7, cap, .inl f)) (hf : bFit f) (ht : tS G n es U a u) (hm : m + u.length ≤ cap) (hcap : cap ≤ 5000) (kk : ∀ es1 g, es1 r = .inr (9, [.ref (G.B + v), .int 0, .int 0, .int (nI (m + u.length))]) → es1 v = .inl (G.cA 7, cap, .inl g) → bFit g → (∀ j, j < m → g j = f j) → (∀ (j : Nat) (x : Int32), u[j]? = some x → g (m + j) = x) → (∀ x, x ≠ r → x ≠ v → es1 x = es x) → ∀ (a : Array Value) (s t : State), ctH G.B G.H0 G.D n es1 t.heap → Qc a s (.returned (some (.ref (G.B + r)))) t) : xE true d M_J5_append_cf1ce l G mc ms n es k z 24 [.ref (G.B + r), .ref a, .int (nI u.length)] [] Qc := by
  refine x_aload_n (i := 0) (by decide +kernel) rfl ?_
  refine x_aload_n (i := 0) (by decide +kernel) rfl ?_
  refine x_get (i := 79) (ci := 9) (T := TJ4) (w := 525) 3 (by decide +kernel) rfl (by decide) (by decide +kernel) hr he rfl ?_
  refine x_aload_n (i := 1) (by decide +kernel) rfl ?_
  refine x_callU (i := 208) (d' := (d - 1)) (w := 681) (w2 := 909) (Mc := M_J5_putStringAt_47b60) (x := yJ5_putStringAt_47b60) (C := RJ4) (b0 := cJ5_putStringAt_47b60) (m0 := 3) (r0 := none) [.int (nI m), .ref a] rfl (by decide +kernel) (by decide +kernel) xg_J5_putStringAt_47b60 (by decide +kernel) (mm_in 683 (by decide +kernel) rfl) (mm_in 684 (by decide +kernel) rfl) (by decide +kernel) (fun _ _ _ hS => va_Nw.use rfl (hS.2.2.2.2.2.2.2.2.2.2.1.2 yJ5_putStringAt_47b60 (by simp [xPriv]))) (xRc.own (q := vwCl.getD 9 ("", TX0, 0)) hr he rfl) (t_putStr (by omega) hr he ht hvn hv hf hm hcap) (by omega) (by omega) (by omega) rfl (fun v1 n1 es1 hP _ => by have := hP.2.1; omega) (by simp [Value.category]) (fun v1 n1 es1 hP hn => ?_)
  obtain ⟨rfl, rfl, g, g1, g2, g3, g4, g5⟩ := hP
  have e1_r : es1 r = .inr (9, [.ref (G.B + v), .int 0, .int 0, .int (nI m)]) := (g5 r (by omega)).trans he
  refine x_aload_n (i := 0) (by decide +kernel) rfl ?_
  refine x_dup (by decide +kernel) rfl ?_
  refine x_get (i := 79) (ci := 9) (T := TJ4) (w := 525) 3 (by decide +kernel) rfl (by decide) (by decide +kernel) hr e1_r rfl ?_
  refine x_iload_n (i := 2) (by decide +kernel) rfl ?_
  refine x_iadd (nI (m + u.length)) (by decide +kernel) (nI_add _ _) ?_
  refine x_putQ (i := 79) (w := 525) (ci := 9) (T := TJ4) 3 .int (by decide +kernel) rfl (by decide) (by decide +kernel) rfl (by decide +kernel) rfl rfl hr e1_r (by simp) (fun es2 hu2 ho2 => ?_)
  have e2_r : es2 r = .inr (9, [.ref (G.B + v), .int 0, .int 0, .int (nI (m + u.length))]) := hu2
  have e2_v : es2 v = .inl (G.cA 7, cap, .inl g) := (ho2 v (by omega)).trans g1
  refine x_aload_n (i := 0) (by decide +kernel) rfl ?_
  exact x_areturn (.object RJ5) (by decide +kernel) rfl (Or.inl ⟨_, rfl⟩) (by omega) (by omega) (fun a s t h => kk _ g e2_r e2_v g2 g3 g4 (fun x h1 h2 => (ho2 x h1).trans (g5 x h2)) a s t h)
theorem t_app5S {d : Nat} {l : Launch} {G : xG} {n : Nat} {es : Nat → va_E} {r v a : Nat} {U : Nat → Prop} {t u : List Int32} (hd : 5 ≤ d) (hb : bLd G n es r v t) (ht : tS G n es U a u) (hU : ∀ x, x < n → U x → x ≠ r) (hl : t.length + u.length ≤ 900) : xMet d 1 (2 * (t.length + u.length)) M_J5_append_cf1ce l G n es [.ref (G.B + r), .ref a] (bPost G n es r v (t ++ u)) := by
  obtain ⟨hr, hvn, he, cap, f, hv, hlc, hcc, hf, hh⟩ := id hb
  have hrv := hb.ne
  refine xMet.of true (j := 1) (by decide +kernel) (catL rfl) rfl ?_
  refine x_aload_n (i := 1) (by decide +kernel) rfl ?_
  refine x_ifnonnull (off := 8) 9 (by decide +kernel) rfl ?_
  refine x_aload_n (i := 1) (by decide +kernel) rfl ?_
  refine x_callVp (i := 32) (d' := (d - 1)) (w := 673) (Mc := M_J0_length_8abf5) [] rfl (by decide +kernel) (by decide +kernel) g_J0_length_8abf5 ht.rc (t_length (by omega) ht) (by omega) (by omega) (by omega) rfl (by simp [Value.category]) ?_
  refine x_istore_n (i := 2) (by decide +kernel) (by decide) (catL rfl) ?_
  refine x_aload_n (i := 0) (by decide +kernel) rfl ?_
  refine x_aload_n (i := 0) (by decide +kernel) rfl ?_
  refine x_get (i := 79) (ci := 9) (T := TJ4) (w := 525) 3 (by decide +kernel) rfl (by decide) (by decide +kernel) hr he rfl ?_
  refine x_iload_n (i := 2) (by decide +kernel) rfl ?_
  refine x_iadd (nI (t.length + u.length)) (by decide +kernel) (nI_add _ _) ?_
  by_cases hcap : t.length + u.length ≤ cap
  · refine x_callUp (i := 100) (d' := (d - 1)) (w := 583) (w2 := 904) (Mc := M_J5_ensureCapacityInternal_d00df) (x := yJ5_ensureCapacityInternal_d00df) (C := RJ4) (b0 := cJ5_ensureCapacityInternal_d00df) (m0 := 3) (r0 := none) [.int (nI (t.length + u.length))] rfl (by decide +kernel) (by decide +kernel) xg_J5_ensureCapacityInternal_d00df (by decide +kernel) (mm_in 585 (by decide +kernel) rfl) (mm_in 586 (by decide +kernel) rfl) (by decide +kernel) (fun _ _ _ hS => va_Nw.use rfl (hS.2.2.2.2.2.2.2.2.2.2.1.2 yJ5_ensureCapacityInternal_d00df (by simp [xPriv]))) (xRc.own (q := vwCl.getD 9 ("", TX0, 0)) hr he rfl) (t_ens0 (by omega) hr hvn hrv he hv hcap (by omega)) (by omega) (by omega) (by omega) rfl (by simp [Value.category]) ?_
    exact t_appS (by omega) (by omega) (by omega) hr hvn hrv he hv hf ht (by omega) (by omega) (fun es1 g e1 e2 e3 e4 e5 e6 a s tt h => ⟨_, _, _, rfl, ⟨rfl, Or.inl rfl, v, bLd.mkS hr hvn e1 e2 e3 hh e4 e5 hcap (by omega), Or.inl rfl, fun x _ h1 h2 => e6 x h1 h2⟩, Nat.le_refl _, h⟩)
  · refine x_callU (i := 100) (d' := (d - 1)) (w := 583) (w2 := 904) (Mc := M_J5_ensureCapacityInternal_d00df) (x := yJ5_ensureCapacityInternal_d00df) (C := RJ4) (b0 := cJ5_ensureCapacityInternal_d00df) (m0 := 3) (r0 := none) [.int (nI (t.length + u.length))] rfl (by decide +kernel) (by decide +kernel) xg_J5_ensureCapacityInternal_d00df (by decide +kernel) (mm_in 585 (by decide +kernel) rfl) (mm_in 586 (by decide +kernel) rfl) (by decide +kernel) (fun _ _ _ hS => va_Nw.use rfl (hS.2.2.2.2.2.2.2.2.2.2.1.2 yJ5_ensureCapacityInternal_d00df (by simp [xPriv]))) (xRc.own (q := vwCl.getD 9 ("", TX0, 0)) hr he rfl) (t_ens1 (by omega) hr hvn hrv he hv hf (by omega) (by omega)) (by omega) (by omega) (by omega) rfl (fun v1 n1 es1 hP _ => by have := hP.2.1; omega) (by simp [Value.category]) (fun v1 n1 es1 hP hn => ?_)
    obtain ⟨rfl, rfl, h3, h4, g, h5, h6, h7⟩ := hP
    have ht2 : tS G (n + 1) es1 U a u := ht.fr (by omega) (fun x h0 h1 => h3 x (hU x h0 h1) (by omega))
    exact t_appS (by omega) (by omega) (by omega) (by omega) (by omega) (by omega) h4 h5 h6 ht2 (by omega) (by omega) (fun es2 g e1 e2 e3 e4 e5 e6 a s tt h => ⟨_, _, _, rfl, ⟨rfl, Or.inr rfl, n, bLd.mkS (by omega) (by omega) e1 e2 e3 (hh.of fun j hj => h7 j (by omega)) e4 e5 (by omega) (by omega), Or.inr rfl, fun x h0 h1 h2 => (e6 x h1 (by omega)).trans (h3 x h1 (by omega))⟩, by omega, h⟩)
theorem t_appendS {d : Nat} {l : Launch} {G : xG} {n : Nat} {es : Nat → va_E} {r v a : Nat} {U : Nat → Prop} {t u : List Int32} (hd : 6 ≤ d) (hb : bLd G n es r v t) (ht : tS G n es U a u) (hU : ∀ x, x < n → U x → x ≠ r) (hl : t.length + u.length ≤ 900) : xMet d 1 (2 * (t.length + u.length)) M_J4_append_15ec4 l G n es [.ref (G.B + r), .ref a] (bPost G n es r v (t ++ u)) := by
  refine xMet.of false (j := 0) (by decide +kernel) (catL rfl) rfl ?_
  refine x_aload_n (i := 0) (by decide +kernel) rfl ?_
  refine x_aload_n (i := 1) (by decide +kernel) rfl ?_
  refine x_callSU (i := 29) (d' := (d - 1)) (w := 654) (w2 := 907) (w3 := 534) (Mc := M_J5_append_cf1ce) (ci := 9) (q := (RJ4, TJ4, 4)) [.ref a] rfl (by decide +kernel) (by decide +kernel) xg_J5_append_cf1ce (by decide) (by decide +kernel) (by decide +kernel) rfl (xRc.own (q := vwCl.getD 9 ("", TX0, 0)) hb.1 hb.2.2.1 rfl) (t_app5S (by omega) hb ht hU hl) (by omega) (by omega) (by omega) rfl (fun _ _ _ _ q => by cases q) (by simp [Value.category]) (fun v1 n1 es1 hP hn => ?_)
  obtain ⟨rfl, h1, h2⟩ := hP
  refine x_pop (by decide +kernel) rfl ?_
  refine x_aload_n (i := 0) (by decide +kernel) rfl ?_
  exact x_areturn (.object RJ4) (by decide +kernel) rfl (Or.inl ⟨_, rfl⟩) (by omega) (by omega) (fun _ _ _ h => ⟨_, _, _, rfl, ⟨rfl, h1, h2⟩, hn, h⟩)
