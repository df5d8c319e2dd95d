/-! ===== read, looks, isLike ===== -/
def xT (G : xG) (n : Nat) (es : Nat → va_E) (T : aT) (I : Option aT) : Prop := ∃ S : aS, S.1 = T ∧ S.2.1 = I ∧ S.2.2.2.2 = [] ∧ xV G n es S
theorem xT.ok {G : xG} {n : Nat} {es : Nat → va_E} {T : aT} {I : Option aT} (h : xT G n es T I) : okT T := by
  obtain ⟨S, rfl, -, -, -, μ, -, h1⟩ := h
  exact h1.2.1
theorem xT.grow {G : xG} {n n1 : Nat} {es es1 : Nat → va_E} {T : aT} {I : Option aT} (h : xT G n es T I) (hn : n ≤ n1) (he : ∀ a, a < n → es1 a = es a) : xT G n1 es1 T I := by
  obtain ⟨S, h1, h2, h3, h4⟩ := h
  exact ⟨S, h1, h2, h3, h4.grow hn he⟩
theorem xV.lo {G : xG} {n n1 : Nat} {es es1 : Nat → va_E} {S : aS} (h : xV G n es S) (hn : 160 ≤ n1) (he : ∀ a, a < 160 → es1 a = es a) : xV G n1 es1 S := by
  obtain ⟨h0, μ, h1, h2⟩ := h
  exact ⟨by omega, μ, fun a ha => (he a ha).trans (h1 a ha), h2⟩
theorem xT.lo {G : xG} {n n1 : Nat} {es es1 : Nat → va_E} {T : aT} {I : Option aT} (h : xT G n es T I) (hn : 160 ≤ n1) (he : ∀ a, a < 160 → es1 a = es a) : xT G n1 es1 T I := by
  obtain ⟨S, h1, h2, h3, h4⟩ := h
  exact ⟨S, h1, h2, h3, h4.lo hn he⟩
theorem y_call {ex : Bool} {d : Nat} {M : mmMi} {l : Launch} {G : xG} {mc ms n : Nat} {es : Nat → va_E} {k z : Nat} {L st : List Value} {pc : Nat} {Qc : Array Value → State → Outcome → State → Prop} {i w na d9 : Nat} {Mc : mmMi} {sp : aS → Int32 × aS} {T : aT} {I : Option aT} {st0 : List Value} (ys : List Int32) (ans : Int32) (T' : aT) (I' : Option aT) (hst : st0 = (ys.map Value.int).reverse ++ .ref (G.B + 0) :: st) (hd : decode M.2.1 pc = .ok (.invokevirtual i, 3)) (hw : lw_tbl[w]? = some (.methodLink M.1.cls i Mc.1)) (hC : Mc.1.cls = RX7) (hd9 : d9 ≤ d) (hr8 : (st.map fun v => v.category).sum ≤ 8) (hk : k ≤ mc) (hz : z ≤ ms) (hT : xT G n es T I) (h : ∀ S μ, CS μ S → mmCI d9 Mc false na (.ref 0 :: ys.map Value.int) μ (fun x ν => x = (sp S).1 ∧ CS ν (sp S).2)) (hp : ∀ S : aS, S.1 = T → S.2.1 = I → (sp S).1 = ans ∧ (sp S).2.1 = T' ∧ (sp S).2.2.1 = I' ∧ (sp S).2.2.2.2.2 = S.2.2.2.2)
    (kk : ∀ es1, xT G n es1 T' I' → (∀ a, 160 ≤ a → es1 a = es a) → xE ex d M l G mc ms n es1 k z (pc + 3) L (.int ans :: st) Qc) : xE ex d M l G mc ms n es k z pc L st0 Qc := by
  obtain ⟨S, e1, e2, e3, hV⟩ := hT
  obtain ⟨q1, q2, q3, q4⟩ := hp S e1 e2
  refine x_cI (R := sp S) ys hst hd hw hC hd9 hr8 hk hz hV (h S) (fun es1 hV1 he => ?_)
  rw [q1]
  exact kk es1 ⟨_, q2, q3, q4.trans e3, hV1⟩ he
theorem sTx_nil {S : aS} (h : S.2.2.2.2 = []) : sTx S [] = S := by
  obtain ⟨a, b, c, e, t⟩ := S
  cases h
  rfl
theorem nI_128 : ∀ c, c < 128 → ¬ (nI c < 0 ∨ ¬ nI c ≤ 127) := by decide +kernel
theorem l_readE {d : Nat} {l : Launch} {G : xG} {n a : Nat} {es0 : Nat → va_E} {t : List Int32} {S : aS} (hd : 12 ≤ d) (ha : ascT t) (hl : t.length ≤ 100) (hS : S.2.2.2.2 = []) :
    ∀ (j i : Nat) (es : Nat → va_E), i + j = t.length → xV G n es (sTx S (t.take i)) → tS G n es (fun x => 160 ≤ x) a t → (∀ x, 160 ≤ x → es x = es0 x) → xE false d M_L_read l G 0 0 n es 0 0 2 [.ref (G.B + 0), .ref a, .int (nI i)] [] (xQc G n (fun o n1 es1 => o = some (.int (sp_read (sTx S t)).1) ∧ n1 = n ∧ xV G n es1 (sp_read (sTx S t)).2 ∧ ∀ x, 160 ≤ x → es1 x = es0 x)) := by
  intro j
  induction j with
  | zero =>
    intro i es hi hV ht he
    have e : i = t.length := by omega
    subst e
    rw [List.take_length] at hV
    refine x_iload_n (i := 2) (by decide +kernel) rfl ?_
    refine x_aload_n (i := 1) (by decide +kernel) rfl ?_
    refine x_callVp (i := 72) (d' := 1) (w := 798) (Mc := M_J0_length_8abf5) [] rfl (by decide +kernel) (by decide +kernel) g_J0_length_8abf5 ht.rc (t_length (Nat.le_refl _) ht) (by omega) (Nat.le_refl _) (Nat.le_refl _) rfl (by simp [Value.category]) ?_
    refine x_icmp (cc := .ge) (off := 28) 35 (by decide +kernel) rfl (fun _ => ?_) (fun q => absurd (Int32.le_refl _) q)
    refine x_aload_n (i := 0) (by decide +kernel) rfl ?_
    refine x_cI (i := 82) (w := 807) (d9 := 11) (R := sp_read (sTx S t)) [] rfl (by decide +kernel) (by decide +kernel) rfl (by omega) (by simp) (Nat.le_refl _) (Nat.le_refl _) hV (fun μ hC => c_read sc_strOK (Nat.le_refl _) hC (fun ν h1 _ => ⟨rfl, h1⟩)) (fun es1 hV1 he1 => ?_)
    exact x_ireturn .int (by decide +kernel) rfl rfl (Nat.le_refl _) (Nat.le_refl _) (fun _ _ _ h => ⟨_, n, es1, rfl, ⟨rfl, rfl, hV1, fun x hx => (he1 x hx).trans (he x hx)⟩, Nat.le_refl _, h⟩)
  | succ j ih =>
    intro i es hi hV ht he
    have hi1 : i < t.length := by omega
    obtain ⟨c, hc, hxc⟩ := ha _ (List.getElem_mem hi1)
    have hx : t[i]? = some (nI c) := by rw [List.getElem?_eq_getElem hi1, hxc]
    have e2 : t.take (i + 1) = t.take i ++ [nI c] := by rw [List.take_succ, hx]; rfl
    have hlen : (t.take i).length = i := by rw [List.length_take]; omega
    have hsp : sp_feed (nI c) (sTx S (t.take i)) = (nI (i + 1), sTx S (t.take (i + 1))) := by
      unfold sp_feed
      have h0 : (sTx S (t.take i)).2.2.2.2 = t.take i := rfl
      rw [if_neg (nI_128 c hc), h0, hlen, if_pos (by omega), e2]
      rfl
    refine x_iload_n (i := 2) (by decide +kernel) rfl ?_
    refine x_aload_n (i := 1) (by decide +kernel) rfl ?_
    refine x_callVp (i := 72) (d' := 1) (w := 798) (Mc := M_J0_length_8abf5) [] rfl (by decide +kernel) (by decide +kernel) g_J0_length_8abf5 ht.rc (t_length (Nat.le_refl _) ht) (by omega) (Nat.le_refl _) (Nat.le_refl _) rfl (by simp [Value.category]) ?_
    refine x_icmp (cc := .ge) (off := 28) 35 (by decide +kernel) rfl (fun q => absurd (show nI i < nI t.length from nI_lt hi1 (by omega)) (Int32.not_lt.mpr q)) (fun _ => ?_)
    refine x_aload_n (i := 0) (by decide +kernel) rfl ?_
    refine x_aload_n (i := 1) (by decide +kernel) rfl ?_
    refine x_iload_n (i := 2) (by decide +kernel) rfl ?_
    refine x_callVp (i := 51) (d' := 3) (w := 537) (Mc := M_J0_charAt_5068e) [.int (nI i)] rfl (by decide +kernel) (by decide +kernel) g_J0_charAt_5068e ht.rc (t_charAt (Nat.le_refl _) ht (by omega) hc hx) (by omega) (Nat.le_refl _) (Nat.le_refl _) rfl (by simp [Value.category]) ?_
    refine x_cI (i := 76) (w := 799) (d9 := 3) (R := (nI (i + 1), sTx S (t.take (i + 1)))) [nI c] rfl (by decide +kernel) (by decide +kernel) rfl (by omega) (by simp) (Nat.le_refl _) (Nat.le_refl _) hV (fun μ hC => c_feed (Nat.le_refl _) hC (fun ν h1 _ => by rw [hsp] at h1 ⊢; exact ⟨rfl, h1⟩)) (fun es1 hV1 he1 => ?_)
    refine x_iload_n (i := 2) (by decide +kernel) rfl ?_
    refine x_iconst (i := 1) (nI 1) (by decide +kernel) rfl ?_
    refine x_iadd (nI (i + 1)) (by decide +kernel) (nI_add i 1) ?_
    refine x_icmp (cc := .eq) (off := 7) 29 (by decide +kernel) rfl (fun _ => ?_) (fun q => absurd rfl q)
    refine x_iinc (i := 2) (j := 1) (x := nI i) (nI (i + 1)) (by decide +kernel) (by decide) rfl (nI_add i 1) (catL rfl) ?_
    refine x_goto (off := -30) 2 (by decide +kernel) rfl ?_
    exact ih (i + 1) es1 (by omega) hV1 (ht.fr (Nat.le_refl _) (fun x _ hx => he1 x hx)) (fun x hx => (he1 x hx).trans (he x hx))
theorem l_read {d : Nat} {l : Launch} {G : xG} {n a : Nat} {es : Nat → va_E} {t : List Int32} {S : aS} (hd : 12 ≤ d) (ha : ascT t) (hl : t.length ≤ 100) (hS : S.2.2.2.2 = []) (hV : xV G n es S) (ht : tS G n es (fun x => 160 ≤ x) a t) : xMet d 0 0 M_L_read l G n es [.ref (G.B + 0), .ref a] (fun o n1 es1 => o = some (.int (sp_read (sTx S t)).1) ∧ n1 = n ∧ xV G n es1 (sp_read (sTx S t)).2 ∧ ∀ x, 160 ≤ x → es1 x = es x) := by
  refine xMet.of false (j := 1) (by decide +kernel) (catL rfl) rfl ?_
  refine x_iconst (i := 0) 0 (by decide +kernel) rfl ?_
  refine x_istore_n (i := 2) (by decide +kernel) (by decide) (catL rfl) ?_
  exact l_readE hd ha hl hS t.length 0 es (by omega) (by rw [List.take_zero, sTx_nil hS]; exact hV) ht (fun _ _ => rfl)
theorem cref_ok {T : aT} {c : Nat} {col : aCol} (ok : okT T) (h : T.2.1[c]? = some col) (g : col.2.1 = false) : c < 12 ∧ cref T (nI c) = 0 := by
  have hc : c < 12 := by have := lt_of_get h; have := ok.2.1; omega
  refine ⟨hc, ?_⟩
  unfold cref
  have h12 : nI c < 12 := nI_lt (b := 12) hc (by decide)
  rw [if_neg (fun q => q.elim (nI_pos (by omega)) (fun w => w h12)), nI_clamp (by omega), h]
  simp [g]
theorem p_withC {S : aS} {c : Nat} {col : aCol} {f : Nat → aCol → Int32 × aS} (ok : okT S.1) (h : S.1.2.1[c]? = some col) (g : col.2.1 = false) : withC S (nI c) f = f c col := by
  obtain ⟨h1, h2⟩ := cref_ok ok h g
  exact withC_ok h1 h2 h
theorem p_row {T : aT} {r : Nat} (ok : okT T) (h : r < T.1) : ¬ noRow T (nI r) := by
  have := ok.1
  exact fun q => q.elim (nI_pos (by omega)) (fun w => w (nI_lt h (by omega)))
theorem p_ask {S : aS} {c r : Nat} {col : aCol} (ok : okT S.1) (h : S.1.2.1[c]? = some col) (g : col.2.1 = false) (hr : r < S.1.1) : sp_ask (nI c) (nI r) 8 S = (100 + enK (col.2.2 r), sGot S (col.2.2 r).2) := by
  unfold sp_ask
  rw [p_withC ok h g]
  have h40 := ok.1
  have e : aref S.1 col.1 (nI r) 8 = 0 := by
    unfold aref
    rw [if_neg (fun q => q.1 rfl), if_neg (p_row ok hr), if_pos (Or.inl rfl)]
  rw [if_neg (by decide), if_pos e, if_pos rfl, nI_clamp (by omega)]
def wasF (f : Nat → Int64) (m : Nat) (g : Nat → aC) : Prop := ∀ r, r < m → f (2 * r) = (100 + enK (g r)).toInt64 ∧ f (2 * r + 1) = (g r).2
theorem wasF.up {f : Nat → Int64} {m : Nat} {g : Nat → aC} (h : wasF f m g) : wasF (vp_updL (vp_updL f (2 * m) (100 + enK (g m)).toInt64) (2 * m + 1) (g m).2) (m + 1) g := by
  intro r hr
  unfold vp_updL
  by_cases e : r = m
  · subst e
    simp
  · have := h r (by omega)
    rw [if_neg (by omega), if_neg (by omega), if_neg (by omega), if_neg (by omega)]
    exact this
theorem l_looksE {d : Nat} {l : Launch} {G : xG} {n m c w : Nat} {es0 : Nat → va_E} {T : aT} {I : Option aT} {col : aCol} (hd : 6 ≤ d) (hm : T.1 = m) (hc : T.2.1[c]? = some col) (hg : col.2.1 = false) (hw : 160 ≤ w) (hwn : w < n) :
    ∀ (j i : Nat) (es : Nat → va_E) (f : Nat → Int64), i + j = m → xT G n es T I → es w = .inl (G.cA 1, 2 * m, .inr (.inl f)) → wasF f i col.2.2 → (∀ x, 160 ≤ x → x ≠ w → es x = es0 x) → xE true d M_L_looks l G 0 0 n es 0 0 3 [.ref (G.B + 0), .int (nI c), .int (nI m), .ref (G.B + w), .int (nI i)] [] (xQc G n (fun o n1 es1 => o = none ∧ n1 = n ∧ xT G n es1 T I ∧ (∃ f, es1 w = .inl (G.cA 1, 2 * m, .inr (.inl f)) ∧ wasF f m col.2.2) ∧ ∀ x, 160 ≤ x → x ≠ w → es1 x = es0 x)) := by
  intro j
  induction j with
  | zero =>
    intro i es f hi hT hf hF he
    have e : i = m := by omega
    subst e
    refine x_iload (i := 4) (by decide +kernel) rfl ?_
    refine x_iload_n (i := 2) (by decide +kernel) rfl ?_
    refine x_icmp (cc := .ge) (off := 37) 43 (by decide +kernel) rfl (fun _ => ?_) (fun q => absurd (Int32.le_refl _) q)
    exact x_return (by decide +kernel) rfl (Nat.le_refl _) (Nat.le_refl _) (fun _ _ _ h => ⟨_, n, es, rfl, ⟨rfl, rfl, hT, ⟨f, hf, hF⟩, he⟩, Nat.le_refl _, h⟩)
  | succ j ih =>
    intro i es f hi hT hf hF he
    have ok := hT.ok
    have h40 := ok.1
    obtain ⟨S, rfl, rfl, e3, hV⟩ := hT
    have h0 := p_ask ok hc hg (r := i) (by omega)
    refine x_iload (i := 4) (by decide +kernel) rfl ?_
    refine x_iload_n (i := 2) (by decide +kernel) rfl ?_
    refine x_icmp (cc := .ge) (off := 37) 43 (by decide +kernel) rfl (fun q => absurd (show nI i < nI m from nI_lt (by omega) (by omega)) (Int32.not_lt.mpr q)) (fun _ => ?_)
    refine x_aload_n (i := 3) (by decide +kernel) rfl ?_
    refine x_iconst (i := 2) (nI 2) (by decide +kernel) rfl ?_
    refine x_iload (i := 4) (by decide +kernel) rfl ?_
    refine x_imul (nI (2 * i)) (by decide +kernel) (pk_mul 2 i) ?_
    refine x_aload_n (i := 0) (by decide +kernel) rfl ?_
    refine x_iload_n (i := 1) (by decide +kernel) rfl ?_
    refine x_iload (i := 4) (by decide +kernel) rfl ?_
    refine x_bipush (i := 8) 8 (by decide +kernel) rfl ?_
    refine x_cI (i := 85) (w := 876) (d9 := 5) (R := (100 + enK (col.2.2 i), sGot S (col.2.2 i).2)) [nI c, nI i, 8] rfl (by decide +kernel) (by decide +kernel) rfl (by omega) (by simp [Value.category]) (Nat.le_refl _) (Nat.le_refl _) hV (fun μ hC => c_ask (Nat.le_refl _) hC (fun ν h1 _ => by rw [h0] at h1 ⊢; exact ⟨rfl, h1⟩)) (fun es1 hV1 he1 => ?_)
    refine x_i2l _ (by decide +kernel) rfl ?_
    refine x_last (2 * i) (by decide +kernel) hwn ((he1 w hw).trans hf) (nI_pos (by omega)) (nI_clamp (by omega)) (by omega) ?_
    refine x_aload_n (i := 3) (by decide +kernel) rfl ?_
    refine x_iconst (i := 2) (nI 2) (by decide +kernel) rfl ?_
    refine x_iload (i := 4) (by decide +kernel) rfl ?_
    refine x_imul (nI (2 * i)) (by decide +kernel) (pk_mul 2 i) ?_
    refine x_iconst (i := 1) (nI 1) (by decide +kernel) rfl ?_
    refine x_iadd (nI (2 * i + 1)) (by decide +kernel) (nI_add _ 1) ?_
    refine x_aload_n (i := 0) (by decide +kernel) rfl ?_
    refine x_cJ (i := 89) (w := 896) (d9 := 1) (S := sGot S (col.2.2 i).2) [] rfl (by decide +kernel) (by decide +kernel) rfl (by omega) (by simp [Value.category]) (Nat.le_refl _) (Nat.le_refl _) (hV1.lo hV1.1 (fun a ha => ctU_ne (by omega))) (fun μ hC => c_got (Nat.le_refl _) hC ⟨rfl, hC⟩) (fun es2 hV2 he2 => ?_)
    refine x_last (2 * i + 1) (by decide +kernel) hwn ((he2 w hw).trans (ctU_at _ _ _)) (nI_pos (by omega)) (nI_clamp (by omega)) (by omega) ?_
    refine x_iinc (i := 4) (j := 1) (x := nI i) (nI (i + 1)) (by decide +kernel) (by decide) rfl (nI_add i 1) (catL rfl) ?_
    refine x_goto (off := -37) 3 (by decide +kernel) rfl ?_
    refine ih (i + 1) _ _ (by omega) ⟨sGot S (col.2.2 i).2, rfl, rfl, e3, hV2.lo hV2.1 (fun a ha => ctU_ne (show a ≠ w by omega))⟩ (ctU_at _ _ _) hF.up (fun x hx hxw => (ctU_ne hxw).trans ((he2 x hx).trans ((ctU_ne hxw).trans ((he1 x hx).trans (he x hx hxw)))))
theorem l_looks {d : Nat} {l : Launch} {G : xG} {n m c w : Nat} {es : Nat → va_E} {T : aT} {I : Option aT} {col : aCol} {f : Nat → Int64} (hd : 6 ≤ d) (hT : xT G n es T I) (hm : T.1 = m) (hc : T.2.1[c]? = some col) (hg : col.2.1 = false) (hw : 160 ≤ w) (hwn : w < n) (hf : es w = .inl (G.cA 1, 2 * m, .inr (.inl f))) : xMet d 0 0 M_L_looks l G n es [.ref (G.B + 0), .int (nI c), .int (nI m), .ref (G.B + w)] (fun o n1 es1 => o = none ∧ n1 = n ∧ xT G n es1 T I ∧ (∃ f, es1 w = .inl (G.cA 1, 2 * m, .inr (.inl f)) ∧ wasF f m col.2.2) ∧ ∀ x, 160 ≤ x → x ≠ w → es1 x = es x) := by
  refine xMet.of true (j := 1) (by decide +kernel) (catL rfl) rfl ?_
  refine x_iconst (i := 0) 0 (by decide +kernel) rfl ?_
  refine x_istore (i := 4) (by decide +kernel) (by decide) (catL rfl) ?_
  exact l_looksE hd hm hc hg hw hwn m 0 es f (by omega) hT hf (fun r hr => absurd hr (Nat.not_lt_zero _)) (fun _ _ _ => rfl)
theorem lgc_same (x : Int64) : lg_cmp x x = 0 := by simp [lg_cmp]
theorem l_likeE {d : Nat} {l : Launch} {G : xG} {n m c w : Nat} {es0 : Nat → va_E} {T : aT} {I : Option aT} {col : aCol} {f : Nat → Int64} (hd : 6 ≤ d) (hm : T.1 = m) (hc : T.2.1[c]? = some col) (hg : col.2.1 = false) (hw : 160 ≤ w) (hwn : w < n) (hF : wasF f m col.2.2) :
    ∀ (j i : Nat) (es : Nat → va_E), i + j = m → xT G n es T I → es w = .inl (G.cA 1, 2 * m, .inr (.inl f)) → (∀ x, 160 ≤ x → es x = es0 x) → xE false d M_L_isLike l G 0 0 n es 0 0 6 [.ref (G.B + 0), .int (nI c), .int (nI m), .ref (G.B + w), .int 1, .int (nI i)] [] (xQc G n (fun o n1 es1 => o = some (.int 1) ∧ n1 = n ∧ xT G n es1 T I ∧ ∀ x, 160 ≤ x → es1 x = es0 x)) := by
  intro j
  induction j with
  | zero =>
    intro i es hi hT hf he
    have e : i = m := by omega
    subst e
    refine x_iload (i := 5) (by decide +kernel) rfl ?_
    refine x_iload_n (i := 2) (by decide +kernel) rfl ?_
    refine x_icmp (cc := .ge) (off := 57) 66 (by decide +kernel) rfl (fun _ => ?_) (fun q => absurd (Int32.le_refl _) q)
    refine x_iload (i := 4) (by decide +kernel) rfl ?_
    exact x_ireturn .boolean (by decide +kernel) rfl rfl (Nat.le_refl _) (Nat.le_refl _) (fun _ _ _ h => ⟨_, n, es, rfl, ⟨rfl, rfl, hT, he⟩, Nat.le_refl _, h⟩)
  | succ j ih =>
    intro i es hi hT hf he
    have ok := hT.ok
    have h40 := ok.1
    obtain ⟨S, rfl, rfl, e3, hV⟩ := hT
    have h0 := p_ask ok hc hg (r := i) (by omega)
    obtain ⟨w1, w2⟩ := hF i (by omega)
    refine x_iload (i := 5) (by decide +kernel) rfl ?_
    refine x_iload_n (i := 2) (by decide +kernel) rfl ?_
    refine x_icmp (cc := .ge) (off := 57) 66 (by decide +kernel) rfl (fun q => absurd (show nI i < nI m from nI_lt (by omega) (by omega)) (Int32.not_lt.mpr q)) (fun _ => ?_)
    refine x_iload (i := 4) (by decide +kernel) rfl ?_
    refine x_if (cc := .eq) (off := 43) 57 (by decide +kernel) rfl (fun q => absurd (show (1 : Int32) = 0 from q) (by decide)) (fun _ => ?_)
    refine x_aload_n (i := 0) (by decide +kernel) rfl ?_
    refine x_iload_n (i := 1) (by decide +kernel) rfl ?_
    refine x_iload (i := 5) (by decide +kernel) rfl ?_
    refine x_bipush (i := 8) 8 (by decide +kernel) rfl ?_
    refine x_cI (i := 85) (w := 876) (d9 := 5) (R := (100 + enK (col.2.2 i), sGot S (col.2.2 i).2)) [nI c, nI i, 8] rfl (by decide +kernel) (by decide +kernel) rfl (by omega) (by simp [Value.category]) (Nat.le_refl _) (Nat.le_refl _) hV (fun μ hC => c_ask (Nat.le_refl _) hC (fun ν h1 _ => by rw [h0] at h1 ⊢; exact ⟨rfl, h1⟩)) (fun es1 hV1 he1 => ?_)
    refine x_i2l _ (by decide +kernel) rfl ?_
    refine x_aload_n (i := 3) (by decide +kernel) rfl ?_
    refine x_iconst (i := 2) (nI 2) (by decide +kernel) rfl ?_
    refine x_iload (i := 5) (by decide +kernel) rfl ?_
    refine x_imul (nI (2 * i)) (by decide +kernel) (pk_mul 2 i) ?_
    refine x_laload (2 * i) (by decide +kernel) hwn ((he1 w hw).trans hf) (nI_pos (by omega)) (nI_clamp (by omega)) (by omega) ?_
    rw [w1]
    refine x_lcmp (by decide +kernel) ?_
    rw [lgc_same]
    refine x_if (cc := .ne) (off := 23) 57 (by decide +kernel) rfl (fun q => absurd rfl q) (fun _ => ?_)
    refine x_aload_n (i := 0) (by decide +kernel) rfl ?_
    refine x_cJ (i := 89) (w := 896) (d9 := 1) (S := sGot S (col.2.2 i).2) [] rfl (by decide +kernel) (by decide +kernel) rfl (by omega) (by simp [Value.category]) (Nat.le_refl _) (Nat.le_refl _) hV1 (fun μ hC => c_got (Nat.le_refl _) hC ⟨rfl, hC⟩) (fun es2 hV2 he2 => ?_)
    refine x_aload_n (i := 3) (by decide +kernel) rfl ?_
    refine x_iconst (i := 2) (nI 2) (by decide +kernel) rfl ?_
    refine x_iload (i := 5) (by decide +kernel) rfl ?_
    refine x_imul (nI (2 * i)) (by decide +kernel) (pk_mul 2 i) ?_
    refine x_iconst (i := 1) (nI 1) (by decide +kernel) rfl ?_
    refine x_iadd (nI (2 * i + 1)) (by decide +kernel) (nI_add _ 1) ?_
    refine x_laload (2 * i + 1) (by decide +kernel) hwn ((he2 w hw).trans ((he1 w hw).trans hf)) (nI_pos (by omega)) (nI_clamp (by omega)) (by omega) ?_
    rw [w2]
    refine x_lcmp (by decide +kernel) ?_
    have e9 : lg_cmp (sGot S (col.2.2 i).2).2.2.1 (col.2.2 i).2 = 0 := lgc_same _
    rw [e9]
    refine x_if (cc := .ne) (off := 7) 57 (by decide +kernel) rfl (fun q => absurd rfl q) (fun _ => ?_)
    refine x_iconst (i := 1) 1 (by decide +kernel) rfl ?_
    refine x_goto (off := 4) 58 (by decide +kernel) rfl ?_
    refine x_istore (i := 4) (by decide +kernel) (by decide) (catL rfl) ?_
    refine x_iinc (i := 5) (j := 1) (x := nI i) (nI (i + 1)) (by decide +kernel) (by decide) rfl (nI_add i 1) (catL rfl) ?_
    refine x_goto (off := -57) 6 (by decide +kernel) rfl ?_
    exact ih (i + 1) es2 (by omega) ⟨sGot S (col.2.2 i).2, rfl, rfl, e3, hV2⟩ ((he2 w hw).trans ((he1 w hw).trans hf)) (fun x hx => (he2 x hx).trans ((he1 x hx).trans (he x hx)))
theorem l_like {d : Nat} {l : Launch} {G : xG} {n m c w : Nat} {es : Nat → va_E} {T : aT} {I : Option aT} {col : aCol} {f : Nat → Int64} (hd : 6 ≤ d) (hT : xT G n es T I) (hm : T.1 = m) (hc : T.2.1[c]? = some col) (hg : col.2.1 = false) (hw : 160 ≤ w) (hwn : w < n) (hF : wasF f m col.2.2) (hf : es w = .inl (G.cA 1, 2 * m, .inr (.inl f))) : xMet d 0 0 M_L_isLike l G n es [.ref (G.B + 0), .int (nI c), .int (nI m), .ref (G.B + w)] (fun o n1 es1 => o = some (.int 1) ∧ n1 = n ∧ xT G n es1 T I ∧ ∀ x, 160 ≤ x → es1 x = es x) := by
  refine xMet.of false (j := 2) (by decide +kernel) (catL rfl) rfl ?_
  refine x_iconst (i := 1) 1 (by decide +kernel) rfl ?_
  refine x_istore (i := 4) (by decide +kernel) (by decide) (catL rfl) ?_
  refine x_iconst (i := 0) 0 (by decide +kernel) rfl ?_
  refine x_istore (i := 5) (by decide +kernel) (by decide) (catL rfl) ?_
  exact l_likeE hd hm hc hg hw hwn hF m 0 es (by omega) hT hf (fun _ _ => rfl)
