/-! ===== texts and builders ===== -/
theorem catL {L : List Value} (h : (L.all fun v => Nat.beq v.category 1) = true) : ∀ w ∈ L, w.category = 1 := fun w hw => Nat.eq_of_beq_eq_true (List.all_eq_true.mp h w hw)
def bFit (f : Nat → Int32) : Prop := ∀ i, fits .byte (.int (f i)) = true
def hasT (f : Nat → Int32) (t : List Int32) : Prop := ∀ (j : Nat) (x : Int32), t[j]? = some x → f j = x
/-- signs below 128 -/
def ascT (t : List Int32) : Prop := ∀ x ∈ t, ∃ k, k < 128 ∧ x = nI k
/-- the bytes of the text t lie at the address a; U: where its own places may be -/
def tA (G : xG) (n : Nat) (es : Nat → va_E) (U : Nat → Prop) (a : Nat) (t : List Int32) : Prop :=
  (∃ i, i < 9 ∧ a = G.sv i ∧ t = xByt.getD i []) ∨ (∃ w f, a = G.B + w ∧ w < n ∧ U w ∧ es w = .inl (G.cA 7, t.length, .inl f) ∧ bFit f ∧ hasT f t)
/-- the text t lies at the address a -/
def tS (G : xG) (n : Nat) (es : Nat → va_E) (U : Nat → Prop) (a : Nat) (t : List Int32) : Prop :=
  (∃ i, i < 9 ∧ a = G.sk i ∧ t = xByt.getD i []) ∨ (∃ q w h z f, a = G.B + q ∧ q < n ∧ w < n ∧ U q ∧ U w ∧ es q = .inr (8, [.ref (G.B + w), .int 0, h, z]) ∧ es w = .inl (G.cA 7, t.length, .inl f) ∧ bFit f ∧ hasT f t)
/-- a builder at the place r, its row at the place v, that holds the text t -/
def bLd (G : xG) (n : Nat) (es : Nat → va_E) (r v : Nat) (t : List Int32) : Prop :=
  r < n ∧ v < n ∧ es r = .inr (9, [.ref (G.B + v), .int 0, .int 0, .int (nI t.length)]) ∧ ∃ cap f, es v = .inl (G.cA 7, cap, .inl f) ∧ t.length ≤ cap ∧ cap ≤ 16 + 2 * t.length ∧ bFit f ∧ hasT f t
theorem tA.fr {G : xG} {n n1 : Nat} {es es1 : Nat → va_E} {U : Nat → Prop} {a : Nat} {t : List Int32} (h : tA G n es U a t) (hn : n ≤ n1) (he : ∀ x, x < n → U x → es1 x = es x) : tA G n1 es1 U a t := by
  rcases h with h | ⟨w, f, h1, h2, h3, h4, h5⟩
  · exact Or.inl h
  · exact Or.inr ⟨w, f, h1, by omega, h3, by rw [he w h2 h3]; exact h4, h5⟩
theorem tS.fr {G : xG} {n n1 : Nat} {es es1 : Nat → va_E} {U : Nat → Prop} {a : Nat} {t : List Int32} (h : tS G n es U a t) (hn : n ≤ n1) (he : ∀ x, x < n → U x → es1 x = es x) : tS G n1 es1 U a t := by
  rcases h with h | ⟨q, w, h, z, f, h1, h2, h3, h4, h5, h6, h7, h8⟩
  · exact Or.inl h
  · exact Or.inr ⟨q, w, h, z, f, h1, by omega, by omega, h4, h5, by rw [he q h2 h4]; exact h6, by rw [he w h3 h5]; exact h7, h8⟩
theorem tS.mono {G : xG} {n : Nat} {es : Nat → va_E} {U V : Nat → Prop} {a : Nat} {t : List Int32} (h : tS G n es U a t) (hU : ∀ x, x < n → U x → V x) : tS G n es V a t := by
  rcases h with h | ⟨q, w, h, z, f, h1, h2, h3, h4, h5, h6⟩
  · exact Or.inl h
  · exact Or.inr ⟨q, w, h, z, f, h1, h2, h3, hU q h2 h4, hU w h3 h5, h6⟩
theorem tS.k {G : xG} {n : Nat} {es : Nat → va_E} {U : Nat → Prop} (i : Nat) {t : List Int32} (hi : i < 9) (ht : xByt.getD i [] = t) : tS G n es U (G.sk i) t := Or.inl ⟨i, hi, rfl, ht.symm⟩
theorem tS.rc {G : xG} {n : Nat} {es : Nat → va_E} {U : Nat → Prop} {a : Nat} {t : List Int32} (h : tS G n es U a t) : xRc G n es a "java/lang/String" := by
  rcases h with ⟨i, hi, rfl, -⟩ | ⟨q, w, h, z, f, rfl, h2, h3, h4, h5, h6, -⟩
  · exact xRc.str hi
  · exact xRc.own (q := (RJ0, TJ0, 4)) h2 h6 rfl
theorem bLd.rc {G : xG} {n r v : Nat} {es : Nat → va_E} {t : List Int32} (h : bLd G n es r v t) : xRc G n es (G.B + r) RJ4 := xRc.own (q := (RJ4, TJ4, 4)) h.1 h.2.2.1 rfl
theorem bLd.fr {G : xG} {n n1 r v : Nat} {es es1 : Nat → va_E} {t : List Int32} (h : bLd G n es r v t) (hn : n ≤ n1) (h1 : es1 r = es r) (h2 : es1 v = es v) : bLd G n1 es1 r v t := by
  obtain ⟨a, b, c, d⟩ := h
  exact ⟨by omega, by omega, by rw [h1]; exact c, by rw [h2]; exact d⟩
theorem bLd.ne {G : xG} {n r v : Nat} {es : Nat → va_E} {t : List Int32} (h : bLd G n es r v t) : r ≠ v := by
  rintro rfl
  obtain ⟨-, -, h1, cap, f, h2, -⟩ := h
  rw [h1] at h2
  cases h2
theorem xLen_ok : ∀ i, i < 9 → xLen.getD i 0 = (xByt.getD i []).length := by decide
theorem fit_nI : ∀ k, k < 128 → fits .byte (.int (nI k)) = true := by decide +kernel
theorem bFit.z : bFit fun _ => 0 := fun _ => rfl
theorem bFit.upd {f : Nat → Int32} {k j : Nat} (h : bFit f) (hk : k < 128) : bFit (upd f j (nI k)) := fun i => by
  by_cases e : i = j
  · subst e
    rw [pk_us]
    exact fit_nI k hk
  · rw [pk_un e]
    exact h i
theorem bFit.cpy {f g : Nat → Int32} {sp dp n : Nat} (hf : bFit f) (hg : bFit g) : bFit (va_cpy f g sp dp n) := fun i => by
  unfold va_cpy
  split
  · exact hf _
  · exact hg _
theorem hasT.app {f : Nat → Int32} {t u : List Int32} (h : hasT f t) (h2 : ∀ (j : Nat) (x : Int32), u[j]? = some x → f (t.length + j) = x) : hasT f (t ++ u) := fun j x hj => by
  by_cases hl : j < t.length
  · rw [List.getElem?_append_left hl] at hj
    exact h j x hj
  · rw [List.getElem?_append_right (by omega)] at hj
    have := h2 _ x hj
    rwa [show t.length + (j - t.length) = j by omega] at this
theorem hasT.of {f g : Nat → Int32} {t : List Int32} (h : hasT f t) (he : ∀ j, j < t.length → g j = f j) : hasT g t := fun j x hj => by
  rw [he j (List.getElem?_eq_some_iff.mp hj).1]
  exact h j x hj
theorem nar_nI : ∀ k, k < 128 → vp_nar .byte (nI k) = nI k ∧ (nI k).toInt8.toInt32 = nI k := by decide +kernel
/-- nothing changes -/
def xPu (n : Nat) (es : Nat → va_E) (o : Option Value) : Option Value → Nat → (Nat → va_E) → Prop := fun v n1 es1 => v = o ∧ n1 = n ∧ es1 = es
theorem x_callSp {ex : Bool} {d : Nat} {M : mmMi} {l : Launch} {G : xG} {mc ms n : Nat} {es : Nat → va_E} {k z : Nat} {L st : List Value} {pc : Nat} {Qc : Array Value → State → Outcome → State → Prop} {d' i w na : Nat} {Mc : mmMi} {ov : Option Value}  {st0 : List Value} (as : List Value) (hst : st0 = as.reverse ++ st) (hd : decode M.2.1 pc = .ok (.invokestatic i, 3)) (hw : lw_tbl[w]? = some (.methodLink M.1.cls i Mc.1)) (hg : mmGd Mc true na) (hM : xMet d' 0 0 Mc l G n es as (xPu n es ov)) (hd' : d' < d) (hk : k ≤ mc) (hz : z ≤ ms) (hl : as.length = na) (hr8 : (st.map fun v => v.category).sum ≤ 8) (kk : xE ex d M l G mc ms n es k z (pc + 3) L (ov.toList ++ st) Qc) : xE ex d M l G mc ms n es k z pc L st0 Qc :=
  x_callS as hst hd hw hg hM hd' hk hz hl (fun v n1 es1 h _ => by obtain ⟨-, rfl, -⟩ := h; exact Nat.le_refl _) hr8 (fun v n1 es1 h _ => by obtain ⟨rfl, rfl, rfl⟩ := h; exact kk)
theorem x_callVp {ex : Bool} {d : Nat} {M : mmMi} {l : Launch} {G : xG} {mc ms n : Nat} {es : Nat → va_E} {k z : Nat} {L st : List Value} {pc : Nat} {Qc : Array Value → State → Outcome → State → Prop} {d' i w na : Nat} {Mc : mmMi} {ov : Option Value} {a : Nat} {st0 : List Value} (as : List Value) (hst : st0 = as.reverse ++ .ref a :: st) (hd : decode M.2.1 pc = .ok (.invokevirtual i, 3)) (hw : lw_tbl[w]? = some (.methodLink M.1.cls i Mc.1)) (hg : mmGd Mc false na) (hrc : xRc G n es a Mc.1.cls) (hM : xMet d' 0 0 Mc l G n es (.ref a :: as) (xPu n es ov)) (hd' : d' < d) (hk : k ≤ mc) (hz : z ≤ ms) (hl : as.length = na) (hr8 : (st.map fun v => v.category).sum ≤ 8) (kk : xE ex d M l G mc ms n es k z (pc + 3) L (ov.toList ++ st) Qc) : xE ex d M l G mc ms n es k z pc L st0 Qc :=
  x_callV as hst hd hw hg hrc hM hd' hk hz hl (fun v n1 es1 h _ => by obtain ⟨-, rfl, -⟩ := h; exact Nat.le_refl _) hr8 (fun v n1 es1 h _ => by obtain ⟨rfl, rfl, rfl⟩ := h; exact kk)
theorem x_callUp {ex : Bool} {d : Nat} {M : mmMi} {l : Launch} {G : xG} {mc ms n : Nat} {es : Nat → va_E} {k z : Nat} {L st : List Value} {pc : Nat} {Qc : Array Value → State → Outcome → State → Prop} {d' i w na : Nat} {Mc : mmMi} {ov : Option Value} {a : Nat} {x : MethodName} {C : String} {b0 : ByteArray} {m0 : Nat} {r0 : Option FieldType} {w2 : Nat} {st0 : List Value} (as : List Value) (hst : st0 = as.reverse ++ .ref a :: st) (hd : decode M.2.1 pc = .ok (.invokevirtual i, 3)) (hw : lw_tbl[w]? = some (.methodLink M.1.cls i x)) (hg : xGd Mc na) (hxd : x.cls ≠ "java/lang/invoke/MethodHandle" ∧ x.cls ≠ "java/lang/invoke/VarHandle" ∧ (parseMethodDescriptor x.desc).map (fun d => d.parameters.length) = some na) (hx0 : Cond.instanceMethod x ∈ mmT) (hx1 : Cond.code x b0 m0 r0 ∈ mmT) (hw2 : lw_tbl[w2]? = some (.sameMethod x.cls x.cls x.name x.desc)) (hsel : ∀ (args : Array Value) (s : State), (∀ w ∈ mmT, w.before args s = true) → xS G s → (Cond.selects C x Mc.1).before args s = true) (hrc : xRc G n es a C) (hM : xMet d' 0 0 Mc l G n es (.ref a :: as) (xPu n es ov)) (hd' : d' < d) (hk : k ≤ mc) (hz : z ≤ ms) (hl : as.length = na) (hr8 : (st.map fun v => v.category).sum ≤ 8) (kk : xE ex d M l G mc ms n es k z (pc + 3) L (ov.toList ++ st) Qc) : xE ex d M l G mc ms n es k z pc L st0 Qc :=
  x_callU as hst hd hw hg hxd hx0 hx1 hw2 hsel hrc hM hd' hk hz hl (fun v n1 es1 h _ => by obtain ⟨-, rfl, -⟩ := h; exact Nat.le_refl _) hr8 (fun v n1 es1 h _ => by obtain ⟨rfl, rfl, rfl⟩ := h; exact kk)
theorem x_callSUp {ex : Bool} {d : Nat} {M : mmMi} {l : Launch} {G : xG} {mc ms n : Nat} {es : Nat → va_E} {k z : Nat} {L st : List Value} {pc : Nat} {Qc : Array Value → State → Outcome → State → Prop} {d' i w na : Nat} {Mc : mmMi} {ov : Option Value} {a ci w2 w3 : Nat} {q : vw_C} {st0 : List Value} (as : List Value) (hst : st0 = as.reverse ++ .ref a :: st) (hd : decode M.2.1 pc = .ok (.invokespecial i, 3)) (hw : lw_tbl[w]? = some (.methodLink M.1.cls i Mc.1)) (hg : xGd Mc na) (hno : Mc.1.name ≠ "<init>") (hw2 : lw_tbl[w2]? = some (.sameMethod Mc.1.cls Mc.1.cls Mc.1.name Mc.1.desc)) (hw3 : lw_tbl[w3]? = some (.superclass M.1.cls Mc.1.cls)) (hci : vwCl[ci]? = some q) (hrc : xRc G n es a q.1) (hM : xMet d' 0 0 Mc l G n es (.ref a :: as) (xPu n es ov)) (hd' : d' < d) (hk : k ≤ mc) (hz : z ≤ ms) (hl : as.length = na) (hr8 : (st.map fun v => v.category).sum ≤ 8) (kk : xE ex d M l G mc ms n es k z (pc + 3) L (ov.toList ++ st) Qc) : xE ex d M l G mc ms n es k z pc L st0 Qc :=
  x_callSU as hst hd hw hg hno hw2 hw3 hci hrc hM hd' hk hz hl (fun v n1 es1 h _ => by obtain ⟨-, rfl, -⟩ := h; exact Nat.le_refl _) hr8 (fun v n1 es1 h _ => by obtain ⟨rfl, rfl, rfl⟩ := h; exact kk)
theorem x_tval {ex : Bool} {d : Nat} {M : mmMi} {l : Launch} {G : xG} {mc ms n : Nat} {es : Nat → va_E} {k z : Nat} {L st : List Value} {pc : Nat} {Qc : Array Value → State → Outcome → State → Prop} {i w a : Nat} {U : Nat → Prop} {t : List Int32} (hd : decode M.2.1 pc = .ok (.getfield i, 3)) (hw : lw_tbl[w]? = some (.fieldLink M.1.cls i "java/lang/String" "value" "[B")) (ht : tS G n es U a t) (kk : ∀ wa, tA G n es U wa t → xE ex d M l G mc ms n es k z (pc + 3) L (.ref wa :: st) Qc) : xE ex d M l G mc ms n es k z pc L (.ref a :: st) Qc := by
  rcases ht with ⟨j, hj, rfl, rfl⟩ | ⟨q, wv, h, zz, f, rfl, hq, hwv, hU, hU2, e1, e2, hf, hh⟩
  · intro p e s m args below meth c H locs ls hx hb hr hml hown hts hlk hin hS hls hH hF hB
    exact vk_getf (own := M.1.cls) (o := "java/lang/String") (n := "value") (d := "[B") (ref := "java/lang/String") hx hb ((hS.2.2.2.2.1.1 j hj).2.2.1.kept (x_kept hS.1 hH hF hB.1)) hF hown (mm_word (M := M) hts hw rfl) (fun _ h => h) hd (kk _ (Or.inl ⟨j, hj, rfl, rfl⟩) p e s m args below meth c H locs ls hx hb hr hml hown hts hlk hin hS hls hH hF hB)
  · exact x_get (ci := 8) (T := TJ0) 0 hd rfl (by decide) hw hq e1 rfl (kk _ (Or.inr ⟨wv, f, rfl, hwv, hU2, e2, hf, hh⟩))
theorem x_tcod {ex : Bool} {d : Nat} {M : mmMi} {l : Launch} {G : xG} {mc ms n : Nat} {es : Nat → va_E} {k z : Nat} {L st : List Value} {pc : Nat} {Qc : Array Value → State → Outcome → State → Prop} {i w a : Nat} {U : Nat → Prop} {t : List Int32} (hd : decode M.2.1 pc = .ok (.getfield i, 3)) (hw : lw_tbl[w]? = some (.fieldLink M.1.cls i "java/lang/String" "coder" "B")) (ht : tS G n es U a t) (kk : xE ex d M l G mc ms n es k z (pc + 3) L (.int 0 :: st) Qc) : xE ex d M l G mc ms n es k z pc L (.ref a :: st) Qc := by
  rcases ht with ⟨j, hj, rfl, rfl⟩ | ⟨q, wv, h, zz, f, rfl, hq, hwv, hU, hU2, e1, e2, hf, hh⟩
  · intro p e s m args below meth c H locs ls hx hb hr hml hown hts hlk hin hS hls hH hF hB
    exact vk_getf (own := M.1.cls) (o := "java/lang/String") (n := "coder") (d := "B") (ref := "java/lang/String") hx hb ((hS.2.2.2.2.1.1 j hj).2.1.kept (x_kept hS.1 hH hF hB.1)) hF hown (mm_word (M := M) hts hw rfl) (fun _ h => h) hd (kk p e s m args below meth c H locs ls hx hb hr hml hown hts hlk hin hS hls hH hF hB)
  · exact x_get (ci := 8) (T := TJ0) 1 hd rfl (by decide) hw hq e1 rfl kk
theorem x_alen {ex : Bool} {d : Nat} {M : mmMi} {l : Launch} {G : xG} {mc ms n : Nat} {es : Nat → va_E} {k z : Nat} {L st : List Value} {pc : Nat} {Qc : Array Value → State → Outcome → State → Prop} {r N : Nat} {f : Nat → Int32} (hd : decode M.2.1 pc = .ok (.arraylength, 1)) (hr0 : r < n) (hes : es r = .inl (G.cA 7, N, .inl f)) (kk : xE ex d M l G mc ms n es k z (pc + 1) L (.int (nI N) :: st) Qc) : xE ex d M l G mc ms n es k z pc L (.ref (G.B + r) :: st) Qc := by
  intro p e s m args below meth c H locs ls hx hb hr hml hown hts hlk hin hS hls hH hF hB
  exact va_alen (t0 := 7) (x := (N, .inl f)) hx hb hS.2.1 hH.2.2 r (by rw [ctWd_get hr0, hes]) rfl rfl hd (kk p e s m args below meth c H locs ls hx hb hr hml hown hts hlk hin hS hls hH hF hB)
theorem xByt_fit : ∀ j, j < 9 → ∀ i, fits .byte (.int ((xByt.getD j []).getD i 0)) = true := by
  have h : ∀ j, j < 9 → ∀ i, i < 12 → fits .byte (.int ((xByt.getD j []).getD i 0)) = true := by decide +kernel
  have hl : ∀ j, j < 9 → (xByt.getD j []).length ≤ 11 := by decide
  intro j hj i
  by_cases hi : i < 12
  · exact h j hj i hi
  · have := hl j hj
    rw [List.getD_eq_getElem?_getD, List.getElem?_eq_none (by omega)]
    decide
theorem x_talen {ex : Bool} {d : Nat} {M : mmMi} {l : Launch} {G : xG} {mc ms n : Nat} {es : Nat → va_E} {k z : Nat} {L st : List Value} {pc : Nat} {Qc : Array Value → State → Outcome → State → Prop} {a : Nat} {U : Nat → Prop} {t : List Int32} (hd : decode M.2.1 pc = .ok (.arraylength, 1)) (ht : tA G n es U a t) (kk : xE ex d M l G mc ms n es k z (pc + 1) L (.int (nI t.length) :: st) Qc) : xE ex d M l G mc ms n es k z pc L (.ref a :: st) Qc := by
  rcases ht with ⟨j, hj, rfl, rfl⟩ | ⟨wv, f, rfl, hwv, hU2, e2, hf, hh⟩
  · intro p e s m args below meth c H locs ls hx hb hr hml hown hts hlk hin hS hls hH hF hB
    exact va_tlen (v := nI (xByt.getD j []).length) hx hb ((hS.2.2.2.2.1.1 j hj).2.2.2.kept (x_kept hS.1 hH hF hB.1)) hF (by rw [xLen_ok j hj]; rfl) hd (kk p e s m args below meth c H locs ls hx hb hr hml hown hts hlk hin hS hls hH hF hB)
  · exact x_alen hd hwv e2 kk
theorem x_tbald {ex : Bool} {d : Nat} {M : mmMi} {l : Launch} {G : xG} {mc ms n : Nat} {es : Nat → va_E} {k z : Nat} {L st : List Value} {pc : Nat} {Qc : Array Value → State → Outcome → State → Prop} {a j : Nat} {x : Int32} {U : Nat → Prop} {t : List Int32} (hd : decode M.2.1 pc = .ok (.baload, 1)) (ht : tA G n es U a t) (hl : t.length < 2 ^ 31) (hj : t[j]? = some x) (kk : xE ex d M l G mc ms n es k z (pc + 1) L (.int x :: st) Qc) : xE ex d M l G mc ms n es k z pc L (.int (nI j) :: .ref a :: st) Qc := by
  have hjl : j < t.length := (List.getElem?_eq_some_iff.mp hj).1
  rcases ht with ⟨i, hi, rfl, rfl⟩ | ⟨wv, f, rfl, hwv, hU2, e2, hf, hh⟩
  · intro p e s m args below meth c H locs ls hx hb hr hml hown hts hlk hin hS hls hH hF hB
    refine va_tb (v := .int x) hx hb ((hS.2.2.2.2.1.1 i hi).2.2.2.kept (x_kept hS.1 hH hF hB.1)) hF ?_ ?_ hd (kk p e s m args below meth c H locs ls hx hb hr hml hown hts hlk hin hS hls hH hF hB)
    · rw [xLen_ok i hi]
      exact vp_in_nI hjl hl
    · rw [nI_clamp (by omega), List.getD_eq_getElem?_getD, hj]
      rfl
  · intro p e s m args below meth c H locs ls hx hb hr hml hown hts hlk hin hS hls hH hF hB
    have h9 := kk p e s m args below meth c H locs ls hx hb hr hml hown hts hlk hin hS hls hH hF hB
    rw [← hh j x hj] at h9
    refine va_bald (t0 := 7) hx hb hS.2.1 hH.2.2 wv (by rw [ctWd_get hwv, e2]) rfl (vp_in_nI hjl hl) hd ?_
    rw [nI_clamp (by omega)]
    exact h9
theorem x_copyO {d : Nat} {M : mmMi} {l : Launch} {G : xG} {mc ms n : Nat} {es : Nat → va_E} {k z : Nat} {L st : List Value} {pc : Nat} {Qc : Array Value → State → Outcome → State → Prop} {i w r q N0 N1 sp dp c0 : Nat} {f g : Nat → Int32} (hd : decode M.2.1 pc = .ok (.invokestatic i, 3)) (hw : lw_tbl[w]? = some (.methodLink M.1.cls i arraycopyName)) (h1d : 1 ≤ d) (hr0 : r < n) (hes : es r = .inl (G.cA 7, N0, .inl f)) (hq0 : q < n) (hqs : es q = .inl (G.cA 7, N1, .inl g)) (hf : bFit f) (h0 : sp + c0 ≤ N0) (h1 : dp + c0 ≤ N1) (hN0 : N0 < 2 ^ 31) (hN1 : N1 < 2 ^ 31) (hr8 : (st.map fun v => v.category).sum ≤ 8) (kk : xE true d M l G mc ms n (ctU es q (.inl (G.cA 7, N1, .inl (va_cpy f g sp dp c0)))) k z (pc + 3) L st Qc) : xE true d M l G mc ms n es k z pc L (.int (nI c0) :: .int (nI dp) :: .ref (G.B + q) :: .int (nI sp) :: .ref (G.B + r) :: st) Qc := by
  intro p e s m args below meth c H locs ls hx hb hr hml hown hts hlk hin hS hls hH hF hB
  have hls1 : ls.size = M.2.2.1 := hls.choose_spec.1.1
  have e1 : (nI sp).toNatClampNeg = sp := nI_clamp (by omega)
  have e2 : (nI dp).toNatClampNeg = dp := nI_clamp (by omega)
  have e3 : (nI c0).toNatClampNeg = c0 := nI_clamp (by omega)
  refine va_copyi (own := M.1.cls) (t0 := 7) (t1 := 7) (ty := .byte) hx hb (hml.trans hls1.symm) hown (mm_word (M := M) hts hw rfl) (hts _ (mm_in 371 (by decide +kernel) rfl)) (hts _ (mm_in 370 (by decide +kernel) rfl)) (hts _ (mm_in 27 (by decide +kernel) rfl)) hS.2.1 hH.2.2 ctWd_D hF r q (by rw [ctWd_get hr0, hes]) (by rw [ctWd_get hq0, hqs]) rfl rfl rfl (nI_pos (by omega)) (nI_pos (by omega)) (nI_pos (by omega)) (by rw [e1, e3]; exact h0) (by rw [e2, e3]; exact h1) (fun i _ => hf _) h1d (by show _ + (7 + 11) ≤ 40 * d; omega) hd (fun H1 locs1 hP1 hD1 hS1 => ?_)
  rw [e1, e2, e3, ctWd_set hq0] at hP1
  refine mm_sz fun hsz => ?_
  exact kk p e s m args below meth c H1 locs1 ls hx hb hr hml hown hts hlk hin hS hls (hH.put hF hB.1 hP1 hS1 (x_wz (by omega) hP1 hsz (hB.2 rfl))) hS1 hB
theorem x_copyT {d : Nat} {M : mmMi} {l : Launch} {G : xG} {mc ms n : Nat} {es : Nat → va_E} {k z : Nat} {L st : List Value} {pc : Nat} {Qc : Array Value → State → Outcome → State → Prop} {i w a q N1 dp : Nat} {g : Nat → Int32} {U : Nat → Prop} {t : List Int32} (hd : decode M.2.1 pc = .ok (.invokestatic i, 3)) (hw : lw_tbl[w]? = some (.methodLink M.1.cls i arraycopyName)) (h1d : 1 ≤ d) (ht : tA G n es U a t) (hq0 : q < n) (hqs : es q = .inl (G.cA 7, N1, .inl g)) (hg : bFit g) (h1 : dp + t.length ≤ N1) (hN1 : N1 < 2 ^ 31) (hr8 : (st.map fun v => v.category).sum ≤ 8) (kk : ∀ g', bFit g' → (∀ j, j < dp → g' j = g j) → (∀ (j : Nat) (x : Int32), t[j]? = some x → g' (dp + j) = x) → xE true d M l G mc ms n (ctU es q (.inl (G.cA 7, N1, .inl g'))) k z (pc + 3) L st Qc) : xE true d M l G mc ms n es k z pc L (.int (nI t.length) :: .int (nI dp) :: .ref (G.B + q) :: .int (nI 0) :: .ref a :: st) Qc := by
  have fin : ∀ f : Nat → Int32, bFit f → hasT f t → bFit (va_cpy f g 0 dp t.length) ∧ (∀ j, j < dp → va_cpy f g 0 dp t.length j = g j) ∧ ∀ (j : Nat) (x : Int32), t[j]? = some x → va_cpy f g 0 dp t.length (dp + j) = x := fun f hf hh => ⟨hf.cpy hg, fun j hj => pk_cpy_out (Or.inl hj), fun j x hj => by
    have hl := (List.getElem?_eq_some_iff.mp hj).1
    rw [pk_cpy_in (by omega) (by omega), show 0 + (dp + j - dp) = j by omega]
    exact hh j x hj⟩
  rcases ht with ⟨j, hj, rfl, rfl⟩ | ⟨wv, f, rfl, hwv, hU2, e2, hf, hh⟩
  · intro p e s m args below meth c H locs ls hx hb hr hml hown hts hlk hin hS hls hH hF hB
    have hls1 : ls.size = M.2.2.1 := hls.choose_spec.1.1
    have e1 : (nI 0).toNatClampNeg = 0 := nI_clamp (by omega)
    have e2 : (nI dp).toNatClampNeg = dp := nI_clamp (by omega)
    have e3 : (nI (xByt.getD j []).length).toNatClampNeg = (xByt.getD j []).length := nI_clamp (by omega)
    have hfb : bFit fun i => (xByt.getD j []).getD i 0 := fun i => xByt_fit j hj i
    obtain ⟨g1, g2, g3⟩ := fin _ hfb (fun i x hi => by rw [List.getD_eq_getElem?_getD, hi]; rfl)
    refine vk_copyt (own := M.1.cls) (t1 := 7) hx hb (hml.trans hls1.symm) hown (mm_word (M := M) hts hw rfl) (hts _ (mm_in 371 (by decide +kernel) rfl)) (hts _ (mm_in 370 (by decide +kernel) rfl)) (hts _ (mm_in 27 (by decide +kernel) rfl)) hS.2.1 hH.2.2 ctWd_D hF ((hS.2.2.2.2.1.1 j hj).2.2.2.kept (x_kept hS.1 hH hF hB.1)) q (by rw [ctWd_get hq0, hqs]) rfl (nI_pos (by omega)) (nI_pos (by omega)) (nI_pos (by omega)) (by rw [e1, e3, xLen_ok j hj]; omega) (by rw [e2, e3]; exact h1) (fun i _ => xByt_fit j hj _) h1d (by show _ + (7 + 11) ≤ 40 * d; omega) hd (fun H1 locs1 hP1 hD1 hS1 => ?_)
    rw [e1, e2, e3, ctWd_set hq0] at hP1
    refine mm_sz fun hsz => ?_
    exact kk _ g1 g2 g3 p e s m args below meth c H1 locs1 ls hx hb hr hml hown hts hlk hin hS hls (hH.put hF hB.1 hP1 hS1 (x_wz (by omega) hP1 hsz (hB.2 rfl))) hS1 hB
  · obtain ⟨g1, g2, g3⟩ := fin f hf hh
    exact x_copyO hd hw h1d hwv e2 hq0 hqs hf (by omega) h1 (by omega) hN1 hr8 (kk _ g1 g2 g3)
theorem x_cloneB {d : Nat} {M : mmMi} {l : Launch} {G : xG} {mc ms n : Nat} {es : Nat → va_E} {k z : Nat} {L st : List Value} {pc : Nat} {Qc : Array Value → State → Outcome → State → Prop} {i w r N : Nat} {f : Nat → Int32} (hd : decode M.2.1 pc = .ok (.invokevirtual i, 3)) (hw : lw_tbl[w]? = some (.methodLink M.1.cls i ⟨"[B", "clone", "()Ljava/lang/Object;"⟩)) (h1d : 1 ≤ d) (hr0 : r < n) (hes : es r = .inl (G.cA 7, N, .inl f)) (hf : bFit f) (hr8 : (st.map fun v => v.category).sum ≤ 8) (hk : k + 1 ≤ mc) (hz : z + N ≤ ms) (kk : xE true d M l G mc ms (n + 1) (ctU es n (.inl (G.cA 7, N, .inl f))) (k + 1) (z + N) (pc + 3) L (.ref (G.B + n) :: st) Qc) : xE true d M l G mc ms n es k z pc L (.ref (G.B + r) :: st) Qc := by
  intro p e s m args below meth c H locs ls hx hb hr hml hown hts hlk hin hS hls hH hF hB
  have hls1 : ls.size = M.2.2.1 := hls.choose_spec.1.1
  have hnm : s.vm.findClass "[B" = some (G.cA 7) := va_nm_byte (hS.2.1.2 7 _ rfl).2
  have hB2 := hB.2 rfl
  have hB1 := hB.1
  have hs0 : H.size = G.B + n := hH.1
  refine va_clone (own := M.1.cls) (ad := "[B") (x := (N, .inl f)) (ty := .byte) hx hb (hml.trans hls1.symm) hown (mm_word (M := M) hts hw rfl) (hts _ (mm_in 606 (by decide +kernel) rfl)) (hts _ (mm_in 607 (by decide +kernel) rfl)) (hts _ (mm_in 608 (by decide +kernel) rfl)) (hts _ (mm_in 609 (by decide +kernel) rfl)) hS.2.2.2.2.2.2.2.2.2.2.1.1 hS.2.1 hH.2.2 ctWd_D hF (fun q hq => by show G.B ≤ q; omega) r 7 (by rw [ctWd_get hr0, hes]) rfl hnm (va_fit (fun i _ => hf i)) h1d (by show _ + 14 ≤ 40 * d; omega) hk hz hd (fun q H1 hK1 hP1 hD1 hS1 => ?_)
  refine mm_sz fun hsz => ?_
  have hlen : (ctWd G.B n es).length = n := by simp [ctWd]
  have hlast : (ctWd G.B n es ++ [(q, (.inl (G.cA 7, N, .inl f) : va_E))])[n]? = some (q, .inl (G.cA 7, N, .inl f)) := by rw [List.getElem?_append_right (by omega), hlen]; simp
  have hq1 : q < H1.size := (hP1 n _ hlast).lt
  have hq2 : G.B ≤ q := hD1.2 n _ hlast
  have hq : q = G.B + n := by
    refine Classical.byContradiction fun hne => ?_
    have hj : q - G.B < n := by omega
    have := hD1.1 (q - G.B) n (G.B + (q - G.B), es (q - G.B)) _ (by rw [List.getElem?_append_left (by omega)]; exact ctWd_get hj) hlast (by show G.B + (q - G.B) = q; omega)
    omega
  subst hq
  have hH1 : ctH G.B G.H0 G.D (n + 1) (ctU es n (.inl (G.cA 7, N, .inl f))) H1 := by
    refine ⟨by omega, fun q hq => ?_, fun j y hy => ?_⟩
    · have h1 := hS1.2.1 q (by omega) (by simpa using hq)
      have h2 := hF.2.1 q (by omega) (by simpa using hq)
      rw [h1, ← h2]
      exact hH.2.1 q hq
    · obtain ⟨hj, rfl⟩ := ctWd_inv hy
      by_cases e : j = n
      · subst e
        rw [ctU_at]
        exact hP1 j _ hlast
      · rw [ctU_ne e]
        exact hP1 j (G.B + j, es j) (by rw [List.getElem?_append_left (by omega)]; exact ctWd_get (by omega))
  exact kk p e s m args below meth c H1 locs ls hx hb hr hml hown hts hlk hin hS hls hH1 hS1 ⟨hB.1, fun _ => by omega⟩
theorem x_castB {ex : Bool} {d : Nat} {M : mmMi} {l : Launch} {G : xG} {mc ms n : Nat} {es : Nat → va_E} {k z : Nat} {L st : List Value} {pc : Nat} {Qc : Array Value → State → Outcome → State → Prop} {i w r N : Nat} {f : Nat → Int32} (hd : decode M.2.1 pc = .ok (.checkcast i, 3)) (hw : lw_tbl[w]? = some (.classLink M.1.cls i "[B")) (hr0 : r < n) (hes : es r = .inl (G.cA 7, N, .inl f)) (kk : xE ex d M l G mc ms n es k z (pc + 3) L (.ref (G.B + r) :: st) Qc) : xE ex d M l G mc ms n es k z pc L (.ref (G.B + r) :: st) Qc := by
  intro p e s m args below meth c H locs ls hx hb hr hml hown hts hlk hin hS hls hH hF hB
  exact va_castA (own := M.1.cls) (nm := "[B") hx hb hown (mm_word (M := M) hts hw rfl) hH.2.2 r (by rw [ctWd_get hr0, hes]) (va_nm_byte (hS.2.1.2 7 _ rfl).2) hd (kk p e s m args below meth c H locs ls hx hb hr hml hown hts hlk hin hS hls hH hF hB)
theorem x_putQ {d : Nat} {M : mmMi} {l : Launch} {G : xG} {mc ms n : Nat} {es : Nat → va_E} {k z : Nat} {L st : List Value} {pc : Nat} {Qc : Array Value → State → Outcome → State → Prop} {r ci i w : Nat} {C : String} {T : u_T} {N : Nat} {fs : List Value} {v : Value} (j : Nat) (ty : FieldType) (hd : decode M.2.1 pc = .ok (.putfield i, 3)) (hcl : vwCl[ci]? = some (C, T, N)) (hj : j < N) (hw : lw_tbl[w]? = some (.fieldLink M.1.cls i (T j).1 (T j).2.1 (T j).2.2.1)) (hfin : (T j).2.2.2 = false) (hty : parseFieldDescriptor (T j).2.2.1 = some ty) (hn : narrow ty v = v) (hfit : fits ty v = true) (hr0 : r < n) (hes : es r = .inr (ci, fs)) (hjf : j < fs.length) (kk : ∀ es1, es1 r = .inr (ci, fs.set j v) → (∀ x, x ≠ r → es1 x = es x) → xE true d M l G mc ms n es1 k z (pc + 3) L st Qc) : xE true d M l G mc ms n es k z pc L (v :: .ref (G.B + r) :: st) Qc :=
  x_put j ty hd hcl hj hw hfin hty hn hfit hr0 hes hjf (kk _ (ctU_at _ _ _) (fun x hx => ctU_ne hx))
theorem x_putFQ {d : Nat} {M : mmMi} {l : Launch} {G : xG} {mc ms n : Nat} {es : Nat → va_E} {k z : Nat} {L st : List Value} {pc : Nat} {Qc : Array Value → State → Outcome → State → Prop} {r ci i w : Nat} {C : String} {T : u_T} {N : Nat} {fs : List Value} {v : Value} (j : Nat) (ty : FieldType) (hd : decode M.2.1 pc = .ok (.putfield i, 3)) (hcl : vwCl[ci]? = some (C, T, N)) (hj : j < N) (hw : lw_tbl[w]? = some (.fieldLink M.1.cls i (T j).1 (T j).2.1 (T j).2.2.1)) (hfin : (T j).2.2.2 = true) (hini : M.1.name = "<init>") (hdecl : (T j).1 = M.1.cls) (hty : parseFieldDescriptor (T j).2.2.1 = some ty) (hn : narrow ty v = v) (hfit : fits ty v = true) (hr0 : r < n) (hes : es r = .inr (ci, fs)) (hjf : j < fs.length) (kk : ∀ es1, es1 r = .inr (ci, fs.set j v) → (∀ x, x ≠ r → es1 x = es x) → xE true d M l G mc ms n es1 k z (pc + 3) L st Qc) : xE true d M l G mc ms n es k z pc L (v :: .ref (G.B + r) :: st) Qc :=
  x_putF j ty hd hcl hj hw hfin hini hdecl hty hn hfit hr0 hes hjf (kk _ (ctU_at _ _ _) (fun x hx => ctU_ne hx))
theorem x_bastQ {d : Nat} {M : mmMi} {l : Launch} {G : xG} {mc ms n : Nat} {es : Nat → va_E} {k z : Nat} {L st : List Value} {pc : Nat} {Qc : Array Value → State → Outcome → State → Prop} {r N i c : Nat} {f : Nat → Int32} (hd : decode M.2.1 pc = .ok (.bastore, 1)) (hr0 : r < n) (hes : es r = .inl (G.cA 7, N, .inl f)) (hi : i < N) (hN : N < 2 ^ 31) (hc : c < 128) (kk : ∀ es1, es1 r = .inl (G.cA 7, N, .inl (upd f i (nI c))) → (∀ x, x ≠ r → es1 x = es x) → xE true d M l G mc ms n es1 k z (pc + 1) L st Qc) : xE true d M l G mc ms n es k z pc L (.int (nI c) :: .int (nI i) :: .ref (G.B + r) :: st) Qc := by
  have h9 := kk _ (ctU_at es r _) (fun x hx => ctU_ne hx)
  refine x_bast i hd hr0 hes (nI_pos (by omega)) (nI_clamp (by omega)) hi ?_
  rw [(nar_nI c hc).1]
  exact h9
theorem x_newBQ {ex : Bool} {d : Nat} {M : mmMi} {l : Launch} {G : xG} {mc ms n : Nat} {es : Nat → va_E} {k z : Nat} {L st : List Value} {pc : Nat} {Qc : Array Value → State → Outcome → State → Prop} {N : Nat} {x : Int32} (hd : decode M.2.1 pc = .ok (.newarray .byte, 2)) (hxi : x = nI N) (hN9 : N ≤ 5000) (hk : k + 1 ≤ mc) (hz : z + N ≤ ms) (kk : ∀ es1, es1 n = .inl (G.cA 7, N, .inl fun _ => 0) → (∀ x, x ≠ n → es1 x = es x) → xE ex d M l G mc ms (n + 1) es1 (k + 1) (z + N) (pc + 2) L (.ref (G.B + n) :: st) Qc) : xE ex d M l G mc ms n es k z pc L (.int x :: st) Qc := by
  subst hxi
  exact x_newB N hd (nI_pos (by omega)) (nI_clamp (by omega)) hN9 hk hz (kk _ (ctU_at _ _ _) (fun x hx => ctU_ne hx))
theorem x_newQ {ex : Bool} {d : Nat} {M : mmMi} {l : Launch} {G : xG} {mc ms n : Nat} {es : Nat → va_E} {k z : Nat} {L st : List Value} {pc : Nat} {Qc : Array Value → State → Outcome → State → Prop} {i w1 ci : Nat} {q : vw_C} (hd : decode M.2.1 pc = .ok (.new i, 3)) (hw1 : lw_tbl[w1]? = some (.classLink M.1.cls i q.1)) (hci : vwCl[ci]? = some q) (hin1 : Cond.instantiable q.1 (mmNF ci) ∈ mmT) (hin2 : Cond.initialized q.1 ∈ mmT) (hk : k + 1 ≤ mc) (hz : z + mmNF ci ≤ ms) (kk : ∀ es1, es1 n = .inr (ci, ctDf ci) → (∀ x, x ≠ n → es1 x = es x) → xE ex d M l G mc ms (n + 1) es1 (k + 1) (z + mmNF ci) (pc + 3) L (.ref (G.B + n) :: st) Qc) : xE ex d M l G mc ms n es k z pc L st Qc :=
  x_new hd hw1 hci hin1 hin2 hk hz (kk _ (ctU_at _ _ _) (fun x hx => ctU_ne hx))
theorem x_copyOQ {d : Nat} {M : mmMi} {l : Launch} {G : xG} {mc ms n : Nat} {es : Nat → va_E} {k z : Nat} {L st : List Value} {pc : Nat} {Qc : Array Value → State → Outcome → State → Prop} {i w r q N0 N1 sp dp c0 : Nat} {f g : Nat → Int32} (hd : decode M.2.1 pc = .ok (.invokestatic i, 3)) (hw : lw_tbl[w]? = some (.methodLink M.1.cls i arraycopyName)) (h1d : 1 ≤ d) (hr0 : r < n) (hes : es r = .inl (G.cA 7, N0, .inl f)) (hq0 : q < n) (hqs : es q = .inl (G.cA 7, N1, .inl g)) (hf : bFit f) (h0 : sp + c0 ≤ N0) (h1 : dp + c0 ≤ N1) (hN0 : N0 < 2 ^ 31) (hN1 : N1 < 2 ^ 31) (hr8 : (st.map fun v => v.category).sum ≤ 8) (kk : ∀ es1, es1 q = .inl (G.cA 7, N1, .inl (va_cpy f g sp dp c0)) → (∀ x, x ≠ q → es1 x = es x) → xE true d M l G mc ms n es1 k z (pc + 3) L st Qc) : xE true d M l G mc ms n es k z pc L (.int (nI c0) :: .int (nI dp) :: .ref (G.B + q) :: .int (nI sp) :: .ref (G.B + r) :: st) Qc :=
  x_copyO hd hw h1d hr0 hes hq0 hqs hf h0 h1 hN0 hN1 hr8 (kk _ (ctU_at _ _ _) (fun x hx => ctU_ne hx))
theorem x_copyTQ {d : Nat} {M : mmMi} {l : Launch} {G : xG} {mc ms n : Nat} {es : Nat → va_E} {k z : Nat} {L st : List Value} {pc : Nat} {Qc : Array Value → State → Outcome → State → Prop} {i w a q N1 dp : Nat} {g : Nat → Int32} {U : Nat → Prop} {t : List Int32} (hd : decode M.2.1 pc = .ok (.invokestatic i, 3)) (hw : lw_tbl[w]? = some (.methodLink M.1.cls i arraycopyName)) (h1d : 1 ≤ d) (ht : tA G n es U a t) (hq0 : q < n) (hqs : es q = .inl (G.cA 7, N1, .inl g)) (hg : bFit g) (h1 : dp + t.length ≤ N1) (hN1 : N1 < 2 ^ 31) (hr8 : (st.map fun v => v.category).sum ≤ 8) (kk : ∀ g' es1, bFit g' → (∀ j, j < dp → g' j = g j) → (∀ (j : Nat) (x : Int32), t[j]? = some x → g' (dp + j) = x) → es1 q = .inl (G.cA 7, N1, .inl g') → (∀ x, x ≠ q → es1 x = es x) → xE true d M l G mc ms n es1 k z (pc + 3) L st Qc) : xE true d M l G mc ms n es k z pc L (.int (nI t.length) :: .int (nI dp) :: .ref (G.B + q) :: .int (nI 0) :: .ref a :: st) Qc :=
  x_copyT hd hw h1d ht hq0 hqs hg h1 hN1 hr8 (fun g' h1 h2 h3 => kk g' _ h1 h2 h3 (ctU_at _ _ _) (fun x hx => ctU_ne hx))
theorem x_cloneBQ {d : Nat} {M : mmMi} {l : Launch} {G : xG} {mc ms n : Nat} {es : Nat → va_E} {k z : Nat} {L st : List Value} {pc : Nat} {Qc : Array Value → State → Outcome → State → Prop} {i w r N : Nat} {f : Nat → Int32} (hd : decode M.2.1 pc = .ok (.invokevirtual i, 3)) (hw : lw_tbl[w]? = some (.methodLink M.1.cls i ⟨"[B", "clone", "()Ljava/lang/Object;"⟩)) (h1d : 1 ≤ d) (hr0 : r < n) (hes : es r = .inl (G.cA 7, N, .inl f)) (hf : bFit f) (hr8 : (st.map fun v => v.category).sum ≤ 8) (hk : k + 1 ≤ mc) (hz : z + N ≤ ms) (kk : ∀ es1, es1 n = .inl (G.cA 7, N, .inl f) → (∀ x, x ≠ n → es1 x = es x) → xE true d M l G mc ms (n + 1) es1 (k + 1) (z + N) (pc + 3) L (.ref (G.B + n) :: st) Qc) : xE true d M l G mc ms n es k z pc L (.ref (G.B + r) :: st) Qc :=
  x_cloneB hd hw h1d hr0 hes hf hr8 hk hz (kk _ (ctU_at _ _ _) (fun x hx => ctU_ne hx))
