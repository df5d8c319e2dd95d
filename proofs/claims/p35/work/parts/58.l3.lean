/-! ===== a column's text ===== -/
def joinL : List (List Int32) → List Int32
  | [] => []
  | [x] => x
  | x :: y :: l => x ++ 44 :: joinL (y :: l)
theorem joinL_snoc (x : List Int32) : ∀ l : List (List Int32), joinL (l ++ [x]) = joinL l ++ ((if l.length = 0 then [] else [44]) ++ x)
  | [] => by simp [joinL]
  | [y] => by simp [joinL]
  | y :: z :: l => by
    have h := joinL_snoc x (z :: l)
    simp only [List.cons_append] at h ⊢
    simp only [joinL, h]
    simp
theorem joinL_len {kd : Nat} : ∀ l : List (List Int32), (∀ x ∈ l, itemT kd x) → (joinL l).length ≤ 9 * l.length
  | [], _ => by simp [joinL]
  | [y], h => by
    have := (h y List.mem_cons_self).len
    simp [joinL]
    omega
  | y :: z :: l, h => by
    have h1 := (h y List.mem_cons_self).len
    have h2 := joinL_len (z :: l) (fun x hx => h x (List.mem_cons_of_mem _ hx))
    simp only [joinL, List.length_append, List.length_cons] at h2 ⊢
    omega
def colT (kd many : Nat) (t : List Int32) : Prop := ∃ its : List (List Int32), its.length = many ∧ (∀ x ∈ its, itemT kd x) ∧ t = nI (ltn kd) :: 40 :: (joinL its ++ [41])
theorem l_colE {d : Nat} {l : Launch} {G : xG} {n0 : Nat} {es0 : Nat → va_E} {at0 kd many : Nat} (hd : 10 ≤ d) (hat : at0 ≤ 40000) (hL : G.L < 2 ^ 31) (hkd : kd ≤ 10) (hm : many ≤ 8) : ∀ (j k n : Nat) (es : Nat → va_E) (a : Nat) (its : List (List Int32)) (kk zz : Nat), many - k = j → k ≤ many → its.length = k → (∀ x ∈ its, itemT kd x) → n0 ≤ n → (∀ x, x < n0 → es x = es0 x) → tS G n es (fun x => n0 ≤ x ∧ x < n) a (nI (ltn kd) :: 40 :: joinL its) → kk ≤ 6 + 27 * k → zz ≤ 1200 + 5100 * k →
    xE false d M_L_column l G 240 45000 n es kk zz 29 [.ref G.b, .int (nI at0), .int (nI kd), .int (nI many), .ref a, .int (nI k)] [] (xQc G n0 (sPost G n0 es0 (colT kd many))) := by
  intro j
  induction j with
  | zero =>
    intro k n es a its kk zz hj hk hl hi hn hF ht hkk hzz
    have hk9 : k = many := by omega
    have hjl := joinL_len its hi
    have hF0 : ∀ x, x < n → es x = es x := fun _ _ => rfl
    refine x_iload (i := 5) (by decide +kernel) rfl ?_
    refine x_iload_n (i := 3) (by decide +kernel) rfl ?_
    refine x_icmp (cc := .ge) (off := 56) 88 (by decide +kernel) rfl (fun _ => ?_) (fun qq => absurd (show nI many ≤ nI k from nI_le (by omega) (by omega)) qq)
    refine x_newSB rfl (by decide +kernel) (by decide +kernel) (by decide +kernel) (by omega) (by omega) (by omega) (by simp [Value.category]) (fun es1 hb1 ho1 => ?_)
    have hF1 : ∀ x, x < n → es1 x = es x := fun x hx => (ho1 x (by omega)).trans (hF0 x hx)
    have ts1_T : tS G (n + 2) es1 (fun x => n0 ≤ x ∧ x < n) a (nI (ltn kd) :: 40 :: joinL its) := ht.fr (by omega) (fun x h1 ⟨h2, h3⟩ => ho1 x (by omega))
    refine x_aload (i := 4) (by decide +kernel) rfl ?_
    refine x_appS rfl (by decide +kernel) (by omega) hb1 ts1_T (fun x h1 h2 => by have h3 := h2.1; have h4 := h2.2; omega) (by simp [xByt]; try omega) (by omega) (by omega) (by simp [Value.category]) (fun n2 es2 v2 hn2 hb2 hv2 ho2 => ?_)
    have hr2 := hb2.1
    have hvl2 := hb2.2.1
    have hF2 : ∀ x, x < n → es2 x = es x := fun x hx => (ho2 x (by omega) (by omega) (by omega)).trans (hF1 x hx)
    have ts2_T : tS G n2 es2 (fun x => n0 ≤ x ∧ x < n) a (nI (ltn kd) :: 40 :: joinL its) := ts1_T.fr (by omega) (fun x h1 ⟨h2, h3⟩ => ho2 x (by omega) (by omega) (by omega))
    refine x_ldcS (i := 70) (j := 8) (tx := ")") rfl (by decide +kernel) (by decide) ?_
    refine x_appS rfl (by decide +kernel) (by omega) hb2 (tS.k (U := fun _ => False) 8 (by decide) rfl) (fun x h1 h2 => False.elim h2) (by simp [xByt]; try omega) (by omega) (by omega) (by simp [Value.category]) (fun n3 es3 v3 hn3 hb3 hv3 ho3 => ?_)
    have hr3 := hb3.1
    have hvl3 := hb3.2.1
    have hF3 : ∀ x, x < n → es3 x = es x := fun x hx => (ho3 x (by omega) (by omega) (by omega)).trans (hF2 x hx)
    have ts3_T : tS G n3 es3 (fun x => n0 ≤ x ∧ x < n) a (nI (ltn kd) :: 40 :: joinL its) := ts2_T.fr (by omega) (fun x h1 ⟨h2, h3⟩ => ho3 x (by omega) (by omega) (by omega))
    refine x_toS rfl (by decide +kernel) (by omega) hb3 (by simp [xByt]; try omega) (by omega) (by omega) (by simp [Value.category]) (fun es4 ho4 ht4 => ?_)
    have hF4 : ∀ x, x < n → es4 x = es x := fun x hx => (ho4 x (by omega)).trans (hF3 x hx)
    have ts4_T : tS G (n3 + 2) es4 (fun x => n0 ≤ x ∧ x < n) a (nI (ltn kd) :: 40 :: joinL its) := ts3_T.fr (by omega) (fun x h1 ⟨h2, h3⟩ => ho4 x (by omega))
    exact x_areturn (.object RJ0) (by decide +kernel) rfl (Or.inl ⟨_, rfl⟩) (by omega) (by omega) (fun _ _ _ h => ⟨_, _, _, rfl, ⟨_, _, rfl, ⟨its, hl.trans hk9, hi, by simp [xByt]⟩, ht4.mono (fun x hx ⟨h1, h2⟩ => ⟨by omega, hx⟩), fun x hx => (hF4 x (by omega)).trans (hF x hx)⟩, by omega, h⟩)
  | succ j ih =>
    intro k n es a its kk zz hj hk hl hi hn hF ht hkk hzz
    have hjl := joinL_len its hi
    have hF0 : ∀ x, x < n → es x = es x := fun _ _ => rfl
    refine x_iload (i := 5) (by decide +kernel) rfl ?_
    refine x_iload_n (i := 3) (by decide +kernel) rfl ?_
    refine x_icmp (cc := .ge) (off := 56) 88 (by decide +kernel) rfl (fun qq => absurd qq (show ¬ nI many ≤ nI k from nI_ge (by omega) (by omega))) (fun _ => ?_)
    refine x_newSB rfl (by decide +kernel) (by decide +kernel) (by decide +kernel) (by omega) (by omega) (by omega) (by simp [Value.category]) (fun es1 hb1 ho1 => ?_)
    have hF1 : ∀ x, x < n → es1 x = es x := fun x hx => (ho1 x (by omega)).trans (hF0 x hx)
    have ts1_T : tS G (n + 2) es1 (fun x => n0 ≤ x ∧ x < n) a (nI (ltn kd) :: 40 :: joinL its) := ht.fr (by omega) (fun x h1 ⟨h2, h3⟩ => ho1 x (by omega))
    refine x_aload (i := 4) (by decide +kernel) rfl ?_
    refine x_appS rfl (by decide +kernel) (by omega) hb1 ts1_T (fun x h1 h2 => by have h3 := h2.1; have h4 := h2.2; omega) (by simp [xByt]; try omega) (by omega) (by omega) (by simp [Value.category]) (fun n2 es2 v2 hn2 hb2 hv2 ho2 => ?_)
    have hr2 := hb2.1
    have hvl2 := hb2.2.1
    have hF2 : ∀ x, x < n → es2 x = es x := fun x hx => (ho2 x (by omega) (by omega) (by omega)).trans (hF1 x hx)
    have ts2_T : tS G n2 es2 (fun x => n0 ≤ x ∧ x < n) a (nI (ltn kd) :: 40 :: joinL its) := ts1_T.fr (by omega) (fun x h1 ⟨h2, h3⟩ => ho2 x (by omega) (by omega) (by omega))
    refine x_iload (i := 5) (by decide +kernel) rfl ?_
    refine x_if (cc := .ne) (off := 8) 57 (by decide +kernel) rfl (fun q => ?_) (fun q => ?_)
    · have hk0 : k ≠ 0 := fun z => q (by rw [z]; rfl)
      refine x_ldcS (i := 64) (j := 7) (tx := ",") rfl (by decide +kernel) (by decide) ?_
      refine x_appS rfl (by decide +kernel) (by omega) hb2 (tS.k (U := fun _ => False) 7 (by decide) rfl) (fun x h1 h2 => False.elim h2) (by simp [xByt]; try omega) (by omega) (by omega) (by simp [Value.category]) (fun n3 es3 v3 hn3 hb3 hv3 ho3 => ?_)
      have hr3 := hb3.1
      have hvl3 := hb3.2.1
      have hF3 : ∀ x, x < n → es3 x = es x := fun x hx => (ho3 x (by omega) (by omega) (by omega)).trans (hF2 x hx)
      have ts3_T : tS G n3 es3 (fun x => n0 ≤ x ∧ x < n) a (nI (ltn kd) :: 40 :: joinL its) := ts2_T.fr (by omega) (fun x h1 ⟨h2, h3⟩ => ho3 x (by omega) (by omega) (by omega))
      refine x_aload_n (i := 0) (by decide +kernel) rfl ?_
      refine x_iload_n (i := 1) (by decide +kernel) rfl ?_
      refine x_bipush (i := 7) (nI 7) (by decide +kernel) (by decide +kernel) ?_
      refine x_iload (i := 5) (by decide +kernel) rfl ?_
      refine x_imul (nI (7 * k)) (by decide +kernel) (pk_mul _ _) ?_
      refine x_iadd (nI (at0 + (7 * k))) (by decide +kernel) (nI_add _ _) ?_
      refine x_iload_n (i := 2) (by decide +kernel) rfl ?_
      refine x_callS (i := 66) (d' := (d - 1)) (w := 755) (Mc := M_L_item) [.ref G.b, .int (nI (at0 + (7 * k))), .int (nI kd)] rfl (by decide +kernel) (by decide +kernel) g_L_item (l_item (by omega) (by omega) hL hkd) (by omega) (by omega) (by omega) rfl (fun _ _ _ _ q => by cases q) (by simp [Value.category]) (fun o4 n4 es4 hP hn4 => ?_)
      obtain ⟨a4, t4, rfl, hQ, hs4, ho4⟩ := hP
      have hF4 : ∀ x, x < n → es4 x = es x := fun x hx => (ho4 x (by omega)).trans (hF3 x hx)
      have ts4_T : tS G n4 es4 (fun x => n0 ≤ x ∧ x < n) a (nI (ltn kd) :: 40 :: joinL its) := ts3_T.fr (by omega) (fun x h1 ⟨h2, h3⟩ => ho4 x (by omega))
      have hbb4 := hb3.fr (es1 := es4) hn4 (ho4 n (by omega)) (ho4 v3 (by omega))
      have hql := hQ.len
      refine x_appS rfl (by decide +kernel) (by omega) hbb4 hs4 (fun x h1 h2 => by have h3 := h2.1; have h4 := h2.2; omega) (by simp [xByt]; try omega) (by omega) (by omega) (by simp [Value.category]) (fun n5 es5 v5 hn5 hb5 hv5 ho5 => ?_)
      have hr5 := hb5.1
      have hvl5 := hb5.2.1
      have hF5 : ∀ x, x < n → es5 x = es x := fun x hx => (ho5 x (by omega) (by omega) (by omega)).trans (hF4 x hx)
      have ts5_T : tS G n5 es5 (fun x => n0 ≤ x ∧ x < n) a (nI (ltn kd) :: 40 :: joinL its) := ts4_T.fr (by omega) (fun x h1 ⟨h2, h3⟩ => ho5 x (by omega) (by omega) (by omega))
      have ts5_I : tS G n5 es5 (fun x => n3 ≤ x ∧ x < n4) a4 t4 := hs4.fr (by omega) (fun x h1 ⟨h2, h3⟩ => ho5 x (by omega) (by omega) (by omega))
      refine x_toS rfl (by decide +kernel) (by omega) hb5 (by simp [xByt]; try omega) (by omega) (by omega) (by simp [Value.category]) (fun es6 ho6 ht6 => ?_)
      have hF6 : ∀ x, x < n → es6 x = es x := fun x hx => (ho6 x (by omega)).trans (hF5 x hx)
      have ts6_T : tS G (n5 + 2) es6 (fun x => n0 ≤ x ∧ x < n) a (nI (ltn kd) :: 40 :: joinL its) := ts5_T.fr (by omega) (fun x h1 ⟨h2, h3⟩ => ho6 x (by omega))
      have ts6_I : tS G (n5 + 2) es6 (fun x => n3 ≤ x ∧ x < n4) a4 t4 := ts5_I.fr (by omega) (fun x h1 ⟨h2, h3⟩ => ho6 x (by omega))
      refine x_astore (i := 4) (by decide +kernel) (by decide) (catL rfl) ?_
      refine x_iinc (i := 5) (j := 1) (x := nI k) (nI (k + 1)) (by decide +kernel) (by decide) rfl (by rw [show Int32.ofInt 1 = 1 by decide]; exact nI_1 _) (catL rfl) ?_
      refine x_goto (off := -56) 29 (by decide +kernel) rfl ?_
      have et : ((([] ++ (nI (ltn kd) :: 40 :: joinL its)) ++ (xByt.getD 7 [])) ++ t4) = nI (ltn kd) :: 40 :: joinL (its ++ [t4]) := by
        rw [joinL_snoc, hl]
        simp [xByt, hk0]
      have hts := ht6
      rw [et] at hts
      refine x_widen (6 + 27 * (k + 1)) (1200 + 5100 * (k + 1)) (by omega) (by omega) ?_
      exact ih (k + 1) _ _ _ (its ++ [t4]) (6 + 27 * (k + 1)) (1200 + 5100 * (k + 1)) (by omega) (by omega) (by simp [hl]) (fun x hx => by rcases List.mem_append.mp hx with z | z; exact hi x z; rw [List.mem_singleton.mp z]; exact hQ) (by omega) (fun x hx => (hF6 x (by omega)).trans (hF x hx)) (hts.mono (fun x hx ⟨h1, h2⟩ => ⟨by omega, hx⟩)) (Nat.le_refl _) (Nat.le_refl _)
    · have hk0 : k = 0 := (nI_eq (b := 0) (by omega) (by decide)).mp q
      refine x_ldcS (i := 18) (j := 1) (tx := "") rfl (by decide +kernel) (by decide) ?_
      refine x_goto (off := 5) 59 (by decide +kernel) rfl ?_
      refine x_appS rfl (by decide +kernel) (by omega) hb2 (tS.k (U := fun _ => False) 1 (by decide) rfl) (fun x h1 h2 => False.elim h2) (by simp [xByt]; try omega) (by omega) (by omega) (by simp [Value.category]) (fun n3 es3 v3 hn3 hb3 hv3 ho3 => ?_)
      have hr3 := hb3.1
      have hvl3 := hb3.2.1
      have hF3 : ∀ x, x < n → es3 x = es x := fun x hx => (ho3 x (by omega) (by omega) (by omega)).trans (hF2 x hx)
      have ts3_T : tS G n3 es3 (fun x => n0 ≤ x ∧ x < n) a (nI (ltn kd) :: 40 :: joinL its) := ts2_T.fr (by omega) (fun x h1 ⟨h2, h3⟩ => ho3 x (by omega) (by omega) (by omega))
      refine x_aload_n (i := 0) (by decide +kernel) rfl ?_
      refine x_iload_n (i := 1) (by decide +kernel) rfl ?_
      refine x_bipush (i := 7) (nI 7) (by decide +kernel) (by decide +kernel) ?_
      refine x_iload (i := 5) (by decide +kernel) rfl ?_
      refine x_imul (nI (7 * k)) (by decide +kernel) (pk_mul _ _) ?_
      refine x_iadd (nI (at0 + (7 * k))) (by decide +kernel) (nI_add _ _) ?_
      refine x_iload_n (i := 2) (by decide +kernel) rfl ?_
      refine x_callS (i := 66) (d' := (d - 1)) (w := 755) (Mc := M_L_item) [.ref G.b, .int (nI (at0 + (7 * k))), .int (nI kd)] rfl (by decide +kernel) (by decide +kernel) g_L_item (l_item (by omega) (by omega) hL hkd) (by omega) (by omega) (by omega) rfl (fun _ _ _ _ q => by cases q) (by simp [Value.category]) (fun o4 n4 es4 hP hn4 => ?_)
      obtain ⟨a4, t4, rfl, hQ, hs4, ho4⟩ := hP
      have hF4 : ∀ x, x < n → es4 x = es x := fun x hx => (ho4 x (by omega)).trans (hF3 x hx)
      have ts4_T : tS G n4 es4 (fun x => n0 ≤ x ∧ x < n) a (nI (ltn kd) :: 40 :: joinL its) := ts3_T.fr (by omega) (fun x h1 ⟨h2, h3⟩ => ho4 x (by omega))
      have hbb4 := hb3.fr (es1 := es4) hn4 (ho4 n (by omega)) (ho4 v3 (by omega))
      have hql := hQ.len
      refine x_appS rfl (by decide +kernel) (by omega) hbb4 hs4 (fun x h1 h2 => by have h3 := h2.1; have h4 := h2.2; omega) (by simp [xByt]; try omega) (by omega) (by omega) (by simp [Value.category]) (fun n5 es5 v5 hn5 hb5 hv5 ho5 => ?_)
      have hr5 := hb5.1
      have hvl5 := hb5.2.1
      have hF5 : ∀ x, x < n → es5 x = es x := fun x hx => (ho5 x (by omega) (by omega) (by omega)).trans (hF4 x hx)
      have ts5_T : tS G n5 es5 (fun x => n0 ≤ x ∧ x < n) a (nI (ltn kd) :: 40 :: joinL its) := ts4_T.fr (by omega) (fun x h1 ⟨h2, h3⟩ => ho5 x (by omega) (by omega) (by omega))
      have ts5_I : tS G n5 es5 (fun x => n3 ≤ x ∧ x < n4) a4 t4 := hs4.fr (by omega) (fun x h1 ⟨h2, h3⟩ => ho5 x (by omega) (by omega) (by omega))
      refine x_toS rfl (by decide +kernel) (by omega) hb5 (by simp [xByt]; try omega) (by omega) (by omega) (by simp [Value.category]) (fun es6 ho6 ht6 => ?_)
      have hF6 : ∀ x, x < n → es6 x = es x := fun x hx => (ho6 x (by omega)).trans (hF5 x hx)
      have ts6_T : tS G (n5 + 2) es6 (fun x => n0 ≤ x ∧ x < n) a (nI (ltn kd) :: 40 :: joinL its) := ts5_T.fr (by omega) (fun x h1 ⟨h2, h3⟩ => ho6 x (by omega))
      have ts6_I : tS G (n5 + 2) es6 (fun x => n3 ≤ x ∧ x < n4) a4 t4 := ts5_I.fr (by omega) (fun x h1 ⟨h2, h3⟩ => ho6 x (by omega))
      refine x_astore (i := 4) (by decide +kernel) (by decide) (catL rfl) ?_
      refine x_iinc (i := 5) (j := 1) (x := nI k) (nI (k + 1)) (by decide +kernel) (by decide) rfl (by rw [show Int32.ofInt 1 = 1 by decide]; exact nI_1 _) (catL rfl) ?_
      refine x_goto (off := -56) 29 (by decide +kernel) rfl ?_
      have et : ((([] ++ (nI (ltn kd) :: 40 :: joinL its)) ++ (xByt.getD 1 [])) ++ t4) = nI (ltn kd) :: 40 :: joinL (its ++ [t4]) := by
        rw [joinL_snoc, hl]
        simp [xByt, hk0]
      have hts := ht6
      rw [et] at hts
      refine x_widen (6 + 27 * (k + 1)) (1200 + 5100 * (k + 1)) (by omega) (by omega) ?_
      exact ih (k + 1) _ _ _ (its ++ [t4]) (6 + 27 * (k + 1)) (1200 + 5100 * (k + 1)) (by omega) (by omega) (by simp [hl]) (fun x hx => by rcases List.mem_append.mp hx with z | z; exact hi x z; rw [List.mem_singleton.mp z]; exact hQ) (by omega) (fun x hx => (hF6 x (by omega)).trans (hF x hx)) (hts.mono (fun x hx ⟨h1, h2⟩ => ⟨by omega, hx⟩)) (Nat.le_refl _) (Nat.le_refl _)
theorem l_column {d : Nat} {l : Launch} {G : xG} {n : Nat} {es : Nat → va_E} {at0 kd many : Nat} (hd : 10 ≤ d) (hat : at0 ≤ 40000) (hL : G.L < 2 ^ 31) (hkd : kd ≤ 10) (hm : many ≤ 8) : xMet d 240 45000 M_L_column l G n es [.ref G.b, .int (nI at0), .int (nI kd), .int (nI many)] (sPost G n es (colT kd many)) := by
  refine xMet.of false (j := 2) (by decide +kernel) (catL rfl) rfl ?_
  have hF0 : ∀ x, x < n → es x = es x := fun _ _ => rfl
  refine x_newSB rfl (by decide +kernel) (by decide +kernel) (by decide +kernel) (by omega) (by omega) (by omega) (by simp [Value.category]) (fun es1 hb1 ho1 => ?_)
  have hF1 : ∀ x, x < n → es1 x = es x := fun x hx => (ho1 x (by omega)).trans (hF0 x hx)
  refine x_ldcS (i := 60) (j := 0) (tx := "zbcsilfdwon") rfl (by decide +kernel) (by decide) ?_
  refine x_iload_n (i := 2) (by decide +kernel) rfl ?_
  obtain ⟨g1, g2, -⟩ := ltn_ok kd (by omega)
  refine x_callVp (i := 51) (d' := (d - 1)) (w := 537) (Mc := M_J0_charAt_5068e) [.int (nI kd)] rfl (by decide +kernel) (by decide +kernel) g_J0_charAt_5068e (xRc.str (by decide)) (t_charAt (U := fun _ => False) (by omega) (tS.k 0 (by decide) rfl) (by decide) g1 g2) (by omega) (by omega) (by omega) rfl (by simp [Value.category]) ?_
  refine x_appC rfl (by decide +kernel) (by omega) hb1 (by omega) (by simp [xByt]; try omega) (by omega) (by omega) (by simp [Value.category]) (fun n2 es2 v2 hn2 hb2 hv2 ho2 => ?_)
  have hr2 := hb2.1
  have hvl2 := hb2.2.1
  have hF2 : ∀ x, x < n → es2 x = es x := fun x hx => (ho2 x (by omega) (by omega) (by omega)).trans (hF1 x hx)
  refine x_ldcS (i := 62) (j := 6) (tx := "(") rfl (by decide +kernel) (by decide) ?_
  refine x_appS rfl (by decide +kernel) (by omega) hb2 (tS.k (U := fun _ => False) 6 (by decide) rfl) (fun x h1 h2 => False.elim h2) (by simp [xByt]; try omega) (by omega) (by omega) (by simp [Value.category]) (fun n3 es3 v3 hn3 hb3 hv3 ho3 => ?_)
  have hr3 := hb3.1
  have hvl3 := hb3.2.1
  have hF3 : ∀ x, x < n → es3 x = es x := fun x hx => (ho3 x (by omega) (by omega) (by omega)).trans (hF2 x hx)
  refine x_toS rfl (by decide +kernel) (by omega) hb3 (by simp [xByt]; try omega) (by omega) (by omega) (by simp [Value.category]) (fun es4 ho4 ht4 => ?_)
  have hF4 : ∀ x, x < n → es4 x = es x := fun x hx => (ho4 x (by omega)).trans (hF3 x hx)
  refine x_astore (i := 4) (by decide +kernel) (by decide) (catL rfl) ?_
  refine x_iconst (i := 0) (nI 0) (by decide +kernel) (by decide +kernel) ?_
  refine x_istore (i := 5) (by decide +kernel) (by decide) (catL rfl) ?_
  have hts : tS G (n3 + 2) es4 (fun x => n ≤ x ∧ x < (n3 + 2)) (G.B + n3) (nI (ltn kd) :: 40 :: joinL []) := ht4.mono (fun x hx ⟨h1, h2⟩ => ⟨by omega, hx⟩)
  refine x_widen (6 + 27 * 0) (1200 + 5100 * 0) (by omega) (by omega) ?_
  exact l_colE hd hat hL hkd hm many 0 _ _ _ [] (6 + 27 * 0) (1200 + 5100 * 0) rfl (Nat.zero_le _) rfl (fun x hx => by cases hx) (by omega) hF4 hts (Nat.le_refl _) (Nat.le_refl _)
