/-! ===== the law's texts ===== -/
/-- what a method answers that makes a text: where its places are -/
def sPost (G : xG) (n : Nat) (es : Nat → va_E) (Q : List Int32 → Prop) : Option Value → Nat → (Nat → va_E) → Prop := fun o n1 es1 => ∃ a t, o = some (.ref a) ∧ Q t ∧ tS G n1 es1 (fun x => n ≤ x ∧ x < n1) a t ∧ ∀ x, x < n → es1 x = es x
def wordT (t : List Int32) : Prop := ∃ a, a < 26 ∧ (t = [nI (97 + a)] ∨ ∃ b, b < 26 ∧ t = [nI (97 + a), nI (97 + b)])
def numT (t : List Int32) : Prop := ∃ u, digT u ∧ (t = u ∨ t = 45 :: u)
def ltn (i : Nat) : Nat := [122, 98, 99, 115, 105, 108, 102, 100, 119, 111, 110].getD i 0
theorem ltn_ok : ∀ i, i < 11 → ltn i < 128 ∧ (xByt.getD 0 [])[i]? = some (nI (ltn i)) ∧ ltr i = nI (ltn i) := by decide +kernel
theorem ltn_ok8 : ∀ i, i < 8 → ltn i < 128 ∧ (xByt.getD 5 [])[i]? = some (nI (ltn i)) := by decide +kernel
def itemT (kd : Nat) (t : List Int32) : Prop := (8 ≤ kd ∧ t = [95]) ∨ (kd = 10 ∧ wordT t) ∨ (kd = 9 ∧ ((∃ w, wordT w ∧ t = 39 :: w) ∨ ∃ i u, i < 8 ∧ numT u ∧ t = nI (ltn i) :: u)) ∨ (kd < 9 ∧ numT t)
theorem wordT.len {t : List Int32} (h : wordT t) : t.length ≤ 2 := by
  obtain ⟨a, -, rfl | ⟨b, -, rfl⟩⟩ := h <;> simp
theorem numT.len {t : List Int32} (h : numT t) : t.length ≤ 7 := by
  obtain ⟨u, hu, rfl | rfl⟩ := h
  · have := hu.1.2; omega
  · have := hu.1.2; simp; omega
theorem itemT.len {kd : Nat} {t : List Int32} (h : itemT kd t) : t.length ≤ 8 := by
  rcases h with ⟨-, rfl⟩ | ⟨-, h⟩ | ⟨-, ⟨w, h, rfl⟩ | ⟨i, u, -, h, rfl⟩⟩ | ⟨-, h⟩
  · simp
  · have := h.len; omega
  · have := h.len; simp; omega
  · have := h.len; simp; omega
  · have := h.len; omega
theorem xb0 : xByt.getD 1 [] = [] ∧ xByt.getD 2 [] = [45] ∧ xByt.getD 3 [] = [95] ∧ xByt.getD 4 [] = [39] ∧ xByt.getD 6 [] = [40] ∧ xByt.getD 7 [] = [44] ∧ xByt.getD 8 [] = [41] := ⟨rfl, rfl, rfl, rfl, rfl, rfl, rfl⟩
theorem l_word {d : Nat} {l : Launch} {G : xG} {n : Nat} {es : Nat → va_E} {at0 : Nat} (hd : 8 ≤ d) (hat : at0 ≤ 60000) (hL : G.L < 2 ^ 31) : xMet d 12 2300 M_L_word l G n es [.ref G.b, .int (nI at0)] (sPost G n es wordT) := by
  refine xMet.of false (j := 1) (by decide +kernel) (catL rfl) rfl ?_
  have hF0 : ∀ x, x < n → es x = es x := fun _ _ => rfl
  refine x_newSB rfl (by decide +kernel) (by decide +kernel) (by decide +kernel) (by omega) (by omega) (by omega) (by simp [Value.category]) (fun es1 hb1 ho1 => ?_)
  have hF1 : ∀ x, x < n → es1 x = es x := fun x hx => (ho1 x (by omega)).trans (hF0 x hx)
  refine x_ldcS (i := 18) (j := 1) (tx := "") rfl (by decide +kernel) (by decide) ?_
  refine x_appS rfl (by decide +kernel) (by omega) hb1 (tS.k (U := fun _ => False) 1 (by decide) rfl) (fun x h1 h2 => False.elim h2) (by simp [xByt]; try omega) (by omega) (by omega) (by simp [Value.category]) (fun n2 es2 v2 hn2 hb2 hv2 ho2 => ?_)
  have hr2 := hb2.1
  have hvl2 := hb2.2.1
  have hF2 : ∀ x, x < n → es2 x = es x := fun x hx => (ho2 x (by omega) (by omega) (by omega)).trans (hF1 x hx)
  refine x_bipush (i := 97) (nI 97) (by decide +kernel) (by decide +kernel) ?_
  refine x_aload_n (i := 0) (by decide +kernel) rfl ?_
  refine x_iload_n (i := 1) (by decide +kernel) rfl ?_
  refine x_bipush (i := 26) (nI 26) (by decide +kernel) (by decide +kernel) ?_
  refine x_callS (i := 24) (d' := (d - 1)) (w := 493) (Mc := M_L_pick) [.ref G.b, .int (nI at0), .int (nI 26)] rfl (by decide +kernel) (by decide +kernel) g_L_pick (l_pick (by omega) (by omega) hL (by decide) (by decide)) (by omega) (by omega) (by omega) rfl (fun _ _ _ _ q => by cases q) (by simp [Value.category]) (fun o3 q3 e3 hP hn3x => ?_)
  obtain ⟨c1, hc1, rfl, hqn, hqe⟩ := hP
  replace hqn := hqn.symm; replace hqe := hqe.symm; subst hqn hqe
  refine x_iadd (nI (97 + c1)) (by decide +kernel) (nI_add _ _) ?_
  refine x_i2c (nI (97 + c1)) (by decide +kernel) (pk_i2c (by omega)) ?_
  refine x_appC rfl (by decide +kernel) (by omega) hb2 (by omega) (by simp [xByt]; try omega) (by omega) (by omega) (by simp [Value.category]) (fun n4 es4 v4 hn4 hb4 hv4 ho4 => ?_)
  have hr4 := hb4.1
  have hvl4 := hb4.2.1
  have hF4 : ∀ x, x < n → es4 x = es x := fun x hx => (ho4 x (by omega) (by omega) (by omega)).trans (hF2 x hx)
  refine x_toS rfl (by decide +kernel) (by omega) hb4 (by simp [xByt]; try omega) (by omega) (by omega) (by simp [Value.category]) (fun es5 ho5 ht5 => ?_)
  have hF5 : ∀ x, x < n → es5 x = es x := fun x hx => (ho5 x (by omega)).trans (hF4 x hx)
  refine x_astore_n (i := 2) (by decide +kernel) (by decide) (catL rfl) ?_
  refine x_aload_n (i := 0) (by decide +kernel) rfl ?_
  refine x_iload_n (i := 1) (by decide +kernel) rfl ?_
  refine x_iconst (i := 1) (nI 1) (by decide +kernel) (by decide +kernel) ?_
  refine x_iadd (nI (at0 + 1)) (by decide +kernel) (nI_add _ _) ?_
  refine x_iconst (i := 2) (nI 2) (by decide +kernel) (by decide +kernel) ?_
  refine x_callS (i := 24) (d' := (d - 1)) (w := 493) (Mc := M_L_pick) [.ref G.b, .int (nI (at0 + 1)), .int (nI 2)] rfl (by decide +kernel) (by decide +kernel) g_L_pick (l_pick (by omega) (by omega) hL (by decide) (by decide)) (by omega) (by omega) (by omega) rfl (fun _ _ _ _ q => by cases q) (by simp [Value.category]) (fun o6 q6 e6 hP hn6x => ?_)
  obtain ⟨c2, hc2, rfl, hqn, hqe⟩ := hP
  replace hqn := hqn.symm; replace hqe := hqe.symm; subst hqn hqe
  refine x_if (cc := .ne) (off := 7) 45 (by decide +kernel) rfl (fun q => ?_) (fun q => ?_)
  · refine x_newSB rfl (by decide +kernel) (by decide +kernel) (by decide +kernel) (by omega) (by omega) (by omega) (by simp [Value.category]) (fun es7 hb7 ho7 => ?_)
    have hF7 : ∀ x, x < n → es7 x = es x := fun x hx => (ho7 x (by omega)).trans (hF5 x hx)
    have ts7_A : tS G (n4 + 2 + 2) es7 (fun x => n4 ≤ x ∧ x < (n4 + 2)) (G.B + n4) (([] ++ (xByt.getD 1 [])) ++ [nI (97 + c1)]) := ht5.fr (by omega) (fun x h1 ⟨h2, h3⟩ => ho7 x (by omega))
    refine x_aload_n (i := 2) (by decide +kernel) rfl ?_
    refine x_appS rfl (by decide +kernel) (by omega) hb7 ts7_A (fun x h1 h2 => by have h3 := h2.1; have h4 := h2.2; omega) (by simp [xByt]; try omega) (by omega) (by omega) (by simp [Value.category]) (fun n8 es8 v8 hn8 hb8 hv8 ho8 => ?_)
    have hr8 := hb8.1
    have hvl8 := hb8.2.1
    have hF8 : ∀ x, x < n → es8 x = es x := fun x hx => (ho8 x (by omega) (by omega) (by omega)).trans (hF7 x hx)
    have ts8_A : tS G n8 es8 (fun x => n4 ≤ x ∧ x < (n4 + 2)) (G.B + n4) (([] ++ (xByt.getD 1 [])) ++ [nI (97 + c1)]) := ts7_A.fr (by omega) (fun x h1 ⟨h2, h3⟩ => ho8 x (by omega) (by omega) (by omega))
    refine x_bipush (i := 97) (nI 97) (by decide +kernel) (by decide +kernel) ?_
    refine x_aload_n (i := 0) (by decide +kernel) rfl ?_
    refine x_iload_n (i := 1) (by decide +kernel) rfl ?_
    refine x_iconst (i := 2) (nI 2) (by decide +kernel) (by decide +kernel) ?_
    refine x_iadd (nI (at0 + 2)) (by decide +kernel) (nI_add _ _) ?_
    refine x_iconst (i := 3) (nI 3) (by decide +kernel) (by decide +kernel) ?_
    refine x_callS (i := 24) (d' := (d - 1)) (w := 493) (Mc := M_L_pick) [.ref G.b, .int (nI (at0 + 2)), .int (nI 3)] rfl (by decide +kernel) (by decide +kernel) g_L_pick (l_pick (by omega) (by omega) hL (by decide) (by decide)) (by omega) (by omega) (by omega) rfl (fun _ _ _ _ q => by cases q) (by simp [Value.category]) (fun o9 q9 e9 hP hn9x => ?_)
    obtain ⟨c3, hc3, rfl, hqn, hqe⟩ := hP
    replace hqn := hqn.symm; replace hqe := hqe.symm; subst hqn hqe
    refine x_iadd (nI (97 + c3)) (by decide +kernel) (nI_add _ _) ?_
    refine x_i2c (nI (97 + c3)) (by decide +kernel) (pk_i2c (by omega)) ?_
    refine x_appC rfl (by decide +kernel) (by omega) hb8 (by omega) (by simp [xByt]; try omega) (by omega) (by omega) (by simp [Value.category]) (fun n10 es10 v10 hn10 hb10 hv10 ho10 => ?_)
    have hr10 := hb10.1
    have hvl10 := hb10.2.1
    have hF10 : ∀ x, x < n → es10 x = es x := fun x hx => (ho10 x (by omega) (by omega) (by omega)).trans (hF8 x hx)
    have ts10_A : tS G n10 es10 (fun x => n4 ≤ x ∧ x < (n4 + 2)) (G.B + n4) (([] ++ (xByt.getD 1 [])) ++ [nI (97 + c1)]) := ts8_A.fr (by omega) (fun x h1 ⟨h2, h3⟩ => ho10 x (by omega) (by omega) (by omega))
    refine x_toS rfl (by decide +kernel) (by omega) hb10 (by simp [xByt]; try omega) (by omega) (by omega) (by simp [Value.category]) (fun es11 ho11 ht11 => ?_)
    have hF11 : ∀ x, x < n → es11 x = es x := fun x hx => (ho11 x (by omega)).trans (hF10 x hx)
    have ts11_A : tS G (n10 + 2) es11 (fun x => n4 ≤ x ∧ x < (n4 + 2)) (G.B + n4) (([] ++ (xByt.getD 1 [])) ++ [nI (97 + c1)]) := ts10_A.fr (by omega) (fun x h1 ⟨h2, h3⟩ => ho11 x (by omega))
    exact x_areturn (.object RJ0) (by decide +kernel) rfl (Or.inl ⟨_, rfl⟩) (by omega) (by omega) (fun _ _ _ h => ⟨_, _, _, rfl, ⟨_, _, rfl, ⟨c1, hc1, Or.inr ⟨c3, by omega, rfl⟩⟩, (ht11.mono (fun x hx ⟨h1, h2⟩ => ⟨by omega, hx⟩)), hF11⟩, by omega, h⟩)
  · refine x_aload_n (i := 2) (by decide +kernel) rfl ?_
    refine x_goto (off := 32) 74 (by decide +kernel) rfl ?_
    exact x_areturn (.object RJ0) (by decide +kernel) rfl (Or.inl ⟨_, rfl⟩) (by omega) (by omega) (fun _ _ _ h => ⟨_, _, _, rfl, ⟨_, _, rfl, ⟨c1, hc1, Or.inl rfl⟩, (ht5.mono (fun x hx ⟨h1, h2⟩ => ⟨by omega, hx⟩)), hF5⟩, by omega, h⟩)
theorem l_number {d : Nat} {l : Launch} {G : xG} {n : Nat} {es : Nat → va_E} {at0 : Nat} (hd : 8 ≤ d) (hat : at0 ≤ 60000) (hL : G.L < 2 ^ 31) : xMet d 6 1200 M_L_number l G n es [.ref G.b, .int (nI at0)] (sPost G n es numT) := by
  refine xMet.of false (j := 0) (by decide +kernel) (catL rfl) rfl ?_
  have hF0 : ∀ x, x < n → es x = es x := fun _ _ => rfl
  refine x_newSB rfl (by decide +kernel) (by decide +kernel) (by decide +kernel) (by omega) (by omega) (by omega) (by simp [Value.category]) (fun es1 hb1 ho1 => ?_)
  have hF1 : ∀ x, x < n → es1 x = es x := fun x hx => (ho1 x (by omega)).trans (hF0 x hx)
  refine x_aload_n (i := 0) (by decide +kernel) rfl ?_
  refine x_iload_n (i := 1) (by decide +kernel) rfl ?_
  refine x_iconst (i := 4) (nI 4) (by decide +kernel) (by decide +kernel) ?_
  refine x_callS (i := 24) (d' := (d - 1)) (w := 493) (Mc := M_L_pick) [.ref G.b, .int (nI at0), .int (nI 4)] rfl (by decide +kernel) (by decide +kernel) g_L_pick (l_pick (by omega) (by omega) hL (by decide) (by decide)) (by omega) (by omega) (by omega) rfl (fun _ _ _ _ q => by cases q) (by simp [Value.category]) (fun o2 q2 e2 hP hn2x => ?_)
  obtain ⟨c1, hc1, rfl, hqn, hqe⟩ := hP
  replace hqn := hqn.symm; replace hqe := hqe.symm; subst hqn hqe
  refine x_if (cc := .ne) (off := 8) 21 (by decide +kernel) rfl (fun q => ?_) (fun q => ?_)
  · refine x_ldcS (i := 18) (j := 1) (tx := "") rfl (by decide +kernel) (by decide) ?_
    refine x_appS rfl (by decide +kernel) (by omega) hb1 (tS.k (U := fun _ => False) 1 (by decide) rfl) (fun x h1 h2 => False.elim h2) (by simp [xByt]; try omega) (by omega) (by omega) (by simp [Value.category]) (fun n3 es3 v3 hn3 hb3 hv3 ho3 => ?_)
    have hr3 := hb3.1
    have hvl3 := hb3.2.1
    have hF3 : ∀ x, x < n → es3 x = es x := fun x hx => (ho3 x (by omega) (by omega) (by omega)).trans (hF1 x hx)
    refine x_aload_n (i := 0) (by decide +kernel) rfl ?_
    refine x_iload_n (i := 1) (by decide +kernel) rfl ?_
    refine x_iconst (i := 1) (nI 1) (by decide +kernel) (by decide +kernel) ?_
    refine x_iadd (nI (at0 + 1)) (by decide +kernel) (nI_add _ _) ?_
    refine x_aload_n (i := 0) (by decide +kernel) rfl ?_
    refine x_iload_n (i := 1) (by decide +kernel) rfl ?_
    refine x_iconst (i := 2) (nI 2) (by decide +kernel) (by decide +kernel) ?_
    refine x_iadd (nI (at0 + 2)) (by decide +kernel) (nI_add _ _) ?_
    refine x_iconst (i := 3) (nI 3) (by decide +kernel) (by decide +kernel) ?_
    refine x_callS (i := 24) (d' := (d - 1)) (w := 493) (Mc := M_L_pick) [.ref G.b, .int (nI (at0 + 2)), .int (nI 3)] rfl (by decide +kernel) (by decide +kernel) g_L_pick (l_pick (by omega) (by omega) hL (by decide) (by decide)) (by omega) (by omega) (by omega) rfl (fun _ _ _ _ q => by cases q) (by simp [Value.category]) (fun o4 q4 e4 hP hn4x => ?_)
    obtain ⟨c2, hc2, rfl, hqn, hqe⟩ := hP
    replace hqn := hqn.symm; replace hqe := hqe.symm; subst hqn hqe
    refine x_if (cc := .ne) (off := 8) 46 (by decide +kernel) rfl (fun q2 => ?_) (fun q2 => ?_)
    · refine x_iconst (i := 5) (nI 5) (by decide +kernel) (by decide +kernel) ?_
      refine x_callS (i := 24) (d' := (d - 1)) (w := 493) (Mc := M_L_pick) [.ref G.b, .int (nI (at0 + 1)), .int (nI 5)] rfl (by decide +kernel) (by decide +kernel) g_L_pick (l_pick (m := 5) (by omega) (by omega) hL (by decide) (by decide)) (by omega) (by omega) (by omega) rfl (fun _ _ _ _ q => by cases q) (by simp [Value.category]) (fun o5 q5 e5 hP hn5x => ?_)
      obtain ⟨c3, hc3, rfl, hqn, hqe⟩ := hP
      replace hqn := hqn.symm; replace hqe := hqe.symm; subst hqn hqe
      refine x_appI rfl (by decide +kernel) (by omega) hb3 (by omega) (by simp [xByt]; try omega) (by omega) (by omega) (by simp [Value.category]) (fun n6 es6 v6 u6 hu6 hn6 hb6 hv6 ho6 => ?_)
      have hr6 := hb6.1
      have hvl6 := hb6.2.1
      have hF6 : ∀ x, x < n → es6 x = es x := fun x hx => (ho6 x (by omega) (by omega) (by omega)).trans (hF3 x hx)
      have hul := hu6.1.2
      refine x_toS rfl (by decide +kernel) (by omega) hb6 (by simp [xByt]; try omega) (by omega) (by omega) (by simp [Value.category]) (fun es7 ho7 ht7 => ?_)
      have hF7 : ∀ x, x < n → es7 x = es x := fun x hx => (ho7 x (by omega)).trans (hF6 x hx)
      exact x_areturn (.object RJ0) (by decide +kernel) rfl (Or.inl ⟨_, rfl⟩) (by omega) (by omega) (fun _ _ _ h => ⟨_, _, _, rfl, ⟨_, _, rfl, ⟨u6, hu6, Or.inl rfl⟩, (ht7.mono (fun x hx ⟨h1, h2⟩ => ⟨by omega, hx⟩)), hF7⟩, by omega, h⟩)
    · refine x_ldc (i := 37) (w := 768) (1000000 : Int32) (by decide +kernel) (by decide +kernel) ?_
      refine x_goto (off := 4) 47 (by decide +kernel) rfl ?_
      refine x_callS (i := 24) (d' := (d - 1)) (w := 493) (Mc := M_L_pick) [.ref G.b, .int (nI (at0 + 1)), .int 1000000] rfl (by decide +kernel) (by decide +kernel) g_L_pick (l_pick (m := 1000000) (by omega) (by omega) hL (by decide) (by decide)) (by omega) (by omega) (by omega) rfl (fun _ _ _ _ q => by cases q) (by simp [Value.category]) (fun o5 q5 e5 hP hn5x => ?_)
      obtain ⟨c3, hc3, rfl, hqn, hqe⟩ := hP
      replace hqn := hqn.symm; replace hqe := hqe.symm; subst hqn hqe
      refine x_appI rfl (by decide +kernel) (by omega) hb3 (by omega) (by simp [xByt]; try omega) (by omega) (by omega) (by simp [Value.category]) (fun n6 es6 v6 u6 hu6 hn6 hb6 hv6 ho6 => ?_)
      have hr6 := hb6.1
      have hvl6 := hb6.2.1
      have hF6 : ∀ x, x < n → es6 x = es x := fun x hx => (ho6 x (by omega) (by omega) (by omega)).trans (hF3 x hx)
      have hul := hu6.1.2
      refine x_toS rfl (by decide +kernel) (by omega) hb6 (by simp [xByt]; try omega) (by omega) (by omega) (by simp [Value.category]) (fun es7 ho7 ht7 => ?_)
      have hF7 : ∀ x, x < n → es7 x = es x := fun x hx => (ho7 x (by omega)).trans (hF6 x hx)
      exact x_areturn (.object RJ0) (by decide +kernel) rfl (Or.inl ⟨_, rfl⟩) (by omega) (by omega) (fun _ _ _ h => ⟨_, _, _, rfl, ⟨_, _, rfl, ⟨u6, hu6, Or.inl rfl⟩, (ht7.mono (fun x hx ⟨h1, h2⟩ => ⟨by omega, hx⟩)), hF7⟩, by omega, h⟩)
  · refine x_ldcS (i := 35) (j := 2) (tx := "-") rfl (by decide +kernel) (by decide) ?_
    refine x_goto (off := 5) 23 (by decide +kernel) rfl ?_
    refine x_appS rfl (by decide +kernel) (by omega) hb1 (tS.k (U := fun _ => False) 2 (by decide) rfl) (fun x h1 h2 => False.elim h2) (by simp [xByt]; try omega) (by omega) (by omega) (by simp [Value.category]) (fun n3 es3 v3 hn3 hb3 hv3 ho3 => ?_)
    have hr3 := hb3.1
    have hvl3 := hb3.2.1
    have hF3 : ∀ x, x < n → es3 x = es x := fun x hx => (ho3 x (by omega) (by omega) (by omega)).trans (hF1 x hx)
    refine x_aload_n (i := 0) (by decide +kernel) rfl ?_
    refine x_iload_n (i := 1) (by decide +kernel) rfl ?_
    refine x_iconst (i := 1) (nI 1) (by decide +kernel) (by decide +kernel) ?_
    refine x_iadd (nI (at0 + 1)) (by decide +kernel) (nI_add _ _) ?_
    refine x_aload_n (i := 0) (by decide +kernel) rfl ?_
    refine x_iload_n (i := 1) (by decide +kernel) rfl ?_
    refine x_iconst (i := 2) (nI 2) (by decide +kernel) (by decide +kernel) ?_
    refine x_iadd (nI (at0 + 2)) (by decide +kernel) (nI_add _ _) ?_
    refine x_iconst (i := 3) (nI 3) (by decide +kernel) (by decide +kernel) ?_
    refine x_callS (i := 24) (d' := (d - 1)) (w := 493) (Mc := M_L_pick) [.ref G.b, .int (nI (at0 + 2)), .int (nI 3)] rfl (by decide +kernel) (by decide +kernel) g_L_pick (l_pick (by omega) (by omega) hL (by decide) (by decide)) (by omega) (by omega) (by omega) rfl (fun _ _ _ _ q => by cases q) (by simp [Value.category]) (fun o4 q4 e4 hP hn4x => ?_)
    obtain ⟨c2, hc2, rfl, hqn, hqe⟩ := hP
    replace hqn := hqn.symm; replace hqe := hqe.symm; subst hqn hqe
    refine x_if (cc := .ne) (off := 8) 46 (by decide +kernel) rfl (fun q2 => ?_) (fun q2 => ?_)
    · refine x_iconst (i := 5) (nI 5) (by decide +kernel) (by decide +kernel) ?_
      refine x_callS (i := 24) (d' := (d - 1)) (w := 493) (Mc := M_L_pick) [.ref G.b, .int (nI (at0 + 1)), .int (nI 5)] rfl (by decide +kernel) (by decide +kernel) g_L_pick (l_pick (m := 5) (by omega) (by omega) hL (by decide) (by decide)) (by omega) (by omega) (by omega) rfl (fun _ _ _ _ q => by cases q) (by simp [Value.category]) (fun o5 q5 e5 hP hn5x => ?_)
      obtain ⟨c3, hc3, rfl, hqn, hqe⟩ := hP
      replace hqn := hqn.symm; replace hqe := hqe.symm; subst hqn hqe
      refine x_appI rfl (by decide +kernel) (by omega) hb3 (by omega) (by simp [xByt]; try omega) (by omega) (by omega) (by simp [Value.category]) (fun n6 es6 v6 u6 hu6 hn6 hb6 hv6 ho6 => ?_)
      have hr6 := hb6.1
      have hvl6 := hb6.2.1
      have hF6 : ∀ x, x < n → es6 x = es x := fun x hx => (ho6 x (by omega) (by omega) (by omega)).trans (hF3 x hx)
      have hul := hu6.1.2
      refine x_toS rfl (by decide +kernel) (by omega) hb6 (by simp [xByt]; try omega) (by omega) (by omega) (by simp [Value.category]) (fun es7 ho7 ht7 => ?_)
      have hF7 : ∀ x, x < n → es7 x = es x := fun x hx => (ho7 x (by omega)).trans (hF6 x hx)
      exact x_areturn (.object RJ0) (by decide +kernel) rfl (Or.inl ⟨_, rfl⟩) (by omega) (by omega) (fun _ _ _ h => ⟨_, _, _, rfl, ⟨_, _, rfl, ⟨u6, hu6, Or.inr rfl⟩, (ht7.mono (fun x hx ⟨h1, h2⟩ => ⟨by omega, hx⟩)), hF7⟩, by omega, h⟩)
    · refine x_ldc (i := 37) (w := 768) (1000000 : Int32) (by decide +kernel) (by decide +kernel) ?_
      refine x_goto (off := 4) 47 (by decide +kernel) rfl ?_
      refine x_callS (i := 24) (d' := (d - 1)) (w := 493) (Mc := M_L_pick) [.ref G.b, .int (nI (at0 + 1)), .int 1000000] rfl (by decide +kernel) (by decide +kernel) g_L_pick (l_pick (m := 1000000) (by omega) (by omega) hL (by decide) (by decide)) (by omega) (by omega) (by omega) rfl (fun _ _ _ _ q => by cases q) (by simp [Value.category]) (fun o5 q5 e5 hP hn5x => ?_)
      obtain ⟨c3, hc3, rfl, hqn, hqe⟩ := hP
      replace hqn := hqn.symm; replace hqe := hqe.symm; subst hqn hqe
      refine x_appI rfl (by decide +kernel) (by omega) hb3 (by omega) (by simp [xByt]; try omega) (by omega) (by omega) (by simp [Value.category]) (fun n6 es6 v6 u6 hu6 hn6 hb6 hv6 ho6 => ?_)
      have hr6 := hb6.1
      have hvl6 := hb6.2.1
      have hF6 : ∀ x, x < n → es6 x = es x := fun x hx => (ho6 x (by omega) (by omega) (by omega)).trans (hF3 x hx)
      have hul := hu6.1.2
      refine x_toS rfl (by decide +kernel) (by omega) hb6 (by simp [xByt]; try omega) (by omega) (by omega) (by simp [Value.category]) (fun es7 ho7 ht7 => ?_)
      have hF7 : ∀ x, x < n → es7 x = es x := fun x hx => (ho7 x (by omega)).trans (hF6 x hx)
      exact x_areturn (.object RJ0) (by decide +kernel) rfl (Or.inl ⟨_, rfl⟩) (by omega) (by omega) (fun _ _ _ h => ⟨_, _, _, rfl, ⟨_, _, rfl, ⟨u6, hu6, Or.inr rfl⟩, (ht7.mono (fun x hx ⟨h1, h2⟩ => ⟨by omega, hx⟩)), hF7⟩, by omega, h⟩)
theorem l_item18 {d : Nat} {l : Launch} {G : xG} {n : Nat} {es : Nat → va_E} {at0 kd : Nat} (hd : 9 ≤ d) (hat : at0 ≤ 50000) (hL : G.L < 2 ^ 31) (hk : kd ≤ 10) : xE false d M_L_item l G 20 3500 n es 0 0 18 [.ref G.b, .int (nI at0), .int (nI kd)] [] (xQc G n (sPost G n es (itemT kd))) := by
  have hF0 : ∀ x, x < n → es x = es x := fun _ _ => rfl
  refine x_iload_n (i := 2) (by decide +kernel) rfl ?_
  refine x_bipush (i := 10) (nI 10) (by decide +kernel) (by decide +kernel) ?_
  refine x_icmp (cc := .ne) (off := 11) 32 (by decide +kernel) rfl (fun q => ?_) (fun q => ?_)
  · have hk10 : kd ≠ 10 := fun z => q (by rw [z])
    refine x_iload_n (i := 2) (by decide +kernel) rfl ?_
    refine x_bipush (i := 9) (nI 9) (by decide +kernel) (by decide +kernel) ?_
    refine x_icmp (cc := .ne) (off := 80) 115 (by decide +kernel) rfl (fun q2 => ?_) (fun q2 => ?_)
    · have hk9 : kd ≠ 9 := fun z => q2 (by rw [z])
      refine x_aload_n (i := 0) (by decide +kernel) rfl ?_
      refine x_iload_n (i := 1) (by decide +kernel) rfl ?_
      refine x_iconst (i := 3) (nI 3) (by decide +kernel) (by decide +kernel) ?_
      refine x_iadd (nI (at0 + 3)) (by decide +kernel) (nI_add _ _) ?_
      refine x_callS (i := 57) (d' := (d - 1)) (w := 764) (Mc := M_L_number) [.ref G.b, .int (nI (at0 + 3))] rfl (by decide +kernel) (by decide +kernel) g_L_number (l_number (by omega) (by omega) hL) (by omega) (by omega) (by omega) rfl (fun _ _ _ _ q => by cases q) (by simp [Value.category]) (fun o1 n1 es1 hP hn1 => ?_)
      obtain ⟨a1, t1, rfl, hQ, hs1, ho1⟩ := hP
      have hF1 : ∀ x, x < n → es1 x = es x := fun x hx => (ho1 x (by omega)).trans (hF0 x hx)
      exact x_areturn (.object RJ0) (by decide +kernel) rfl (Or.inl ⟨_, rfl⟩) (by omega) (by omega) (fun _ _ _ h => ⟨_, _, _, rfl, ⟨_, _, rfl, Or.inr (Or.inr (Or.inr ⟨by omega, hQ⟩)), (hs1.mono (fun x hx ⟨h1, h2⟩ => ⟨by omega, hx⟩)), hF1⟩, by omega, h⟩)
    · have hk9 : kd = 9 := (nI_eq (by omega) (by decide)).mp q2
      refine x_aload_n (i := 0) (by decide +kernel) rfl ?_
      refine x_iload_n (i := 1) (by decide +kernel) rfl ?_
      refine x_iconst (i := 1) (nI 1) (by decide +kernel) (by decide +kernel) ?_
      refine x_iadd (nI (at0 + 1)) (by decide +kernel) (nI_add _ _) ?_
      refine x_iconst (i := 3) (nI 3) (by decide +kernel) (by decide +kernel) ?_
      refine x_callS (i := 24) (d' := (d - 1)) (w := 493) (Mc := M_L_pick) [.ref G.b, .int (nI (at0 + 1)), .int (nI 3)] rfl (by decide +kernel) (by decide +kernel) g_L_pick (l_pick (by omega) (by omega) hL (by decide) (by decide)) (by omega) (by omega) (by omega) rfl (fun _ _ _ _ q => by cases q) (by simp [Value.category]) (fun o1 q1 e1 hP hn1x => ?_)
      obtain ⟨c1, hc1, rfl, hqn, hqe⟩ := hP
      replace hqn := hqn.symm; replace hqe := hqe.symm; subst hqn hqe
      refine x_if (cc := .ne) (off := 31) 77 (by decide +kernel) rfl (fun q3 => ?_) (fun q3 => ?_)
      · refine x_newSB rfl (by decide +kernel) (by decide +kernel) (by decide +kernel) (by omega) (by omega) (by omega) (by simp [Value.category]) (fun es2 hb2 ho2 => ?_)
        have hF2 : ∀ x, x < n → es2 x = es x := fun x hx => (ho2 x (by omega)).trans (hF0 x hx)
        refine x_ldcS (i := 49) (j := 5) (tx := "zbcsilfd") rfl (by decide +kernel) (by decide) ?_
        refine x_aload_n (i := 0) (by decide +kernel) rfl ?_
        refine x_iload_n (i := 1) (by decide +kernel) rfl ?_
        refine x_iconst (i := 2) (nI 2) (by decide +kernel) (by decide +kernel) ?_
        refine x_iadd (nI (at0 + 2)) (by decide +kernel) (nI_add _ _) ?_
        refine x_bipush (i := 8) (nI 8) (by decide +kernel) (by decide +kernel) ?_
        refine x_callS (i := 24) (d' := (d - 1)) (w := 493) (Mc := M_L_pick) [.ref G.b, .int (nI (at0 + 2)), .int (nI 8)] rfl (by decide +kernel) (by decide +kernel) g_L_pick (l_pick (by omega) (by omega) hL (by decide) (by decide)) (by omega) (by omega) (by omega) rfl (fun _ _ _ _ q => by cases q) (by simp [Value.category]) (fun o3 q3 e3 hP hn3x => ?_)
        obtain ⟨c2, hc2, rfl, hqn, hqe⟩ := hP
        replace hqn := hqn.symm; replace hqe := hqe.symm; subst hqn hqe
        obtain ⟨g1, g2⟩ := ltn_ok8 c2 hc2
        refine x_callVp (i := 51) (d' := (d - 1)) (w := 537) (Mc := M_J0_charAt_5068e) [.int (nI c2)] rfl (by decide +kernel) (by decide +kernel) g_J0_charAt_5068e (xRc.str (by decide)) (t_charAt (U := fun _ => False) (by omega) (tS.k 5 (by decide) rfl) (by decide) g1 g2) (by omega) (by omega) (by omega) rfl (by simp [Value.category]) ?_
        refine x_appC rfl (by decide +kernel) (by omega) hb2 (by omega) (by simp [xByt]; try omega) (by omega) (by omega) (by simp [Value.category]) (fun n4 es4 v4 hn4 hb4 hv4 ho4 => ?_)
        have hr4 := hb4.1
        have hvl4 := hb4.2.1
        have hF4 : ∀ x, x < n → es4 x = es x := fun x hx => (ho4 x (by omega) (by omega) (by omega)).trans (hF2 x hx)
        refine x_aload_n (i := 0) (by decide +kernel) rfl ?_
        refine x_iload_n (i := 1) (by decide +kernel) rfl ?_
        refine x_iconst (i := 3) (nI 3) (by decide +kernel) (by decide +kernel) ?_
        refine x_iadd (nI (at0 + 3)) (by decide +kernel) (nI_add _ _) ?_
        refine x_callS (i := 57) (d' := (d - 1)) (w := 764) (Mc := M_L_number) [.ref G.b, .int (nI (at0 + 3))] rfl (by decide +kernel) (by decide +kernel) g_L_number (l_number (by omega) (by omega) hL) (by omega) (by omega) (by omega) rfl (fun _ _ _ _ q => by cases q) (by simp [Value.category]) (fun o5 n5 es5 hP hn5 => ?_)
        obtain ⟨a5, t5, rfl, hQ, hs5, ho5⟩ := hP
        have hF5 : ∀ x, x < n → es5 x = es x := fun x hx => (ho5 x (by omega)).trans (hF4 x hx)
        have hbb5 := hb4.fr (es1 := es5) hn5 (ho5 n (by omega)) (ho5 v4 (by omega))
        have hql := hQ.len
        refine x_appS rfl (by decide +kernel) (by omega) hbb5 hs5 (fun x h1 h2 => by have h3 := h2.1; have h4 := h2.2; omega) (by simp [xByt]; try omega) (by omega) (by omega) (by simp [Value.category]) (fun n6 es6 v6 hn6 hb6 hv6 ho6 => ?_)
        have hr6 := hb6.1
        have hvl6 := hb6.2.1
        have hF6 : ∀ x, x < n → es6 x = es x := fun x hx => (ho6 x (by omega) (by omega) (by omega)).trans (hF5 x hx)
        have ts6_A : tS G n6 es6 (fun x => n4 ≤ x ∧ x < n5) a5 t5 := hs5.fr (by omega) (fun x h1 ⟨h2, h3⟩ => ho6 x (by omega) (by omega) (by omega))
        refine x_toS rfl (by decide +kernel) (by omega) hb6 (by simp [xByt]; try omega) (by omega) (by omega) (by simp [Value.category]) (fun es7 ho7 ht7 => ?_)
        have hF7 : ∀ x, x < n → es7 x = es x := fun x hx => (ho7 x (by omega)).trans (hF6 x hx)
        have ts7_A : tS G (n6 + 2) es7 (fun x => n4 ≤ x ∧ x < n5) a5 t5 := ts6_A.fr (by omega) (fun x h1 ⟨h2, h3⟩ => ho7 x (by omega))
        exact x_areturn (.object RJ0) (by decide +kernel) rfl (Or.inl ⟨_, rfl⟩) (by omega) (by omega) (fun _ _ _ h => ⟨_, _, _, rfl, ⟨_, _, rfl, Or.inr (Or.inr (Or.inl ⟨hk9, Or.inr ⟨c2, _, hc2, hQ, rfl⟩⟩)), (ht7.mono (fun x hx ⟨h1, h2⟩ => ⟨by omega, hx⟩)), hF7⟩, by omega, h⟩)
      · refine x_newSB rfl (by decide +kernel) (by decide +kernel) (by decide +kernel) (by omega) (by omega) (by omega) (by simp [Value.category]) (fun es2 hb2 ho2 => ?_)
        have hF2 : ∀ x, x < n → es2 x = es x := fun x hx => (ho2 x (by omega)).trans (hF0 x hx)
        refine x_ldcS (i := 47) (j := 4) (tx := "'") rfl (by decide +kernel) (by decide) ?_
        refine x_appS rfl (by decide +kernel) (by omega) hb2 (tS.k (U := fun _ => False) 4 (by decide) rfl) (fun x h1 h2 => False.elim h2) (by simp [xByt]; try omega) (by omega) (by omega) (by simp [Value.category]) (fun n3 es3 v3 hn3 hb3 hv3 ho3 => ?_)
        have hr3 := hb3.1
        have hvl3 := hb3.2.1
        have hF3 : ∀ x, x < n → es3 x = es x := fun x hx => (ho3 x (by omega) (by omega) (by omega)).trans (hF2 x hx)
        refine x_aload_n (i := 0) (by decide +kernel) rfl ?_
        refine x_iload_n (i := 1) (by decide +kernel) rfl ?_
        refine x_iconst (i := 2) (nI 2) (by decide +kernel) (by decide +kernel) ?_
        refine x_iadd (nI (at0 + 2)) (by decide +kernel) (nI_add _ _) ?_
        refine x_callS (i := 43) (d' := (d - 1)) (w := 759) (Mc := M_L_word) [.ref G.b, .int (nI (at0 + 2))] rfl (by decide +kernel) (by decide +kernel) g_L_word (l_word (by omega) (by omega) hL) (by omega) (by omega) (by omega) rfl (fun _ _ _ _ q => by cases q) (by simp [Value.category]) (fun o4 n4 es4 hP hn4 => ?_)
        obtain ⟨a4, t4, rfl, hQ, hs4, ho4⟩ := hP
        have hF4 : ∀ x, x < n → es4 x = es x := fun x hx => (ho4 x (by omega)).trans (hF3 x hx)
        have hbb4 := hb3.fr (es1 := es4) hn4 (ho4 n (by omega)) (ho4 v3 (by omega))
        have hql := hQ.len
        refine x_appS rfl (by decide +kernel) (by omega) hbb4 hs4 (fun x h1 h2 => by have h3 := h2.1; have h4 := h2.2; omega) (by simp [xByt]; try omega) (by omega) (by omega) (by simp [Value.category]) (fun n5 es5 v5 hn5 hb5 hv5 ho5 => ?_)
        have hr5 := hb5.1
        have hvl5 := hb5.2.1
        have hF5 : ∀ x, x < n → es5 x = es x := fun x hx => (ho5 x (by omega) (by omega) (by omega)).trans (hF4 x hx)
        have ts5_A : tS G n5 es5 (fun x => n3 ≤ x ∧ x < n4) a4 t4 := hs4.fr (by omega) (fun x h1 ⟨h2, h3⟩ => ho5 x (by omega) (by omega) (by omega))
        refine x_toS rfl (by decide +kernel) (by omega) hb5 (by simp [xByt]; try omega) (by omega) (by omega) (by simp [Value.category]) (fun es6 ho6 ht6 => ?_)
        have hF6 : ∀ x, x < n → es6 x = es x := fun x hx => (ho6 x (by omega)).trans (hF5 x hx)
        have ts6_A : tS G (n5 + 2) es6 (fun x => n3 ≤ x ∧ x < n4) a4 t4 := ts5_A.fr (by omega) (fun x h1 ⟨h2, h3⟩ => ho6 x (by omega))
        refine x_goto (off := 40) 114 (by decide +kernel) rfl ?_
        exact x_areturn (.object RJ0) (by decide +kernel) rfl (Or.inl ⟨_, rfl⟩) (by omega) (by omega) (fun _ _ _ h => ⟨_, _, _, rfl, ⟨_, _, rfl, Or.inr (Or.inr (Or.inl ⟨hk9, Or.inl ⟨_, hQ, rfl⟩⟩)), (ht6.mono (fun x hx ⟨h1, h2⟩ => ⟨by omega, hx⟩)), hF6⟩, by omega, h⟩)
  · have hk10 : kd = 10 := (nI_eq (by omega) (by decide)).mp q
    refine x_aload_n (i := 0) (by decide +kernel) rfl ?_
    refine x_iload_n (i := 1) (by decide +kernel) rfl ?_
    refine x_iconst (i := 1) (nI 1) (by decide +kernel) (by decide +kernel) ?_
    refine x_iadd (nI (at0 + 1)) (by decide +kernel) (nI_add _ _) ?_
    refine x_callS (i := 43) (d' := (d - 1)) (w := 759) (Mc := M_L_word) [.ref G.b, .int (nI (at0 + 1))] rfl (by decide +kernel) (by decide +kernel) g_L_word (l_word (by omega) (by omega) hL) (by omega) (by omega) (by omega) rfl (fun _ _ _ _ q => by cases q) (by simp [Value.category]) (fun o1 n1 es1 hP hn1 => ?_)
    obtain ⟨a1, t1, rfl, hQ, hs1, ho1⟩ := hP
    have hF1 : ∀ x, x < n → es1 x = es x := fun x hx => (ho1 x (by omega)).trans (hF0 x hx)
    exact x_areturn (.object RJ0) (by decide +kernel) rfl (Or.inl ⟨_, rfl⟩) (by omega) (by omega) (fun _ _ _ h => ⟨_, _, _, rfl, ⟨_, _, rfl, Or.inr (Or.inl ⟨hk10, hQ⟩), (hs1.mono (fun x hx ⟨h1, h2⟩ => ⟨by omega, hx⟩)), hF1⟩, by omega, h⟩)
theorem l_item {d : Nat} {l : Launch} {G : xG} {n : Nat} {es : Nat → va_E} {at0 kd : Nat} (hd : 9 ≤ d) (hat : at0 ≤ 50000) (hL : G.L < 2 ^ 31) (hk : kd ≤ 10) : xMet d 20 3500 M_L_item l G n es [.ref G.b, .int (nI at0), .int (nI kd)] (sPost G n es (itemT kd)) := by
  refine xMet.of false (j := 0) (by decide +kernel) (catL rfl) rfl ?_
  refine x_iload_n (i := 2) (by decide +kernel) rfl ?_
  refine x_bipush (i := 8) (nI 8) (by decide +kernel) (by decide +kernel) ?_
  refine x_icmp (cc := .lt) (off := 15) 18 (by decide +kernel) rfl (fun q => ?_) (fun q => ?_)
  · exact l_item18 hd hat hL hk
  · have hk8 : 8 ≤ kd := Nat.not_lt.mp fun z => q (nI_lt z (by decide))
    refine x_aload_n (i := 0) (by decide +kernel) rfl ?_
    refine x_iload_n (i := 1) (by decide +kernel) rfl ?_
    refine x_iconst (i := 4) (nI 4) (by decide +kernel) (by decide +kernel) ?_
    refine x_callS (i := 24) (d' := (d - 1)) (w := 493) (Mc := M_L_pick) [.ref G.b, .int (nI at0), .int (nI 4)] rfl (by decide +kernel) (by decide +kernel) g_L_pick (l_pick (by omega) (by omega) hL (by decide) (by decide)) (by omega) (by omega) (by omega) rfl (fun _ _ _ _ q => by cases q) (by simp [Value.category]) (fun o1 q1 e1 hP hn1x => ?_)
    obtain ⟨c1, hc1, rfl, hqn, hqe⟩ := hP
    replace hqn := hqn.symm; replace hqe := hqe.symm; subst hqn hqe
    refine x_if (cc := .ne) (off := 6) 18 (by decide +kernel) rfl (fun q2 => ?_) (fun q2 => ?_)
    · exact l_item18 hd hat hL hk
    · have hF0 : ∀ x, x < n → es x = es x := fun _ _ => rfl
      refine x_ldcS (i := 41) (j := 3) (tx := "_") rfl (by decide +kernel) (by decide) ?_
      exact x_areturn (.object RJ0) (by decide +kernel) rfl (Or.inl ⟨_, rfl⟩) (by omega) (by omega) (fun _ _ _ h => ⟨_, _, _, rfl, ⟨_, _, rfl, Or.inl ⟨hk8, rfl⟩, (tS.k 3 (by decide) rfl), hF0⟩, by omega, h⟩)
