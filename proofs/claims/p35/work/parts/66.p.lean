/-! ===== what the parser makes of a column's text ===== -/
def atP (t : List Int32) (p : Nat) (u : List Int32) : Prop := ∀ (i : Nat) (y : Int32), u[i]? = some y → chA t (p + i) = y
theorem atP.self (t : List Int32) : atP t 0 t := by
  intro i y h
  simp [chA, List.getD, h]
theorem atP.cons {t : List Int32} {p : Nat} {y : Int32} {u : List Int32} (h : atP t p (y :: u)) : chA t p = y ∧ atP t (p + 1) u := by
  refine ⟨h 0 y rfl, fun i z hz => ?_⟩
  rw [show p + 1 + i = p + (i + 1) by omega]
  exact h (i + 1) z (by simpa using hz)
theorem atP.app {t : List Int32} {u v : List Int32} : ∀ {p : Nat}, atP t p (u ++ v) → atP t (p + u.length) v := by
  induction u with
  | nil => intro p h; simpa using h
  | cons a u ih =>
    intro p h
    have h1 := ih h.cons.2
    rw [List.length_cons, show p + (u.length + 1) = p + 1 + u.length by omega]
    exact h1
theorem ltr_inj : ∀ i, i < 11 → ∀ j, j < 11 → ltr i = ltr j → i = j := by decide +kernel
theorem pKind_at {t : List Int32} {p kd : Nat} (hk : kd < 11) (h : chA t p = ltr kd) : ∀ (n i : Nat), i ≤ kd → kd < i + n → i + n ≤ 11 → pKind t p n i = some kd := by
  intro n
  induction n with
  | zero => intro i h1 h2; omega
  | succ n ih =>
    intro i h1 h2 h3
    unfold pKind
    rw [h]
    by_cases e : kd = i
    · subst e
      rw [if_pos rfl]
    · rw [if_neg (fun q => e (ltr_inj _ hk _ (by omega) q))]
      exact ih (i + 1) (by omega) (by omega) (by omega)
theorem pDig_at {t : List Int32} : ∀ (ds : List Int32) (n p d : Nat) (v : Int64) (s : Int32), ds.length ≤ n → (∀ x ∈ ds, isDg x) → ¬ isDg s → atP t p (ds ++ [s]) → (pDig t n p d v).1 = p + ds.length ∧ (pDig t n p d v).2.1 = d + ds.length := by
  intro ds
  induction ds with
  | nil =>
    intro n p d v s hn _ hs h
    have h1 : chA t p = s := h.cons.1
    cases n with
    | zero => exact ⟨rfl, rfl⟩
    | succ n =>
      unfold pDig
      rw [h1, if_neg hs]
      exact ⟨rfl, rfl⟩
  | cons x ds ih =>
    intro n p d v s hn hd hs h
    obtain ⟨h1, h2⟩ := atP.cons (show atP t p (x :: (ds ++ [s])) from h)
    cases n with
    | zero => simp at hn
    | succ n =>
      unfold pDig
      rw [h1, if_pos (hd x List.mem_cons_self)]
      obtain ⟨g1, g2⟩ := ih n (p + 1) (d + 1) (v * 10 + (x - 48).toInt64) s (by simpa using hn) (fun y hy => hd y (List.mem_cons_of_mem _ hy)) hs h2
      rw [g1, g2, List.length_cons]
      omega
theorem dg_ok : ∀ c, c < 10 → isDg (nI (48 + c)) ∧ nI (48 + c) ≠ 45 ∧ nI (48 + c) ≠ 95 ∧ nI (48 + c) ≠ 41 ∧ nI (48 + c) ≠ 39 := by decide +kernel
theorem lt_ok : ∀ a, a < 26 → isLt (nI (97 + a)) ∧ nI (97 + a) ≠ 95 ∧ nI (97 + a) ≠ 41 ∧ nI (97 + a) ≠ 39 := by decide +kernel
theorem ltn_ok9 : ∀ i, i < 8 → nI (ltn i) ≠ 95 ∧ nI (ltn i) ≠ 39 ∧ nI (ltn i) ≠ 41 ∧ nI (ltn i) = ltr i := by decide +kernel
theorem sep_ok : ∀ s : Int32, s = 44 ∨ s = 41 → ¬ isDg s ∧ ¬ isLt s := by
  rintro s (rfl | rfl) <;> decide
theorem pBox_at {t u : List Int32} {p : Nat} {s b : Int32} (hu : numT u) (hs : s = 44 ∨ s = 41) (h : atP t p (u ++ [s])) : (pBox t b p).1 = true ∧ (pBox t b p).2.1 = p + u.length := by
  obtain ⟨ds, ⟨⟨hd1, hd2⟩, hd3⟩, e⟩ := hu
  have hdg : ∀ x ∈ ds, isDg x := fun x hx => by obtain ⟨c, hc, rfl⟩ := hd3 x hx; exact (dg_ok c hc).1
  unfold pBox
  rcases e with rfl | rfl
  · have hne : ¬ chA t p = 45 := by
      cases u with
      | nil => simp at hd1
      | cons x u =>
        obtain ⟨c, hc, rfl⟩ := hd3 x List.mem_cons_self
        rw [(atP.cons (show atP t p (_ :: (u ++ [s])) from h)).1]
        exact (dg_ok c hc).2.1
    obtain ⟨g1, g2⟩ := pDig_at u 6 p 0 0 s hd2 hdg (sep_ok s hs).1 h
    simp only [if_neg hne, g1, g2]
    exact ⟨by simp; omega, trivial⟩
  · obtain ⟨h1, h2⟩ := atP.cons (show atP t p (45 :: (ds ++ [s])) from h)
    obtain ⟨g1, g2⟩ := pDig_at ds 6 (p + 1) 0 0 s hd2 hdg (sep_ok s hs).1 h2
    simp only [if_pos h1, g1, g2]
    exact ⟨by simp; omega, by simp; omega⟩
theorem pW_at {t u : List Int32} {p : Nat} {s : Int32} (hu : wordT u) (hs : s = 44 ∨ s = 41) (h : atP t p (u ++ [s])) : (pW t p).1 = true ∧ (pW t p).2.1 = p + u.length := by
  obtain ⟨a, ha, rfl | ⟨b, hb, rfl⟩⟩ := hu
  · obtain ⟨h1, h2⟩ := atP.cons (show atP t p (nI (97 + a) :: [s]) from h)
    have h3 := h2.cons.1
    unfold pW
    rw [h1, h3, if_pos (lt_ok a ha).1, if_neg (sep_ok s hs).2]
    exact ⟨rfl, rfl⟩
  · obtain ⟨h1, h2⟩ := atP.cons (show atP t p (nI (97 + a) :: [nI (97 + b), s]) from h)
    have h3 := h2.cons.1
    unfold pW
    rw [h1, h3, if_pos (lt_ok a ha).1, if_pos (lt_ok b hb).1]
    exact ⟨rfl, rfl⟩
theorem numT.hd {u : List Int32} (h : numT u) : ∃ x v, u = x :: v ∧ x ≠ 95 ∧ x ≠ 41 := by
  obtain ⟨ds, ⟨⟨hd1, -⟩, hd3⟩, rfl | rfl⟩ := h
  · cases u with
    | nil => simp at hd1
    | cons x v =>
      obtain ⟨c, hc, rfl⟩ := hd3 x List.mem_cons_self
      exact ⟨_, v, rfl, (dg_ok c hc).2.2.1, (dg_ok c hc).2.2.2.1⟩
  · exact ⟨45, ds, rfl, by decide, by decide⟩
theorem kd_ok : ∀ kd, kd ≤ 10 → (kd < 8 → nI kd ≤ 7 ∧ nI kd ≠ 8 ∧ nI kd ≠ 9 ∧ nI kd ≠ 10) ∧ (8 ≤ kd → ¬ nI kd ≤ 7) := by decide +kernel
theorem pItem_at {t x : List Int32} {p kd : Nat} {s : Int32} (hk : kd ≤ 10) (hx : itemT kd x) (hs : s = 44 ∨ s = 41) (h : atP t p (x ++ [s])) : (pItem t (nI kd) p).1 = true ∧ (pItem t (nI kd) p).2.1 = p + x.length := by
  unfold pItem
  rcases hx with ⟨h8, rfl⟩ | ⟨rfl, hw⟩ | ⟨rfl, ⟨w, hw, rfl⟩ | ⟨i, u, hi, hu, rfl⟩⟩ | ⟨h9, hn⟩
  · rw [if_pos ⟨(kd_ok kd hk).2 h8, h.cons.1⟩]
    exact ⟨rfl, rfl⟩
  · have hne : ¬ chA t p = 95 := by
      obtain ⟨a, ha, rfl | ⟨b, hb, rfl⟩⟩ := hw
      · rw [(atP.cons (show atP t p (nI (97 + a) :: [s]) from h)).1]; exact (lt_ok a ha).2.1
      · rw [(atP.cons (show atP t p (nI (97 + a) :: [nI (97 + b), s]) from h)).1]; exact (lt_ok a ha).2.1
    rw [if_neg (fun q => hne q.2), if_pos (show nI 10 = 10 by decide)]
    exact pW_at hw hs h
  · obtain ⟨h1, h2⟩ := atP.cons (show atP t p (39 :: (w ++ [s])) from h)
    rw [h1, if_neg (fun q => absurd q.2 (by decide)), if_neg (show ¬ nI 9 = 10 by decide), if_pos (show nI 9 = 9 by decide), if_pos rfl]
    obtain ⟨g1, g2⟩ := pW_at hw hs h2
    exact ⟨g1, by rw [g2, List.length_cons]; omega⟩
  · obtain ⟨h1, h2⟩ := atP.cons (show atP t p (nI (ltn i) :: (u ++ [s])) from h)
    obtain ⟨q1, q2, -, q4⟩ := ltn_ok9 i hi
    have hp := pKind_at (t := t) (p := p) (kd := i) (by omega) (h1.trans q4) 8 0 (by omega) (by omega) (by omega)
    rw [if_neg (fun q => absurd (h1.symm.trans q.2) q1), if_neg (show ¬ nI 9 = 10 by decide), if_pos (show nI 9 = 9 by decide), if_neg (by rw [h1]; exact q2), hp]
    obtain ⟨g1, g2⟩ := pBox_at (b := nI i) hu hs h2
    exact ⟨g1, by rw [List.length_cons]; exact g2.trans (by omega)⟩
  · have hne : ¬ chA t p = 95 := by
      obtain ⟨y, v, rfl, e1, -⟩ := hn.hd
      rw [(atP.cons (show atP t p (y :: (v ++ [s])) from h)).1]
      exact e1
    rw [if_neg (fun q => hne q.2)]
    by_cases h8 : kd = 8
    · subst h8
      rw [if_neg (show ¬ nI 8 = 10 by decide), if_neg (show ¬ nI 8 = 9 by decide), if_pos (show nI 8 = 8 by decide)]
      exact pBox_at hn hs h
    · obtain ⟨-, e1, e2, e3⟩ := (kd_ok kd hk).1 (by omega)
      rw [if_neg e3, if_neg e2, if_neg e1]
      exact pBox_at hn hs h
theorem itemT.hd {kd : Nat} {x : List Int32} (h : itemT kd x) : ∃ y v, x = y :: v ∧ y ≠ 41 := by
  rcases h with ⟨-, rfl⟩ | ⟨-, hw⟩ | ⟨-, ⟨w, hw, rfl⟩ | ⟨i, u, hi, hu, rfl⟩⟩ | ⟨-, hn⟩
  · exact ⟨95, [], rfl, by decide⟩
  · obtain ⟨a, ha, rfl | ⟨b, hb, rfl⟩⟩ := hw
    · exact ⟨_, _, rfl, (lt_ok a ha).2.2.1⟩
    · exact ⟨_, _, rfl, (lt_ok a ha).2.2.1⟩
  · exact ⟨39, w, rfl, by decide⟩
  · exact ⟨_, u, rfl, (ltn_ok9 i hi).2.2.1⟩
  · obtain ⟨y, v, rfl, -, e⟩ := hn.hd
    exact ⟨y, v, rfl, e⟩
theorem pItems_at {t : List Int32} {kd : Nat} (hk : kd ≤ 10) : ∀ (ys : List (List Int32)) (j r p : Nat) (c : aCol), ys ≠ [] → ys.length ≤ j → (∀ x ∈ ys, itemT kd x) → atP t p (joinL ys ++ [41]) → ∃ c', pItems t (nI kd) j r p c = (true, p + (joinL ys).length, c') ∧ c'.1 = c.1 ∧ c'.2.1 = c.2.1 := by
  intro ys
  induction ys with
  | nil => intro j r p c h; exact absurd rfl h
  | cons x l ih =>
    intro j r p c _ hj hi h
    obtain ⟨j, rfl⟩ : ∃ j', j = j' + 1 := ⟨j - 1, by simp at hj; omega⟩
    have hx := hi x List.mem_cons_self
    cases l with
    | nil =>
      have h' : atP t p (x ++ [41]) := h
      obtain ⟨g1, g2⟩ := pItem_at hk hx (Or.inr rfl) h'
      have h41 : chA t (p + x.length) = 41 := h'.app.cons.1
      unfold pItems
      rw [if_pos g1, g2, h41]
      by_cases hj0 : j = 0
      · rw [if_pos hj0]
        exact ⟨_, rfl, rfl, rfl⟩
      · rw [if_neg hj0, if_neg (by decide)]
        exact ⟨_, rfl, rfl, rfl⟩
    | cons y l =>
      have e : joinL (x :: y :: l) = x ++ 44 :: joinL (y :: l) := rfl
      rw [e] at h ⊢
      have h' : atP t p (x ++ (44 :: (joinL (y :: l) ++ [41]))) := by simpa using h
      have h1 : atP t p (x ++ [44]) := fun i z hz => h' i z (by
        by_cases hl : i < x.length
        · rw [List.getElem?_append_left hl] at hz ⊢; exact hz
        · rw [List.getElem?_append_right (by omega)] at hz ⊢
          have : i - x.length = 0 := by
            have h9 := (List.getElem?_eq_some_iff.mp hz).1
            simp at h9
            omega
          rw [this] at hz ⊢
          simpa using hz)
      obtain ⟨g1, g2⟩ := pItem_at hk hx (Or.inl rfl) h1
      obtain ⟨h44, h2⟩ := h'.app.cons
      have hj0 : ¬ j = 0 := by simp at hj; omega
      obtain ⟨c', q1, q2, q3⟩ := ih j (r + 1) (p + x.length + 1) (setRow c r (pItem t (nI kd) p).2.2) (by simp) (by simp at hj ⊢; omega) (fun z hz => hi z (List.mem_cons_of_mem _ hz)) h2
      unfold pItems
      rw [if_pos g1, if_neg hj0, g2, if_pos h44, q1]
      refine ⟨c', ?_, q2, q3⟩
      simp only [List.length_append, List.length_cons]
      congr 2
      omega
theorem ltn_ltr : ∀ i, i < 11 → nI (ltn i) = ltr i := by decide +kernel
theorem p_parse {t : List Int32} {kd m : Nat} (hk : kd ≤ 10) (hm : 1 ≤ m) (h : colT kd m t) : (pParse t m).1 = true ∧ (pParse t m).2.2.1 = nI kd ∧ (pParse t m).2.2.2.1 = false := by
  obtain ⟨its, hl, hi, e⟩ := h
  have h0 := atP.self t
  rw [e] at h0
  obtain ⟨h1, h2⟩ := h0.cons
  obtain ⟨h3, h4⟩ := h2.cons
  rw [← e] at h1 h2 h3 h4
  have hp := pKind_at (t := t) (p := 0) (kd := kd) (by omega) (h1.trans (ltn_ltr kd (by omega))) 11 0 (by omega) (by omega) (by omega)
  have hne : its ≠ [] := by
    rintro rfl
    simp at hl
    omega
  have h5 : ¬ chA t 2 = 41 := by
    cases its with
    | nil => exact absurd rfl hne
    | cons x l =>
      obtain ⟨y, v, rfl, hy⟩ := (hi x List.mem_cons_self).hd
      have h6 : atP t 2 (joinL ((y :: v) :: l) ++ [41]) := h4
      have h7 : ∃ w, joinL ((y :: v) :: l) ++ [41] = y :: w := by
        cases l with
        | nil => exact ⟨_, rfl⟩
        | cons z l => exact ⟨_, rfl⟩
      obtain ⟨w, hw⟩ := h7
      rw [hw] at h6
      rw [h6.cons.1]
      exact hy
  obtain ⟨c', q1, q2, q3⟩ := pItems_at hk its m 0 2 (pNew kd) hne (by omega) hi h4
  have h41 : chA t (2 + (joinL its).length) = 41 := (show atP t 2 (joinL its ++ [41]) from h4).app.cons.1
  unfold pParse
  rw [hp]
  show (if chA t 1 = 40 then pEnd t (pTake t (nI kd) m 2 (pNew kd)) else (false, 1, pNew 0)).1 = true ∧ (if chA t 1 = 40 then pEnd t (pTake t (nI kd) m 2 (pNew kd)) else (false, 1, pNew 0)).2.2.1 = nI kd ∧ (if chA t 1 = 40 then pEnd t (pTake t (nI kd) m 2 (pNew kd)) else (false, 1, pNew 0)).2.2.2.1 = false
  rw [if_pos h3]
  unfold pTake
  rw [if_neg h5, q1]
  unfold pEnd
  rw [if_pos rfl, if_pos h41]
  refine ⟨?_, q2, q3⟩
  rw [e]
  simp
  omega
theorem wordT.asc {t : List Int32} (h : wordT t) : ascT t := by
  obtain ⟨a, ha, rfl | ⟨b, hb, rfl⟩⟩ := h
  · intro x hx
    simp only [List.mem_cons, List.not_mem_nil, or_false] at hx
    subst hx
    exact ⟨97 + a, by omega, rfl⟩
  · intro x hx
    simp only [List.mem_cons, List.not_mem_nil, or_false] at hx
    rcases hx with rfl | rfl
    · exact ⟨97 + a, by omega, rfl⟩
    · exact ⟨97 + b, by omega, rfl⟩
theorem numT.asc {t : List Int32} (h : numT t) : ascT t := by
  obtain ⟨u, ⟨-, h3⟩, rfl | rfl⟩ := h
  · intro x hx
    obtain ⟨c, hc, rfl⟩ := h3 x hx
    exact ⟨48 + c, by omega, rfl⟩
  · intro x hx
    rcases List.mem_cons.mp hx with rfl | hx
    · exact ⟨45, by decide, by decide⟩
    · obtain ⟨c, hc, rfl⟩ := h3 x hx
      exact ⟨48 + c, by omega, rfl⟩
theorem ascT.cons {x : Int32} {t : List Int32} (hx : ∃ k, k < 128 ∧ x = nI k) (h : ascT t) : ascT (x :: t) := fun y hy => by
  rcases List.mem_cons.mp hy with rfl | hy
  · exact hx
  · exact h y hy
theorem ascT.app {t u : List Int32} (h : ascT t) (h2 : ascT u) : ascT (t ++ u) := fun y hy => by
  rcases List.mem_append.mp hy with hy | hy
  · exact h y hy
  · exact h2 y hy
theorem itemT.asc {kd : Nat} {x : List Int32} (h : itemT kd x) : ascT x := by
  rcases h with ⟨-, rfl⟩ | ⟨-, hw⟩ | ⟨-, ⟨w, hw, rfl⟩ | ⟨i, u, hi, hu, rfl⟩⟩ | ⟨-, hn⟩
  · exact ascT.cons ⟨95, by decide, by decide⟩ (fun y hy => by cases hy)
  · exact hw.asc
  · exact ascT.cons ⟨39, by decide, by decide⟩ hw.asc
  · exact ascT.cons ⟨ltn i, (ltn_ok8 i hi).1, rfl⟩ hu.asc
  · exact hn.asc
theorem joinL_asc {kd : Nat} : ∀ l : List (List Int32), (∀ x ∈ l, itemT kd x) → ascT (joinL l)
  | [], _ => fun y hy => by cases hy
  | [y], h => (h y List.mem_cons_self).asc
  | y :: z :: l, h => ((h y List.mem_cons_self).asc).app (ascT.cons ⟨44, by decide, by decide⟩ (joinL_asc (z :: l) (fun x hx => h x (List.mem_cons_of_mem _ hx))))
theorem colT.asc {t : List Int32} {kd m : Nat} (hk : kd ≤ 10) (h : colT kd m t) : ascT t := by
  obtain ⟨its, -, hi, rfl⟩ := h
  exact ascT.cons ⟨ltn kd, (ltn_ok kd (by omega)).1, rfl⟩ (ascT.cons ⟨40, by decide, by decide⟩ ((joinL_asc its hi).app (ascT.cons ⟨41, by decide, by decide⟩ (fun y hy => by cases hy))))
theorem colT.len {t : List Int32} {kd m : Nat} (hm : m ≤ 8) (h : colT kd m t) : t.length ≤ 100 := by
  obtain ⟨its, hl, hi, rfl⟩ := h
  have := joinL_len its hi
  simp
  omega
