/-! ===== the class: sorted ===== -/
def ahead (T : aT) : List (Nat × Bool) → Nat → Nat → Bool
  | [], _, _ => false
  | k :: t, r, q => match T.2.1[k.1]? with
    | some col => if col.2.1 = true then ahead T t r q else if aRank (col.2.2 r) (col.2.2 q) = 0 then ahead T t r q else if k.2 = true then decide (0 < aRank (col.2.2 r) (col.2.2 q)) else decide (aRank (col.2.2 r) (col.2.2 q) < 0)
    | none => ahead T t r q
def keyC (μ : mmMem) (T : aT) : Prop := μ.1 1 2 = nI T.2.2.2.2.1.length ∧ (∀ c col, T.2.1[c]? = some col → colC μ (7 + 4 * c) T.1 col) ∧ ∀ k q, T.2.2.2.2.1[k]? = some q → μ.1 4 k = nI q.1 ∧ μ.1 5 k = if q.2 = true then 1 else 0
theorem keyC.fr {μ ν : mmMem} {T : aT} (h : keyC μ T) (ok : okT T) (e : ∀ q, q < 55 → eq3 μ ν q) : keyC ν T := by
  obtain ⟨h1, h2, h3⟩ := h
  have hl := ok.2.1
  refine ⟨by rw [(e 1 (by omega)).1]; exact h1, fun c col hc => ?_, fun k q hk => by rw [(e 4 (by omega)).1, (e 5 (by omega)).1]; exact h3 k q hk⟩
  have := lt_of_get hc
  exact (h2 c col hc).fr (e _ (by omega)) (e _ (by omega)) (e _ (by omega)) (e _ (by omega))
theorem CS.keyC {μ : mmMem} {S : aS} (h : CS μ S) : keyC μ S.1 := ⟨h.1.1.2.2.1, fun _ _ hc => h.colC hc, h.1.2.2.2.1⟩
theorem sg_pos {y r : Int32} (h : sgEq y r) : 0 < y ↔ 0 < r := by
  have h1 := h.1
  have h2 := h.2
  rw [Int32.lt_iff_toInt_lt, Int32.lt_iff_toInt_lt] at h1 ⊢
  rw [← Int32.toInt_inj, ← Int32.toInt_inj] at h2
  omega
theorem c_isAheadE {d r q : Nat} {T : aT} {P : Option Value → mmMem → Prop} (hd : 3 ≤ d) (ok : okT T) (hr : r < T.1) (hq : q < T.1) (ans : Bool) : ∀ (j c : Nat) (μ : mmMem) (v4 v5 : Value), T.2.2.2.2.1.length - c = j → c ≤ T.2.2.2.2.1.length → keyC μ T → ans = ahead T (T.2.2.2.2.1.drop c) r q → (∀ ν, (∀ z, z ≠ 152 → z ≠ 153 → eq3 μ ν z) → P (some (.int (if ans = true then 1 else 0))) ν) → mmEnds d M_X7_isAhead 2 [.ref 0, .int (nI r), .int (nI q), .int (nI c), v4, v5] [] μ P := by
  have hkl := ok.2.2.2.2.2.1
  have h40 := ok.1
  have h12 := ok.2.1
  intro j
  induction j with
  | zero =>
    intro c μ v4 v5 hj hc hC ha h
    refine s_X7_isAhead_2 (by omega) ?_
    rw [hC.1]
    rw [List.drop_of_length_le (by omega)] at ha
    subst ha
    exact ⟨fun _ => h μ (fun z _ _ => eq3.rfl'), fun w => absurd (nI_le (by omega) (by omega)) w⟩
  | succ j ih =>
    intro c μ v4 v5 hj hc hC ha h
    refine s_X7_isAhead_2 (by omega) ?_
    obtain ⟨k, hk⟩ : ∃ k, T.2.2.2.2.1[c]? = some k := ⟨_, List.getElem?_eq_getElem (by omega)⟩
    have hk1 := ok.2.2.2.2.2.2.1 k (List.mem_of_getElem? hk)
    obtain ⟨col, hcol⟩ : ∃ col, T.2.1[k.1]? = some col := ⟨_, List.getElem?_eq_getElem hk1⟩
    obtain ⟨k4, k5⟩ := hC.2.2 c k hk
    have hcc := hC.2.1 k.1 col hcol
    have okc := ok.2.2.1 col (List.mem_of_getElem? hcol)
    rw [drop_get hk] at ha
    unfold ahead at ha
    rw [hcol] at ha
    dsimp only at ha
    rw [hC.1, nI_clamp (by omega), k4, nI_clamp (by omega), hcc.2.1, nI_1]
    refine ⟨fun w => absurd w (nI_ge (by omega) (by omega)), fun _ => ⟨vp_in_nI (by omega) (by decide), vp_in_nI (by omega) (by decide), fun w => ?_, fun w => ?_⟩⟩
    · have hg : col.2.1 = true := by
        cases hh : col.2.1 with
        | true => rfl
        | false => rw [hh] at w; exact absurd rfl w
      rw [if_pos hg] at ha
      exact ih (c + 1) μ _ _ (by omega) (by omega) hC ha h
    · have hg : col.2.1 = false := by
        cases hh : col.2.1 with
        | true => rw [hh] at w; exact absurd w (by decide)
        | false => rfl
      rw [if_neg (by rw [hg]; decide)] at ha
      have ka := (kcol k.1 (by omega)).1
      refine c_load (by omega) ka kd_152 hcc hr h40 ?_
      have f1 : ∀ z, z ≠ 152 → eq3 μ (setC μ 152 (col.2.2 r)) z := fun z hz => ⟨setC_1 _ _ _ _ hz, setC_2 _ _ _ _ hz, setC_3 _ _ _ _ hz⟩
      have hc1 := hcc.fr (f1 _ (by omega)) (f1 _ (by omega)) (f1 _ (by omega)) (f1 _ (by omega))
      refine c_load (by omega) ka kd_153 hc1 hq h40 ?_
      have f2 : ∀ z, z ≠ 153 → eq3 (setC μ 152 (col.2.2 r)) (setC (setC μ 152 (col.2.2 r)) 153 (col.2.2 q)) z := fun z hz => ⟨setC_1 _ _ _ _ hz, setC_2 _ _ _ _ hz, setC_3 _ _ _ _ hz⟩
      have f12 : ∀ z, z ≠ 152 → z ≠ 153 → eq3 μ (setC (setC μ 152 (col.2.2 r)) 153 (col.2.2 q)) z := fun z h1 h2 => (f1 z h1).trans (f2 z h2)
      refine c_rank (by omega) kd_152 kd_153 ((setC_cl _ _ _).set (by decide)) (setC_cl _ _ _) (okc.2.2 r hr).1 (okc.2.2 q hq).1 (fun y hy => ?_)
      have hp := sg_pos hy
      rw [(f12 5 (by decide) (by decide)).1, k5, hy.2]
      have hC2 : keyC (setC (setC μ 152 (col.2.2 r)) 153 (col.2.2 q)) T := hC.fr ok (fun z hz => f12 z (by omega) (by omega))
      refine ⟨fun z => ?_, fun z => ?_⟩
      · rw [if_pos z] at ha
        exact ih (c + 1) _ _ _ (by omega) (by omega) hC2 ha (fun ν g => h ν (fun z h1 h2 => (f12 z h1 h2).trans (g z h1 h2)))
      · rw [if_neg z] at ha
        refine ⟨fun t => ?_, fun t => ?_⟩
        · have ht : k.2 = false := by
            cases hh : k.2 with
            | true => rw [hh] at t; exact absurd t (by decide)
            | false => rfl
          rw [if_neg (by rw [ht]; decide)] at ha
          refine ⟨fun l => ?_, fun l => ?_⟩
          · have : ans = false := by rw [ha, decide_eq_false_iff_not, ← hy.1]; exact Int32.not_lt.mpr l
            rw [this] at h
            exact h _ f12
          · have : ans = true := by rw [ha, decide_eq_true_eq, ← hy.1]; exact Int32.not_le.mp l
            rw [this] at h
            exact h _ f12
        · have ht : k.2 = true := by
            cases hh : k.2 with
            | true => rfl
            | false => rw [hh] at t; exact absurd rfl t
          rw [if_pos ht] at ha
          refine ⟨fun l => ?_, fun l => ?_⟩
          · have : ans = false := by rw [ha, decide_eq_false_iff_not, ← hp]; exact Int32.not_lt.mpr l
            rw [this] at h
            exact h _ f12
          · have : ans = true := by rw [ha, decide_eq_true_eq, ← hp]; exact Int32.not_le.mp l
            rw [this] at h
            exact h _ f12
theorem c_isAhead {d r q : Nat} {T : aT} {μ : mmMem} {K : Int32 → mmMem → Prop} (hd : 4 ≤ d) (ok : okT T) (hr : r < T.1) (hq : q < T.1) (hC : keyC μ T) (h : ∀ ν, (∀ z, z ≠ 152 → z ≠ 153 → eq3 μ ν z) → K (if ahead T T.2.2.2.2.1 r q = true then 1 else 0) ν) : mmCI d M_X7_isAhead false 2 [.ref 0, .int (nI r), .int (nI q)] μ K := by
  refine u_X7_isAhead (by omega) ?_
  exact c_isAheadE (by omega) ok hr hq _ _ 0 μ _ _ rfl (Nat.zero_le _) hC rfl (fun ν g => h ν g)
/-! rows of an array, by lists -/
def arr (g : Nat → Int32) (l : List Nat) : Prop := ∀ i r, l[i]? = some r → g i = nI r
theorem arr_app {g : Nat → Int32} {a b : List Nat} (h1 : arr g a) (h2 : arr (fun i => g (a.length + i)) b) : arr g (a ++ b) := by
  intro i r hr
  by_cases hi : i < a.length
  · rw [List.getElem?_append_left hi] at hr
    exact h1 i r hr
  · rw [List.getElem?_append_right (by omega)] at hr
    have := h2 (i - a.length) r hr
    dsimp only at this
    rw [show a.length + (i - a.length) = i by omega] at this
    exact this
theorem arr_left {g : Nat → Int32} {a b : List Nat} (h : arr g (a ++ b)) : arr g a := fun i r hr => h i r (by rw [List.getElem?_append_left (lt_of_get hr)]; exact hr)
theorem arr_right {g : Nat → Int32} {a b : List Nat} (h : arr g (a ++ b)) : arr (fun i => g (a.length + i)) b := fun i r hr => h (a.length + i) r (by rw [List.getElem?_append_right (by omega)]; rw [show a.length + i - a.length = i by omega]; exact hr)
/-- a row goes in, from behind: past those that it is ahead of -/
def insRev (A : Nat → Nat → Bool) (x : Nat) : List Nat → List Nat
  | [] => [x]
  | y :: t => if A x y = true then y :: insRev A x t else x :: y :: t
def sortRev (A : Nat → Nat → Bool) (l acc : List Nat) : List Nat := match l with
  | [] => acc
  | x :: t => sortRev A t (insRev A x acc)
def srt (A : Nat → Nat → Bool) : List Nat → List Nat
  | [] => []
  | x :: t => (sortRev A t [x]).reverse
theorem insRev_perm (A : Nat → Nat → Bool) (x : Nat) : ∀ l, (insRev A x l).Perm (x :: l)
  | [] => List.Perm.refl _
  | y :: t => by
    unfold insRev
    split
    · exact ((insRev_perm A x t).cons y).trans (List.Perm.swap x y t)
    · exact List.Perm.refl _
theorem sortRev_perm (A : Nat → Nat → Bool) : ∀ l acc, (sortRev A l acc).Perm (acc ++ l)
  | [], acc => by simp [sortRev]
  | x :: t, acc => by
    unfold sortRev
    refine (sortRev_perm A t _).trans ?_
    have h1 : (insRev A x acc ++ t).Perm ((x :: acc) ++ t) := (insRev_perm A x acc).append_right t
    refine h1.trans ?_
    have : ((x :: acc) ++ t) = x :: (acc ++ t) := rfl
    rw [this]
    exact List.perm_middle.symm
theorem srt_perm (A : Nat → Nat → Bool) (l : List Nat) : (srt A l).Perm l := by
  cases l with
  | nil => exact List.Perm.refl _
  | cons x t =>
    unfold srt
    refine (List.reverse_perm _).trans ((sortRev_perm A t [x]).trans ?_)
    exact List.Perm.refl _
theorem okV.perm {n : Nat} {l l' : List Nat} (h : okV n l) (p : l'.Perm l) : okV n l' := ⟨p.nodup_iff.mpr h.1, fun r hr => h.2 r (p.mem_iff.mp hr)⟩
/-- while a row goes in: t in place, sh shifted by one -/
def hole (g : Nat → Int32) (t sh rest : List Nat) : Prop := arr g t.reverse ∧ arr (fun i => g (t.length + 1 + i)) (sh.reverse ++ rest)
theorem hole_start {g : Nat → Int32} {acc rest : List Nat} {x : Nat} (h : arr g (acc.reverse ++ x :: rest)) : hole g acc [] rest ∧ g acc.length = nI x := by
  have h2 := arr_right h
  simp only [List.length_reverse] at h2
  refine ⟨⟨arr_left h, fun i r hr => ?_⟩, ?_⟩
  · have := h2 (i + 1) r (by simpa using hr)
    dsimp only at this ⊢
    rw [show acc.length + (i + 1) = acc.length + 1 + i by omega] at this
    exact this
  · have := h2 0 x rfl
    exact this
theorem hole_step {g : Nat → Int32} {t sh rest : List Nat} {y : Nat} (h : hole g (y :: t) sh rest) : g t.length = nI y ∧ hole (fun i => if i = t.length + 1 then nI y else g i) t (sh ++ [y]) rest := by
  obtain ⟨h1, h2⟩ := h
  rw [List.reverse_cons] at h1
  have e : g t.length = nI y := by
    have := arr_right h1 0 y rfl
    simpa using this
  refine ⟨e, fun i r hr => ?_, fun i r hr => ?_⟩
  · have hi := lt_of_get hr
    simp at hi
    have := arr_left h1 i r hr
    show (if i = t.length + 1 then nI y else g i) = nI r
    rw [if_neg (by omega)]
    exact this
  · show (if t.length + 1 + i = t.length + 1 then nI y else g (t.length + 1 + i)) = nI r
    rw [List.reverse_append, List.reverse_singleton, List.singleton_append, List.cons_append] at hr
    cases i with
    | zero =>
      cases hr
      rw [if_pos (by omega)]
    | succ i =>
      rw [if_neg (by omega)]
      have := h2 i r (by simpa using hr)
      dsimp only [List.length_cons] at this
      rw [show t.length + 1 + (i + 1) = t.length + 1 + 1 + i by omega]
      exact this
theorem hole_end {g : Nat → Int32} {t sh rest : List Nat} {x : Nat} (h : hole g t sh rest) : arr (fun i => if i = t.length then nI x else g i) ((sh ++ x :: t).reverse ++ rest) := by
  obtain ⟨h1, h2⟩ := h
  have e : (sh ++ x :: t).reverse ++ rest = t.reverse ++ (x :: (sh.reverse ++ rest)) := by simp
  rw [e]
  refine arr_app (fun i r hr => ?_) (fun i r hr => ?_)
  · have hi := lt_of_get hr
    simp at hi
    show (if i = t.length then nI x else g i) = nI r
    rw [if_neg (by omega)]
    exact h1 i r hr
  · dsimp only
    rw [List.length_reverse]
    cases i with
    | zero =>
      cases hr
      rw [if_pos (by omega)]
    | succ i =>
      rw [if_neg (by omega)]
      have := h2 i r (by simpa using hr)
      dsimp only at this
      rw [show t.length + (i + 1) = t.length + 1 + i by omega]
      exact this
theorem insRev_app {A : Nat → Nat → Bool} {x : Nat} : ∀ {sh t : List Nat}, (∀ y ∈ sh, A x y = true) → insRev A x (sh ++ t) = sh ++ insRev A x t
  | [], _, _ => rfl
  | y :: sh, t, h => by
    show (if A x y = true then y :: insRev A x (sh ++ t) else _) = _
    rw [if_pos (h y List.mem_cons_self), insRev_app (fun z hz => h z (List.mem_cons_of_mem _ hz))]
    rfl
/-! the class's view while it is being sorted -/
def wrV (μ ν : mmMem) (a : Nat) : Prop := (∀ q, q ≠ a + 1 → q ≠ 152 → q ≠ 153 → eq3 μ ν q) ∧ ν.2.1 (a + 1) = μ.2.1 (a + 1) ∧ ν.2.2 (a + 1) = μ.2.2 (a + 1)
theorem wrV.refl (μ : mmMem) (a : Nat) : wrV μ μ a := ⟨fun _ _ _ _ => eq3.rfl', rfl, rfl⟩
theorem wrV.trans {μ ν ξ : mmMem} {a : Nat} (h : wrV μ ν a) (h2 : wrV ν ξ a) : wrV μ ξ a := ⟨fun q a1 a2 a3 => (h.1 q a1 a2 a3).trans (h2.1 q a1 a2 a3), h2.2.1.trans h.2.1, h2.2.2.trans h.2.2⟩
theorem wrV.put (μ : mmMem) (a i : Nat) (x : Int32) : wrV μ (sI μ (a + 1) i x) a := ⟨fun q h1 _ _ => by simp [eq3, sI, h1], rfl, rfl⟩
theorem wrV.sc {μ ν : mmMem} {a : Nat} (h : ∀ z, z ≠ 152 → z ≠ 153 → eq3 μ ν z) (h2 : a + 1 < 152) : wrV μ ν a := ⟨fun q _ a2 a3 => h q a2 a3, (h _ (by omega) (by omega)).2.1, (h _ (by omega) (by omega)).2.2⟩
theorem c_insertE {d a : Nat} {T : aT} {l : List Nat} {P : Option Value → mmMem → Prop} (hd : 4 ≤ d) (ha : mmKD a = 6) (ha2 : 55 ≤ a ∧ a < 140) (ok : okT T) (okl : okV T.1 l) (μ0 : mmMem) (h0 : μ0.1 a 0 = nI l.length) (hK : keyC μ0 T) (h : ∀ ν, wrV μ0 ν a → arr (ν.1 (a + 1)) (srt (ahead T T.2.2.2.2.1) l) → P none ν) :
    ∀ (rest acc : List Nat) (μ : mmMem) (v3 v4 : Value), acc ≠ [] → acc.length + rest.length = l.length → (∀ r ∈ acc, r < T.1) → (∀ r ∈ rest, r < T.1) → wrV μ0 μ a → arr (μ.1 (a + 1)) (acc.reverse ++ rest) → srt (ahead T T.2.2.2.2.1) l = (sortRev (ahead T T.2.2.2.2.1) rest acc).reverse → mmEnds d M_X7_insertInOrder 2 [.ref 0, .ref a, .int (nI acc.length), v3, v4] [] μ P := by
  have h40 := ok.1
  have hll := okl.len
  intro rest
  induction rest with
  | nil =>
    intro acc μ v3 v4 hne hlen hacc hrest hw harr hs
    refine s_X7_insertInOrder_2 (by omega) ha ?_
    rw [(hw.1 a (by omega) (by omega) (by omega)).1, h0]
    simp only [List.length_nil, Nat.add_zero] at hlen
    refine ⟨fun _ => h μ hw ?_, fun w => absurd (nI_le (by omega) (by omega)) w⟩
    rw [hs]
    simpa [sortRev] using harr
  | cons x rest ih =>
    intro acc μ v3 v4 hne hlen hacc hrest hw harr hs
    simp only [List.length_cons] at hlen
    have hx := hrest x List.mem_cons_self
    obtain ⟨hh, hgx⟩ := hole_start harr
    have inner : ∀ (t sh : List Nat) (μ : mmMem), acc = sh ++ t → (∀ y ∈ sh, ahead T T.2.2.2.2.1 x y = true) → wrV μ0 μ a → hole (μ.1 (a + 1)) t sh rest → mmEnds d M_X7_insertInOrder 20 [.ref 0, .ref a, .int (nI acc.length), .int (nI x), .int (nI t.length)] [] μ P := by
      intro t
      induction t with
      | nil =>
        intro sh μ e hsh hw hho
        refine s_X7_insertInOrder_20 (by omega) ha ?_
        refine ⟨fun _ => ⟨vp_lit (by decide), ?_⟩, fun w => absurd (by decide) w⟩
        have e1 : insRev (ahead T T.2.2.2.2.1) x acc = sh ++ [x] := by rw [e, insRev_app hsh]; rfl
        have := ih (insRev (ahead T T.2.2.2.2.1) x acc) (sI μ (a + 1) 0 (nI x)) (.int (nI x)) (.int (nI 0)) (by rw [e1]; simp) (by rw [e1, ← hlen, e]; simp; omega) (fun r hr => by
          rw [e1] at hr
          rcases List.mem_append.mp hr with w | w
          · exact hacc r (by rw [e]; exact List.mem_append_left _ w)
          · rw [List.mem_singleton.mp w]; exact hx) (fun r hr => hrest r (List.mem_cons_of_mem _ hr)) (hw.trans (wrV.put μ a 0 _)) (by
          rw [e1]
          have := hole_end (x := x) hho
          have e2 : (sI μ (a + 1) 0 (nI x)).1 (a + 1) = fun i => if i = ([] : List Nat).length then nI x else μ.1 (a + 1) i := by funext i; simp [sI, upd]
          rw [e2]
          simpa using this) (by rw [hs]; rfl)
        have e3 : (insRev (ahead T T.2.2.2.2.1) x acc).length = acc.length + 1 := by rw [e1, e]; simp
        rw [e3] at this
        rw [nI_1]
        exact this
      | cons y t iht =>
        intro sh μ e hsh hw hho
        have hacl : acc.length = sh.length + (t.length + 1) := by rw [e]; simp
        refine s_X7_insertInOrder_20 (by omega) ha ?_
        have ep : nI (t.length + 1) - 1 = nI t.length := nI_pred _
        have em : nI (t.length + 1) + (-1) = nI t.length := by
          have : nI (t.length + 1) + (-1) = nI (t.length + 1) - 1 := by rw [Int32.sub_eq_add_neg]
          rw [this]; exact ep
        obtain ⟨hgy, hst⟩ := hole_step hho
        have hy : y < T.1 := hacc y (by rw [e]; simp)
        simp only [List.length_cons]
        rw [ep, em, nI_clamp (by omega), nI_clamp (by omega), hgy]
        refine ⟨fun w => absurd w (nI_nle (by omega) (by omega)), fun _ => ⟨vp_in_nI (by omega) (by decide), ?_⟩⟩
        refine c_isAhead (by omega) ok hx hy (hK.fr ok (fun z hz => hw.1 z (by omega) (by omega) (by omega))) (fun ν g => ?_)
        have hw2 := hw.trans (wrV.sc (a := a) g (by omega))
        have ga : ν.1 (a + 1) = μ.1 (a + 1) := (g (a + 1) (by omega) (by omega)).1
        refine ⟨fun z => ⟨vp_in_nI (by omega) (by decide), ?_⟩, fun z => ⟨vp_in_nI (by omega) (by decide), ?_⟩⟩
        · have hA : ahead T T.2.2.2.2.1 x y = false := by
            cases hq : ahead T T.2.2.2.2.1 x y with
            | true => rw [hq] at z; exact absurd z (by decide)
            | false => rfl
          have e1 : insRev (ahead T T.2.2.2.2.1) x acc = sh ++ x :: y :: t := by
            rw [e, insRev_app hsh]
            have e0 : insRev (ahead T T.2.2.2.2.1) x (y :: t) = x :: y :: t := by
              unfold insRev
              rw [if_neg (by rw [hA]; decide)]
            rw [e0]
          have := ih (insRev (ahead T T.2.2.2.2.1) x acc) (sI ν (a + 1) (t.length + 1) (nI x)) (.int (nI x)) (.int (nI (t.length + 1))) (by rw [e1]; simp) (by rw [e1, ← hlen, e]; simp; omega) (fun r hr => by
            rw [e1] at hr
            rcases List.mem_append.mp hr with w | w
            · exact hacc r (by rw [e]; exact List.mem_append_left _ w)
            · rcases List.mem_cons.mp w with w | w
              · rw [w]; exact hx
              · exact hacc r (by rw [e]; exact List.mem_append_right _ w)) (fun r hr => hrest r (List.mem_cons_of_mem _ hr)) (hw2.trans (wrV.put ν a _ _)) (by
            rw [e1]
            have := hole_end (x := x) hho
            have e2 : (sI ν (a + 1) (t.length + 1) (nI x)).1 (a + 1) = fun i => if i = (y :: t).length then nI x else μ.1 (a + 1) i := by funext i; simp [sI, upd, ga]
            rw [e2]
            exact this) (by rw [hs]; rfl)
          have e3 : (insRev (ahead T T.2.2.2.2.1) x acc).length = acc.length + 1 := by rw [e1]; simp; omega
          rw [e3] at this
          rw [nI_1]
          exact this
        · have hA : ahead T T.2.2.2.2.1 x y = true := by
            cases hq : ahead T T.2.2.2.2.1 x y with
            | true => rfl
            | false => rw [hq] at z; exact absurd rfl z
          rw [ga, hgy]
          refine iht (sh ++ [y]) _ (by rw [e]; simp) (fun z hz => ?_) (hw2.trans (wrV.put ν a _ _)) ?_
          · rcases List.mem_append.mp hz with w | w
            · exact hsh z w
            · rw [List.mem_singleton.mp w]; exact hA
          · have e2 : (sI ν (a + 1) (t.length + 1) (nI y)).1 (a + 1) = fun i => if i = t.length + 1 then nI y else μ.1 (a + 1) i := by funext i; simp [sI, upd, ga]
            rw [e2]
            exact hst
    refine s_X7_insertInOrder_2 (by omega) ha ?_
    rw [(hw.1 a (by omega) (by omega) (by omega)).1, h0, nI_clamp (by omega), hgx]
    refine ⟨fun w => absurd w (nI_ge (by omega) (by omega)), fun _ => ⟨vp_in_nI (by omega) (by decide), ?_⟩⟩
    exact inner acc [] μ rfl (fun y hy => absurd hy (by simp)) hw hh
theorem c_insert {d a : Nat} {T : aT} {l : List Nat} {μ : mmMem} {K : mmMem → Prop} (hd : 5 ≤ d) (ha : mmKD a = 6) (ha2 : 55 ≤ a ∧ a < 140) (ok : okT T) (okl : okV T.1 l) (hv : vwC μ a l) (hK : keyC μ T) (h : ∀ ν, wrV μ ν a → vwC ν a (srt (ahead T T.2.2.2.2.1) l) → K ν) : mmC0 d M_X7_insertInOrder false 1 [.ref 0, .ref a] μ K := by
  refine u_X7_insertInOrder (by omega) ha ?_
  have h40 := ok.1
  have hll := okl.len
  have fin : ∀ ν, wrV μ ν a → arr (ν.1 (a + 1)) (srt (ahead T T.2.2.2.2.1) l) → K ν := fun ν hw harr => h ν hw ⟨by rw [(hw.1 a (by omega) (by omega) (by omega)).1, hv.1, (srt_perm _ l).length_eq], harr⟩
  cases l with
  | nil =>
    refine s_X7_insertInOrder_2 (by omega) ha ?_
    rw [hv.1]
    exact ⟨fun _ => fin μ (wrV.refl μ a) (fun i r hr => by simp [srt] at hr), fun w => absurd (by decide) w⟩
  | cons x t =>
    have harr : arr (μ.1 (a + 1)) (x :: t) := fun i r hr => hv.2 i r hr
    exact c_insertE (l := x :: t) (by omega) ha ha2 ok okl μ hv.1 hK (fun ν hw harr => fin ν hw harr) t [x] μ _ _ (by simp) (by simp; omega) (fun r hr => okl.2 r (by simp at hr; simp [hr])) (fun r hr => okl.2 r (List.mem_cons_of_mem _ hr)) (wrV.refl μ a) (by simpa using harr) rfl
def sp_sort (v : Int32) (S : aS) : Int32 × aS := if noView v then (-1, S) else if S.1.2.2.2.2.1.length = 0 then (-3, S) else
  (nI (cnt (fun i => !((srt (ahead S.1 S.1.2.2.2.2.1) (getV S.1 v.toNatClampNeg))[i]? == (getV S.1 v.toNatClampNeg)[i]?)) (getV S.1 v.toNatClampNeg).length), sT S (setV S.1 v.toNatClampNeg (srt (ahead S.1 S.1.2.2.2.2.1) (getV S.1 v.toNatClampNeg))))
theorem c_sortE {d a : Nat} {l l' : List Nat} {P : Option Value → mmMem → Prop} (ha : mmKD a = 6) (x1 : Int32) (hlen : l'.length = l.length) (hll : l.length ≤ 40) (hb : (∀ r ∈ l, r < 2 ^ 31) ∧ ∀ r ∈ l', r < 2 ^ 31) (μ : mmMem) (hv : vwC μ a l') (h155 : arr (μ.1 155) l) (h : P (some (.int (nI (cnt (fun i => !(l'[i]? == l[i]?)) l.length)))) μ) : ∀ (j i : Nat), l.length - i = j → i ≤ l.length → mmEnds d M_X7_sort 59 [.ref 0, .int x1, .ref a, .int (nI (cnt (fun i => !(l'[i]? == l[i]?)) i)), .int (nI i)] [] μ P := by
  intro j
  induction j with
  | zero =>
    intro i hj hi
    refine s_X7_sort_59 (by omega) ha ?_
    rw [hv.1, hlen]
    have e : i = l.length := by omega
    rw [e]
    exact ⟨fun _ => h, fun w => absurd (nI_le (Nat.le_refl _) (by omega)) w⟩
  | succ j ih =>
    intro i hj hi
    refine s_X7_sort_59 (by omega) ha ?_
    obtain ⟨r, hr⟩ : ∃ r, l[i]? = some r := ⟨_, List.getElem?_eq_getElem (by omega)⟩
    obtain ⟨r', hr'⟩ : ∃ r, l'[i]? = some r := ⟨_, List.getElem?_eq_getElem (by omega)⟩
    have := ih (i + 1) (by omega) (by omega)
    rw [cnt_s] at this
    rw [hv.1, hlen, nI_clamp (by omega), hv.2 i r' hr', h155 i r hr, nI_1, nI_1, nI_eq (hb.2 r' (List.mem_of_getElem? hr')) (hb.1 r (List.mem_of_getElem? hr))]
    refine ⟨fun w => absurd w (nI_ge (by omega) (by omega)), fun _ => ⟨vp_in_nI (by omega) (by decide), fun e => ?_, fun e => ?_⟩⟩
    · rw [if_neg (by simp [hr, hr', e])] at this; exact this
    · rw [if_pos (by simp [hr, hr', e])] at this; exact this
theorem c_sort {d : Nat} {v : Int32} {S : aS} {μ : mmMem} {K : Int32 → mmMem → Prop} (hd : 6 ≤ d) (hC : CS μ S) (h : ∀ ν, CS ν (sp_sort v S).2 → hiE μ ν → K (sp_sort v S).1 ν) : mmCI d M_X7_sort false 1 [.ref 0, .int v] μ K := by
  refine u_X7_sort (by omega) ?_
  unfold sp_sort at h
  have bad : noView v → K (-1) μ := fun w => by
    rw [if_pos w] at h
    exact h μ hC (hiE.refl _)
  refine ⟨fun a => bad (Or.inl a), fun a => ⟨fun b => bad (Or.inr b), fun b => ?_⟩⟩
  have nv : ¬ noView v := by rintro (w | w); exact a w; exact b w
  rw [if_neg nv] at h
  obtain ⟨v, hv, rfl⟩ := view_of nv
  rw [nI_clamp (by omega)] at h ⊢
  have hkl := hC.2.1.2.2.2.2.2.1
  have okv := hC.2.1.vw v
  have hln := okv.len
  have h40 := hC.2.1.1
  have hvw := hC.1.vw hv
  rw [hC.1.1.2.2.1, hvw.1, nI_clamp (by omega)]
  have z0 : (0 : Int32).toNatClampNeg = 0 := rfl
  rw [z0]
  refine ⟨fun n => ?_, fun n => ?_⟩
  · have hne : ¬ S.1.2.2.2.2.1.length = 0 := fun w => n (by rw [w]; rfl)
    rw [if_neg hne] at h
    refine ⟨nI_pos (by omega), by omega, ?_⟩
    have e0 : ∀ q, q ≠ 155 → eq3 μ (cI μ (55 + 2 * v + 1) 155 0 0 (getV S.1 v).length) q := fun q hq => by simp [eq3, cI, hq]
    have e155 : ∀ i, i < (getV S.1 v).length → (cI μ (55 + 2 * v + 1) 155 0 0 (getV S.1 v).length).1 155 i = μ.1 (55 + 2 * v + 1) i := fun i hi => by simp [cI, va_cpy, hi]
    have s0 : scr μ (cI μ (55 + 2 * v + 1) 155 0 0 (getV S.1 v).length) := ⟨fun q hq => e0 q (by omega), by rw [(e0 141 (by decide)).1]⟩
    have hC2 := hC.scr s0
    refine c_insert (by omega) (kvw v hv).1 (by omega) hC.2.1 okv (hC2.1.vw hv) hC2.keyC (fun ν hw hvν => ?_)
    have all : ∀ q, q ≠ 55 + 2 * v → q ≠ 56 + 2 * v → (q < 141 ∨ q = 142) → eq3 μ ν q := fun q h1 h2 h3 => (e0 q (by omega)).trans (hw.1 q (by omega) (by omega) (by omega))
    have okl' := okv.perm (srt_perm (ahead S.1 S.1.2.2.2.2.1) (getV S.1 v))
    have hlen := (srt_perm (ahead S.1 S.1.2.2.2.2.1) (getV S.1 v)).length_eq
    have a155 : arr (ν.1 155) (getV S.1 v) := fun i r hr => by
      rw [(hw.1 155 (by omega) (by decide) (by decide)).1, e155 i (lt_of_get hr)]
      exact hvw.2 i r hr
    have b1 : ∀ r ∈ getV S.1 v, r < 2 ^ 31 := fun r hr => by have := okv.2 r hr; omega
    have b2 : ∀ r ∈ srt (ahead S.1 S.1.2.2.2.2.1) (getV S.1 v), r < 2 ^ 31 := fun r hr => by have := okl'.2 r hr; omega
    have := c_sortE (d := d - 1) (a := 55 + 2 * v) (l := getV S.1 v) (P := mmPI K) (kvw v hv).1 (nI v) hlen (by omega) ⟨b1, b2⟩ ν hvν a155 (h ν (hC.setV hv all (by rw [(hw.1 141 (by omega) (by omega) (by omega)).1, (e0 141 (by omega)).1]) hvν okl') (fun q hq => (e0 q (by omega)).trans (hw.1 q (by omega) (by omega) (by omega)))) _ 0 rfl (Nat.zero_le _)
    rw [cnt_0] at this
    exact this
  · have he : S.1.2.2.2.2.1.length = 0 := (nI_eq (by omega) (by decide : (0 : Nat) < 2 ^ 31)).mp n
    rw [if_pos he] at h
    exact h μ hC (hiE.refl _)
