/-! ===== what the calls come to ===== -/
def sT (S : aS) (T : aT) : aS := (T, S.2)
def szV (m n : Nat) (l : List Nat) : List Nat := l.filter (fun r => decide (r < n)) ++ List.range' m (n - m)
def renC (m n : Nat) (c : aCol) : aCol := (c.1, c.2.1, fun r => if m ≤ r ∧ r < n then newC c.1 else c.2.2 r)
def szT (T : aT) (n : Nat) : aT := (n, T.2.1.map (renC T.1 n), szV T.1 n T.2.2.1, szV T.1 n T.2.2.2.1, T.2.2.2.2)
def sp_size (n : Int32) (S : aS) : Int32 × aS := if n < 0 ∨ ¬ n ≤ 40 then (-2, S) else (nI S.1.1, sT S (szT S.1 n.toNatClampNeg))
def addT (T : aT) (c : aCol) : aT := (T.1, T.2.1 ++ [c], T.2.2)
def sp_column (k : Int32) (S : aS) : Int32 × aS := if k < 0 ∨ 10 < k then (-2, S) else if S.1.2.1.length < 12 then (nI S.1.2.1.length, sT S (addT S.1 (k, false, fun _ => newC k))) else (-4, S)
def withC (S : aS) (c : Int32) (f : Nat → aCol → Int32 × aS) : Int32 × aS := if cref S.1 c = 0 then (match S.1.2.1[c.toNatClampNeg]? with
  | some col => f c.toNatClampNeg col
  | none => (0, S)) else (cref S.1 c, rfs S (cref S.1 c))
theorem withC_no {S : aS} {c : Int32} {f : Nat → aCol → Int32 × aS} (h : ¬ cref S.1 c = 0) : withC S c f = (cref S.1 c, rfs S (cref S.1 c)) := if_neg h
theorem withC_ok {S : aS} {k : Nat} {col : aCol} {f : Nat → aCol → Int32 × aS} (hk : k < 12) (h : cref S.1 (nI k) = 0) (hc : S.1.2.1[k]? = some col) : withC S (nI k) f = f k col := by
  unfold withC
  rw [if_pos h, nI_clamp (by omega), hc]
def putCol (S : aS) (k : Nat) (c : aCol) : aS := sT S (S.1.1, S.1.2.1.set k c, S.1.2.2)
def sp_drop (c : Int32) (S : aS) : Int32 × aS := withC S c fun k col => (col.1, putCol S k (col.1, true, col.2.2))
def sp_kindOf (c : Int32) (S : aS) : Int32 × aS := withC S c fun _ col => (col.1, S)
abbrev noRow (T : aT) (r : Int32) : Prop := r < 0 ∨ ¬ r < nI T.1
theorem row_of {T : aT} {r : Int32} (ok : okT T) (h : ¬ noRow T r) : ∃ k, k < T.1 ∧ r = nI k := by
  have h1 : ¬ r < 0 := fun w => h (Or.inl w)
  have h2 : r < nI T.1 := Classical.not_not.mp fun w => h (Or.inr w)
  obtain ⟨k, hk, rfl⟩ := nI_of h1
  exact ⟨k, (nI_ltI hk (by have := ok.1; omega)).mp h2, rfl⟩
def sGot (S : aS) (v : Int64) : aS := (S.1, S.2.1, v, S.2.2.2)
def aWid (a b : Int32) : Bool := if a = b then true else if a = 0 ∨ b = 2 ∨ (a = 2 ∧ b = 3) then false else decide (a < b)
def aref (T : aT) (k r as : Int32) : Int32 := if as ≠ 8 ∧ 7 < k then -22 else if noRow T r then -21 else if as = 8 ∨ aWid k as = true then 0 else -22
def sp_ask (c r as : Int32) (S : aS) : Int32 × aS := withC S c fun _ col => if as < 0 ∨ 8 < as then (-2, S) else if aref S.1 col.1 r as = 0 then (if as = 8 then (100 + enK (col.2.2 r.toNatClampNeg), sGot S (col.2.2 r.toNatClampNeg).2) else (1, sGot S (aCast (col.2.2 r.toNatClampNeg) as))) else (aref S.1 col.1 r as, rfs S (aref S.1 col.1 r as))
/-! ===== the class's table ===== -/
theorem kcol : ∀ c, c < 12 → mmKD (7 + 4 * c) = 1 ∧ mmKD (77 + 4 * c) = 1 := by decide +kernel
theorem kvw : ∀ v, v < 2 → mmKD (55 + 2 * v) = 6 ∧ mmKD (125 + 2 * v) = 6 := by decide +kernel
theorem colUpd.col {μ ν : mmMem} {a m n : Nat} {c : aCol} (h : colUpd μ ν a (fun r => if m ≤ r ∧ r < n then some (newC c.1) else none)) (hc : colC μ a m c) : colC ν a n (renC m n c) := by
  obtain ⟨h1, h2, h3⟩ := h
  obtain ⟨c1, c2, c3⟩ := hc
  have e := h1 a (by omega) (by omega) (by omega)
  refine ⟨by rw [e.1]; exact c1, by rw [e.1]; exact c2, fun r hr => ?_⟩
  obtain ⟨g1, g2, g3⟩ := h3 r
  rw [g1, g2, g3]
  dsimp only
  by_cases hm : m ≤ r ∧ r < n
  · rw [if_pos hm]
    have : (renC m n c).2.2 r = newC c.1 := if_pos hm
    rw [this]
    exact ⟨rfl, rfl, rfl⟩
  · rw [if_neg hm]
    have : (renC m n c).2.2 r = c.2.2 r := if_neg hm
    rw [this]
    exact c3 r (by omega)
theorem c_tcols {d n : Nat} {T : aT} {P : Option Value → mmMem → Prop} (hd : 1 ≤ d) (ok : okT T) (hn : n ≤ 40) (μ0 : mmMem) (h0 : μ0.1 1 0 = nI T.1 ∧ μ0.1 1 1 = nI T.2.1.length) (hcols : ∀ c col, T.2.1[c]? = some col → colC μ0 (7 + 4 * c) T.1 col) (h : ∀ ν, (∀ q, q < 7 ∨ 55 ≤ q → eq3 μ0 ν q) → (∀ c col, T.2.1[c]? = some col → colC ν (7 + 4 * c) n (renC T.1 n col)) → mmEnds d M_X4_resize 32 [.ref 1, .int (nI n), .int (0 : Int32)] [] ν P) :
    ∀ (j c : Nat) (μ : mmMem), T.2.1.length - c = j → c ≤ T.2.1.length → (∀ q, q < 7 ∨ 55 ≤ q → eq3 μ0 μ q) → (∀ i col, T.2.1[i]? = some col → (i < c → colC μ (7 + 4 * i) n (renC T.1 n col)) ∧ (c ≤ i → colC μ (7 + 4 * i) T.1 col)) → mmEnds d M_X4_resize 2 [.ref 1, .int (nI n), .int (nI c)] [] μ P := by
  have hl := ok.2.1
  have hr := ok.1
  intro j
  induction j with
  | zero =>
    intro c μ hj hc hf hi
    refine s_X4_resize_2 (by omega) kd_1 ?_
    rw [(hf 1 (by omega)).1, h0.2]
    refine ⟨fun _ => h μ hf (fun i col hic => (hi i col hic).1 (by have := lt_of_get hic; omega)), fun q => absurd (nI_le (by omega) (by omega)) q⟩
  | succ j ih =>
    intro c μ hj hc hf hi
    refine s_X4_resize_2 (by omega) kd_1 ?_
    have hlt : c < T.2.1.length := by omega
    obtain ⟨col, hcol⟩ : ∃ col, T.2.1[c]? = some col := ⟨_, List.getElem?_eq_getElem hlt⟩
    have hcc := (hi c col hcol).2 (Nat.le_refl _)
    have okc := ok.2.2.1 col (List.mem_of_getElem? hcol)
    rw [(hf 1 (by omega)).1, h0.2, h0.1, nI_clamp (by omega), nI_1]
    refine ⟨fun q => absurd q (nI_ge (by omega) (by omega)), fun _ => ⟨vp_in_nI (by omega) (by decide), ?_⟩⟩
    show mmC0 d M_X1_renew false 2 [.ref (7 + 4 * c), .int (nI T.1), .int (nI n)] μ _
    refine c_renew (by omega) (kcol c (by omega)).1 ⟨okc.1, okc.2.1⟩ hr hn hcc.1 (fun ν hν => ?_)
    refine ih (c + 1) ν (by omega) (by omega) (fun q hq => (hf q hq).trans (hν.1 q (by omega) (by omega) (by omega))) (fun i col2 hi2 => ⟨fun hlt2 => ?_, fun hle => ?_⟩)
    · by_cases hic : i = c
      · subst hic
        rw [hcol] at hi2
        cases hi2
        exact hν.col hcc
      · exact ((hi i col2 hi2).1 (by omega)).fr (hν.1 _ (by omega) (by omega) (by omega)) (hν.1 _ (by omega) (by omega) (by omega)) (hν.1 _ (by omega) (by omega) (by omega)) (hν.1 _ (by omega) (by omega) (by omega))
    · exact ((hi i col2 hi2).2 (by omega)).fr (hν.1 _ (by omega) (by omega) (by omega)) (hν.1 _ (by omega) (by omega) (by omega)) (hν.1 _ (by omega) (by omega) (by omega)) (hν.1 _ (by omega) (by omega) (by omega))
theorem szV_ok {m n : Nat} {l : List Nat} (h : okV m l) : okV n (szV m n l) := by
  refine ⟨?_, fun r hr => ?_⟩
  · unfold szV
    refine List.nodup_append.mpr ⟨h.1.filter _, List.nodup_range', fun a ha b hb => ?_⟩
    have h1 := h.2 a (List.mem_filter.mp ha).1
    have h2 := (List.mem_range'_1.mp hb).1
    omega
  · unfold szV at hr
    rcases List.mem_append.mp hr with q | q
    · exact of_decide_eq_true (List.mem_filter.mp q).2
    · have := List.mem_range'_1.mp q
      omega
theorem newC_ok {k : Int32} (h : 0 ≤ k.toInt ∧ k.toInt ≤ 10) : okC (newC k) ∧ fitK k (newC k) := by
  have e : ∀ j : Int32, k.toInt = j.toInt → k = j := fun j q => Int32.toInt_inj.mp q
  have : k.toInt = 0 ∨ k.toInt = 1 ∨ k.toInt = 2 ∨ k.toInt = 3 ∨ k.toInt = 4 ∨ k.toInt = 5 ∨ k.toInt = 6 ∨ k.toInt = 7 ∨ k.toInt = 8 ∨ k.toInt = 9 ∨ k.toInt = 10 := by omega
  have : k = 0 ∨ k = 1 ∨ k = 2 ∨ k = 3 ∨ k = 4 ∨ k = 5 ∨ k = 6 ∨ k = 7 ∨ k = 8 ∨ k = 9 ∨ k = 10 := by
    rcases this with q | q | q | q | q | q | q | q | q | q | q
    · simp [e 0 q]
    · simp [e 1 q]
    · simp [e 2 q]
    · simp [e 3 q]
    · simp [e 4 q]
    · simp [e 5 q]
    · simp [e 6 q]
    · simp [e 7 q]
    · simp [e 8 q]
    · simp [e 9 q]
    · simp [e 10 q]
  have z6 : ofF (bF 0) = 0 ∧ okF (bF 0) := ⟨by decide +kernel, Or.inl (by decide +kernel)⟩
  have z7 : okD (bD 0) := Or.inl rfl
  have l1 : aLow 1 0 = 0 := by decide +kernel
  have l2 : aLow 2 0 = 0 := by decide +kernel
  have l3 : aLow 3 0 = 0 := by decide +kernel
  have l4 : aLow 4 0 = 0 := by decide +kernel
  rcases this with rfl | rfl | rfl | rfl | rfl | rfl | rfl | rfl | rfl | rfl | rfl <;> simp [newC, okC, fitK, z6, z7, l1, l2, l3, l4]
theorem renC_ok {m n : Nat} {c : aCol} (h : okCol m c) : okCol n (renC m n c) := by
  refine ⟨h.1, h.2.1, fun r hr => ?_⟩
  by_cases q : m ≤ r ∧ r < n
  · have : (renC m n c).2.2 r = newC c.1 := if_pos q
    rw [this]
    exact newC_ok ⟨h.1, h.2.1⟩
  · have : (renC m n c).2.2 r = c.2.2 r := if_neg q
    rw [this]
    exact h.2.2 r (by omega)
theorem szT_ok {T : aT} {n : Nat} (h : okT T) (hn : n ≤ 40) : okT (szT T n) := by
  obtain ⟨h1, h2, h3, h4, h5, h6, h7, h8, h9⟩ := h
  refine ⟨hn, by simpa [szT] using h2, fun c hc => ?_, szV_ok h4, szV_ok h5, h6, by simpa [szT] using h7, h8, by simpa [szT] using h9⟩
  obtain ⟨c0, hc0, rfl⟩ := List.mem_map.mp hc
  exact renC_ok (h3 c0 hc0)
theorem szV_len {m n : Nat} {l : List Nat} (h : okV m l) (hn : n ≤ 40) : (l.filter (fun r => decide (r < n))).length + (n - m) ≤ 40 := by
  have := (szV_ok (n := n) h).len
  unfold szV at this
  simp at this
  omega
theorem c_tresize {d n : Nat} {T : aT} {μ : mmMem} {K : mmMem → Prop} (hd : 4 ≤ d) (hT : tabC μ 1 T) (ok : okT T) (hn : n ≤ 40) (h : ∀ ν, tabC ν 1 (szT T n) → (∀ q, q < 1 ∨ 71 ≤ q → eq3 μ ν q) → K ν) : mmC0 d M_X4_resize false 1 [.ref 1, .int (nI n)] μ K := by
  refine u_X4_resize (by omega) kd_1 ?_
  obtain ⟨⟨t1, t2, t3, t4⟩, t5, ⟨t6, t7⟩, t8, t9⟩ := hT
  have l0 := ok.2.2.2.1.len
  have l1 := ok.2.2.2.2.1.len
  have hr := ok.1
  have lt0 : ∀ r ∈ T.2.2.1, r < 2 ^ 31 := fun r q => by have := ok.2.2.2.1.2 r q; omega
  have lt1 : ∀ r ∈ T.2.2.2.1, r < 2 ^ 31 := fun r q => by have := ok.2.2.2.2.1.2 r q; omega
  refine c_tcols (by omega) ok hn μ ⟨t1, t2⟩ (fun c col hc => by have := t5 c col hc; rwa [show 1 + 6 + 4 * c = 7 + 4 * c by omega] at this) (fun ν f1 c1 => ?_) _ 0 μ rfl (Nat.zero_le _) (fun q _ => eq3.rfl') (fun i col hc => ⟨fun w => absurd w (Nat.not_lt_zero _), fun _ => by have := t5 i col hc; rwa [show 1 + 6 + 4 * i = 7 + 4 * i by omega] at this⟩)
  refine s_X4_resize_32 (by omega) kd_1 ?_
  refine ⟨fun q => absurd q (by decide), fun _ => ⟨vp_lit (by decide), ?_⟩⟩
  have e1 := (f1 1 (by omega)).1
  rw [e1, t1]
  show mmC0 (d - 1) M_X6_resize false 2 [.ref 55, .int (nI T.1), .int (nI n)] ν _
  refine c_vresize (by omega) kd_55 hr hn lt0 (by omega) (szV_len ok.2.2.2.1 hn) (t6.fr (f1 _ (by omega)) (f1 _ (by omega))) (fun ν2 f2 v2 => ?_)
  refine s_X4_resize_32 (by omega) kd_1 ?_
  refine ⟨fun q => absurd q (by decide), fun _ => ⟨vp_lit (by decide), ?_⟩⟩
  have e2 : ν2.1 1 0 = nI T.1 := by rw [(f2.1 1 (by omega) (by omega)).1, e1]; exact t1
  rw [e2]
  show mmC0 (d - 1) M_X6_resize false 2 [.ref 57, .int (nI T.1), .int (nI n)] ν2 _
  have t7' : vwC ν2 57 T.2.2.2.1 := (t7.fr (f1 _ (by omega)) (f1 _ (by omega))).fr (f2.1 _ (by omega) (by omega)) (f2.1 _ (by omega) (by omega))
  refine c_vresize (by omega) kd_57 hr hn lt1 (by omega) (szV_len ok.2.2.2.2.1 hn) t7' (fun ν3 f3 v3 => ?_)
  refine s_X4_resize_32 (by omega) kd_1 ?_
  refine ⟨fun _ => ?_, fun q => absurd (by decide) q⟩
  have g : ∀ q, q ≠ 1 → (q < 7 ∨ 59 ≤ q) → eq3 μ (sI ν3 1 0 (nI n)) q := fun q h1 hq => by
    refine (((f1 q (by omega)).trans (f2.1 q (by omega) (by omega))).trans (f3.1 q (by omega) (by omega))).trans ?_
    simp [eq3, sI, h1]
  have g3 : ∀ q, q ≠ 1 → eq3 ν3 (sI ν3 1 0 (nI n)) q := fun q h1 => by simp [eq3, sI, h1]
  have es : ∀ i, i ≠ 0 → (sI ν3 1 0 (nI n)).1 1 i = μ.1 1 i := fun i hi => by
    have e3 : ν3.1 1 = μ.1 1 := by rw [(f3.1 1 (by omega) (by omega)).1, (f2.1 1 (by omega) (by omega)).1, e1]
    simp [sI, upd, hi, e3]
  refine h _ ⟨⟨?_, ?_, ?_, ?_⟩, fun c col hc => ?_, ⟨?_, ?_⟩, fun k q hk => ?_, fun f q hf => ?_⟩ (fun q hq => g q (by omega) (by omega))
  · simp [sI, upd, szT]
  · rw [es 1 (by decide), t2]; simp [szT]
  · rw [es 2 (by decide), t3]; simp [szT]
  · rw [es 3 (by decide), t4]; simp [szT]
  · have hc' : (T.2.1.map (renC T.1 n))[c]? = some col := hc
    rw [List.getElem?_map, Option.map_eq_some_iff] at hc'
    obtain ⟨c0, hc0, rfl⟩ := hc'
    have hlt := lt_of_get hc0
    have hl := ok.2.1
    have := c1 c c0 hc0
    rw [show 1 + 6 + 4 * c = 7 + 4 * c by omega]
    have fr : ∀ q, 7 ≤ q → q < 55 → eq3 ν (sI ν3 1 0 (nI n)) q := fun q h1 h2 => ((f2.1 q (by omega) (by omega)).trans (f3.1 q (by omega) (by omega))).trans (g3 q (by omega))
    exact this.fr (fr _ (by omega) (by omega)) (fr _ (by omega) (by omega)) (fr _ (by omega) (by omega)) (fr _ (by omega) (by omega))
  · exact (v2.fr (f3.1 _ (by omega) (by omega)) (f3.1 _ (by omega) (by omega))).fr (g3 _ (by omega)) (g3 _ (by omega))
  · exact v3.fr (g3 _ (by omega)) (g3 _ (by omega))
  · rw [(g (1 + 3) (by omega) (by omega)).1, (g (1 + 4) (by omega) (by omega)).1]
    exact t8 k q hk
  · have hlt := lt_of_get hf
    obtain ⟨w1, w2, w3⟩ := t9 f q hf
    have e9 := (g (1 + 58 + 2 * f) (by omega) (by omega)).1
    exact ⟨by rw [e9]; exact w1, by rw [e9]; exact w2, w3.fr (g _ (by omega) (by omega))⟩
theorem c_size {d : Nat} {n : Int32} {S : aS} {μ : mmMem} {K : Int32 → mmMem → Prop} (hd : 5 ≤ d) (hC : CS μ S) (h : ∀ ν, CS ν (sp_size n S).2 → hiE μ ν → K (sp_size n S).1 ν) : mmCI d M_X7_size false 1 [.ref 0, .int n] μ K := by
  refine u_X7_size (by omega) ?_
  refine ⟨fun q => ?_, fun q => ⟨fun q2 => ?_, fun q2 => ?_⟩⟩
  · have e : sp_size n S = (-2, S) := if_pos (Or.inl q)
    rw [e] at h
    exact h μ hC (hiE.refl _)
  · obtain ⟨k, hk, rfl⟩ := nI_of q
    have hk2 : k ≤ 40 := (nI_leI hk (by decide : (40 : Nat) < 2 ^ 31)).mp q2
    have e : sp_size (nI k) S = (nI S.1.1, sT S (szT S.1 k)) := by
      unfold sp_size
      rw [if_neg (by rintro (w | w); exact q w; exact w q2), nI_clamp hk]
    rw [e] at h
    refine c_tresize (by omega) hC.1 hC.2.1 hk2 (fun ν hν f => ?_)
    obtain ⟨h1, h2, h3, h4, ⟨h5, h6, h7⟩, h8, h9⟩ := hC
    rw [h1.1.1]
    have e0 := f 0 (by omega)
    refine h ν ⟨hν, szT_ok h2 hk2, h3.fr (by rw [e0.1]) (fun q _ _ => f q (by omega)), by rw [e0.2.1]; exact h4, ⟨by rw [e0.1]; exact h5, by rw [e0.1]; exact h6, by rw [e0.1]; exact h7⟩, ⟨by rw [(f 141 (by omega)).1]; exact h8.1, fun i x hx => by rw [(f 142 (by omega)).1]; exact h8.2 i x hx⟩, h9⟩ (fun q hq => f q (by omega))
  · have e : sp_size n S = (-2, S) := if_pos (Or.inr q2)
    rw [e] at h
    exact h μ hC (hiE.refl _)
