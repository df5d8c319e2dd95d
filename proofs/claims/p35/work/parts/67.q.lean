/-! ===== what the law's calls come to ===== -/
theorem lostAt_all {f : Nat → aC} {k : Int32} : ∀ (j r : Nat), (∀ i, r ≤ i → i < r + j → cbk (f i) k = true) → lostAt f k j r = -5
  | 0, _, _ => rfl
  | j + 1, r, h => by
    unfold lostAt
    rw [if_pos (h r (Nat.le_refl _) (by omega))]
    exact lostAt_all j (r + 1) (fun i h1 h2 => h i (by omega) (by omega))
theorem lostAt_cg {f g : Nat → aC} {k : Int32} : ∀ (j r : Nat), (∀ i, r ≤ i → i < r + j → f i = g i) → lostAt f k j r = lostAt g k j r
  | 0, _, _ => rfl
  | j + 1, r, h => by
    unfold lostAt
    rw [h r (Nat.le_refl _) (by omega), lostAt_cg j (r + 1) (fun i h1 h2 => h i (by omega) (by omega))]
/-! bits -/
def btsF (p : Nat → Bool) : Nat → Nat → Int32 → Int32
  | 0, _, a => a
  | j + 1, k, a => btsF p j (k + 1) (if p k = true then a ||| ((1 : Int32) <<< (nI k &&& 31)) else a)
theorem casts_bts {f : Nat → aC} {n : Nat} : ∀ (j k : Nat) (a : Int32) (p : Nat → Bool), (∀ i, k ≤ i → i < k + j → p i = decide (lostAt f (nI i) n 0 = -5)) → castsF f n j k a = btsF p j k a
  | 0, _, _, _, _ => rfl
  | j + 1, k, a, p, h => by
    unfold castsF btsF
    rw [h k (Nat.le_refl _) (by omega)]
    simp only [decide_eq_true_eq]
    exact casts_bts j (k + 1) _ p (fun i h1 h2 => h i (by omega) (by omega))
def btsK (x : Int32) (L : List Bool) : Bool := (List.range 11).all (fun k => (x >>> (nI k &&& 31)) &&& 1 == if L.getD k false = true then 1 else 0) && (x >>> ((11 : Int32) &&& 31) == 0)
theorem bts_all : ∀ b0 b1 b2 b3 b4 b5 b6 b7 b8 b9 b10 : Bool, btsK (btsF (fun k => [b0, b1, b2, b3, b4, b5, b6, b7, b8, b9, b10].getD k false) 11 0 0) [b0, b1, b2, b3, b4, b5, b6, b7, b8, b9, b10] = true := by decide +kernel
theorem casts_bit {f : Nat → aC} {n : Nat} : (∀ k, k < 11 → (castsF f n 11 0 0 >>> (nI k &&& 31)) &&& 1 = if lostAt f (nI k) n 0 = -5 then 1 else 0) ∧ castsF f n 11 0 0 >>> ((11 : Int32) &&& 31) = 0 := by
  have h0 := bts_all (decide (lostAt f (nI 0) n 0 = -5)) (decide (lostAt f (nI 1) n 0 = -5)) (decide (lostAt f (nI 2) n 0 = -5)) (decide (lostAt f (nI 3) n 0 = -5)) (decide (lostAt f (nI 4) n 0 = -5)) (decide (lostAt f (nI 5) n 0 = -5)) (decide (lostAt f (nI 6) n 0 = -5)) (decide (lostAt f (nI 7) n 0 = -5)) (decide (lostAt f (nI 8) n 0 = -5)) (decide (lostAt f (nI 9) n 0 = -5)) (decide (lostAt f (nI 10) n 0 = -5))
  generalize hL : [decide (lostAt f (nI 0) n 0 = -5), decide (lostAt f (nI 1) n 0 = -5), decide (lostAt f (nI 2) n 0 = -5), decide (lostAt f (nI 3) n 0 = -5), decide (lostAt f (nI 4) n 0 = -5), decide (lostAt f (nI 5) n 0 = -5), decide (lostAt f (nI 6) n 0 = -5), decide (lostAt f (nI 7) n 0 = -5), decide (lostAt f (nI 8) n 0 = -5), decide (lostAt f (nI 9) n 0 = -5), decide (lostAt f (nI 10) n 0 = -5)] = L at h0
  have hp : ∀ i, i < 11 → L.getD i false = decide (lostAt f (nI i) n 0 = -5) := by
    intro i hi
    rw [← hL]
    match i, hi with
    | 0, _ => rfl
    | 1, _ => rfl
    | 2, _ => rfl
    | 3, _ => rfl
    | 4, _ => rfl
    | 5, _ => rfl
    | 6, _ => rfl
    | 7, _ => rfl
    | 8, _ => rfl
    | 9, _ => rfl
    | 10, _ => rfl
  rw [← casts_bts (f := f) (n := n) 11 0 0 _ (fun i _ hi => hp i (by omega))] at h0
  unfold btsK at h0
  rw [Bool.and_eq_true, List.all_eq_true] at h0
  refine ⟨fun k hk => ?_, by simpa using h0.2⟩
  have h1 := h0.1 k (List.mem_range.mpr hk)
  rw [hp k hk] at h1
  simpa using h1
/-! there and back -/
theorem bx_ok : ∀ k, k ≤ 8 → 0 ≤ bxIn (nI k) ∧ bxIn (nI k) < 8 ∧ bxIn (nI k) ≠ -1 ∧ bxIn (nI k) ≠ 8 ∧ nI k < 9 ∧ nI k ≠ 9 ∧ nI k ≠ 10 ∧ (k ≤ 7 → nI k ≤ 7 ∧ bxIn (nI k) = nI k) := by decide +kernel
theorem fit_b {h : Nat} {x : aC} (hh : h ≤ 8) (hf : fitK (nI h) x) (hx : x.1 ≠ -1) : bxIn (nI h) = x.1 := by
  by_cases h7 : h ≤ 7
  · obtain ⟨q1, q2⟩ := (bx_ok h hh).2.2.2.2.2.2.2 h7
    rw [q2]
    exact (hf.1 q1).symm
  · have e : h = 8 := by omega
    subst e
    rcases hf.2.1 (by decide) with q | q
    · exact absurd q hx
    · rw [q]
      decide
theorem fit_no8 {h : Nat} {x : aC} (hh : h ≤ 8) (hf : fitK (nI h) x) (hx : x.1 = 8) : False := by
  have h1 := fit_b hh hf (by rw [hx]; decide)
  exact (bx_ok h hh).2.2.2.1 (h1.trans hx)
theorem fit_m1 {h : Nat} {x : aC} (hh : h ≤ 7) (hf : fitK (nI h) x) (hx : x.1 = -1) : False := by
  obtain ⟨q1, q2⟩ := (bx_ok h (by omega)).2.2.2.2.2.2.2 hh
  have h1 := hf.1 q1
  exact (bx_ok h (by omega)).2.2.1 (q2.trans (h1.symm.trans hx))
theorem c8_ok : ∀ k, k ≤ 10 → 8 ≤ k → ¬ nI k < 8 := by decide +kernel
theorem c9_ok : ∀ k, k ≤ 10 → 9 ≤ k → ¬ nI k < 9 := by decide +kernel
theorem aCast_self (x : aC) : aCast x x.1 = x.2 := if_pos rfl
theorem castC_m1 {k : Int32} {x : aC} (h : x.1 = -1) : castC k x = x := if_neg (fun q => by rw [h] at q; exact absurd q.1.1 (by decide))
theorem castC_8 {k : Int32} {x : aC} (h : x.1 = 8) : castC k x = x := if_neg (fun q => by rw [h] at q; exact absurd q.1.2 (by decide))
theorem cbk_m1 {h : Nat} {x : aC} (hh : 8 ≤ h) (h10 : h ≤ 10) (hx : x.1 = -1) : cbk x (nI h) = true := by
  unfold cbk
  rw [if_pos hx]
  simp [c8_ok h h10 hh]
theorem cbk_8 {h : Nat} {x : aC} (hh : 9 ≤ h) (h10 : h ≤ 10) (hx : x.1 = 8) : cbk x (nI h) = true := by
  unfold cbk
  rw [if_neg (by rw [hx]; decide), if_pos hx]
  simp [c9_ok h h10 hh]
theorem cbk_9 {x : aC} : cbk x 9 = true := by
  unfold cbk
  split
  · decide
  · split
    · decide
    · rw [if_neg (by decide)]
      rfl
theorem cbk_in {x : aC} {k : Int32} (h1 : x.1 ≠ -1) (h2 : x.1 ≠ 8) (hk : k < 9) : cbk x k = (aCast (bxIn k, aCast x (bxIn k)) x.1 == x.2) := by
  unfold cbk
  rw [if_neg h1, if_neg h2, if_pos hk]
theorem okC.in {x : aC} (h : okC x) (h1 : x.1 ≠ -1) (h2 : x.1 ≠ 8) : 0 ≤ x.1 ∧ x.1 < 8 := by
  rcases h.cases with q | q | q | q | q | q | q | q | q | q
  · exact absurd q h1
  · rw [q]; decide
  · rw [q]; decide
  · rw [q]; decide
  · rw [q]; decide
  · rw [q]; decide
  · rw [q]; decide
  · rw [q]; decide
  · rw [q]; decide
  · exact absurd q h2
theorem castC_in {x : aC} {k : Int32} (h : 0 ≤ x.1 ∧ x.1 < 8) (hk : k ≠ 9) : castC k x = (bxIn k, aCast x (bxIn k)) := if_pos ⟨h, hk⟩
/-- the kind it has comes back -/
theorem cbk_own {h : Nat} {x : aC} (h10 : h ≤ 10) (ok : okC x) (hf : fitK (nI h) x) : cbk x (nI h) = true := by
  by_cases h1 : x.1 = -1
  · by_cases h8 : 8 ≤ h
    · exact cbk_m1 h8 h10 h1
    · exact (fit_m1 (by omega) hf h1).elim
  by_cases h2 : x.1 = 8
  · by_cases h9 : 9 ≤ h
    · exact cbk_8 h9 h10 h2
    · exact (fit_no8 (by omega) hf h2).elim
  by_cases h8 : h ≤ 8
  · rw [cbk_in h1 h2 (bx_ok h h8).2.2.2.2.1, fit_b h8 hf h1, aCast_self]
    exact beq_iff_eq.mpr (aCast_self _)
  by_cases h9 : h = 9
  · subst h9
    exact cbk_9
  · have e : h = 10 := by omega
    subst e
    rcases hf.2.2 (by decide) with q | q
    · exact absurd q h1
    · exact absurd q h2
/-- there and back -/
theorem cast_back {h k : Nat} {x : aC} (h10 : h ≤ 10) (k10 : k ≤ 10) (ok : okC x) (hf : fitK (nI h) x) (hb : cbk x (nI k) = true) : cbk (castC (nI k) x) (nI h) = true ∧ (h ≠ 9 → castC (nI h) (castC (nI k) x) = x) := by
  have own := cbk_own h10 ok hf
  by_cases h1 : x.1 = -1
  · rw [castC_m1 h1]
    exact ⟨own, fun _ => castC_m1 h1⟩
  by_cases h2 : x.1 = 8
  · rw [castC_8 h2]
    exact ⟨own, fun _ => castC_8 h2⟩
  have hin := ok.in h1 h2
  by_cases k8 : k ≤ 8
  · obtain ⟨b1, b2, b3, b4, b5, b6, -⟩ := bx_ok k k8
    rw [cbk_in h1 h2 b5] at hb
    have hb := beq_iff_eq.mp hb
    rw [castC_in hin b6]
    by_cases h9 : h = 9
    · subst h9
      exact ⟨cbk_9, fun q => absurd rfl q⟩
    by_cases h8 : h ≤ 8
    · have hbx := fit_b h8 hf h1
      obtain ⟨-, -, -, -, a5, a6, -⟩ := bx_ok h h8
      refine ⟨?_, fun _ => ?_⟩
      · rw [cbk_in (x := (bxIn (nI k), aCast x (bxIn (nI k)))) b3 b4 a5, hbx, hb]
        exact beq_iff_eq.mpr rfl
      · rw [castC_in (x := (bxIn (nI k), aCast x (bxIn (nI k)))) ⟨b1, b2⟩ a6, hbx, hb]
    · have e : h = 10 := by omega
      subst e
      rcases hf.2.2 (by decide) with q | q
      · exact absurd q h1
      · exact absurd q h2
  · by_cases k9 : k = 9
    · subst k9
      have e : castC (nI 9) x = x := if_neg (fun q => q.2 (by decide))
      rw [e]
      refine ⟨own, fun h9 => ?_⟩
      by_cases h8 : h ≤ 8
      · rw [castC_in hin (bx_ok h h8).2.2.2.2.2.1, fit_b h8 hf h1, aCast_self]
      · have e : h = 10 := by omega
        subst e
        rcases hf.2.2 (by decide) with q | q
        · exact absurd q h1
        · exact absurd q h2
    · have e : k = 10 := by omega
      subst e
      exfalso
      unfold cbk at hb
      rw [if_neg h1, if_neg h2, if_neg (by decide)] at hb
      exact absurd hb (by decide)
/-! the calls -/
theorem nI_kind {k : Int32} (h : 0 ≤ k.toInt ∧ k.toInt ≤ 10) : ∃ h : Nat, h ≤ 10 ∧ k = nI h := by
  refine ⟨k.toInt.toNat, by omega, ?_⟩
  have e1 : k = Int32.ofInt k.toInt := (Int32.ofInt_toInt k).symm
  have e2 : k.toInt = ((k.toInt.toNat : Nat) : Int) := by omega
  rw [e2] at e1
  exact e1.trans rfl
theorem p_kindOf {S : aS} {c : Nat} {col : aCol} (ok : okT S.1) (h : S.1.2.1[c]? = some col) (g : col.2.1 = false) : sp_kindOf (nI c) S = (col.1, S) := p_withC ok h g
theorem p_casts {S : aS} {c : Nat} {col : aCol} (ok : okT S.1) (h : S.1.2.1[c]? = some col) (g : col.2.1 = false) : sp_casts (nI c) S = (castsF col.2.2 S.1.1 11 0 0, S) := p_withC ok h g
theorem k10_no : ∀ k, k ≤ 10 → ¬ (nI k < 0 ∨ 10 < nI k) := by decide +kernel
theorem p_loses {S : aS} {c k : Nat} {col : aCol} (ok : okT S.1) (h : S.1.2.1[c]? = some col) (g : col.2.1 = false) (hk : k ≤ 10) : sp_loses (nI c) (nI k) S = (lostAt col.2.2 (nI k) S.1.1 0, S) := by
  unfold sp_loses
  rw [p_withC ok h g, if_neg (k10_no k hk)]
theorem p_loses11 {S : aS} {c : Nat} {col : aCol} (ok : okT S.1) (h : S.1.2.1[c]? = some col) (g : col.2.1 = false) : sp_loses (nI c) 11 S = (-2, S) := by
  unfold sp_loses
  rw [p_withC ok h g, if_pos (by decide)]
theorem p_cast {S : aS} {c k : Nat} {col : aCol} (ok : okT S.1) (h : S.1.2.1[c]? = some col) (g : col.2.1 = false) (hk : k ≤ 10) (hl : lostAt col.2.2 (nI k) S.1.1 0 = -5) : sp_cast (nI c) (nI k) S = (col.1, putCol S c (castCol (nI k) col)) := by
  unfold sp_cast
  rw [p_withC ok h g, if_neg (k10_no k hk), if_pos hl]
theorem p_castNo {S : aS} {c k : Nat} {col : aCol} (ok : okT S.1) (h : S.1.2.1[c]? = some col) (g : col.2.1 = false) (hk : k ≤ 10) (hl : ¬ lostAt col.2.2 (nI k) S.1.1 0 = -5) : sp_cast (nI c) (nI k) S = (-1000 - lostAt col.2.2 (nI k) S.1.1 0, S) := by
  unfold sp_cast
  rw [p_withC ok h g, if_neg (k10_no k hk), if_neg hl]
theorem p_cast8 {S : aS} (h : S.1.2.1.length = 8) : sp_cast 8 0 S = (-23, rfs S (-23)) := by
  have e : cref S.1 8 = -23 := by
    unfold cref
    rw [if_neg (by decide), show (8 : Int32).toNatClampNeg = 8 by decide, List.getElem?_eq_none (by omega)]
  unfold sp_cast withC
  rw [e, if_neg (by decide)]
theorem p_swapNo {S : aS} {m : Nat} (h : S.1.1 = m) (hm : m ≤ 40) : sp_swap (nI m) 0 S = (-21, rfs S (-21)) := by
  unfold sp_swap
  rw [if_pos (Or.inl (Or.inr (by rw [h]; exact fun z => Int32.lt_irrefl z)))]
theorem p_swap {S : aS} {r q : Nat} (ok : okT S.1) (hr : r < S.1.1) (hq : q < S.1.1) (hl : S.1.2.1.length = 8) (hg : ∀ c ∈ S.1.2.1, c.2.1 = false) : sp_swap (nI r) (nI q) S = (8, sT S (swT S.1 r q)) := by
  have := ok.1
  unfold sp_swap
  rw [if_neg (fun z => z.elim (p_row ok hr) (p_row ok hq)), nI_clamp (by omega), nI_clamp (by omega)]
  have e : S.1.2.1.filter (fun c => !c.2.1) = S.1.2.1 := List.filter_eq_self.mpr (fun c hc => by simp [hg c hc])
  rw [e, hl]
  rfl
theorem p_differs {S : aS} {r q : Nat} (ok : okT S.1) (hr : r < S.1.1) (hq : q < S.1.1) : sp_differs (nI r) (nI q) S = (difAt r q S.1.2.1 0, S) := by
  have := ok.1
  unfold sp_differs
  rw [if_neg (fun z => z.elim (p_row ok hr) (p_row ok hq)), nI_clamp (by omega), nI_clamp (by omega)]
theorem dif_sw {r q : Nat} : ∀ (l : List aCol) (i : Nat), difAt r q (l.map (swC r q)) i = difAt r q l i
  | [], _ => rfl
  | c :: t, i => by
    simp only [List.map_cons, difAt]
    rw [dif_sw t (i + 1)]
    by_cases g : c.2.1 = true
    · have e : swC r q c = c := if_pos g
      rw [e]
    · have e : swC r q c = (c.1, c.2.1, fun i => if i = q then c.2.2 r else if i = r then c.2.2 q else c.2.2 i) := if_neg g
      have hr : (swC r q c).2.2 r = c.2.2 q := by
        rw [e]
        show (if r = q then c.2.2 r else if r = r then c.2.2 q else c.2.2 r) = _
        by_cases z : r = q
        · rw [if_pos z, z]
        · rw [if_neg z, if_pos rfl]
      have hq : (swC r q c).2.2 q = c.2.2 r := by
        rw [e]
        show (if q = q then c.2.2 r else _) = _
        rw [if_pos rfl]
      have h1 : (swC r q c).2.1 = c.2.1 := by rw [e]
      rw [hr, hq, h1]
      by_cases z : c.2.1 = false ∧ ¬ c.2.2 r = c.2.2 q
      · rw [if_pos z, if_pos ⟨z.1, fun w => z.2 w.symm⟩]
      · rw [if_neg z, if_neg (fun w => z ⟨w.1, fun u => w.2 u.symm⟩)]
theorem sw_sw (T : aT) (r q : Nat) : swT (swT T r q) q r = T := by
  have e : (swC q r ∘ swC r q) = id := by
    funext c
    show swC q r (swC r q c) = c
    by_cases g : c.2.1 = true
    · have e : swC r q c = c := if_pos g
      rw [e]
      exact if_pos g
    · have e : swC r q c = (c.1, c.2.1, fun i => if i = q then c.2.2 r else if i = r then c.2.2 q else c.2.2 i) := if_neg g
      rw [e]
      have e2 : swC q r (c.1, c.2.1, fun i => if i = q then c.2.2 r else if i = r then c.2.2 q else c.2.2 i) = (c.1, c.2.1, fun i => if i = r then (if q = q then c.2.2 r else if q = r then c.2.2 q else c.2.2 q) else if i = q then (if r = q then c.2.2 r else if r = r then c.2.2 q else c.2.2 r) else (if i = q then c.2.2 r else if i = r then c.2.2 q else c.2.2 i)) := if_neg g
      rw [e2]
      have e3 : (fun i => if i = r then (if q = q then c.2.2 r else if q = r then c.2.2 q else c.2.2 q) else if i = q then (if r = q then c.2.2 r else if r = r then c.2.2 q else c.2.2 r) else (if i = q then c.2.2 r else if i = r then c.2.2 q else c.2.2 i)) = c.2.2 := by
        funext i
        by_cases h1 : i = r
        · rw [if_pos h1, if_pos rfl, h1]
        · rw [if_neg h1]
          by_cases h2 : i = q
          · rw [if_pos h2]
            by_cases h3 : r = q
            · exact absurd (h2.trans h3.symm) h1
            · rw [if_neg h3, if_pos rfl, h2]
          · rw [if_neg h2, if_neg h2, if_neg h1]
      rw [e3]
  show (T.1, (T.2.1.map (swC r q)).map (swC q r), T.2.2) = T
  rw [List.map_map, e, List.map_id]
/-- the law's table: m rows, eight columns, none gone, no keys -/
def tG (m : Nat) (T : aT) : Prop := T.1 = m ∧ T.2.1.length = 8 ∧ (∀ c ∈ T.2.1, c.2.1 = false) ∧ T.2.2.2.2.1 = []
theorem tG.put {m c : Nat} {T : aT} {col : aCol} (h : tG m T) (g : col.2.1 = false) : tG m (T.1, T.2.1.set c col, T.2.2) := by
  obtain ⟨h1, h2, h3, h4⟩ := h
  refine ⟨h1, by rw [List.length_set]; exact h2, fun x hx => ?_, h4⟩
  rcases List.mem_or_eq_of_mem_set hx with q | q
  · exact h3 x q
  · rw [q]; exact g
theorem tG.sw {m r q : Nat} {T : aT} (h : tG m T) : tG m (swT T r q) := by
  obtain ⟨h1, h2, h3, h4⟩ := h
  refine ⟨h1, by show (T.2.1.map _).length = 8; rw [List.length_map]; exact h2, fun x hx => ?_, h4⟩
  obtain ⟨c, hc, rfl⟩ := List.mem_map.mp hx
  unfold swC
  split
  · exact h3 c hc
  · exact h3 c hc
theorem tG.at {m c : Nat} {T : aT} (h : tG m T) (hc : c < 8) : ∃ col, T.2.1[c]? = some col ∧ col.2.1 = false := by
  have hl : c < T.2.1.length := by rw [h.2.1]; exact hc
  exact ⟨T.2.1[c], List.getElem?_eq_getElem hl, h.2.2.1 _ (List.getElem_mem hl)⟩
theorem wasF.cg {f : Nat → Int64} {m : Nat} {g g' : Nat → aC} (h : wasF f m g) (e : ∀ r, r < m → g' r = g r) : wasF f m g' := fun r hr => by
  rw [e r hr]
  exact h r hr
