/-! ===== the class: a column's text ===== -/
/-- what the constant's own methods are to give (shown apart) -/
def ltr (k : Nat) : Int32 := [122, 98, 99, 115, 105, 108, 102, 100, 119, 111, 110].getD k 0
def strOK : Prop := (∀ (d : Nat) (μ : mmMem) (K : Int32 → mmMem → Prop), 6 ≤ d → K 11 μ → mmCI d M_J0_length_8abf5 false 0 [.retAddr 0] μ K) ∧ ∀ (d k : Nat) (μ : mmMem) (K : Int32 → mmMem → Prop), 6 ≤ d → k < 11 → K (ltr k) μ → mmCI d M_J0_charAt_5068e false 1 [.retAddr 0, .int (nI k)] μ K
def spC (μ : mmMem) (l : List Int32) : Prop := μ.1 144 0 = nI l.length ∧ ∀ i x, l[i]? = some x → μ.1 145 i = x
def spU (μ ν : mmMem) : Prop := ∀ q, q ≠ 144 → q ≠ 145 → eq3 μ ν q
theorem spU.trans {μ ν ξ : mmMem} (h : spU μ ν) (h2 : spU ν ξ) : spU μ ξ := fun q a b => (h q a b).trans (h2 q a b)
theorem spU.refl (μ : mmMem) : spU μ μ := fun _ _ _ => eq3.rfl'
theorem spU.scr {μ ν : mmMem} (h : spU μ ν) : scr μ ν := ⟨fun q hq => h q (by omega) (by omega), by rw [(h 141 (by decide) (by decide)).1]⟩
theorem spC.fr {μ ν : mmMem} {l : List Int32} (h : spC μ l) (e0 : eq3 μ ν 144) (e1 : eq3 μ ν 145) : spC ν l := ⟨by rw [e0.1]; exact h.1, fun i x hx => by rw [e1.1]; exact h.2 i x hx⟩
theorem c_sadd {d : Nat} {x : Int32} {l : List Int32} {μ : mmMem} {K : mmMem → Prop} (hd : 1 ≤ d) (hl : l.length < 1000) (hs : spC μ l) (h : ∀ ν, spC ν (l ++ [x]) → spU μ ν → K ν) : mmC0 d M_X3_add false 1 [.ref 144, .int x] μ K := by
  refine u_X3_add hd ?_
  rw [hs.1, nI_clamp (by omega), nI_1]
  refine ⟨fun w => absurd w (nI_ge (b := 1000) (by omega) (by decide)), fun _ => ⟨vp_in_nI hl (by decide), h _ ⟨by simp [sI, upd], fun i y hy => ?_⟩ (fun q h1 h2 => by simp [eq3, sI, h1, h2])⟩⟩
  have e : (sI (sI μ 145 l.length x) 144 0 (nI (l.length + 1))).1 145 i = if i = l.length then x else μ.1 145 i := by simp [sI, upd]
  rw [e]
  by_cases q : i = l.length
  · subst q
    rw [List.getElem?_append_right (Nat.le_refl _), Nat.sub_self] at hy
    rw [if_pos rfl]
    exact (Option.some.inj hy)
  · have hlt := lt_of_get hy
    rw [List.length_append] at hlt
    have hlt : i < l.length + 1 := hlt
    rw [List.getElem?_append_left (by omega)] at hy
    rw [if_neg q]
    exact hs.2 i y hy
theorem nI_pre (k : Nat) : nI (k + 1) + (-1) = nI k := by
  rw [← nI_1, Int32.add_assoc]
  show nI k + 0 = nI k
  rw [Int32.add_zero]
theorem sI2 (μ : mmMem) (p i j q : Nat) (u w : Int32) : (sI (sI μ p i u) p j w).1 p q = if q = j then w else if q = i then u else μ.1 p q := by simp [sI, upd]
/-! a stretch turned round -/
theorem c_turnE {d a n : Nat} {g : Nat → Int32} {P : Option Value → mmMem → Prop} (hn : a + n ≤ 1000) (x1 x2 : Int32) (μ0 : mmMem) (h : ∀ ν, spU μ0 ν → ν.1 144 0 = μ0.1 144 0 → (∀ i, i < a → ν.1 145 i = μ0.1 145 i) → (∀ p, p < n → ν.1 145 (a + p) = g (n - 1 - p)) → P none ν) : ∀ (j t : Nat) (μ : mmMem) (v5 : Value), n - 2 * t = j → 2 * t < n + 1 → t < n → spU μ0 μ → μ.1 144 0 = μ0.1 144 0 → (∀ i, i < a → μ.1 145 i = μ0.1 145 i) → (∀ p, p < n → μ.1 145 (a + p) = if p < t ∨ n ≤ p + t then g (n - 1 - p) else g p) → mmEnds d M_X3_turnRound 5 [.ref 144, .int x1, .int x2, .int (nI (a + t)), .int (nI (a + n - 1 - t)), v5] [] μ P := by
  intro j
  induction j using Nat.strongRecOn with
  | ind j ih =>
    intro t μ v5 hj ht htn hu h0 hlo hm
    refine s_X3_turnRound_5 (by omega) ?_
    rw [nI_leI (by omega) (by omega)]
    refine ⟨fun w => h μ hu h0 hlo (fun p hp => ?_), fun w => ⟨vp_in_nI (by omega) (by decide), vp_in_nI (by omega) (by decide), ?_⟩⟩
    · rw [hm p hp]
      split
      · rfl
      · congr 1; omega
    · rw [nI_1, nI_clamp (by omega), nI_clamp (by omega), show a + t + 1 = a + (t + 1) by omega]
      obtain ⟨k, hk⟩ : ∃ k, a + n - 1 - t = k + 1 := ⟨a + n - 1 - t - 1, by omega⟩
      have e : nI (a + n - 1 - t) + (-1) = nI (a + n - 1 - (t + 1)) := by
        rw [hk, nI_pre]
        congr 1; omega
      rw [e]
      have m1 := hm t (by omega)
      rw [if_neg (by omega)] at m1
      have m2 := hm (n - 1 - t) (by omega)
      rw [if_neg (by omega), show a + (n - 1 - t) = a + n - 1 - t by omega] at m2
      refine ih (n - 2 * (t + 1)) (by omega) (t + 1) _ _ rfl (by omega) (by omega) (fun q q1 q2 => (hu q q1 q2).trans (by simp [eq3, sI, q2])) (by rw [← h0]; simp [sI]) (fun i hi => ?_) (fun p hp => ?_)
      · rw [sI2, if_neg (by omega), if_neg (by omega)]
        exact hlo i hi
      · rw [sI2]
        by_cases p1 : p = n - 1 - t
        · rw [if_pos (by omega), if_pos (by omega), m1]
          congr 1; omega
        · rw [if_neg (by omega)]
          by_cases p2 : p = t
          · rw [if_pos (by omega), if_pos (by omega), m2, p2]
          · rw [if_neg (by omega), hm p hp]
            by_cases p3 : p < t ∨ n ≤ p + t
            · rw [if_pos p3, if_pos (by omega)]
            · rw [if_neg p3, if_neg (by omega)]
theorem c_turn {d : Nat} {l m : List Int32} {μ : mmMem} {K : mmMem → Prop} (hd : 1 ≤ d) (hm : 1 ≤ m.length) (hl : l.length + m.length ≤ 1000) (hs : spC μ (l ++ m)) (h : ∀ ν, spC ν (l ++ m.reverse) → spU μ ν → K ν) : mmC0 d M_X3_turnRound false 2 [.ref 144, .int (nI l.length), .int (μ.1 144 0 - 1)] μ K := by
  refine u_X3_turnRound hd ?_
  have e1 : μ.1 144 0 - 1 = nI (l.length + m.length - 1 - 0) := by
    rw [hs.1, List.length_append]
    exact nI_subN (a := l.length + m.length) (b := 1) (by omega) (by omega)
  rw [e1]
  have := c_turnE (d := d - 1) (a := l.length) (n := m.length) (g := fun p => m.getD p 0) (P := mmP0 K) hl (nI l.length) (nI (l.length + m.length - 1 - 0)) μ (fun ν hu h0 hlo hp => h ν ⟨?_, fun i x hx => ?_⟩ hu) _ 0 μ (.retAddr 7) rfl (by omega) (by omega) (spU.refl μ) rfl (fun _ _ => rfl) (fun p hp => ?_)
  · exact this
  · rw [h0, hs.1]; simp
  · by_cases q : i < l.length
    · rw [List.getElem?_append_left q] at hx
      rw [hlo i q]
      exact hs.2 i x (by rw [List.getElem?_append_left q]; exact hx)
    · have hlt := lt_of_get hx
      rw [List.length_append, List.length_reverse] at hlt
      rw [List.getElem?_append_right (by omega), List.getElem?_reverse (by omega)] at hx
      have := hp (i - l.length) (by omega)
      rw [show l.length + (i - l.length) = i by omega] at this
      rw [this]
      show m.getD _ 0 = x
      rw [List.getD_eq_getElem?_getD, hx]
      rfl
  · rw [if_neg (by omega)]
    have hx : m[p]? = some (m.getD p 0) := by
      rw [List.getD_eq_getElem?_getD, List.getElem?_eq_getElem hp]; rfl
    exact hs.2 _ _ (by rw [List.getElem?_append_right (by omega), show l.length + p - l.length = p by omega]; exact hx)
/-! numbers and words -/
def dig (v : Int64) : Int32 := if (0 : Int32) ≤ (v - v / 10 * 10).toInt32 then 48 + (v - v / 10 * 10).toInt32 else 48 + (-((v - v / 10 * 10).toInt32))
def digs : Nat → Bool → Int64 → List Int32
  | 0, _, _ => []
  | n + 1, b, v => if b = false ∧ lg_cmp v 0 = 0 then [] else dig v :: digs n false (v / 10)
def numS (v : Int64) : List Int32 := (if (0 : Int32) ≤ lg_cmp v 0 then [] else [45]) ++ (digs 20 true v).reverse
def wordS (w : Int64) : List Int32 := if lg_cmp w 26 ≤ 0 then [((97 + w) - 1).toInt32] else [(97 + (w - 27) / 26).toInt32, (97 + ((w - 27) - (w - 27) / 26 * 26)).toInt32]
theorem digs_len : ∀ (n : Nat) (b : Bool) (v : Int64), (digs n b v).length ≤ n
  | 0, _, _ => Nat.le_refl _
  | n + 1, b, v => by
    have := digs_len n false (v / 10)
    unfold digs
    split
    · exact Nat.zero_le _
    · rw [List.length_cons]; omega
theorem numS_len (v : Int64) : (numS v).length ≤ 21 := by
  have := digs_len 20 true v
  unfold numS
  rw [List.length_append, List.length_reverse]
  split <;> simp <;> omega
theorem wordS_len (v : Int64) : (wordS v).length ≤ 2 := by
  unfold wordS
  split <;> simp
theorem c_numE {d : Nat} {l : List Int32} {P : Option Value → mmMem → Prop} (hd : 1 ≤ d) (hl : l.length + 20 ≤ 1000) (x1 : Int64) (μ0 : mmMem) : ∀ (n t : Nat) (m : List Int32) (v : Int64) (μ : mmMem) (v7 : Value), t + n = 20 → m.length = t → spC μ (l ++ m) → spU μ0 μ → (∀ ν, spC ν (l ++ (m ++ digs n (t == 0) v).reverse) → spU μ0 ν → P none ν) → mmEnds d M_X3_addNumber 23 [.ref 144, .long x1, .retAddr 7, .int (nI l.length), .long v, .retAddr 7, .int (nI t), v7] [] μ P := by
  intro n
  induction n with
  | zero =>
    intro t m v μ v7 ht hm hs hu h
    refine s_X3_addNumber_23 (by omega) ?_
    refine ⟨fun _ => ?_, fun w => absurd (nI_le (a := 20) (by omega) (by omega)) w⟩
    rw [show digs 0 (t == 0) v = [] from rfl, List.append_nil] at h
    exact c_turn hd (by omega) (by omega) hs (fun ν s1 u1 => h ν s1 (hu.trans u1))
  | succ n ih =>
    intro t m v μ v7 ht hm hs hu h
    refine s_X3_addNumber_23 (by omega) ?_
    refine ⟨fun w => absurd w (nI_ge (b := 20) (by omega) (by omega)), fun _ => ?_⟩
    have step : ¬ ((t == 0) = false ∧ lg_cmp v 0 = 0) → ∀ v8, mmC0 d M_X3_add false 1 [.ref 144, .int (dig v)] μ fun ν15 => mmEnds d M_X3_addNumber 23 [.ref 144, .long x1, .retAddr 7, .int (nI l.length), .long (v / 10), .retAddr 7, .int (nI t + 1), v8] [] ν15 P := fun q v8 => by
      refine c_sadd hd (by rw [List.length_append]; omega) hs (fun ν s1 u1 => ?_)
      rw [nI_1]
      rw [List.append_assoc] at s1
      refine ih (t + 1) (m ++ [dig v]) (v / 10) ν _ (by omega) (by rw [List.length_append]; simp [hm]) s1 (hu.trans u1) (fun ν2 s2 u2 => ?_)
      refine h ν2 ?_ u2
      have e : digs (n + 1) (t == 0) v = dig v :: digs n false (v / 10) := by
        show (if _ then _ else _) = _
        rw [if_neg q]
      rw [e]
      have e2 : (t + 1 == 0) = false := rfl
      rw [e2, List.append_assoc] at s2
      exact s2
    refine ⟨fun z => ⟨fun w => ?_, fun w => ?_⟩, fun z => ⟨fun y => ?_, fun y => ⟨fun w => ?_, fun w => ?_⟩⟩⟩
    · have t0 : t = 0 := (nI_eq (b := 0) (by omega) (by decide)).mp z
      have := step (by rw [t0]; simp) (.int ((v - v / 10 * 10).toInt32))
      rw [show dig v = 48 + (v - v / 10 * 10).toInt32 from if_pos w] at this
      exact this
    · have t0 : t = 0 := (nI_eq (b := 0) (by omega) (by decide)).mp z
      have := step (by rw [t0]; simp) (.int ((v - v / 10 * 10).toInt32))
      rw [show dig v = 48 + (-((v - v / 10 * 10).toInt32)) from if_neg w] at this
      exact this
    · have t0 : t ≠ 0 := fun q => z (by rw [q]; rfl)
      have e : digs (n + 1) (t == 0) v = [] := if_pos ⟨by simp [t0], y⟩
      rw [e, List.append_nil] at h
      exact c_turn hd (by omega) (by omega) hs (fun ν s1 u1 => h ν s1 (hu.trans u1))
    · have := step (fun q => y q.2) (.int ((v - v / 10 * 10).toInt32))
      rw [show dig v = 48 + (v - v / 10 * 10).toInt32 from if_pos w] at this
      exact this
    · have := step (fun q => y q.2) (.int ((v - v / 10 * 10).toInt32))
      rw [show dig v = 48 + (-((v - v / 10 * 10).toInt32)) from if_neg w] at this
      exact this
theorem c_num {d : Nat} {v : Int64} {l : List Int32} {μ : mmMem} {K : mmMem → Prop} (hd : 2 ≤ d) (hl : l.length + 21 ≤ 1000) (hs : spC μ l) (h : ∀ ν, spC ν (l ++ numS v) → spU μ ν → K ν) : mmC0 d M_X3_addNumber false 1 [.ref 144, .long v] μ K := by
  refine u_X3_addNumber (by omega) ?_
  unfold numS at h
  refine ⟨fun w => ?_, fun w => ?_⟩
  · rw [if_pos w, List.nil_append] at h
    rw [hs.1]
    exact c_numE (l := l) (by omega) (by omega) v μ 20 0 [] v μ _ rfl rfl (by rw [List.append_nil]; exact hs) (spU.refl μ) (fun ν s u => h ν s u)
  · rw [if_neg w] at h
    refine c_sadd (by omega) (by omega) hs (fun ν s1 u1 => ?_)
    rw [s1.1]
    refine c_numE (l := l ++ [45]) (by omega) (by rw [List.length_append]; simp; omega) v ν 20 0 [] v ν _ rfl rfl (by rw [List.append_nil]; exact s1) (spU.refl ν) (fun ν2 s u => h ν2 ?_ (u1.trans u))
    rw [List.append_assoc] at s
    exact s
theorem c_word {d : Nat} {v : Int64} {l : List Int32} {μ : mmMem} {K : mmMem → Prop} (hd : 2 ≤ d) (hl : l.length + 2 ≤ 1000) (hs : spC μ l) (h : ∀ ν, spC ν (l ++ wordS v) → spU μ ν → K ν) : mmC0 d M_X3_addWord false 1 [.ref 144, .long v] μ K := by
  refine u_X3_addWord (by omega) ?_
  unfold wordS at h
  refine ⟨fun w => ?_, fun w => ?_⟩
  · rw [if_pos w] at h
    exact c_sadd (by omega) (by omega) hs (fun ν s u => h ν s u)
  · rw [if_neg w] at h
    refine c_sadd (by omega) (by omega) hs (fun ν s u => ?_)
    refine c_sadd (by omega) (by rw [List.length_append]; simp; omega) s (fun ν2 s2 u2 => h ν2 ?_ (u.trans u2))
    rw [List.append_assoc] at s2
    exact s2
theorem c_kindL {d k : Nat} {l : List Int32} {μ : mmMem} {K : mmMem → Prop} (hS : strOK) (hd : 7 ≤ d) (hk : k < 11) (hl : l.length < 1000) (hs : spC μ l) (h : ∀ ν, spC ν (l ++ [ltr k]) → spU μ ν → K ν) : mmC0 d M_X3_addKind false 1 [.ref 144, .int (nI k)] μ K := by
  refine u_X3_addKind (by omega) ?_
  refine ⟨fun w => absurd w (nI_pos (by omega)), fun _ => ?_⟩
  refine hS.1 _ _ _ (by omega) ?_
  refine ⟨fun w => absurd w (nI_ge (b := 11) (by omega) (by decide)), fun _ => ?_⟩
  refine hS.2 _ k _ _ (by omega) hk ?_
  exact c_sadd (by omega) hl hs h

/-! the cells -/
def numOf (x : aC) : Int64 := if x.1 = 6 ∨ x.1 = 7 then FP.d2l (FP.dmul (aVal x) 4616189618054758400) else x.2
def itemS (kd : Int32) (x : aC) : List Int32 := if x.1 = -1 then [95] else if x.1 = 8 then (if kd = 9 then [39] else []) ++ wordS x.2 else (if kd = 9 then [ltr x.1.toNatClampNeg] else []) ++ numS (numOf x)
theorem itemS_len (kd : Int32) (x : aC) : (itemS kd x).length ≤ 22 := by
  have h1 := wordS_len x.2
  have h2 := numS_len (numOf x)
  unfold itemS
  split
  · simp
  · split
    · split <;> simp <;> omega
    · split <;> simp <;> omega
theorem okC.kind {x : aC} (ok : okC x) (h1 : x.1 ≠ -1) (h8 : x.1 ≠ 8) : ∃ k, k < 8 ∧ x.1 = nI k := by
  rcases ok.cases with h | h | h | h | h | h | h | h | h | h
  · exact absurd h h1
  · exact ⟨0, by decide, h⟩
  · exact ⟨1, by decide, h⟩
  · exact ⟨2, by decide, h⟩
  · exact ⟨3, by decide, h⟩
  · exact ⟨4, by decide, h⟩
  · exact ⟨5, by decide, h⟩
  · exact ⟨6, by decide, h⟩
  · exact ⟨7, by decide, h⟩
  · exact absurd h h8
theorem f_mul4 {r : UInt64} (h : okD r) : vf_n64 (FP.dmul r (4616189618054758400 : UInt64)) := by
  have h1 : r.toNat % 2 ^ 63 < 1089 * 2 ^ 52 := (grD_ok h).2
  have h2 : (4616189618054758400 : UInt64).toNat % 2 ^ 63 < 1026 * 2 ^ 52 := by decide
  have h3 := FP.Core.dmul_mag h1 h2 (by decide) (by decide)
  exact f_n64' (Nat.le_of_lt (gb_mono (b := 2047) h3 (by decide)))
theorem c_itemN {d : Nat} {x : aC} {l : List Int32} {μ : mmMem} {K : mmMem → Prop} (hd : 2 ≤ d) (ok : okC x) (hx : clC μ 152 x) (h1 : x.1 ≠ -1) (h8 : x.1 ≠ 8) (hl : l.length + 21 ≤ 1000) (hs : spC μ l) (h : ∀ ξ, spC ξ (l ++ numS (numOf x)) → spU μ ξ → K ξ) : ((μ.1 152 0) = (6 : Int32) → (vf_n64 (FP.dmul (μ.2.2 152 2) (4616189618054758400 : UInt64))) ∧ (mmC0 d M_X3_addNumber false 1 [.ref 144, .long (FP.d2l (FP.dmul (μ.2.2 152 2) (4616189618054758400 : UInt64)))] μ fun ν23 => K ν23)) ∧ (¬ (μ.1 152 0) = (6 : Int32) → (¬ (μ.1 152 0) = (7 : Int32) → mmC0 d M_X3_addNumber false 1 [.ref 144, .long (μ.2.1 152 1)] μ fun ν30 => K ν30) ∧ ((μ.1 152 0) = (7 : Int32) → (vf_n64 (FP.dmul (μ.2.2 152 2) (4616189618054758400 : UInt64))) ∧ (mmC0 d M_X3_addNumber false 1 [.ref 144, .long (FP.d2l (FP.dmul (μ.2.2 152 2) (4616189618054758400 : UInt64)))] μ fun ν35 => K ν35))) := by
  have ek : enK x = x.1 := if_neg h8
  rw [hx.1, hx.2.1, hx.2.2, ek]
  have rl : (x.1 = 6 ∨ x.1 = 7) → vf_n64 (FP.dmul (enR x) (4616189618054758400 : UInt64)) ∧ mmC0 d M_X3_addNumber false 1 [.ref 144, .long (FP.d2l (FP.dmul (enR x) (4616189618054758400 : UInt64)))] μ K := fun q => by
    have h0 : x.1 ≠ 0 := by rintro e; rw [e] at q; exact absurd q (by decide)
    have er : enR x = aVal x := by
      unfold enR
      rw [if_neg (by rintro (w | w | w); exact h1 w; exact h0 w; exact h8 w)]
    rw [er]
    have en : numOf x = FP.d2l (FP.dmul (aVal x) (4616189618054758400 : UInt64)) := if_pos q
    rw [en] at h
    exact ⟨f_mul4 ok.val, c_num hd hl hs h⟩
  refine ⟨fun e => rl (Or.inl e), fun n6 => ⟨fun n7 => ?_, fun e => rl (Or.inr e)⟩⟩
  have q : ¬ (x.1 = 6 ∨ x.1 = 7) := by rintro (w | w); exact n6 w; exact n7 w
  have e1 : enN x = x.2 := if_neg q
  have e2 : numOf x = x.2 := if_neg q
  rw [e2] at h
  rw [e1]
  exact c_num hd hl hs h
theorem c_itemT {d : Nat} {kd : Int32} {x : aC} {l : List Int32} {μ : mmMem} {K : mmMem → Prop} (hS : strOK) (hd : 7 ≤ d) (ok : okC x) (hx : clC μ 152 x) (hl : l.length + 22 ≤ 1000) (hs : spC μ l) (h : ∀ ξ, spC ξ (l ++ itemS kd x) → spU μ ξ → K ξ) : (¬ (μ.1 152 0) = (-1 : Int32) → (¬ (μ.1 152 0) = (10 : Int32) → (¬ kd = (9 : Int32) → ((μ.1 152 0) = (6 : Int32) → (vf_n64 (FP.dmul (μ.2.2 152 2) (4616189618054758400 : UInt64))) ∧ (mmC0 d M_X3_addNumber false 1 [.ref 144, .long (FP.d2l (FP.dmul (μ.2.2 152 2) (4616189618054758400 : UInt64)))] μ fun ν23 => K ν23)) ∧ (¬ (μ.1 152 0) = (6 : Int32) → (¬ (μ.1 152 0) = (7 : Int32) → mmC0 d M_X3_addNumber false 1 [.ref 144, .long (μ.2.1 152 1)] μ fun ν30 => K ν30) ∧ ((μ.1 152 0) = (7 : Int32) → (vf_n64 (FP.dmul (μ.2.2 152 2) (4616189618054758400 : UInt64))) ∧ (mmC0 d M_X3_addNumber false 1 [.ref 144, .long (FP.d2l (FP.dmul (μ.2.2 152 2) (4616189618054758400 : UInt64)))] μ fun ν35 => K ν35)))) ∧ (kd = (9 : Int32) → mmC0 d M_X3_addKind false 1 [.ref 144, .int (μ.1 152 0)] μ fun ν38 => ((ν38.1 152 0) = (6 : Int32) → (vf_n64 (FP.dmul (ν38.2.2 152 2) (4616189618054758400 : UInt64))) ∧ (mmC0 d M_X3_addNumber false 1 [.ref 144, .long (FP.d2l (FP.dmul (ν38.2.2 152 2) (4616189618054758400 : UInt64)))] ν38 fun ν45 => K ν45)) ∧ (¬ (ν38.1 152 0) = (6 : Int32) → (¬ (ν38.1 152 0) = (7 : Int32) → mmC0 d M_X3_addNumber false 1 [.ref 144, .long (ν38.2.1 152 1)] ν38 fun ν52 => K ν52) ∧ ((ν38.1 152 0) = (7 : Int32) → (vf_n64 (FP.dmul (ν38.2.2 152 2) (4616189618054758400 : UInt64))) ∧ (mmC0 d M_X3_addNumber false 1 [.ref 144, .long (FP.d2l (FP.dmul (ν38.2.2 152 2) (4616189618054758400 : UInt64)))] ν38 fun ν57 => K ν57))))) ∧ ((μ.1 152 0) = (10 : Int32) → (¬ kd = (9 : Int32) → mmC0 d M_X3_addWord false 1 [.ref 144, .long (μ.2.1 152 1)] μ fun ν65 => K ν65) ∧ (kd = (9 : Int32) → mmC0 d M_X3_add false 1 [.ref 144, .int (39 : Int32)] μ fun ν67 => mmC0 d M_X3_addWord false 1 [.ref 144, .long (ν67.2.1 152 1)] ν67 fun ν68 => K ν68))) ∧ ((μ.1 152 0) = (-1 : Int32) → mmC0 d M_X3_add false 1 [.ref 144, .int (95 : Int32)] μ fun ν71 => K ν71) := by
  have hk := hx.1
  rw [hk, enK_m1 ok, enK_10 ok]
  unfold itemS at h
  refine ⟨fun n1 => ⟨fun n8 => ⟨fun n9 => ?_, fun e9 => ?_⟩, fun e8 => ⟨fun n9 => ?_, fun e9 => ?_⟩⟩, fun e1 => ?_⟩
  · rw [if_neg n1, if_neg n8, if_neg n9, List.nil_append] at h
    have := c_itemN (d := d) (K := K) (by omega) ok hx n1 n8 (by omega) hs h
    rw [hk] at this
    exact this
  · rw [if_neg n1, if_neg n8, if_pos e9] at h
    obtain ⟨k, k8, ek⟩ := ok.kind n1 n8
    have en : enK x = nI k := (if_neg n8 : enK x = x.1).trans ek
    rw [ek, nI_clamp (by omega)] at h
    rw [en]
    refine c_kindL hS hd (by omega) (by omega) hs (fun ν s1 u1 => ?_)
    have e := u1 152 (by decide) (by decide)
    have hx2 : clC ν 152 x := ⟨by rw [e.1]; exact hx.1, by rw [e.2.1]; exact hx.2.1, by rw [e.2.2]; exact hx.2.2⟩
    exact c_itemN (by omega) ok hx2 n1 n8 (by rw [List.length_append]; simp; omega) s1 (fun ξ s2 u2 => h ξ (by rw [List.append_assoc] at s2; exact s2) (u1.trans u2))
  · rw [if_neg n1, if_pos e8, if_neg n9, List.nil_append] at h
    have e2 : enN x = x.2 := if_neg (by rw [e8]; decide)
    rw [hx.2.1, e2]
    exact c_word (by omega) (by omega) hs h
  · rw [if_neg n1, if_pos e8, if_pos e9] at h
    have e2 : enN x = x.2 := if_neg (by rw [e8]; decide)
    refine c_sadd (by omega) (by omega) hs (fun ν s1 u1 => ?_)
    have e := u1 152 (by decide) (by decide)
    rw [e.2.1, hx.2.1, e2]
    exact c_word (by omega) (by rw [List.length_append]; simp; omega) s1 (fun ξ s2 u2 => h ξ (by rw [List.append_assoc] at s2; exact s2) (u1.trans u2))
  · rw [if_pos e1] at h
    exact c_sadd (by omega) (by omega) hs h
theorem c_item {d : Nat} {kd b : Int32} {x : aC} {l : List Int32} {μ : mmMem} {K : mmMem → Prop} (hS : strOK) (hd : 8 ≤ d) (ok : okC x) (hx : clC μ 152 x) (hl : l.length + 23 ≤ 1000) (hs : spC μ l) (h : ∀ ξ, spC ξ (l ++ ((if b = 0 then [44] else []) ++ itemS kd x)) → spU μ ξ → K ξ) : mmC0 d M_X3_addItem false 3 [.ref 144, .int kd, .ref 152, .int b] μ K := by
  refine u_X3_addItem (by omega) kd_152 ?_
  refine ⟨fun n => ?_, fun e => ?_⟩
  · rw [if_neg n, List.nil_append] at h
    exact c_itemT hS (by omega) ok hx (by omega) hs h
  · rw [if_pos e] at h
    refine c_sadd (by omega) (by omega) hs (fun ν s1 u1 => ?_)
    have e := u1 152 (by decide) (by decide)
    have hx2 : clC ν 152 x := ⟨by rw [e.1]; exact hx.1, by rw [e.2.1]; exact hx.2.1, by rw [e.2.2]; exact hx.2.2⟩
    exact c_itemT hS (by omega) ok hx2 (by rw [List.length_append]; simp; omega) s1 (fun ξ s2 u2 => h ξ (by rw [List.append_assoc] at s2; exact s2) (u1.trans u2))
/-! the whole -/
def itemsS (kd : Int32) (f : Nat → aC) : Nat → List Int32
  | 0 => []
  | r + 1 => itemsS kd f r ++ ((if r = 0 then [] else [44]) ++ itemS kd (f r))
theorem itemsS_len (kd : Int32) (f : Nat → aC) : ∀ r, (itemsS kd f r).length ≤ 23 * r
  | 0 => Nat.le_refl _
  | r + 1 => by
    have h1 := itemsS_len kd f r
    have h2 := itemS_len kd (f r)
    unfold itemsS
    rw [List.length_append, List.length_append]
    split <;> simp <;> omega
def spellS (c : aCol) (n : Nat) : List Int32 := ([ltr c.1.toNatClampNeg, 40] ++ itemsS c.1 c.2.2 n) ++ [41]
def sp_spelled (c i : Int32) (S : aS) : Int32 × aS := withC S c fun _ col => (if i < 0 ∨ ¬ i < nI (spellS col S.1.1).length then -5 else (spellS col S.1.1).getD i.toNatClampNeg 0, S)
theorem c_spelledE {d k : Nat} {i : Int32} {S : aS} {col : aCol} {P : Option Value → mmMem → Prop} (hS : strOK) (hd : 8 ≤ d) (hk : S.1.2.1[k]? = some col) (x1 x3 : Int32) (μ0 : mmMem) (h : ∀ ν, CS ν S → scr μ0 ν → spC ν (spellS col S.1.1) → (i < 0 → P (some (.int (-5))) ν) ∧ (¬ i < 0 → (i < nI (spellS col S.1.1).length → P (some (.int ((spellS col S.1.1).getD i.toNatClampNeg 0))) ν) ∧ (¬ i < nI (spellS col S.1.1).length → P (some (.int (-5))) ν))) : ∀ (j r : Nat) (μ : mmMem), S.1.1 - r = j → r ≤ S.1.1 → CS μ S → scr μ0 μ → spC μ ([ltr col.1.toNatClampNeg, 40] ++ itemsS col.1 col.2.2 r) → mmEnds d M_X7_spelled 38 [.ref 0, .int x1, .int i, .int x3, .ref (7 + 4 * k), .int (nI r)] [] μ P := by
  intro j
  induction j with
  | zero =>
    intro r μ hj hr hC hsc hs
    have h40 := hC.2.1.1
    have h12 := hC.2.1.2.1
    have hkl := lt_of_get hk
    refine s_X7_spelled_38 (by omega) (kcol k (by omega)).1 ?_
    rw [hC.1.1.1]
    refine ⟨fun _ => ?_, fun w => absurd (nI_le (by omega) (by omega)) w⟩
    have e : r = S.1.1 := by omega
    subst e
    have hln := itemsS_len col.1 col.2.2 S.1.1
    refine u_X3_end (by omega) ?_
    refine c_sadd (by omega) (by rw [List.length_append]; simp; omega) hs (fun ν s1 u1 => ?_)
    have s2 : spC ν (spellS col S.1.1) := s1
    have hl2 : (spellS col S.1.1).length ≤ 923 := by
      unfold spellS
      rw [List.length_append, List.length_append]
      simp; omega
    obtain ⟨g1, g2⟩ := h ν (hC.scr u1.scr) (hsc.trans u1.scr) s2
    rw [s2.1]
    refine ⟨g1, fun n => ⟨fun w => ?_, fun w => (g2 n).2 w⟩⟩
    obtain ⟨m, hm, rfl⟩ := nI_of n
    have hlt := (nI_ltI hm (by omega)).mp w
    have g3 := (g2 n).1 w
    rw [nI_clamp hm] at g3 ⊢
    refine ⟨vp_in_nI (by omega) (by decide), ?_⟩
    have hx : (spellS col S.1.1)[m]? = some ((spellS col S.1.1).getD m 0) := by
      rw [List.getD_eq_getElem?_getD, List.getElem?_eq_getElem hlt]; rfl
    rw [s2.2 m _ hx]
    exact g3
  | succ j ih =>
    intro r μ hj hr hC hsc hs
    have h40 := hC.2.1.1
    have h12 := hC.2.1.2.1
    have hkl := lt_of_get hk
    have hln := itemsS_len col.1 col.2.2 r
    refine s_X7_spelled_38 (by omega) (kcol k (by omega)).1 ?_
    rw [hC.1.1.1]
    refine ⟨fun w => absurd w (nI_ge (by omega) (by omega)), fun _ => ?_⟩
    refine c_load (by omega) (kcol k (by omega)).1 kd_152 (hC.colC hk) (by omega) h40 ?_
    have s1 := setC_scr μ 152 (col.2.2 r) (by decide) (by decide)
    have hC1 := hC.scr s1
    have f1 : ∀ z, z ≠ 152 → eq3 μ (setC μ 152 (col.2.2 r)) z := fun z hz => ⟨setC_1 _ _ _ _ hz, setC_2 _ _ _ _ hz, setC_3 _ _ _ _ hz⟩
    have hs1 := hs.fr (f1 144 (by decide)) (f1 145 (by decide))
    have okx := ((hC.okCol hk).2.2 r (by omega)).1
    rw [(hC1.colC hk).1, nI_1]
    have go : ∀ b : Int32, (b = 0 ↔ r ≠ 0) → mmC0 d M_X3_addItem false 3 [.ref 144, .int col.1, .ref 152, .int b] (setC μ 152 (col.2.2 r)) fun ν22 => mmEnds d M_X7_spelled 38 [.ref 0, .int x1, .int i, .int x3, .ref (7 + 4 * k), .int (nI (r + 1))] [] ν22 P := fun b hb => by
      refine c_item hS (by omega) okx (setC_cl _ _ _) (by rw [List.length_append]; simp; omega) hs1 (fun ξ s2 u2 => ?_)
      refine ih (r + 1) ξ (by omega) (by omega) (hC1.scr u2.scr) ((hsc.trans s1).trans u2.scr) ?_
      have e : (if b = 0 then [44] else ([] : List Int32)) = if r = 0 then [] else [44] := by
        by_cases q : r = 0
        · rw [if_pos q, if_neg (fun w => hb.mp w q)]
        · rw [if_neg q, if_pos (hb.mpr q)]
      rw [e, List.append_assoc] at s2
      exact s2
    refine ⟨fun n => go 0 ⟨fun _ q => n (by rw [q]; rfl), fun _ => rfl⟩, fun e => go 1 ⟨fun w => absurd w (by decide), fun w => ?_⟩⟩
    exact absurd ((nI_eq (b := 0) (by omega) (by decide)).mp e) w
theorem c_spelled {d : Nat} {c i : Int32} {S : aS} {μ : mmMem} {K : Int32 → mmMem → Prop} (hS : strOK) (hd : 9 ≤ d) (hC : CS μ S) (h : ∀ ν, CS ν (sp_spelled c i S).2 → hiE μ ν → K (sp_spelled c i S).1 ν) : mmCI d M_X7_spelled false 2 [.ref 0, .int c, .int i] μ K := by
  refine u_X7_spelled (by omega) ?_
  unfold sp_spelled at h
  refine c_columnRefusal (by omega) hC (fun ν hν hh => ?_)
  refine ⟨fun q => ?_, fun q => ?_⟩
  · obtain ⟨k, col, hk, rfl, hcol, hg⟩ := cref_0 q
    rw [withC_ok hk q hcol] at h
    rw [q] at hν
    replace hν : CS ν S := hν
    have okc := hν.okCol hcol
    rw [nI_clamp (by omega), (hν.colC hcol).1]
    refine ⟨vp_in_nI hk (by decide), ?_⟩
    refine u_X3_begin (by omega) ?_
    have s0 := scr_sI ν 144 0 0 (by decide) (by decide)
    obtain ⟨n, hn, en⟩ : ∃ n, n < 11 ∧ col.1 = nI n := by
      obtain ⟨n, hn, en⟩ := nI_of (x := col.1) (fun w => by
        rw [Int32.lt_iff_toInt_lt] at w
        exact absurd okc.1 (Int.not_le.mpr w))
      refine ⟨n, ?_, en⟩
      have l11 : col.1 < (11 : Int32) := by
        rw [Int32.lt_iff_toInt_lt]
        have e11 : (11 : Int32).toInt = 11 := rfl
        have := okc.2.1
        omega
      rw [en] at l11
      exact (nI_ltI hn (by decide : (11 : Nat) < 2 ^ 31)).mp l11
    have hs0 : spC (sI ν 144 0 0) [] := ⟨by simp [sI, upd]; rfl, fun i x hx => by cases hx⟩
    rw [en]
    refine c_kindL hS (by omega) hn (by simp) hs0 (fun ν1 s1 u1 => ?_)
    refine c_sadd (by omega) (by simp) s1 (fun ν2 s2 u2 => ?_)
    have sc := (s0.trans u1.scr).trans u2.scr
    refine c_spelledE (S := S) hS (by omega) hcol _ _ ν (fun ν3 c3 sc3 s3 => ?_) _ 0 ν2 rfl (Nat.zero_le _) (hν.scr sc) sc ?_
    · have hi := hh.trans sc3.hi
      refine ⟨fun w => ?_, fun n => ⟨fun w => ?_, fun w => ?_⟩⟩
      · rw [if_pos (Or.inl w)] at h; exact h ν3 c3 hi
      · rw [if_neg (by rintro (z | z); exact n z; exact z w)] at h; exact h ν3 c3 hi
      · rw [if_pos (Or.inr w)] at h; exact h ν3 c3 hi
    · rw [en, nI_clamp (by omega)]
      exact s2
  · rw [withC_no q] at h
    exact h ν hν hh
