/-! ===== the class: the order of filters that looks at fewest cells ===== -/
set_option maxRecDepth 100000 in
theorem so_or : ∀ n, n < 64 → ∀ f, f < 6 → (nI n ||| ((1 : Int32) <<< (nI f &&& 31))) = nI (n ||| 2 ^ f) := by decide +kernel
theorem so_sh : ∀ f, f < 7 → (1 : Int32) <<< (nI f &&& 31) = nI (2 ^ f) := by decide +kernel
set_option maxRecDepth 100000 in
theorem so_and : ∀ p, p < 64 → ∀ s, s < 64 → (nI p &&& nI s) = nI (p &&& s) := by decide +kernel
set_option maxRecDepth 100000 in
theorem so_miss : ∀ F, F < 7 → ∀ s, s < 64 → s + 1 < 2 ^ F → ∃ f, f < F ∧ s ||| 2 ^ f ≠ s := by decide +kernel
theorem or_lt {n f F : Nat} (hn : n < 2 ^ F) (hf : f < F) : n ||| 2 ^ f < 2 ^ F := Nat.or_lt_two_pow hn (Nat.pow_lt_pow_right (by decide) hf)
theorem pow_64 {F : Nat} (h : F ≤ 6) : 2 ^ F ≤ 64 := Nat.le_trans (Nat.pow_le_pow_right (by decide) h) (by decide)
theorem scr_sI (μ : mmMem) (p i : Nat) (x : Int32) (h : 143 ≤ p) (h2 : p < 160) : scr μ (sI μ p i x) := ⟨fun q hq => by
  have : q ≠ p := by omega
  simp [eq3, sI, this], by
  have : (141 : Nat) ≠ p := by omega
  simp [sI, this]⟩
def passI (T : aT) (r f : Nat) : Bool := match T.2.2.2.2.2[f]? with
  | some q => aPass T q r
  | none => false
def pmk (T : aT) (r : Nat) : Nat → Nat
  | 0 => 0
  | f + 1 => if passI T r f = true then pmk T r f ||| 2 ^ f else pmk T r f
theorem pmk_lt (T : aT) (r : Nat) : ∀ f, pmk T r f < 2 ^ f
  | 0 => Nat.one_pos
  | f + 1 => by
    have h1 := pmk_lt T r f
    have h2 : 2 ^ f < 2 ^ (f + 1) := Nat.pow_lt_pow_right (by decide) (Nat.lt_succ_self f)
    unfold pmk
    split
    · exact or_lt (Nat.lt_trans h1 h2) (Nat.lt_succ_self f)
    · exact Nat.lt_trans h1 h2
/-- how many rows a set of filters leaves -/
def leftF (T : aT) (l : List Nat) (s : Nat) : Nat := (l.filter fun r => pmk T r T.2.2.2.2.2.length &&& s == s).length
def bestF (W : Nat → Nat) (s : Nat) : Nat → Option Nat
  | 0 => none
  | f + 1 => if s ||| 2 ^ f = s then bestF W s f else match bestF W s f with
    | none => some (W (s ||| 2 ^ f))
    | some b => some (if b ≤ W (s ||| 2 ^ f) then b else W (s ||| 2 ^ f))
/-- how many cells are looked at behind a set, the last t sets found -/
def fwF (F : Nat) (L : Nat → Nat) : Nat → Nat → Nat
  | 0 => fun _ => 0
  | t + 1 => fun s => if s + 2 + t = 2 ^ F then L s + (bestF (fwF F L t) s F).getD 0 else fwF F L t s
def fndF (p : Nat → Bool) : Nat → Nat → Nat
  | 0, i => i
  | n + 1, i => if p i = true then i else fndF p n (i + 1)
def isNx (L W : Nat → Nat) (s f : Nat) : Bool := s ||| 2 ^ f != s && W s == L s + W (s ||| 2 ^ f)
def chsF (F : Nat) (L W : Nat → Nat) : Nat → Nat → Nat → Nat
  | 0, _, c => c
  | n + 1, s, _ => chsF F L W n (if fndF (isNx L W s) F 0 < F then s ||| 2 ^ fndF (isNx L W s) F 0 else s) (fndF (isNx L W s) F 0)
def fewF (T : aT) (v : Nat) : Nat → Nat := fwF T.2.2.2.2.2.length (leftF T (getV T v)) (2 ^ T.2.2.2.2.2.length - 1)
def sp_order (v k : Int32) (S : aS) : Int32 × aS := if noView v then (-1, S) else if k < -1 ∨ ¬ k < nI S.1.2.2.2.2.2.length then (-1, S) else if k = -1 then (nI (fewF S.1 v.toNatClampNeg 0), S) else (nI (chsF S.1.2.2.2.2.2.length (leftF S.1 (getV S.1 v.toNatClampNeg)) (fewF S.1 v.toNatClampNeg) (k.toNatClampNeg + 1) 0 0), S)
theorem leftF_le (T : aT) (l : List Nat) (s : Nat) : leftF T l s ≤ l.length := List.length_filter_le _ _
theorem bestF_le {W : Nat → Nat} {m s : Nat} (h : ∀ x, W x ≤ m) : ∀ f, (bestF W s f).getD 0 ≤ m
  | 0 => Nat.zero_le _
  | f + 1 => by
    have h1 := bestF_le (s := s) h f
    have h2 := h (s ||| 2 ^ f)
    unfold bestF
    split
    · exact h1
    · split
      · exact h2
      · rename_i b hb
        rw [hb] at h1
        have h1 : b ≤ m := h1
        show (if b ≤ W (s ||| 2 ^ f) then b else W (s ||| 2 ^ f)) ≤ m
        split
        · exact h1
        · exact h2
theorem fwF_le {F : Nat} {L : Nat → Nat} (h : ∀ s, L s ≤ 40) : ∀ t s, fwF F L t s ≤ 40 * t
  | 0, _ => Nat.zero_le _
  | t + 1, s => by
    have h1 := fwF_le (F := F) h t
    have h2 := bestF_le (s := s) h1 F
    have h3 := h s
    have h4 := h1 s
    unfold fwF
    split
    · omega
    · omega
theorem bestF_some {W : Nat → Nat} {s F : Nat} (h : ∃ f, f < F ∧ s ||| 2 ^ f ≠ s) : ∃ b, bestF W s F = some b := by
  induction F with
  | zero => obtain ⟨f, hf, -⟩ := h; exact absurd hf (Nat.not_lt_zero _)
  | succ F ih =>
    unfold bestF
    split
    · rename_i e
      refine ih ?_
      obtain ⟨f, hf, hn⟩ := h
      by_cases q : f = F
      · subst q; exact absurd e hn
      · exact ⟨f, by omega, hn⟩
    · split <;> exact ⟨_, rfl⟩
/-! the marks of the rows -/
theorem c_clF {d v : Nat} {S : aS} {P : Option Value → mmMem → Prop} (hd : 5 ≤ d) (hv : v < 2) (F : Nat) (hF : F = S.1.2.2.2.2.2.length) (i r : Nat) (hr : (getV S.1 v)[i]? = some r) (μ0 : mmMem) : ∀ (j f : Nat) (μ : mmMem), F - f = j → f ≤ F → CS μ S → scr μ0 μ → (∀ q, q < i → μ.1 157 q = μ0.1 157 q) → μ.1 157 i = nI (pmk S.1 r f) → (∀ ν, CS ν S → scr μ0 ν → (∀ q, q < i → ν.1 157 q = μ0.1 157 q) → ν.1 157 i = nI (pmk S.1 r F) → mmEnds d M_X7_countLeft 2 [.ref 0, .ref (55 + 2 * v), .int (nI i + 1), .int (nI F)] [] ν P) → mmEnds d M_X7_countLeft 19 [.ref 0, .ref (55 + 2 * v), .int (nI i), .int (nI f)] [] μ P := by
  intro j
  induction j with
  | zero =>
    intro f μ hj hf hC hs ho hm h
    have hfl := hC.2.1.2.2.2.2.2.2.2.1
    refine s_X7_countLeft_19 (by omega) (kvw v hv).1 ?_
    rw [hC.1.1.2.2.2, ← hF]
    have e : f = F := by omega
    subst e
    exact ⟨fun _ => h μ hC hs ho hm, fun w => absurd (nI_le (by omega) (by omega)) w⟩
  | succ j ih =>
    intro f μ hj hf hC hs ho hm h
    have hfl := hC.2.1.2.2.2.2.2.2.2.1
    have okv := hC.2.1.vw v
    have hln := okv.len
    have h40 := hC.2.1.1
    have hil := lt_of_get hr
    have hvw := hC.1.vw hv
    have hrr := okv.2 r (List.mem_of_getElem? hr)
    obtain ⟨q, hq⟩ : ∃ q, S.1.2.2.2.2.2[f]? = some q := ⟨_, List.getElem?_eq_getElem (by omega)⟩
    obtain ⟨f1, f2, f3⟩ := hC.fil hq
    refine s_X7_countLeft_19 (by omega) (kvw v hv).1 ?_
    rw [hC.1.1.2.2.2, ← hF, nI_clamp (by omega), nI_clamp (by omega), show 55 + 2 * v + 1 = 56 + 2 * v by omega]
    have h56 := hvw.2 i r hr
    rw [show 55 + 2 * v + 1 = 56 + 2 * v by omega] at h56
    rw [h56, nI_1 f]
    refine ⟨fun w => absurd w (nI_ge (by omega) (by omega)), fun _ => ⟨vp_in_nI (by omega) (by decide), vp_in_nI (by omega) (by decide), ?_⟩⟩
    refine c_passes (by omega) (kfil f f3).1 (by omega) (by omega) hC f1 f2 hrr (fun ν g => ?_)
    have s1 : scr μ ν := ⟨fun q hq => g q (by omega), by rw [(g 141 (by omega)).1]⟩
    have e157 : ν.1 157 = μ.1 157 := (g 157 (by decide)).1
    have ep : passI S.1 r f = aPass S.1 q r := by unfold passI; rw [hq]
    have hlt := pmk_lt S.1 r f
    have h64 := pow_64 (F := f) (by omega)
    cases hp : aPass S.1 q r with
    | true =>
      rw [if_pos rfl]
      refine ⟨fun w => absurd w (by decide), fun _ => ?_⟩
      have em : pmk S.1 r (f + 1) = pmk S.1 r f ||| 2 ^ f := by
        show (if passI S.1 r f = true then _ else _) = _
        rw [ep, hp, if_pos rfl]
      have s2 := scr_sI ν 157 i (ν.1 157 i ||| ((1 : Int32) <<< (nI f &&& 31))) (by decide) (by decide)
      refine ih (f + 1) _ (by omega) (by omega) ((hC.scr s1).scr s2) ((hs.trans s1).trans s2) (fun z hz => ?_) ?_ h
      · have : z ≠ i := by omega
        rw [← ho z hz]
        simp [sI, upd, this, e157]
      · rw [em, ← so_or _ (by omega) _ (by omega), ← hm, ← e157]
        simp [sI, upd]
    | false =>
      rw [if_neg (by decide)]
      refine ⟨fun _ => ?_, fun w => absurd rfl w⟩
      have em : pmk S.1 r (f + 1) = pmk S.1 r f := by
        show (if passI S.1 r f = true then _ else _) = _
        rw [ep, hp, if_neg (by decide)]
      refine ih (f + 1) _ (by omega) (by omega) (hC.scr s1) (hs.trans s1) (fun z hz => ?_) ?_ h
      · rw [e157]; exact ho z hz
      · rw [em, e157]; exact hm
theorem c_clI {d v : Nat} {S : aS} {P : Option Value → mmMem → Prop} (hd : 5 ≤ d) (hv : v < 2) (μ0 : mmMem) (h : ∀ ν (x : Value), CS ν S → scr μ0 ν → (∀ q r, (getV S.1 v)[q]? = some r → ν.1 157 q = nI (pmk S.1 r S.1.2.2.2.2.2.length)) → mmEnds d M_X7_countLeft 78 [.ref 0, .ref (55 + 2 * v), .int 0, x] [] ν P) : ∀ (j i : Nat) (μ : mmMem) (x : Value), (getV S.1 v).length - i = j → i ≤ (getV S.1 v).length → CS μ S → scr μ0 μ → (∀ q r, q < i → (getV S.1 v)[q]? = some r → μ.1 157 q = nI (pmk S.1 r S.1.2.2.2.2.2.length)) → mmEnds d M_X7_countLeft 2 [.ref 0, .ref (55 + 2 * v), .int (nI i), x] [] μ P := by
  intro j
  induction j with
  | zero =>
    intro i μ x hj hi hC hs hm
    have okv := hC.2.1.vw v
    have hln := okv.len
    have h40 := hC.2.1.1
    refine s_X7_countLeft_2 (by omega) (kvw v hv).1 ?_
    rw [(hC.1.vw hv).1]
    exact ⟨fun _ => h μ x hC hs (fun q r hq => hm q r (by have := lt_of_get hq; omega) hq), fun w => absurd (nI_le (by omega) (by omega)) w⟩
  | succ j ih =>
    intro i μ x hj hi hC hs hm
    have okv := hC.2.1.vw v
    have hln := okv.len
    have h40 := hC.2.1.1
    obtain ⟨r, hr⟩ : ∃ r, (getV S.1 v)[i]? = some r := ⟨_, List.getElem?_eq_getElem (by omega)⟩
    refine s_X7_countLeft_2 (by omega) (kvw v hv).1 ?_
    rw [(hC.1.vw hv).1, nI_clamp (by omega)]
    refine ⟨fun w => absurd w (nI_ge (by omega) (by omega)), fun _ => ⟨vp_in_nI (by omega) (by decide), ?_⟩⟩
    have s1 := scr_sI μ 157 i 0 (by decide) (by decide)
    refine c_clF hd hv _ rfl i r hr (sI μ 157 i 0) _ 0 _ rfl (Nat.zero_le _) (hC.scr s1) (scr.refl _) (fun _ _ => rfl) (by simp [sI, upd, pmk]; rfl) (fun ν hν s2 ho he => ?_)
    rw [nI_1]
    refine ih (i + 1) ν _ (by omega) (by omega) hν ((hs.trans s1).trans s2) (fun q r2 hq h2 => ?_)
    by_cases e : q = i
    · subst e
      rw [hr] at h2
      cases h2
      exact he
    · rw [ho q (by omega), ← hm q r2 (by omega) h2]
      simp [sI, upd, e]
/-! how many each set leaves -/
theorem c_clR {d v : Nat} {S : aS} {P : Option Value → mmMem → Prop} (hv : v < 2) (s : Nat) (hs64 : s < 64) (μ0 : mmMem) : ∀ (j i : Nat) (μ : mmMem), (getV S.1 v).length - i = j → i ≤ (getV S.1 v).length → CS μ S → scr μ0 μ → (∀ q r, (getV S.1 v)[q]? = some r → μ.1 157 q = nI (pmk S.1 r S.1.2.2.2.2.2.length)) → (∀ q, q < s → μ.1 158 q = μ0.1 158 q) → μ.1 158 s = nI (leftF S.1 ((getV S.1 v).take i) s) → (∀ ν, CS ν S → scr μ0 ν → (∀ q r, (getV S.1 v)[q]? = some r → ν.1 157 q = nI (pmk S.1 r S.1.2.2.2.2.2.length)) → (∀ q, q < s → ν.1 158 q = μ0.1 158 q) → ν.1 158 s = nI (leftF S.1 (getV S.1 v) s) → mmEnds d M_X7_countLeft 78 [.ref 0, .ref (55 + 2 * v), .int (nI s + 1), .int (nI (getV S.1 v).length)] [] ν P) → mmEnds d M_X7_countLeft 100 [.ref 0, .ref (55 + 2 * v), .int (nI s), .int (nI i)] [] μ P := by
  intro j
  induction j with
  | zero =>
    intro i μ hj hi hC hs hm ho he h
    have okv := hC.2.1.vw v
    have hln := okv.len
    have h40 := hC.2.1.1
    refine s_X7_countLeft_100 (by omega) (kvw v hv).1 ?_
    rw [(hC.1.vw hv).1]
    have e : i = (getV S.1 v).length := by omega
    subst e
    rw [List.take_length] at he
    exact ⟨fun _ => h μ hC hs hm ho he, fun w => absurd (nI_le (by omega) (by omega)) w⟩
  | succ j ih =>
    intro i μ hj hi hC hs hm ho he h
    have okv := hC.2.1.vw v
    have hln := okv.len
    have h40 := hC.2.1.1
    have hfl := hC.2.1.2.2.2.2.2.2.2.1
    obtain ⟨r, hr⟩ : ∃ r, (getV S.1 v)[i]? = some r := ⟨_, List.getElem?_eq_getElem (by omega)⟩
    have ht : (getV S.1 v).take (i + 1) = (getV S.1 v).take i ++ [r] := by rw [List.take_add_one, hr]; rfl
    have hlt := Nat.lt_of_lt_of_le (pmk_lt S.1 r S.1.2.2.2.2.2.length) (pow_64 hfl)
    have hand : pmk S.1 r S.1.2.2.2.2.2.length &&& s < 64 := Nat.lt_of_le_of_lt Nat.and_le_right hs64
    refine s_X7_countLeft_100 (by omega) (kvw v hv).1 ?_
    rw [(hC.1.vw hv).1, nI_clamp (by omega), nI_clamp (by omega), hm i r hr, so_and _ hlt _ hs64, nI_eq (by omega) (by omega), nI_1 i]
    refine ⟨fun w => absurd w (nI_ge (by omega) (by omega)), fun _ => ⟨vp_in_nI (by omega) (by decide), fun w => ?_, fun w => ⟨vp_in_nI (by omega) (by decide), ?_⟩⟩⟩
    · have e : leftF S.1 ((getV S.1 v).take (i + 1)) s = leftF S.1 ((getV S.1 v).take i) s := by
        unfold leftF
        rw [ht, List.filter_append, List.filter_cons_of_neg (by simpa using w)]
        simp
      exact ih (i + 1) μ (by omega) (by omega) hC hs hm ho (by rw [e]; exact he) h
    · have e : leftF S.1 ((getV S.1 v).take (i + 1)) s = leftF S.1 ((getV S.1 v).take i) s + 1 := by
        unfold leftF
        rw [ht, List.filter_append, List.filter_cons_of_pos (by simpa using w)]
        simp
      have s2 := scr_sI μ 158 s (μ.1 158 s + 1) (by decide) (by decide)
      refine ih (i + 1) _ (by omega) (by omega) (hC.scr s2) (hs.trans s2) (fun q r2 h2 => ?_) (fun q hq => ?_) ?_ h
      · rw [← hm q r2 h2]; simp [sI]
      · have : q ≠ s := by omega
        rw [← ho q hq]; simp [sI, upd, this]
      · rw [e, ← nI_1, ← he]; simp [sI, upd]
theorem c_clS {d v : Nat} {S : aS} {P : Option Value → mmMem → Prop} (hv : v < 2) (μ0 : mmMem) (h : ∀ ν, CS ν S → scr μ0 ν → (∀ s, s < 2 ^ S.1.2.2.2.2.2.length → ν.1 158 s = nI (leftF S.1 (getV S.1 v) s)) → P none ν) : ∀ (j s : Nat) (μ : mmMem) (x : Value), 2 ^ S.1.2.2.2.2.2.length - s = j → s ≤ 2 ^ S.1.2.2.2.2.2.length → CS μ S → scr μ0 μ → (∀ q r, (getV S.1 v)[q]? = some r → μ.1 157 q = nI (pmk S.1 r S.1.2.2.2.2.2.length)) → (∀ q, q < s → μ.1 158 q = nI (leftF S.1 (getV S.1 v) q)) → mmEnds d M_X7_countLeft 78 [.ref 0, .ref (55 + 2 * v), .int (nI s), x] [] μ P := by
  intro j
  induction j with
  | zero =>
    intro s μ x hj hi hC hs hm ho
    have hfl := hC.2.1.2.2.2.2.2.2.2.1
    have h64 := pow_64 hfl
    refine s_X7_countLeft_78 (by omega) (kvw v hv).1 ?_
    rw [hC.1.1.2.2.2, so_sh _ (by omega)]
    exact ⟨fun _ => h μ hC hs (fun q hq => ho q (by omega)), fun w => absurd (nI_le (by omega) (by omega)) w⟩
  | succ j ih =>
    intro s μ x hj hi hC hs hm ho
    have hfl := hC.2.1.2.2.2.2.2.2.2.1
    have h64 := pow_64 hfl
    refine s_X7_countLeft_78 (by omega) (kvw v hv).1 ?_
    rw [hC.1.1.2.2.2, so_sh _ (by omega), nI_clamp (by omega)]
    refine ⟨fun w => absurd w (nI_ge (by omega) (by omega)), fun _ => ⟨vp_in_nI (by omega) (by decide), ?_⟩⟩
    have s1 := scr_sI μ 158 s 0 (by decide) (by decide)
    refine c_clR hv s (by omega) (sI μ 158 s 0) _ 0 _ rfl (Nat.zero_le _) (hC.scr s1) (scr.refl _) (fun q r h2 => ?_) (fun _ _ => rfl) (by simp [sI, upd, leftF]; rfl) (fun ν hν s2 hm2 ho2 he => ?_)
    · rw [← hm q r h2]; simp [sI]
    rw [nI_1]
    refine ih (s + 1) ν _ (by omega) (by omega) hν ((hs.trans s1).trans s2) hm2 (fun q hq => ?_)
    by_cases e : q = s
    · subst e; exact he
    · rw [ho2 q (by omega), ← ho q (by omega)]
      simp [sI, upd, e]
theorem c_countLeft {d v : Nat} {S : aS} {μ : mmMem} {K : mmMem → Prop} (hd : 6 ≤ d) (hv : v < 2) (hC : CS μ S) (h : ∀ ν, scr μ ν → (∀ s, s < 2 ^ S.1.2.2.2.2.2.length → ν.1 158 s = nI (leftF S.1 (getV S.1 v) s)) → K ν) : mmC0 d M_X7_countLeft false 1 [.ref 0, .ref (55 + 2 * v)] μ K := by
  refine u_X7_countLeft (by omega) (kvw v hv).1 ?_
  refine c_clI (S := S) (by omega) hv μ (fun ν x hν s1 hm => ?_) _ 0 μ _ rfl (Nat.zero_le _) hC (scr.refl _) (fun q r hq => absurd hq (Nat.not_lt_zero _))
  exact c_clS hv μ (fun ν2 hν2 s2 ho => h ν2 s2 ho) _ 0 ν x rfl (Nat.zero_le _) hν s1 hm (fun q hq => absurd hq (Nat.not_lt_zero _))
/-! the fewest -/
def bI : Option Nat → Int32
  | none => -1
  | some n => nI n
theorem c_cfF {d F m t : Nat} {L : Nat → Nat} {P : Option Value → mmMem → Prop} {μ : mmMem} (hF : F ≤ 6) (h3 : μ.1 1 3 = nI F) (hm : m + 2 + t = 2 ^ F) (hL : ∀ s, L s ≤ 40) (hl : ∀ s, s < 2 ^ F → μ.1 158 s = nI (L s)) (hw : ∀ s, m + 1 ≤ s → s < 2 ^ F → μ.1 159 s = nI (fwF F L t s)) (x1 : Int32) (h : ∀ x3 x4 v5, mmEnds d M_X7_countFewest 23 [.ref 0, .int x1, .int (nI m + (-1)), .int x3, .int x4, v5] [] (sI μ 159 m (nI (fwF F L (t + 1) m))) P) : ∀ (j f : Nat) (v5 : Value), F - f = j → f ≤ F → mmEnds d M_X7_countFewest 32 [.ref 0, .int x1, .int (nI m), .int (bI (bestF (fwF F L t) m f)), .int (nI f), v5] [] μ P := by
  have h64 := pow_64 hF
  have ht : t < 64 := by omega
  have hwl := fwF_le (F := F) hL t
  intro j
  induction j with
  | zero =>
    intro f v5 hj hf
    refine s_X7_countFewest_32 (by omega) ?_
    rw [h3, nI_clamp (by omega)]
    refine ⟨fun _ => ⟨vp_in_nI (by omega) (by decide), ?_⟩, fun w => absurd (nI_le (by omega) (by omega)) w⟩
    have e : f = F := by omega
    subst e
    obtain ⟨b, hb⟩ := bestF_some (W := fwF f L t) (so_miss f (by omega) m (by omega) (by omega))
    have hbl := bestF_le (W := fwF f L t) (s := m) hwl f
    rw [hb] at hbl
    have hbl : b ≤ 40 * t := hbl
    have e2 : fwF f L (t + 1) m = L m + b := by
      show (if m + 2 + t = 2 ^ f then _ else _) = _
      rw [if_pos hm, hb]; rfl
    have := h (bI (some b)) (nI f) v5
    rw [e2] at this
    rw [hb, hl m (by omega)]
    show mmEnds d M_X7_countFewest 23 [.ref 0, .int x1, .int (nI m + (-1)), .int (bI (some b)), .int (nI f), v5] [] (sI μ 159 m (nI (L m) + nI b)) P
    rw [nI_add]
    exact this
  | succ j ih =>
    intro f v5 hj hf
    refine s_X7_countFewest_32 (by omega) ?_
    have hor := or_lt (n := m) (f := f) (F := F) (by omega) (by omega)
    have hge : m ≤ m ||| 2 ^ f := Nat.left_le_or
    rw [h3, so_or m (by omega) f (by omega), nI_eq (by omega) (by omega), nI_clamp (show m ||| 2 ^ f < 2 ^ 31 by omega), nI_1 f]
    refine ⟨fun w => absurd w (nI_ge (by omega) (by omega)), fun _ => ⟨fun w => ?_, fun w => ?_⟩⟩
    · have e : bestF (fwF F L t) m (f + 1) = bestF (fwF F L t) m f := by
        show (if m ||| 2 ^ f = m then _ else _) = _
        rw [if_pos w]
      have := ih (f + 1) (.int (nI (m ||| 2 ^ f))) (by omega) (by omega)
      rw [e] at this
      exact this
    · have hv := hw (m ||| 2 ^ f) (by omega) hor
      have hwb := hwl (m ||| 2 ^ f)
      have e : bestF (fwF F L t) m (f + 1) = match bestF (fwF F L t) m f with
        | none => some (fwF F L t (m ||| 2 ^ f))
        | some b => some (if b ≤ fwF F L t (m ||| 2 ^ f) then b else fwF F L t (m ||| 2 ^ f)) := by
        show (if m ||| 2 ^ f = m then _ else _) = _
        rw [if_neg w]
      have go := ih (f + 1) (.int (nI (m ||| 2 ^ f))) (by omega) (by omega)
      rw [e] at go
      rw [hv]
      have hbl := bestF_le (W := fwF F L t) (s := m) hwl f
      cases hb : bestF (fwF F L t) m f with
      | none =>
        rw [hb] at go
        exact ⟨fun _ => ⟨vp_in_nI (by omega) (by decide), go⟩, fun q => absurd (by decide) q⟩
      | some b =>
        rw [hb] at go hbl
        have hbl : b ≤ 40 * t := hbl
        dsimp only at go
        refine ⟨fun q => absurd q (nI_pos (by omega)), fun _ => ⟨vp_in_nI (by omega) (by decide), fun q => ?_, fun q => ?_⟩⟩
        · have q : nI b ≤ nI (fwF F L t (m ||| 2 ^ f)) := q
          rw [nI_leI (by omega) (by omega)] at q
          rw [if_pos q] at go
          exact go
        · have q : ¬ nI b ≤ nI (fwF F L t (m ||| 2 ^ f)) := q
          rw [nI_leI (by omega) (by omega)] at q
          rw [if_neg q] at go
          exact go
theorem fwF_old {F t s : Nat} {L : Nat → Nat} (h : s + 2 + t ≠ 2 ^ F) : fwF F L (t + 1) s = fwF F L t s := if_neg h
theorem c_cfE {d F : Nat} {L : Nat → Nat} {P : Option Value → mmMem → Prop} (hF : F ≤ 6) (hL : ∀ s, L s ≤ 40) (x1 : Int32) (μ0 : mmMem) (h3 : μ0.1 1 3 = nI F) (hl : ∀ s, s < 2 ^ F → μ0.1 158 s = nI (L s)) (h : ∀ ν, scr μ0 ν → (∀ s, s < 2 ^ F → ν.1 158 s = nI (L s)) → (∀ s, s < 2 ^ F → ν.1 159 s = nI (fwF F L (2 ^ F - 1) s)) → P none ν) : ∀ (m t : Nat) (μ : mmMem) (v3 v4 v5 : Value), m + 1 + t = 2 ^ F → scr μ0 μ → (∀ s, s < 2 ^ F → μ.1 158 s = nI (L s)) → (∀ s, m ≤ s → s < 2 ^ F → μ.1 159 s = nI (fwF F L t s)) → mmEnds d M_X7_countFewest 23 [.ref 0, .int x1, .int (nI m + (-1)), v3, v4, v5] [] μ P := by
  have h64 := pow_64 hF
  intro m
  induction m with
  | zero =>
    intro t μ v3 v4 v5 ht hs hl2 hw
    refine s_X7_countFewest_23 (by omega) ?_
    refine ⟨fun _ => h μ hs hl2 (fun s hq => ?_), fun w => absurd (by decide) w⟩
    rw [hw s (Nat.zero_le _) hq, show 2 ^ F - 1 = t by omega]
  | succ m ih =>
    intro t μ v3 v4 v5 ht hs hl2 hw
    refine s_X7_countFewest_23 (by omega) ?_
    have e : nI (m + 1) + (-1) = nI m := by
      rw [← nI_1, Int32.add_assoc]
      show nI m + 0 = nI m
      rw [Int32.add_zero]
    rw [e]
    refine ⟨fun w => absurd w (nI_pos (by omega)), fun _ => ?_⟩
    refine c_cfF (t := t) (L := L) hF (by rw [(hs.1 1 (by omega)).1]; exact h3) (by omega) hL hl2 hw x1 (fun x3 x4 v6 => ?_) _ 0 v5 rfl (Nat.zero_le _)
    have s2 := scr_sI μ 159 m (nI (fwF F L (t + 1) m)) (by decide) (by decide)
    refine ih (t + 1) _ _ _ _ (by omega) (hs.trans s2) (fun s hq => ?_) (fun s h1 h2 => ?_)
    · rw [← hl2 s hq]; simp [sI]
    · by_cases q : s = m
      · subst q; simp [sI, upd]
      · rw [fwF_old (s := s) (by omega), ← hw s (by omega) h2]
        simp [sI, upd, q]
theorem c_countFewest {d F : Nat} {L : Nat → Nat} {μ : mmMem} {K : mmMem → Prop} (hd : 1 ≤ d) (hF : F ≤ 6) (hL : ∀ s, L s ≤ 40) (h3 : μ.1 1 3 = nI F) (hl : ∀ s, s < 2 ^ F → μ.1 158 s = nI (L s)) (h : ∀ ν, scr μ ν → (∀ s, s < 2 ^ F → ν.1 158 s = nI (L s)) → (∀ s, s < 2 ^ F → ν.1 159 s = nI (fwF F L (2 ^ F - 1) s)) → K ν) : mmC0 d M_X7_countFewest false 0 [.ref 0] μ K := by
  refine u_X7_countFewest hd ?_
  have h64 := pow_64 hF
  have h1 : 1 ≤ 2 ^ F := Nat.one_le_two_pow
  have e1 : nI (2 ^ F) - 1 = nI (2 ^ F - 1) := nI_subN (a := 2 ^ F) (b := 1) h1 (by omega)
  rw [h3, so_sh _ (by omega), e1, nI_clamp (by omega)]
  refine ⟨vp_in_nI (by omega) (by decide), ?_⟩
  have e2 : nI (2 ^ F - 1) - 1 = nI (2 ^ F - 1) + (-1) := Int32.sub_eq_add_neg _ _
  rw [e2]
  have s1 := scr_sI μ 159 (2 ^ F - 1) 0 (by decide) (by decide)
  refine c_cfE (L := L) hF hL _ μ h3 hl h (2 ^ F - 1) 0 _ _ _ _ (by omega) s1 (fun s hq => ?_) (fun s q1 q2 => ?_)
  · rw [← hl s hq]; simp [sI]
  · have : s = 2 ^ F - 1 := by omega
    subst this
    simp [sI, upd, fwF]; rfl
/-! the filters in their order -/
theorem fnd_lt {p : Nat → Bool} : ∀ (n i : Nat), fndF p n i < i + n → p (fndF p n i) = true
  | 0, i, h => absurd h (Nat.lt_irrefl _)
  | n + 1, i, h => by
    unfold fndF at h ⊢
    split
    · assumption
    · rename_i q
      rw [if_neg q] at h
      exact fnd_lt n (i + 1) (by omega)
theorem fnd_le {p : Nat → Bool} : ∀ (n i : Nat), fndF p n i ≤ i + n
  | 0, i => Nat.le_refl _
  | n + 1, i => by
    have := fnd_le (p := p) n (i + 1)
    unfold fndF
    split <;> omega
theorem c_faE {d F : Nat} {L W : Nat → Nat} {P : Option Value → mmMem → Prop} {μ : mmMem} (hd : 1 ≤ d) (hF : F ≤ 6) (hL : ∀ s, L s ≤ 40) (hW : ∀ s, W s ≤ 2560) (h3 : μ.1 1 3 = nI F) (hl : ∀ s, s < 2 ^ F → μ.1 158 s = nI (L s)) (hw : ∀ s, s < 2 ^ F → μ.1 159 s = nI (W s)) (x1 x4 : Int32) (s : Nat) (hs : s < 2 ^ F) (h : mmEnds d M_X7_filterAt 7 [.ref 0, .int x1, .int (nI (if fndF (isNx L W s) F 0 < F then s ||| 2 ^ fndF (isNx L W s) F 0 else s)), .int (nI (fndF (isNx L W s) F 0)), .int (x4 + 1)] [] μ P) : ∀ (j i : Nat), F - i = j → i ≤ F → fndF (isNx L W s) (F - i) i = fndF (isNx L W s) F 0 → mmEnds d M_X7_filterAt 15 [.ref 0, .int x1, .int (nI s), .int (nI i), .int x4] [] μ P := by
  have h64 := pow_64 hF
  intro j
  induction j with
  | zero =>
    intro i hj hi he
    refine s_X7_filterAt_15 (by omega) ?_
    rw [h3]
    refine ⟨fun _ => ?_, fun w => absurd (nI_le (by omega) (by omega)) w⟩
    rw [hj] at he
    have he : i = fndF (isNx L W s) F 0 := he
    rw [← he, if_neg (by omega)] at h
    exact h
  | succ j ih =>
    intro i hj hi he
    refine s_X7_filterAt_15 (by omega) ?_
    rw [h3]
    refine ⟨fun w => absurd w (nI_ge (by omega) (by omega)), fun _ => ?_⟩
    have hor := or_lt (n := s) (f := i) (F := F) hs (by omega)
    refine u_X7_isBestNext hd ?_
    rw [so_or s (by omega) i (by omega), nI_eq (by omega) (by omega), nI_clamp (by omega), nI_clamp (by omega), hl s hs, hw s hs, hw _ hor, nI_add, nI_1, h3]
    have l1 := hL s
    have l2 := hW s
    have l3 := hW (s ||| 2 ^ i)
    rw [nI_eq (by omega) (by omega)]
    have stp : isNx L W s i = false → mmEnds d M_X7_filterAt 15 [.ref 0, .int x1, .int (nI s), .int (nI (i + 1)), .int x4] [] μ P := fun q => by
      refine ih (i + 1) (by omega) (by omega) ?_
      rw [← he, show F - i = (F - (i + 1)) + 1 by omega]
      show _ = (if isNx L W s i = true then _ else _)
      rw [q, if_neg (by decide)]
    refine ⟨fun w => ⟨fun q => absurd rfl q, fun _ => stp (by simp [isNx, w])⟩, fun w => ⟨vp_in_nI (by omega) (by decide), vp_in_nI (by omega) (by decide), fun q => ⟨fun r => absurd rfl r, fun _ => stp (by simp [isNx, q])⟩, fun q => ⟨fun _ => ⟨fun r => absurd r (nI_ge (by omega) (by omega)), fun _ => ?_⟩, fun r => absurd r (by decide)⟩⟩⟩
    have hx : isNx L W s i = true := by simp [isNx, w, q]
    have hi2 : i = fndF (isNx L W s) F 0 := by
      rw [← he, show F - i = (F - (i + 1)) + 1 by omega]
      show _ = (if isNx L W s i = true then _ else _)
      rw [hx, if_pos rfl]
    rw [← hi2, if_pos (by omega)] at h
    exact h
theorem c_faS {d F k : Nat} {L W : Nat → Nat} {P : Option Value → mmMem → Prop} {μ : mmMem} (hd : 1 ≤ d) (hF : F ≤ 6) (hk : k < F) (hL : ∀ s, L s ≤ 40) (hW : ∀ s, W s ≤ 2560) (h3 : μ.1 1 3 = nI F) (hl : ∀ s, s < 2 ^ F → μ.1 158 s = nI (L s)) (hw : ∀ s, s < 2 ^ F → μ.1 159 s = nI (W s)) (ans : Nat) (h : P (some (.int (nI ans))) μ) : ∀ (n t s c : Nat), t + n = k + 1 → s < 2 ^ F → ans = chsF F L W n s c → mmEnds d M_X7_filterAt 7 [.ref 0, .int (nI k), .int (nI s), .int (nI c), .int (nI t)] [] μ P := by
  intro n
  induction n with
  | zero =>
    intro t s c ht hs ha
    refine s_X7_filterAt_7 (by omega) ?_
    rw [nI_ltI (by omega) (by omega)]
    refine ⟨fun _ => ?_, fun w => absurd (by omega) w⟩
    have ha : ans = c := ha
    rw [← ha]; exact h
  | succ n ih =>
    intro t s c ht hs ha
    refine s_X7_filterAt_7 (by omega) ?_
    rw [nI_ltI (by omega) (by omega)]
    refine ⟨fun w => absurd w (by omega), fun _ => ?_⟩
    refine c_faE hd hF hL hW h3 hl hw _ _ s hs ?_ _ 0 rfl (Nat.zero_le _) rfl
    rw [nI_1]
    refine ih (t + 1) _ _ (by omega) ?_ ha
    split
    · exact or_lt hs (by assumption)
    · exact hs
theorem c_order {d : Nat} {v k : Int32} {S : aS} {μ : mmMem} {K : Int32 → mmMem → Prop} (hd : 8 ≤ d) (hC : CS μ S) (h : ∀ ν, CS ν (sp_order v k S).2 → hiE μ ν → K (sp_order v k S).1 ν) : mmCI d M_X7_order false 2 [.ref 0, .int v, .int k] μ K := by
  refine u_X7_order (by omega) ?_
  unfold sp_order at h
  have bad : noView v → K (-1) μ := fun w => by
    rw [if_pos w] at h
    exact h μ hC (hiE.refl _)
  refine ⟨fun a => bad (Or.inl a), fun a => ⟨fun b => bad (Or.inr b), fun b => ?_⟩⟩
  have nv : ¬ noView v := by rintro (w | w); exact a w; exact b w
  rw [if_neg nv] at h
  obtain ⟨v, hv, rfl⟩ := view_of nv
  rw [nI_clamp (by omega)] at h ⊢
  have hfl := hC.2.1.2.2.2.2.2.2.2.1
  have hln := (hC.2.1.vw v).len
  have h40 := hC.2.1.1
  have h64 := pow_64 hfl
  have hp1 : 1 ≤ 2 ^ S.1.2.2.2.2.2.length := Nat.one_le_two_pow
  rw [hC.1.1.2.2.2]
  refine ⟨fun l => ?_, fun l => ⟨fun l2 => ?_, fun l2 => ?_⟩⟩
  · rw [if_pos (Or.inl l)] at h; exact h μ hC (hiE.refl _)
  · rw [if_neg (by rintro (w | w); exact l w; exact w l2)] at h
    have hL : ∀ s, leftF S.1 (getV S.1 v) s ≤ 40 := fun s => by
      have := leftF_le S.1 (getV S.1 v) s
      omega
    refine c_countLeft (S := S) (by omega) hv hC (fun ν s1 g1 => ?_)
    have hC1 := hC.scr s1
    refine c_countFewest (L := leftF S.1 (getV S.1 v)) (by omega) hfl hL hC1.1.1.2.2.2 g1 (fun ν2 s2 g2 g3 => ?_)
    have hC2 := hC1.scr s2
    have hW : ∀ s, fewF S.1 v s ≤ 2560 := fun s => by
      have := fwF_le (F := S.1.2.2.2.2.2.length) hL (2 ^ S.1.2.2.2.2.2.length - 1) s
      unfold fewF
      omega
    refine ⟨fun n => ?_, fun n => ?_⟩
    · rw [if_neg n] at h
      have l0 : ¬ k < 0 := by
        intro w
        apply n
        rw [Int32.lt_iff_toInt_lt] at w l
        apply Int32.toInt_inj.mp
        have e1 : (-1 : Int32).toInt = -1 := rfl
        have e0 : (0 : Int32).toInt = 0 := rfl
        omega
      obtain ⟨k, hk, rfl⟩ := nI_of l0
      rw [nI_clamp hk] at h
      have hlt : k < S.1.2.2.2.2.2.length := (nI_ltI hk (by omega)).mp l2
      refine u_X7_filterAt (by omega) ?_
      exact c_faS (L := leftF S.1 (getV S.1 v)) (W := fewF S.1 v) (by omega) hfl hlt hL hW hC2.1.1.2.2.2 g2 g3 _ (h ν2 hC2 (s1.hi.trans s2.hi)) (k + 1) 0 0 0 (by omega) (by omega) rfl
    · rw [if_pos n] at h
      rw [g3 0 (by omega)]
      exact h ν2 hC2 (s1.hi.trans s2.hi)
  · rw [if_pos (Or.inr l2)] at h; exact h μ hC (hiE.refl _)
