/-! ===== sets of rows as bits; the least order ===== -/
/-! sets as bits -/
theorem cnt_c (p : Nat → Bool) (n : Nat) : cnt p (n + 1) = (if p 0 = true then 1 else 0) + cnt (fun i => p (i + 1)) n := by
  induction n with
  | zero =>
    rw [cnt_s]
    unfold cnt
    simp
  | succ n ih => rw [cnt_s, ih, cnt_s]; omega
theorem cnt_eq {p q : Nat → Bool} {n : Nat} (h : ∀ i, i < n → p i = q i) : cnt p n = cnt q n := by
  induction n with
  | zero => rfl
  | succ n ih => rw [cnt_s, cnt_s, ih (fun i hi => h i (by omega)), h n (by omega)]
theorem cnt_add {p q : Nat → Bool} {a n : Nat} (ha : a < n) (hp : p a = false) (hq : q a = true) (h : ∀ i, i ≠ a → q i = p i) : cnt q n = cnt p n + 1 := by
  induction n with
  | zero => omega
  | succ n ih =>
    rw [cnt_s, cnt_s]
    by_cases e : a = n
    · subst e
      rw [hp, hq, cnt_eq (p := q) (q := p) (fun i hi => h i (by omega))]
      simp
    · rw [ih (by omega), h n (Ne.symm e)]
      omega
theorem cnt_0f {p : Nat → Bool} {n : Nat} (h : ∀ i, i < n → p i = false) : cnt p n = 0 := by
  induction n with
  | zero => rfl
  | succ n ih => rw [cnt_s, ih (fun i hi => h i (by omega)), h n (by omega)]; rfl
theorem cnt_all {p : Nat → Bool} {n : Nat} (h : cnt p n = n) : ∀ i, i < n → p i = true := by
  induction n with
  | zero => intro i hi; omega
  | succ n ih =>
    intro i hi
    rw [cnt_s] at h
    have hle : cnt p n ≤ n := by
      have := List.length_filter_le p (List.range n)
      rw [List.length_range] at this
      exact this
    have hn : p n = true := by
      refine Classical.byContradiction fun w => ?_
      rw [if_neg w] at h
      omega
    rw [if_pos hn] at h
    by_cases e : i = n
    · rw [e]; exact hn
    · exact ih (by omega) i (by omega)
theorem cnt_not {p : Nat → Bool} {n : Nat} (h : cnt p n < n) : ∃ i, i < n ∧ p i = false := by
  refine Classical.byContradiction fun w => ?_
  have all : ∀ i, i < n → p i = true := fun i hi => by
    cases hh : p i with
    | true => rfl
    | false => exact absurd ⟨i, hi, hh⟩ w
  have : cnt p n = n := by
    clear w h
    induction n with
    | zero => rfl
    | succ n ih => rw [cnt_s, ih (fun i hi => all i (by omega)), all n (by omega)]; rfl
  omega
def inL (l : List Nat) (r : Nat) : Bool := l.contains r
theorem cnt_filter {n : Nat} (q : Nat → Bool) : ∀ {l : List Nat}, l.Nodup → (∀ r ∈ l, r < n) → cnt (fun r => inL l r && q r) n = (l.filter q).length
  | [], _, _ => cnt_0f (fun i _ => by simp [inL])
  | a :: t, hn, hr => by
    obtain ⟨h1, h2⟩ := List.nodup_cons.mp hn
    have ih := cnt_filter q h2 (fun r hr2 => hr r (List.mem_cons_of_mem _ hr2))
    have ha := hr a List.mem_cons_self
    cases hq : q a with
    | true =>
      rw [List.filter_cons_of_pos hq, List.length_cons, ← ih]
      refine cnt_add ha ?_ ?_ (fun i hi => ?_)
      · simp [inL, h1]
      · simp [inL, hq]
      · simp [inL, hi]
    | false =>
      rw [List.filter_cons_of_neg (by rw [hq]; decide), ← ih]
      refine cnt_eq (fun i _ => ?_)
      by_cases e : i = a
      · subst e; simp [hq]
      · simp [inL, e]
def pcn : Nat → Nat → Nat
  | 0, _ => 0
  | n + 1, x => x % 2 + pcn n (x / 2)
theorem pcn_cnt : ∀ n x, pcn n x = cnt (fun i => x.testBit i) n
  | 0, _ => rfl
  | n + 1, x => by
    rw [cnt_c]
    show x % 2 + pcn n (x / 2) = _
    rw [pcn_cnt n (x / 2)]
    have e : (fun i => x.testBit (i + 1)) = fun i => (x / 2).testBit i := by funext i; rw [Nat.testBit_succ]
    rw [e, Nat.testBit_zero]
    have : x % 2 = 0 ∨ x % 2 = 1 := by omega
    rcases this with h | h <;> rw [h] <;> simp
theorem pcn_low : ∀ n x, 0 < x → x < 2 ^ n → pcn n x = pcn n (x &&& (x - 1)) + 1
  | 0, x, h1, h2 => by omega
  | n + 1, x, h1, h2 => by
    show x % 2 + pcn n (x / 2) = ((x &&& (x - 1)) % 2 + pcn n ((x &&& (x - 1)) / 2)) + 1
    rw [Nat.and_div_two]
    have hm : (x &&& (x - 1)) % 2 = 0 := by
      have := Nat.and_mod_two_pow (a := x) (b := x - 1) (n := 1)
      rw [Nat.pow_one] at this
      rw [this]
      have : x % 2 = 0 ∨ x % 2 = 1 := by omega
      rcases this with h | h
      · rw [h]; exact Nat.zero_and _
      · rw [show (x - 1) % 2 = 0 by omega]; exact Nat.and_zero _
    rw [hm]
    have : x % 2 = 0 ∨ x % 2 = 1 := by omega
    rcases this with h | h
    · have e : (x - 1) / 2 = x / 2 - 1 := by omega
      rw [e, pcn_low n (x / 2) (by omega) (by rw [Nat.pow_succ] at h2; omega)]
      omega
    · have e : (x - 1) / 2 = x / 2 := by omega
      rw [e, Nat.and_self]
      omega
theorem low_lt {x : Nat} (h : 0 < x) : x &&& (x - 1) < x := Nat.lt_of_le_of_lt Nat.and_le_right (by omega)
theorem i64_or (x y : Nat) : Int64.ofNat x ||| Int64.ofNat y = Int64.ofNat (x ||| y) := by
  apply Int64.toBitVec_inj.mp
  rw [Int64.toBitVec_or, Int64.toBitVec_ofNat', Int64.toBitVec_ofNat', Int64.toBitVec_ofNat', BitVec.ofNat_or]
theorem i64_and (x y : Nat) : Int64.ofNat x &&& Int64.ofNat y = Int64.ofNat (x &&& y) := by
  apply Int64.toBitVec_inj.mp
  rw [Int64.toBitVec_and, Int64.toBitVec_ofNat', Int64.toBitVec_ofNat', Int64.toBitVec_ofNat', BitVec.ofNat_and]
theorem i64_pre {x : Nat} (h : 0 < x) : Int64.ofNat x - 1 = Int64.ofNat (x - 1) := by
  obtain ⟨k, rfl⟩ : ∃ k, x = k + 1 := ⟨x - 1, by omega⟩
  rw [Int64.ofNat_add, Nat.add_sub_cancel]
  show Int64.ofNat k + 1 - 1 = _
  rw [Int64.add_sub_cancel]
theorem i64_0 {x : Nat} (h : x < 2 ^ 40) : Int64.ofNat x = 0 ↔ x = 0 := by
  constructor
  · intro e
    have := congrArg Int64.toInt e
    rw [Int64.toInt_ofNat_of_lt (by omega)] at this
    have z : (0 : Int64).toInt = 0 := rfl
    omega
  · rintro rfl; rfl
theorem sh_row : ∀ r, r < 40 → (1 : Int64) <<< ((nI r).toInt64 &&& 63) = Int64.ofNat (2 ^ r) := by decide +kernel
/-- a set of rows, in a long -/
def bsI (v : Int64) (p : Nat → Bool) : Prop := ∃ x, x < 2 ^ 40 ∧ v = Int64.ofNat x ∧ ∀ r, r < 40 → x.testBit r = p r
theorem bsI.zero : bsI 0 (fun _ => false) := ⟨0, by decide, rfl, fun r _ => Nat.zero_testBit r⟩
theorem bsI.congr {v : Int64} {p q : Nat → Bool} (h : bsI v p) (e : ∀ r, r < 40 → p r = q r) : bsI v q := by
  obtain ⟨x, h1, h2, h3⟩ := h
  exact ⟨x, h1, h2, fun r hr => (h3 r hr).trans (e r hr)⟩
theorem bsI.row {v : Int64} {p : Nat → Bool} {a : Nat} (h : bsI v p) (ha : a < 40) : bsI (v ||| ((1 : Int64) <<< ((nI a).toInt64 &&& 63))) (fun r => p r || decide (r = a)) := by
  obtain ⟨x, h1, h2, h3⟩ := h
  rw [sh_row a ha, h2, i64_or]
  refine ⟨_, or_lt h1 ha, rfl, fun r hr => ?_⟩
  rw [Nat.testBit_or, h3 r hr, Nat.testBit_two_pow]
  congr 1
  exact decide_eq_decide.mpr ⟨fun e => e.symm, fun e => e.symm⟩
theorem bsI.and {v w : Int64} {p q : Nat → Bool} (h : bsI v p) (h2 : bsI w q) : bsI (v &&& w) (fun r => p r && q r) := by
  obtain ⟨x, x1, x2, x3⟩ := h
  obtain ⟨y, y1, y2, y3⟩ := h2
  rw [x2, y2, i64_and]
  refine ⟨_, Nat.lt_of_le_of_lt Nat.and_le_left x1, rfl, fun r hr => ?_⟩
  rw [Nat.testBit_and, x3 r hr, y3 r hr]
/-! the least order -/
def bestA (W : Nat → Nat) (s : Nat) : Nat → Option (Nat × Nat)
  | 0 => none
  | f + 1 => if s ||| 2 ^ f = s then bestA W s f else match bestA W s f with
    | none => some (W (s ||| 2 ^ f), f)
    | some x => if x.1 ≤ W (s ||| 2 ^ f) then some x else some (W (s ||| 2 ^ f), f)
theorem bestA_F (W : Nat → Nat) (s : Nat) : ∀ f, (bestA W s f).map (fun x => x.1) = bestF W s f
  | 0 => rfl
  | f + 1 => by
    have ih := bestA_F W s f
    unfold bestA bestF
    by_cases e : s ||| 2 ^ f = s
    · rw [if_pos e, if_pos e]; exact ih
    · rw [if_neg e, if_neg e, ← ih]
      cases bestA W s f with
      | none => rfl
      | some x =>
        dsimp only [Option.map_some]
        by_cases q : x.1 ≤ W (s ||| 2 ^ f)
        · rw [if_pos q, if_pos q]; rfl
        · rw [if_neg q, if_neg q]; rfl
theorem bestA_ok {W : Nat → Nat} {s : Nat} : ∀ {f b g}, bestA W s f = some (b, g) → g < f ∧ s ||| 2 ^ g ≠ s ∧ W (s ||| 2 ^ g) = b ∧ ∀ h, h < f → s ||| 2 ^ h ≠ s → b ≤ W (s ||| 2 ^ h) ∧ (h < g → b < W (s ||| 2 ^ h))
  | 0, _, _, h => by cases h
  | f + 1, b, g, h => by
    unfold bestA at h
    by_cases e : s ||| 2 ^ f = s
    · rw [if_pos e] at h
      obtain ⟨h1, h2, h3, h4⟩ := bestA_ok h
      refine ⟨by omega, h2, h3, fun i hi ni => ?_⟩
      by_cases q : i = f
      · rw [q] at ni; exact absurd e ni
      · exact h4 i (by omega) ni
    · rw [if_neg e] at h
      cases hb : bestA W s f with
      | none =>
        rw [hb] at h
        cases h
        have none_ : ∀ f, bestA W s f = none → ∀ i, i < f → s ||| 2 ^ i = s := by
          intro f
          induction f with
          | zero => intro _ i hi; omega
          | succ f ih =>
            intro hn i hi
            unfold bestA at hn
            by_cases e : s ||| 2 ^ f = s
            · rw [if_pos e] at hn
              by_cases q : i = f
              · rw [q]; exact e
              · exact ih hn i (by omega)
            · rw [if_neg e] at hn
              split at hn
              · cases hn
              · split at hn <;> cases hn
        refine ⟨by omega, e, rfl, fun i hi ni => ?_⟩
        by_cases q : i = f
        · rw [q]; exact ⟨Nat.le_refl _, fun w => by omega⟩
        · exact absurd (none_ f hb i (by omega)) ni
      | some x =>
        rw [hb] at h
        obtain ⟨xb, xg⟩ := x
        obtain ⟨h1, h2, h3, h4⟩ := bestA_ok hb
        dsimp only at h
        by_cases q : xb ≤ W (s ||| 2 ^ f)
        · rw [if_pos q] at h
          cases h
          refine ⟨by omega, h2, h3, fun i hi ni => ?_⟩
          by_cases z : i = f
          · rw [z]; exact ⟨q, fun w => by omega⟩
          · exact h4 i (by omega) ni
        · rw [if_neg q] at h
          cases h
          refine ⟨by omega, e, rfl, fun i hi ni => ?_⟩
          by_cases z : i = f
          · rw [z]; exact ⟨Nat.le_refl _, fun w => by omega⟩
          · have := (h4 i (by omega) ni).1
            exact ⟨by omega, fun _ => by omega⟩
theorem fndF_at {p : Nat → Bool} : ∀ {n i g : Nat}, i ≤ g → g < i + n → p g = true → (∀ h, i ≤ h → h < g → p h = false) → fndF p n i = g
  | 0, i, g, h1, h2, _, _ => by omega
  | n + 1, i, g, h1, h2, hp, hn => by
    unfold fndF
    by_cases e : i = g
    · rw [e, if_pos hp]
    · rw [if_neg (by rw [hn i (Nat.le_refl _) (by omega)]; decide)]
      exact fndF_at (by omega) (by omega) hp (fun h a b => hn h (by omega) b)
def fullW (F : Nat) (L : Nat → Nat) : Nat → Nat := fwF F L (2 ^ F - 1)
theorem fwF_at {F : Nat} {L : Nat → Nat} {s t : Nat} (h : s + 2 + t = 2 ^ F) : ∀ u, t < u → fwF F L u s = L s + (bestF (fwF F L t) s F).getD 0
  | 0, hu => absurd hu (Nat.not_lt_zero _)
  | u + 1, hu => by
    by_cases e : u = t
    · rw [e]; exact if_pos h
    · rw [fwF_old (by omega)]
      exact fwF_at h u (by omega)
theorem fwF_full {F : Nat} {L : Nat → Nat} {s : Nat} (h : 2 ^ F ≤ s + 1) : ∀ u, fwF F L u s = 0
  | 0 => rfl
  | u + 1 => by rw [fwF_old (by omega)]; exact fwF_full h u
theorem bestF_congr {W V : Nat → Nat} {s : Nat} (h : ∀ f, s ||| 2 ^ f ≠ s → W (s ||| 2 ^ f) = V (s ||| 2 ^ f)) : ∀ f, bestF W s f = bestF V s f
  | 0 => rfl
  | f + 1 => by
    unfold bestF
    rw [bestF_congr h f]
    by_cases e : s ||| 2 ^ f = s
    · rw [if_pos e, if_pos e]
    · rw [if_neg e, if_neg e, h f e]
theorem fullW_eq {F : Nat} {L : Nat → Nat} {s : Nat} (h : s + 1 < 2 ^ F) : fullW F L s = L s + (bestF (fullW F L) s F).getD 0 := by
  have ht : s + 2 + (2 ^ F - 2 - s) = 2 ^ F := by omega
  have e := fwF_at (L := L) ht (2 ^ F - 1) (by omega)
  unfold fullW
  rw [e]
  congr 2
  refine bestF_congr (fun f nf => ?_) F
  have gt : s < s ||| 2 ^ f := Nat.lt_of_le_of_ne Nat.left_le_or (Ne.symm nf)
  by_cases full : 2 ^ F ≤ (s ||| 2 ^ f) + 1
  · rw [fwF_full full, fwF_full full]
  · have ht2 : (s ||| 2 ^ f) + 2 + (2 ^ F - 2 - (s ||| 2 ^ f)) = 2 ^ F := by omega
    rw [fwF_at ht2 _ (show 2 ^ F - 2 - (s ||| 2 ^ f) < 2 ^ F - 2 - s by omega), fwF_at ht2 _ (by omega)]
def gdy (F : Nat) (L W : Nat → Nat) : Nat → Nat → List Nat
  | 0, _ => []
  | n + 1, s => fndF (isNx L W s) F 0 :: gdy F L W n (s ||| 2 ^ fndF (isNx L W s) F 0)
theorem gdy_len (F : Nat) (L W : Nat → Nat) : ∀ n s, (gdy F L W n s).length = n
  | 0, _ => rfl
  | n + 1, s => by
    unfold gdy
    rw [List.length_cons, gdy_len F L W n]
def updB (st : Option (Nat × List Nat)) (x : Nat × List Nat) : Option (Nat × List Nat) := match st with
  | none => some x
  | some y => if x.1 < y.1 then some x else some y
theorem updB_2 (st : Option (Nat × List Nat)) (x y : Nat × List Nat) : updB (updB st x) y = updB st (if y.1 < x.1 then y else x) := by
  unfold updB
  cases st with
  | none =>
    dsimp only
    by_cases h : y.1 < x.1
    · rw [if_pos h, if_pos h]
    · rw [if_neg h, if_neg h]
  | some z =>
    dsimp only
    by_cases h : x.1 < z.1
    · rw [if_pos h]
      dsimp only
      by_cases h2 : y.1 < x.1
      · rw [if_pos h2, if_pos h2, if_pos (by omega)]
      · rw [if_neg h2, if_neg h2, if_pos h]
    · rw [if_neg h]
      dsimp only
      by_cases h2 : y.1 < x.1
      · rw [if_pos h2]
      · rw [if_neg h2, if_neg h, if_neg (by omega)]
/-- the search's state behind the first f branches -/
def stB (F : Nat) (L W : Nat → Nat) (n u c : Nat) (tr : List Nat) (st : Option (Nat × List Nat)) : Nat → Option (Nat × List Nat)
  | 0 => st
  | f + 1 => if u ||| 2 ^ f = u then stB F L W n u c tr st f else updB (stB F L W n u c tr st f) (c + L u + W (u ||| 2 ^ f), (tr ++ [f]) ++ gdy F L W n (u ||| 2 ^ f))
theorem stB_best (F : Nat) (L W : Nat → Nat) (n u c : Nat) (tr : List Nat) (st : Option (Nat × List Nat)) : ∀ f, stB F L W n u c tr st f = match bestA W u f with
    | none => st
    | some x => updB st (c + L u + x.1, (tr ++ [x.2]) ++ gdy F L W n (u ||| 2 ^ x.2))
  | 0 => rfl
  | f + 1 => by
    have ih := stB_best F L W n u c tr st f
    unfold stB bestA
    by_cases e : u ||| 2 ^ f = u
    · rw [if_pos e, if_pos e]; exact ih
    · rw [if_neg e, if_neg e, ih]
      cases bestA W u f with
      | none => rfl
      | some x =>
        dsimp only
        rw [updB_2]
        by_cases q : x.1 ≤ W (u ||| 2 ^ f)
        · rw [if_pos q, if_neg (by omega)]
        · rw [if_neg q, if_pos (by omega)]
theorem stB_end {F : Nat} {L W : Nat → Nat} {n u c : Nat} {tr : List Nat} {st : Option (Nat × List Nat)} (hW : W u = L u + (bestF W u F).getD 0) (hex : ∃ f, f < F ∧ u ||| 2 ^ f ≠ u) : stB F L W n u c tr st F = updB st (c + W u, tr ++ gdy F L W (n + 1) u) ∧ fndF (isNx L W u) F 0 < F ∧ u ||| 2 ^ fndF (isNx L W u) F 0 ≠ u := by
  have hs : ∃ x, bestA W u F = some x := by
    cases h : bestA W u F with
    | some x => exact ⟨x, rfl⟩
    | none =>
      exfalso
      have := bestA_F W u F
      rw [h] at this
      have hn : ∀ f, bestF W u f = none → ∀ i, i < f → u ||| 2 ^ i = u := by
        intro f
        induction f with
        | zero => intro _ i hi; omega
        | succ f ih =>
          intro hn i hi
          unfold bestF at hn
          by_cases e : u ||| 2 ^ f = u
          · rw [if_pos e] at hn
            by_cases q : i = f
            · rw [q]; exact e
            · exact ih hn i (by omega)
          · rw [if_neg e] at hn
            split at hn <;> cases hn
      obtain ⟨f, h1, h2⟩ := hex
      exact h2 (hn F this.symm f h1)
  obtain ⟨⟨b, g⟩, hb⟩ := hs
  obtain ⟨g1, g2, g3, g4⟩ := bestA_ok hb
  have ebF : bestF W u F = some b := by rw [← bestA_F, hb]; rfl
  rw [ebF] at hW
  have hW : W u = L u + b := hW
  have ef : fndF (isNx L W u) F 0 = g := by
    refine fndF_at (Nat.zero_le _) (by omega) ?_ (fun h _ hlt => ?_)
    · unfold isNx
      rw [g3, hW]
      simp [g2]
    · unfold isNx
      by_cases e : u ||| 2 ^ h = u
      · simp [e]
      · have := (g4 h (by omega) e).2 hlt
        have ne : ¬ W u = L u + W (u ||| 2 ^ h) := by omega
        simp [ne]
  refine ⟨?_, by rw [ef]; exact g1, by rw [ef]; exact g2⟩
  rw [stB_best, hb]
  dsimp only
  have e1 : c + L u + b = c + W u := by omega
  have e2 : (tr ++ [g]) ++ gdy F L W n (u ||| 2 ^ g) = tr ++ gdy F L W (n + 1) u := by
    show _ = tr ++ (fndF (isNx L W u) F 0 :: gdy F L W n (u ||| 2 ^ fndF (isNx L W u) F 0))
    rw [ef, List.append_assoc]
    rfl
  rw [e1, e2]
/-- a set of k filters -/
def kU (F u k : Nat) : Prop := u < 2 ^ F ∧ cnt (fun i => u.testBit i) F = k
theorem bit_or {u f : Nat} : u ||| 2 ^ f = u ↔ u.testBit f = true := by
  constructor
  · intro e
    rw [← e, Nat.testBit_or, Nat.testBit_two_pow]
    simp
  · intro h
    apply Nat.eq_of_testBit_eq
    intro i
    rw [Nat.testBit_or, Nat.testBit_two_pow]
    by_cases e : f = i
    · subst e; simp [h]
    · simp [e]
theorem kU.ex {F u k : Nat} (h : kU F u k) (hk : k < F) : ∃ f, f < F ∧ u ||| 2 ^ f ≠ u := by
  obtain ⟨f, hf, hb⟩ := cnt_not (p := fun i => u.testBit i) (n := F) (by rw [h.2]; exact hk)
  exact ⟨f, hf, fun e => by rw [bit_or.mp e] at hb; cases hb⟩
theorem kU.lt {F u k : Nat} (h : kU F u k) (hk : k < F) : u + 1 < 2 ^ F := by
  obtain ⟨f, hf, hn⟩ := h.ex hk
  refine Nat.lt_of_le_of_ne h.1 (fun e => hn (bit_or.mpr ?_))
  have : u = 2 ^ F - 1 := by omega
  rw [this, Nat.testBit_two_pow_sub_one]
  exact decide_eq_true hf
theorem kU.full {F u : Nat} (h : kU F u F) : u + 1 = 2 ^ F := by
  have all := cnt_all h.2
  have e : u = 2 ^ F - 1 := by
    apply Nat.eq_of_testBit_eq
    intro i
    rw [Nat.testBit_two_pow_sub_one]
    by_cases hi : i < F
    · rw [decide_eq_true hi]; exact all i hi
    · rw [decide_eq_false hi]
      exact Nat.testBit_lt_two_pow (Nat.lt_of_lt_of_le h.1 (Nat.pow_le_pow_right (by decide) (by omega)))
  have := Nat.two_pow_pos F
  omega
theorem kU.next {F u k f : Nat} (h : kU F u k) (hf : f < F) (hn : u ||| 2 ^ f ≠ u) : kU F (u ||| 2 ^ f) (k + 1) := by
  refine ⟨or_lt h.1 hf, ?_⟩
  rw [← h.2]
  refine cnt_add hf ?_ ?_ (fun i hi => ?_)
  · cases hb : u.testBit f with
    | false => rfl
    | true => exact absurd (bit_or.mpr hb) hn
  · show (u ||| 2 ^ f).testBit f = true
    rw [Nat.testBit_or, Nat.testBit_two_pow]; simp
  · show (u ||| 2 ^ f).testBit i = u.testBit i
    rw [Nat.testBit_or, Nat.testBit_two_pow]
    simp [Ne.symm hi]
theorem kU.zero (F : Nat) : kU F 0 0 := ⟨Nat.two_pow_pos F, cnt_0f (fun i _ => Nat.zero_testBit i)⟩
theorem gdy_at {F : Nat} {L W : Nat → Nat} (hW : ∀ s, s + 1 < 2 ^ F → W s = L s + (bestF W s F).getD 0) : ∀ (n k s c u : Nat), k < n → kU F s u → u + n = F → (gdy F L W n s)[k]? = some (chsF F L W (k + 1) s c)
  | 0, k, s, c, u, h, _, _ => by omega
  | n + 1, 0, s, c, u, _, _, _ => rfl
  | n + 1, k + 1, s, c, u, hk, hu, hn => by
    obtain ⟨-, e1, e2⟩ := stB_end (n := n) (c := 0) (tr := []) (st := none) (hW s (hu.lt (by omega))) (hu.ex (by omega))
    have := gdy_at hW n k (s ||| 2 ^ fndF (isNx L W s) F 0) (fndF (isNx L W s) F 0) (u + 1) (by omega) (hu.next e1 e2) (by omega)
    have ec : chsF F L W (k + 1 + 1) s c = chsF F L W (k + 1) (if fndF (isNx L W s) F 0 < F then s ||| 2 ^ fndF (isNx L W s) F 0 else s) (fndF (isNx L W s) F 0) := rfl
    rw [ec, if_pos e1]
    exact this
theorem gdy_lt {F : Nat} {L W : Nat → Nat} (hW : ∀ s, s + 1 < 2 ^ F → W s = L s + (bestF W s F).getD 0) : ∀ (n s u : Nat), kU F s u → u + n = F → ∀ x ∈ gdy F L W n s, x < F
  | 0, s, u, _, _, x, h => by cases h
  | n + 1, s, u, hu, hn, x, h => by
    obtain ⟨-, e1, e2⟩ := stB_end (n := n) (c := 0) (tr := []) (st := none) (hW s (hu.lt (by omega))) (hu.ex (by omega))
    rcases List.mem_cons.mp h with w | w
    · rw [w]; exact e1
    · exact gdy_lt hW n _ (u + 1) (hu.next e1 e2) (by omega) x w
