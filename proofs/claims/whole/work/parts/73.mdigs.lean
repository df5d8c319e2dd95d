/-! ===== digits by powers of ten; products with 4 ===== -/
theorem tdiv_nn (n m : Nat) : ((n : Int)).tdiv (m : Int) = ((n / m : Nat) : Int) := rfl
theorem tdiv_ng (n m : Nat) : (-(n : Int)).tdiv (m : Int) = -((n / m : Nat) : Int) := by rw [Int.neg_tdiv]; rfl
theorem i64_abs (v : Int64) : ∃ n : Nat, n ≤ 2 ^ 63 ∧ (v.toInt = (n : Int) ∧ n < 2 ^ 63 ∨ v.toInt = -(n : Int)) := by
  have h1 := Int64.le_toInt v
  have h2 := Int64.toInt_lt v
  by_cases h : 0 ≤ v.toInt
  · exact ⟨v.toInt.toNat, by omega, Or.inl ⟨by omega, by omega⟩⟩
  · exact ⟨(-v.toInt).toNat, by omega, Or.inr (by omega)⟩
theorem i64_div {v w : Int64} {m : Nat} (hw : w.toInt = (m : Int)) : (v / w).toInt = v.toInt.tdiv (m : Int) := by
  rw [Int64.toInt_div, hw]
  obtain ⟨n, hn, h | h⟩ := i64_abs v
  · rw [h.1, tdiv_nn]
    have := Nat.div_le_self n m
    generalize n / m = z at this ⊢
    exact Int.bmod_eq_of_le (by omega) (by omega)
  · rw [h, tdiv_ng]
    have := Nat.div_le_self n m
    generalize n / m = z at this ⊢
    exact Int.bmod_eq_of_le (by omega) (by omega)
theorem tdiv_td (a : Int) (b c : Nat) : (a.tdiv (b : Int)).tdiv (c : Int) = a.tdiv ((b * c : Nat) : Int) := by
  obtain ⟨n, h | h⟩ := Int.eq_nat_or_neg a
  · rw [h, tdiv_nn, tdiv_nn, tdiv_nn, Nat.div_div_eq_div_mul]
  · rw [h, tdiv_ng, tdiv_ng, tdiv_ng, Nat.div_div_eq_div_mul]
def pw : Nat → Int64
  | 0 => 1
  | k + 1 => pw k * 10
theorem pw_ok : ∀ k, k < 19 → (pw k).toInt = ((10 ^ k : Nat) : Int) ∧ ¬ pw k = 0 ∧ ¬ lg_cmp (pw k) 0 ≤ 0 := by decide +kernel
theorem pw_d : ∀ k, k < 18 → pw (k + 1) / 10 = pw k := by decide +kernel
def dvk : Nat → Int64 → Int64
  | 0, v => v
  | k + 1, v => dvk k (v / 10)
theorem dvk_s : ∀ k v, dvk (k + 1) v = dvk k v / 10
  | 0, _ => rfl
  | k + 1, v => dvk_s k (v / 10)
theorem dvk_i : ∀ k v, (dvk k v).toInt = v.toInt.tdiv ((10 ^ k : Nat) : Int)
  | 0, v => by
    show v.toInt = v.toInt.tdiv 1
    rw [Int.tdiv_one]
  | k + 1, v => by
    rw [dvk_s, i64_div (m := 10) rfl, dvk_i k v, tdiv_td, Nat.pow_succ]
theorem dvk_p {k : Nat} (hk : k < 19) (v : Int64) : v / pw k = dvk k v := by
  apply Int64.toInt_inj.mp
  rw [dvk_i, i64_div (m := 10 ^ k) (pw_ok k hk).1]
theorem dvk_19 (v : Int64) : dvk 19 v = 0 := by
  apply Int64.toInt_inj.mp
  rw [dvk_i]
  obtain ⟨n, hn, h | h⟩ := i64_abs v
  · rw [h.1, tdiv_nn, Nat.div_eq_of_lt (by omega)]; rfl
  · rw [h, tdiv_ng, Nat.div_eq_of_lt (by omega)]; rfl
def ds (v : Int64) (k : Nat) : List Int32 := (List.range (k + 1)).map fun i => dig (dvk i v)
theorem ds_s (v : Int64) (k : Nat) : ds v (k + 1) = ds v k ++ [dig (dvk (k + 1) v)] := by
  unfold ds
  rw [List.range_succ, List.map_append]
  rfl
theorem ds_c (v : Int64) (k : Nat) : ds v (k + 1) = dig v :: ds (v / 10) k := by
  unfold ds
  rw [List.range_succ_eq_map, List.map_cons, List.map_map]
  rfl
theorem digs_ds : ∀ (k n : Nat) (b : Bool) (v : Int64), k < n → (b = true ∨ v ≠ 0) → (∀ j, j < k → dvk (j + 1) v ≠ 0) → dvk (k + 1) v = 0 → digs n b v = ds v k
  | k, 0, _, _, h, _, _, _ => absurd h (Nat.not_lt_zero _)
  | 0, n + 1, b, v, _, hb, _, h0 => by
    have e : digs (n + 1) b v = dig v :: digs n false (v / 10) := by
      show (if _ then _ else _) = _
      rw [if_neg (fun w => by
        rcases hb with q | q
        · rw [q] at w; cases w.1
        · exact q ((lg0 v).mp w.2))]
    have h0 : v / 10 = 0 := h0
    rw [e, h0]
    have : digs n false 0 = [] := by
      cases n with
      | zero => rfl
      | succ n => exact if_pos ⟨rfl, (lg0 0).mpr rfl⟩
    rw [this]
    rfl
  | k + 1, n + 1, b, v, hk, hb, hj, h0 => by
    have e : digs (n + 1) b v = dig v :: digs n false (v / 10) := by
      show (if _ then _ else _) = _
      rw [if_neg (fun w => by
        rcases hb with q | q
        · rw [q] at w; cases w.1
        · exact q ((lg0 v).mp w.2))]
    rw [e, ds_c, digs_ds k n false (v / 10) (by omega) (Or.inr (hj 0 (by omega))) (fun j hj2 => hj (j + 1) (by omega)) h0]
theorem fig_in (q : Int64) : -9 ≤ (q - q / 10 * 10).toInt ∧ (q - q / 10 * 10).toInt ≤ 9 := by
  have hd : (q / 10).toInt = q.toInt.tdiv ((10 : Nat) : Int) := i64_div rfl
  have t10 : (10 : Int64).toInt = 10 := rfl
  obtain ⟨n, hn, h | h⟩ := i64_abs q
  · rw [h.1, tdiv_nn] at hd
    have hm : (q / 10 * 10).toInt = ((n / 10 : Nat) : Int) * 10 := by
      rw [Int64.toInt_mul, hd, t10]
      exact Int.bmod_eq_of_le (by omega) (by omega)
    have hs : (q - q / 10 * 10).toInt = (n : Int) - ((n / 10 : Nat) : Int) * 10 := by
      rw [Int64.toInt_sub, hm, h.1]
      exact Int.bmod_eq_of_le (by omega) (by omega)
    rw [hs]
    omega
  · rw [h, tdiv_ng] at hd
    have hm : (q / 10 * 10).toInt = -((n / 10 : Nat) : Int) * 10 := by
      rw [Int64.toInt_mul, hd, t10]
      exact Int.bmod_eq_of_le (by omega) (by omega)
    have hs : (q - q / 10 * 10).toInt = -(n : Int) - -((n / 10 : Nat) : Int) * 10 := by
      rw [Int64.toInt_sub, hm, h]
      exact Int.bmod_eq_of_le (by omega) (by omega)
    rw [hs]
    omega
theorem fig_d (f : Int64) (h : -9 ≤ f.toInt ∧ f.toInt ≤ 9) : ((0 : Int32) ≤ lg_cmp f 0 → (if (0 : Int32) ≤ f.toInt32 then 48 + f.toInt32 else 48 + (-(f.toInt32))) = ((48 : Int64) + f).toInt32) ∧ (¬ (0 : Int32) ≤ lg_cmp f 0 → (if (0 : Int32) ≤ f.toInt32 then 48 + f.toInt32 else 48 + (-(f.toInt32))) = ((48 : Int64) + (-f)).toInt32) := by
  have i : ∀ j : Int64, f.toInt = j.toInt → f = j := fun j q => Int64.toInt_inj.mp q
  have : f = -9 ∨ f = -8 ∨ f = -7 ∨ f = -6 ∨ f = -5 ∨ f = -4 ∨ f = -3 ∨ f = -2 ∨ f = -1 ∨ f = 0 ∨ f = 1 ∨ f = 2 ∨ f = 3 ∨ f = 4 ∨ f = 5 ∨ f = 6 ∨ f = 7 ∨ f = 8 ∨ f = 9 := by
    have : f.toInt = -9 ∨ f.toInt = -8 ∨ f.toInt = -7 ∨ f.toInt = -6 ∨ f.toInt = -5 ∨ f.toInt = -4 ∨ f.toInt = -3 ∨ f.toInt = -2 ∨ f.toInt = -1 ∨ f.toInt = 0 ∨ f.toInt = 1 ∨ f.toInt = 2 ∨ f.toInt = 3 ∨ f.toInt = 4 ∨ f.toInt = 5 ∨ f.toInt = 6 ∨ f.toInt = 7 ∨ f.toInt = 8 ∨ f.toInt = 9 := by omega
    rcases this with w | w | w | w | w | w | w | w | w | w | w | w | w | w | w | w | w | w | w
    · simp [i (-9) w]
    · simp [i (-8) w]
    · simp [i (-7) w]
    · simp [i (-6) w]
    · simp [i (-5) w]
    · simp [i (-4) w]
    · simp [i (-3) w]
    · simp [i (-2) w]
    · simp [i (-1) w]
    · simp [i 0 w]
    · simp [i 1 w]
    · simp [i 2 w]
    · simp [i 3 w]
    · simp [i 4 w]
    · simp [i 5 w]
    · simp [i 6 w]
    · simp [i 7 w]
    · simp [i 8 w]
    · simp [i 9 w]
  rcases this with rfl | rfl | rfl | rfl | rfl | rfl | rfl | rfl | rfl | rfl | rfl | rfl | rfl | rfl | rfl | rfl | rfl | rfl | rfl <;> decide +kernel
theorem wd_27 : ∀ n : Nat, 1 ≤ n → n ≤ 702 → ((27 : Int32) ≤ (Int64.ofNat n).toInt32 ↔ ¬ lg_cmp (Int64.ofNat n) 26 ≤ 0) ∧ (97 : Int32) + ((Int64.ofNat n).toInt32 - 1) = (((97 : Int64) + Int64.ofNat n) - 1).toInt32 ∧ ((27 : Int32) ≤ (Int64.ofNat n).toInt32 → (97 : Int32) + (((Int64.ofNat n).toInt32 - 27) / 26) = ((97 : Int64) + (Int64.ofNat n - 27) / 26).toInt32 ∧ (97 : Int32) + (((Int64.ofNat n).toInt32 - 27) - ((Int64.ofNat n).toInt32 - 27) / 26 * 26) = ((97 : Int64) + ((Int64.ofNat n - 27) - (Int64.ofNat n - 27) / 26 * 26)).toInt32) := by
  have : ∀ n, n < 703 → 1 ≤ n → ((27 : Int32) ≤ (Int64.ofNat n).toInt32 ↔ ¬ lg_cmp (Int64.ofNat n) 26 ≤ 0) ∧ (97 : Int32) + ((Int64.ofNat n).toInt32 - 1) = (((97 : Int64) + Int64.ofNat n) - 1).toInt32 ∧ ((27 : Int32) ≤ (Int64.ofNat n).toInt32 → (97 : Int32) + (((Int64.ofNat n).toInt32 - 27) / 26) = ((97 : Int64) + (Int64.ofNat n - 27) / 26).toInt32 ∧ (97 : Int32) + (((Int64.ofNat n).toInt32 - 27) - ((Int64.ofNat n).toInt32 - 27) / 26 * 26) = ((97 : Int64) + ((Int64.ofNat n - 27) - (Int64.ofNat n - 27) / 26 * 26)).toInt32) := by decide +kernel
  exact fun n h1 h2 => this n (by omega) h1
theorem wd_all {w : Int64} (h1 : 1 ≤ w) (h2 : w ≤ 702) : ((27 : Int32) ≤ w.toInt32 ↔ ¬ lg_cmp w 26 ≤ 0) ∧ (97 : Int32) + (w.toInt32 - 1) = (((97 : Int64) + w) - 1).toInt32 ∧ ((27 : Int32) ≤ w.toInt32 → (97 : Int32) + ((w.toInt32 - 27) / 26) = ((97 : Int64) + (w - 27) / 26).toInt32 ∧ (97 : Int32) + ((w.toInt32 - 27) - (w.toInt32 - 27) / 26 * 26) = ((97 : Int64) + ((w - 27) - (w - 27) / 26 * 26)).toInt32) := by
  rw [Int64.le_iff_toInt_le] at h1 h2
  have e1 : (1 : Int64).toInt = 1 := rfl
  have e7 : (702 : Int64).toInt = 702 := rfl
  obtain ⟨n, hn⟩ : ∃ n : Nat, w.toInt = (n : Int) := ⟨w.toInt.toNat, by omega⟩
  have ew : w = Int64.ofNat n := by
    apply Int64.toInt_inj.mp
    rw [hn, Int64.toInt_ofNat_of_lt (by omega)]
  rw [ew]
  exact wd_27 n (by omega) (by omega)
theorem dmul4 {a : UInt64} {s : Bool} {E T : Nat} (h1 : 1 ≤ E) (h2 : E < 2045) (hT : T < 2 ^ 52) (h : FP.Core.val64 a = .fin s (2 ^ 52 + T) ((E : Int) - 1075)) : FP.Core.val64 (FP.dmul a 4616189618054758400) = .fin s (2 ^ 52 + T) (((E + 2 : Nat) : Int) - 1075) := by
  have v4 : FP.Core.val64 4616189618054758400 = .fin false (2 ^ 52) (-50) := by decide +kernel
  rw [show FP.dmul a 4616189618054758400 = FP.Core.dmul a 4616189618054758400 from rfl, FP.Core.val64_dmul, h, v4]
  unfold FP.Core.exactProduct FP.Core.round
  dsimp only
  rw [show (s != false) = s by cases s <;> rfl]
  refine FP.Core.roundRatio_exact FP.Core.good_b64 (by decide) (fit64 (by omega) (by omega) hT) ?_
  have e1 : ((E : Int) - 1075 + -50 - (((E + 2 : Nat) : Int) - 1075)).toNat = 0 := by omega
  have e2 : ((((E + 2 : Nat) : Int) - 1075) - ((E : Int) - 1075 + -50)).toNat = 52 := by omega
  rw [e1, e2]
  simp
theorem fmul4 {a : UInt32} {s : Bool} {E T : Nat} (h1 : 1 ≤ E) (h2 : E < 253) (hT : T < 2 ^ 23) (h : FP.Core.val32 a = .fin s (2 ^ 23 + T) ((E : Int) - 150)) : FP.Core.val32 (FP.fmul a 1082130432) = .fin s (2 ^ 23 + T) (((E + 2 : Nat) : Int) - 150) := by
  have v4 : FP.Core.val32 1082130432 = .fin false (2 ^ 23) (-21) := by decide +kernel
  rw [show FP.fmul a 1082130432 = FP.Core.fmul a 1082130432 from rfl, FP.Core.val32_fmul, h, v4]
  unfold FP.Core.exactProduct FP.Core.round
  dsimp only
  rw [show (s != false) = s by cases s <;> rfl]
  refine FP.Core.roundRatio_exact FP.Core.good_b32 (by decide) (fit32 (by omega) (by omega) hT) ?_
  have e1 : ((E : Int) - 150 + -21 - (((E + 2 : Nat) : Int) - 150)).toNat = 0 := by omega
  have e2 : ((((E + 2 : Nat) : Int) - 150) - ((E : Int) - 150 + -21)).toNat = 23 := by omega
  rw [e1, e2]
  simp
theorem trunc29 (s : Bool) (c : Nat) (q : Int) : FP.Core.truncate s (c * 2 ^ 29) (q - 29) = FP.Core.truncate s c q := by
  unfold FP.Core.truncate
  congr 1
  by_cases h1 : 29 ≤ q
  · obtain ⟨k, hk⟩ : ∃ k : Nat, q = (k : Int) + 29 := ⟨(q - 29).toNat, by omega⟩
    subst hk
    rw [show ((k : Int) + 29 - 29).toNat = k by omega, show (-((k : Int) + 29 - 29)).toNat = 0 by omega, show ((k : Int) + 29).toNat = k + 29 by omega, show (-((k : Int) + 29)).toNat = 0 by omega, Nat.pow_add, Nat.mul_assoc, Nat.mul_comm (2 ^ 29)]
  · by_cases h2 : 0 ≤ q
    · obtain ⟨k, hk⟩ : ∃ k : Nat, q = (k : Int) := ⟨q.toNat, by omega⟩
      subst hk
      have hk : k < 29 := by omega
      rw [show ((k : Int) - 29).toNat = 0 by omega, show (-((k : Int) - 29)).toNat = 29 - k by omega, show ((k : Int)).toNat = k by omega, show (-((k : Int))).toNat = 0 by omega, Nat.pow_zero, Nat.mul_one, Nat.div_one]
      have e : 2 ^ 29 = 2 ^ k * 2 ^ (29 - k) := by rw [← Nat.pow_add]; congr 1; omega
      rw [e, ← Nat.mul_assoc]
      exact Nat.mul_div_cancel _ (Nat.pow_pos (by decide))
    · obtain ⟨k, hk⟩ : ∃ k : Nat, q = -(k : Int) := ⟨(-q).toNat, by omega⟩
      subst hk
      rw [show (-(k : Int) - 29).toNat = 0 by omega, show (-(-(k : Int) - 29)).toNat = k + 29 by omega, show (-(k : Int)).toNat = 0 by omega, show (-(-(k : Int))).toNat = k by omega, Nat.pow_zero, Nat.mul_one, Nat.mul_one, Nat.pow_add]
      exact Nat.mul_div_mul_right _ _ (by decide)
theorem f_x4 {f : UInt32} (h : okF f) : FP.f2l (FP.fmul f 1082130432) = FP.d2l (FP.dmul (FP.Core.f2d f) 4616189618054758400) := by
  rcases h with rfl | h
  · decide +kernel
  · obtain ⟨s, E, T, a1, a2, a3, a4, a5⟩ := nd32 (a := f) (by omega) (by omega)
    have v1 := fmul4 a1 (by omega) a3 a5
    have v2 := dmul4 (by omega) (by omega) (by omega) (f2dv a1 a2 a3 a5)
    show Int64.ofInt (FP.Core.toInt (-2 ^ 63) (2 ^ 63 - 1) (FP.Core.val32 _)) = Int64.ofInt (FP.Core.toInt (-2 ^ 63) (2 ^ 63 - 1) (FP.Core.val64 _))
    rw [v1, v2]
    unfold FP.Core.toInt
    dsimp only
    have e : 2 ^ 52 + T * 2 ^ 29 = (2 ^ 23 + T) * 2 ^ 29 := by omega
    have e2 : (((E + 896 + 2 : Nat) : Int) - 1075) = (((E + 2 : Nat) : Int) - 150) - 29 := by omega
    rw [e, e2, trunc29]
theorem f_x4n {f : UInt32} (h : okF f) : FP.Core.val32 (FP.fmul f 1082130432) ≠ .nan ∧ (FP.fmul f 1082130432).toNat % 2 ^ 31 ≤ 2139095040 := by
  have : FP.Core.val32 (FP.fmul f 1082130432) ≠ .nan := by
    rcases h with rfl | h
    · decide +kernel
    · obtain ⟨s, E, T, a1, a2, a3, a4, a5⟩ := nd32 (a := f) (by omega) (by omega)
      rw [fmul4 a1 (by omega) a3 a5]
      exact fun w => by cases w
  exact ⟨this, (FP.Core.ne_nan32 _).mp this⟩
