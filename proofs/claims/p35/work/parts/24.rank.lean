/-! ===== rank and worth, in the class ===== -/
def aPl (x : aC) : Int64 := if x.1 = 8 then (aW x.2).toInt64 else enN x
theorem wd_pl : ∀ i, i < 703 → 1 ≤ i → (∃ k, k < 2000 ∧ aW (Int64.ofNat i) = Int32.ofNat k) ∧
    (if 0 < lg_cmp (Int64.ofNat i) 26 then ((Int64.ofNat i - 27) / 26) * 27 + ((Int64.ofNat i - 27) - (Int64.ofNat i - 27) / 26 * 26) + 1 else (Int64.ofNat i - 1) * 27) = (aW (Int64.ofNat i)).toInt64 := by
  have h : (List.range 703).all (fun i => decide (1 ≤ i → (Int32.ofNat (aW (Int64.ofNat i)).toNatClampNeg = aW (Int64.ofNat i) ∧ (aW (Int64.ofNat i)).toNatClampNeg < 2000) ∧
    (if 0 < lg_cmp (Int64.ofNat i) 26 then ((Int64.ofNat i - 27) / 26) * 27 + ((Int64.ofNat i - 27) - (Int64.ofNat i - 27) / 26 * 26) + 1 else (Int64.ofNat i - 1) * 27) = (aW (Int64.ofNat i)).toInt64)) = true := by decide +kernel
  intro i hi h1
  have h2 := of_decide_eq_true (List.all_eq_true.mp h i (List.mem_range.mpr hi)) h1
  exact ⟨⟨_, h2.1.2, h2.1.1.symm⟩, h2.2⟩
theorem wd_of {n : Int64} (h1 : 1 ≤ n) (h2 : n ≤ 702) : ∃ i, i < 703 ∧ 1 ≤ i ∧ n = Int64.ofNat i := by
  rw [Int64.le_iff_toInt_le] at h1 h2
  have e1 : (1 : Int64).toInt = 1 := rfl
  have e2 : (702 : Int64).toInt = 702 := rfl
  rw [e1] at h1
  rw [e2] at h2
  refine ⟨n.toInt.toNat, by omega, by omega, ?_⟩
  apply Int64.toInt_inj.mp
  rw [lg_ofNat_toInt (by omega)]
  omega
theorem c_place {d p : Nat} {x : aC} {μ : mmMem} {K : Int64 → mmMem → Prop} (hd : 1 ≤ d) (hp : mmKD p = 0) (hx : clC μ p x) (ok : okC x) (h : K (aPl x) μ) : mmCJ d M_X0_place false 0 [.ref p] μ K := by
  refine u_X0_place hd hp ?_
  rw [hx.1, hx.2.1]
  by_cases h8 : x.1 = 8
  · have hw : 1 ≤ x.2 ∧ x.2 ≤ 702 := by
      rcases ok with q | q | q | q | q | q | q | q | q | q
      all_goals first | exact q.2 | skip
      all_goals (exfalso; revert q; rw [h8]; first | (rintro ⟨q, -⟩; revert q; decide) | decide)
    obtain ⟨i, hi, hi1, e⟩ := wd_of hw.1 hw.2
    have := (wd_pl i hi hi1).2
    have e1 : enK x = 10 := by simp [enK, h8]
    have e2 : enN x = x.2 := by simp [enN, h8]
    have e3 : aPl x = (aW x.2).toInt64 := by simp [aPl, h8]
    rw [e1, e2]
    rw [e3, e] at h
    rw [e]
    refine ⟨fun _ => ⟨fun q => ?_, fun q => ?_⟩, fun q => absurd rfl q⟩
    · rw [if_pos q] at this; rw [this]; exact h
    · rw [if_neg q] at this; rw [this]; exact h
  · have e1 : enK x ≠ 10 := by
      have := ok.cases
      unfold enK
      rw [if_neg h8]
      rcases this with q | q | q | q | q | q | q | q | q | q <;> rw [q] <;> decide
    have e3 : aPl x = enN x := by simp [aPl, h8]
    rw [e3] at h
    exact ⟨fun q => absurd q e1, fun _ => h⟩
/-- an answer of the sign of another -/
def sgEq (r q : Int32) : Prop := (r < 0 ↔ q < 0) ∧ (r = 0 ↔ q = 0)
theorem sgEq.refl (r : Int32) : sgEq r r := ⟨Iff.rfl, Iff.rfl⟩
theorem lcmp3 {K : Int32 → mmMem → Prop} {a b : Int64} {μ : mmMem} (h : K (lg_cmp a b) μ) : ((0 : Int32) ≤ lg_cmp a b → (¬ lg_cmp a b = 0 → K 1 μ) ∧ (lg_cmp a b = 0 → K 0 μ)) ∧ (¬ (0 : Int32) ≤ lg_cmp a b → K (-1) μ) := by
  rcases lg_cases a b with q | q | q <;> rw [q] at h ⊢
  · exact ⟨fun e => absurd e (by decide), fun _ => h⟩
  · exact ⟨fun _ => ⟨fun e => absurd rfl e, fun _ => h⟩, fun e => absurd (by decide) e⟩
  · exact ⟨fun _ => ⟨fun _ => h, fun e => absurd e (by decide)⟩, fun e => absurd (by decide) e⟩
theorem wd_sg {a b : Int64} (ha : 1 ≤ a ∧ a ≤ 702) (hb : 1 ≤ b ∧ b ≤ 702) : lg_cmp (aW a).toInt64 (aW b).toInt64 = sg (aW a - aW b) := by
  obtain ⟨i, hi, hi1, rfl⟩ := wd_of ha.1 ha.2
  obtain ⟨j, hj, hj1, rfl⟩ := wd_of hb.1 hb.2
  obtain ⟨⟨k, hk, ek⟩, -⟩ := wd_pl i hi hi1
  obtain ⟨⟨l, hl, el⟩, -⟩ := wd_pl j hj hj1
  rw [ek, el]
  have t1 : (Int32.ofNat k).toInt = k := Int32.toInt_ofNat_of_lt (by omega)
  have t2 : (Int32.ofNat l).toInt = l := Int32.toInt_ofNat_of_lt (by omega)
  have s1 : (Int32.ofNat k).toInt64.toInt = k := by rw [Int32.toInt_toInt64, t1]
  have s2 : (Int32.ofNat l).toInt64.toInt = l := by rw [Int32.toInt_toInt64, t2]
  have s3 : (Int32.ofNat k - Int32.ofNat l).toInt = (k : Int) - l := by
    rw [Int32.toInt_sub, t1, t2, Int.bmod_eq_of_le (by omega) (by omega)]
  unfold lg_cmp sg
  rcases Nat.lt_trichotomy k l with q | q | q
  · rw [if_neg (by rw [gt_iff_lt, Int64.lt_iff_toInt_lt, s1, s2]; omega), if_neg (by rw [← Int64.toInt_inj, s1, s2]; omega), if_pos (by rw [Int32.lt_iff_toInt_lt, s3]; show _ < (0 : Int); omega)]
  · subst q
    rw [if_neg (by rw [gt_iff_lt, Int64.lt_iff_toInt_lt]; omega), if_pos rfl, if_neg (by rw [Int32.lt_iff_toInt_lt, s3]; show ¬ _ < (0 : Int); omega), if_pos (by rw [← Int32.toInt_inj, s3]; show _ = (0 : Int); omega)]
  · rw [if_pos (by rw [gt_iff_lt, Int64.lt_iff_toInt_lt, s1, s2]; omega), if_neg (by rw [Int32.lt_iff_toInt_lt, s3]; show ¬ _ < (0 : Int); omega), if_neg (by rw [← Int32.toInt_inj, s3]; show ¬ _ = (0 : Int); omega)]
theorem sg_sgEq (x : Int32) : sgEq (sg x) x := by
  unfold sgEq sg
  split
  · rename_i h
    exact ⟨⟨fun _ => h, fun _ => by decide⟩, ⟨fun q => absurd q (by decide), fun q => by rw [q] at h; exact absurd h (by decide)⟩⟩
  · rename_i h
    split
    · rename_i h2; exact ⟨⟨fun q => absurd q (by decide), fun q => absurd q h⟩, ⟨fun _ => h2, fun _ => rfl⟩⟩
    · rename_i h2; exact ⟨⟨fun q => absurd q (by decide), fun q => absurd q h⟩, ⟨fun q => absurd q (by decide), fun q => absurd q h2⟩⟩
theorem okC.word {x : aC} (ok : okC x) (h8 : x.1 = 8) : 1 ≤ x.2 ∧ x.2 ≤ 702 := by
  rcases ok with q | q | q | q | q | q | q | q | q | q
  all_goals first | exact q.2 | skip
  all_goals (exfalso; revert q; rw [h8]; first | (rintro ⟨q, -⟩; revert q; decide) | decide)
theorem fam_eq {x y : aC} (okx : okC x) (oky : okC y) (h : aFam x = aFam y) : (x.1 = -1 ∧ y.1 = -1) ∨ (x.1 = 0 ∧ y.1 = 0) ∨ (x.1 = 8 ∧ y.1 = 8) ∨ (aFam x = 1 ∧ aFam y = 1 ∧ isB x.1 ∧ isB y.1 ∧ x.1 ≠ 0 ∧ y.1 ≠ 0) := by
  unfold aFam at h ⊢
  rcases okx.cases with q | q | q | q | q | q | q | q | q | q <;> rcases oky.cases with q' | q' | q' | q' | q' | q' | q' | q' | q' | q' <;> rw [q, q'] at h ⊢ <;> first | (exact absurd h (by decide)) | (simp [isB])
