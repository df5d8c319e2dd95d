theorem fam_c (x : aC) : aFam x = 0 ∨ aFam x = 1 ∨ aFam x = 2 ∨ aFam x = 3 := by
  unfold aFam
  split
  · simp
  · split
    · simp
    · split <;> simp
theorem c_rank {d p q : Nat} {x y : aC} {μ : mmMem} {K : Int32 → mmMem → Prop} (hd : 3 ≤ d) (hp : mmKD p = 0) (hq : mmKD q = 0) (hx : clC μ p x) (hy : clC μ q y) (okx : okC x) (oky : okC y) (h : ∀ r, sgEq r (aRank x y) → K r μ) : mmCI d M_X0_rankAgainst false 1 [.ref p, .ref q] μ K := by
  refine u_X0_rankAgainst (by omega) hp hq ?_
  refine c_family (by omega) hp hx okx ?_
  refine c_family (by omega) hq hy oky ?_
  refine ⟨fun f => ?_, fun f => ?_⟩
  · rw [hx.2.2, hy.2.2, f_cmp _ okx.re oky.re, f_cmp _ okx.re oky.re]
    rcases fam_eq okx oky f with w | w | w | w
    · have e1 : enR x = enR y := by simp [enR, w.1, w.2]
      have e2 : aFam x ≠ 1 := by unfold aFam; rw [w.1]; decide
      rw [(f_sg0 okx.re oky.re).mpr e1]
      refine ⟨fun _ => ?_, fun e => absurd rfl e⟩
      refine c_isNumber (by omega) hp hx okx ?_
      rw [if_neg e2]
      refine ⟨fun _ => ?_, fun e => absurd rfl e⟩
      refine c_place (by omega) hp hx okx ?_
      refine c_place (by omega) hq hy oky ?_
      refine lcmp3 (h _ ?_)
      have z1 : x.2 = 0 := by
        rcases okx with v | v | v | v | v | v | v | v | v | v
        · exact v.2
        all_goals (exfalso; rw [w.1] at v; revert v; first | (rintro ⟨v, -⟩; revert v; decide) | decide)
      have z2 : y.2 = 0 := by
        rcases oky with v | v | v | v | v | v | v | v | v | v
        · exact v.2
        all_goals (exfalso; rw [w.2] at v; revert v; first | (rintro ⟨v, -⟩; revert v; decide) | decide)
      have : lg_cmp (aPl x) (aPl y) = aRank x y := by simp [aPl, aRank, enN, w.1, w.2, z1, z2, f, lg_cmp]
      rw [this]; exact sgEq.refl _
    · have e1 : enR x = enR y := by simp [enR, w.1, w.2]
      have e2 : aFam x ≠ 1 := by unfold aFam; rw [w.1]; decide
      rw [(f_sg0 okx.re oky.re).mpr e1]
      refine ⟨fun _ => ?_, fun e => absurd rfl e⟩
      refine c_isNumber (by omega) hp hx okx ?_
      rw [if_neg e2]
      refine ⟨fun _ => ?_, fun e => absurd rfl e⟩
      refine c_place (by omega) hp hx okx ?_
      refine c_place (by omega) hq hy oky ?_
      refine lcmp3 (h _ ?_)
      have : lg_cmp (aPl x) (aPl y) = aRank x y := by simp [aPl, aRank, enN, w.1, w.2, f]
      rw [this]; exact sgEq.refl _
    · have e1 : enR x = enR y := by simp [enR, w.1, w.2]
      have e2 : aFam x ≠ 1 := by unfold aFam; rw [w.1]; decide
      rw [(f_sg0 okx.re oky.re).mpr e1]
      refine ⟨fun _ => ?_, fun e => absurd rfl e⟩
      refine c_isNumber (by omega) hp hx okx ?_
      rw [if_neg e2]
      refine ⟨fun _ => ?_, fun e => absurd rfl e⟩
      refine c_place (by omega) hp hx okx ?_
      refine c_place (by omega) hq hy oky ?_
      refine lcmp3 (h _ ?_)
      have : lg_cmp (aPl x) (aPl y) = sg (aRank x y) := by
        have h2 := wd_sg (okx.word w.1) (oky.word w.2)
        simp only [aPl, w.1, w.2, if_true]
        rw [h2]
        simp [aRank, f, w.1]
      rw [this]; exact sg_sgEq _
    · obtain ⟨f1, f2, b1, b2, n1, n2⟩ := w
      have e1 : enR x = aVal x := by
        unfold enR; rw [if_neg]; unfold aFam at f1; intro w; rcases w with w | w | w <;> rw [w] at f1 <;> exact absurd f1 (by decide)
      have e2 : enR y = aVal y := by
        unfold enR; rw [if_neg]; unfold aFam at f2; intro w; rcases w with w | w | w <;> rw [w] at f2 <;> exact absurd f2 (by decide)
      have n8 : x.1 ≠ 8 := by rcases b1 with v | v | v | v | v | v | v | v <;> rw [v] <;> decide
      have nm : x.1 ≠ -1 := by rcases b1 with v | v | v | v | v | v | v | v <;> rw [v] <;> decide
      have hr : aRank x y = if dSg (aVal x) (aVal y) ≠ 0 then dSg (aVal x) (aVal y) else if x.1 ≠ y.1 then x.1 - y.1 else lg_cmp x.2 y.2 := by
        unfold aRank
        rw [if_neg (fun e => e f), if_neg nm, if_neg n8]
        simp only [n1, ne_eq, not_false_eq_true, true_and]
      rw [e1, e2]
      by_cases z : dSg (aVal x) (aVal y) = 0
      · rw [z]
        refine ⟨fun _ => ?_, fun e => absurd rfl e⟩
        refine c_isNumber (by omega) hp hx okx ?_
        rw [if_pos f1]
        refine ⟨fun e => absurd e (by decide), fun _ => ?_⟩
        rw [hx.1, hy.1, show enK x = x.1 by simp [enK, n8], show enK y = y.1 by rcases b2 with v | v | v | v | v | v | v | v <;> simp [enK, v]]
        refine ⟨fun k => ?_, fun k => ?_⟩
        · refine c_place (by omega) hp hx okx ?_
          refine c_place (by omega) hq hy oky ?_
          refine lcmp3 (h _ ?_)
          have e3 : enR x = enR y := by rw [e1, e2]; exact (f_sg0 okx.val oky.val).mp z
          by_cases h67 : x.1 = 6 ∨ x.1 = 7
          · have exy : x = y := en_inj okx oky (by simp [enK, k]) (by simp [enN, ← k, h67]) e3
            rw [hr, exy]
            have : lg_cmp (aPl y) (aPl y) = 0 := (lg_e _ _).mpr rfl
            rw [this, if_neg (by rw [(f_sg0 oky.val oky.val).mpr rfl]; exact fun e => e rfl), if_neg (fun e => e rfl), (lg_e _ _).mpr rfl]
            exact sgEq.refl _
          · have p1 : aPl x = x.2 := by simp [aPl, n8, enN, h67]
            have p2 : aPl y = y.2 := by simp [aPl, ← k, n8, enN, h67]
            rw [hr, p1, p2, if_neg (fun e => e z), if_neg (fun e => e k)]
            exact sgEq.refl _
        · have hr2 : aRank x y = x.1 - y.1 := by rw [hr, if_neg (fun e => e z), if_pos k]
          refine ⟨fun l => h _ ?_, fun l => h _ ?_⟩ <;> rw [hr2] <;> revert k l <;> rcases b1 with v | v | v | v | v | v | v | v <;> rcases b2 with v' | v' | v' | v' | v' | v' | v' | v' <;> rw [v, v'] <;> unfold sgEq <;> decide
      · refine ⟨fun e => absurd e z, fun _ => ?_⟩
        have hr2 : aRank x y = dSg (aVal x) (aVal y) := by rw [hr, if_pos z]
        rcases dSg_cases (aVal x) (aVal y) with v | v | v
        · rw [v] at hr2 ⊢
          exact ⟨fun e => absurd e (by decide), fun _ => h _ (by rw [hr2]; exact sgEq.refl _)⟩
        · exact absurd v z
        · rw [v] at hr2 ⊢
          exact ⟨fun _ => h _ (by rw [hr2]; exact sgEq.refl _), fun e => absurd (by decide) e⟩
  · refine c_family (by omega) hp hx okx ?_
    refine c_family (by omega) hq hy oky ?_
    have hr : aRank x y = aFam x - aFam y := by unfold aRank; rw [if_pos f]
    have c1 := fam_c x
    have c2 := fam_c y
    refine ⟨fun l => ⟨fun _ => h _ ?_, fun e => absurd e f⟩, fun l => h _ ?_⟩ <;> rw [hr] <;> revert f l <;> rcases c1 with v | v | v | v <;> rcases c2 with v' | v' | v' | v' <;> rw [v, v'] <;> unfold sgEq <;> decide
