/-! ===== the model: sums of groups ===== -/
abbrev ovf (n w : Int64) : Prop := (0 : Int32) ≤ lg_cmp ((n ^^^ (n + w)) &&& (w ^^^ (n + w))) 0
def smA (S : aS) (bw bo : Bool) (L : List aC) (n : Int64) (r : UInt64) : Int32 × aS := if bw = true ∧ anyR L = false then (if bo = true then (-15, S) else ansW S (sumW L n)) else (7, sGot S (ofD (sumR L r)))
theorem smA_s (S : aS) (bw bo : Bool) (y : aC) (L : List aC) (n : Int64) (r : UInt64) : smA S bw bo (y :: L) n r = smA S (bw && decide (y.1 < 6)) (bo || !decide (ovf n y.2)) L (n + y.2) (FP.dadd r (aVal y)) := by
  have er : sumR (y :: L) r = sumR L (FP.dadd r (aVal y)) := rfl
  have ea : anyR (y :: L) = (!decide (y.1 < 6) || anyR L) := rfl
  have ew : sumW (y :: L) n = if ovf n y.2 then sumW L (n + y.2) else none := rfl
  unfold smA
  rw [er, ea, ew]
  cases h6 : decide (y.1 < 6) <;> by_cases ho : ovf n y.2 <;> (first | rw [if_pos ho, decide_eq_true ho] | rw [if_neg ho, decide_eq_false ho]) <;> cases bw <;> cases bo <;> cases anyR L <;> rfl
theorem sumCs_skip {f g : Nat → aC} {l : List Nat} {a : Nat} (h : pLead f l a = true) (j : Nat) : ∀ (t p : Nat), p + t = a → sumCs f g l a (t + j) p = sumCs f g l a j a
  | 0, p, e => by rw [Nat.zero_add, show p = a by omega]
  | t + 1, p, e => by
    rw [show t + 1 + j = (t + j) + 1 by omega, sumCs_s]
    have := pLead_iff.mp h p (by omega)
    rw [if_neg (fun w => this w.1.symm)]
    exact sumCs_skip h j t (p + 1) (by omega)
theorem m_sumT {d : Nat} {y : aC} {n : Int64} {r : UInt64} {w8 : Int32} {μ : mmMem} {A B : UInt64 → mmMem → Prop} (hd : 3 ≤ d) (oky : okC y) (vf : vf_n64 (FP.dadd r (aVal y))) (hA : w8 = 0 → ovf n y.2 → A (aVal y) μ) (hB : (¬ w8 = 0 ∨ ¬ ovf n y.2) → B (aVal y) μ) : mmCD d M_X8_valueOf true 2 [.int y.1, .long y.2] μ fun y38 ν37 => vf_n64 (FP.dadd r y38) ∧ ((¬ w8 = (0 : Int32) → B y38 ν37) ∧ (w8 = (0 : Int32) → ((0 : Int32) ≤ (lg_cmp ((n ^^^ (n + y.2)) &&& (y.2 ^^^ (n + y.2))) (0 : Int64)) → A y38 ν37) ∧ (¬ (0 : Int32) ≤ (lg_cmp ((n ^^^ (n + y.2)) &&& (y.2 ^^^ (n + y.2))) (0 : Int64)) → B y38 ν37))) :=
  m_valueOf (x := y) hd oky ⟨vf, fun n => hB (Or.inl n), fun e => ⟨fun w => hA e w, fun w => hB (Or.inr w)⟩⟩
theorem fam_17 {y : aC} (ok : okC y) : aFam y = 1 ↔ (¬ y.1 < 1 ∧ ¬ (7 : Int32) < y.1) := by
  rcases ok.cases with q | q | q | q | q | q | q | q | q | q <;> unfold aFam <;> rw [q] <;> decide
theorem m_sumE {d v k l a : Nat} {i x5 : Int32} {S : aS} {x y : aCol} {μ : mmMem} {K : Int32 → mmMem → Prop} (hd : 3 ≤ d) (hv : v < 2) (hM : MS μ S) (hx : S.1.2.1[k]? = some x) (hy : S.1.2.1[l]? = some y) (ha : a < (getV S.1 v).length) (ans : Int32 × aS) (h : ∀ ν, MS ν ans.2 → loE μ ν → K ans.1 ν) : ∀ (j p : Nat) (bw bo : Bool) (n : Int64) (r : UInt64) (v14 v15 v16 v17 v18 v19 : Value), p + j = (getV S.1 v).length → grD r → r.toNat % 2 ^ 63 < (1089 + 2 * p) * 2 ^ 52 → ans = smA S bw bo (sumCs x.2.2 y.2.2 (getV S.1 v) a j p) n r → mmEnds d M_X8_sum 73 [.ref 160, .int (nI v), .int (nI k), .int i, .int (nI l), .int x5, .int (nI (rowAt (getV S.1 v) a)), .int (if bw = true then 1 else 0), .int (if bo = true then 1 else 0), .long n, .retAddr 7, .double r, .retAddr 7, .int (nI p), v14, v15, v16, v17, v18, v19] [] μ (mmPI K) := by
  have okv := hM.2.1.vw v
  have hln := okv.len
  have h40 := hM.2.1.1
  have h12 := hM.2.1.2.1
  have ll := lt_of_get hy
  obtain ⟨g1, g2⟩ := hM.1.vw hv
  have ea := rowAt_get (l := getV S.1 v) (p := a) ha
  have hra := okv.2 _ (List.mem_of_getElem? ea)
  obtain ⟨-, -, y3⟩ := hM.1.2.1 l y hy
  have ocy := hM.2.1.2.2.1 y (List.mem_of_getElem? hy)
  intro j
  induction j with
  | zero =>
    intro p bw bo n r v14 v15 v16 v17 v18 v19 hj hg hb he
    refine s_X8_sum_73 (by omega) ?_
    have e : p = (getV S.1 v).length := by omega
    have nn : FP.Core.val64 r ≠ .nan := (FP.Core.ne_nan r).mpr (Nat.le_of_lt (gb_mono (b := 2047) hb (by omega)))
    have fin : ∀ w : Int64, MS (sJ μ 160 5 w) (sGot S w) := fun w => hM.got w
    have lo : ∀ w : Int64, loE μ (sJ μ 160 5 w) := fun w => loE_sJ _ _ _ _ (by decide)
    rw [nI_4, nI_clamp (show 4 + v < 2 ^ 31 by omega), g1]
    refine ⟨vp_in_nI (by omega) (by decide), fun _ => ?_, fun w => absurd (nI_le (by omega) (by omega)) w⟩
    cases bw with
    | false =>
      have e2 : ans = (7, sGot S (ofD r)) := he
      subst e2
      refine ⟨fun _ => s_X8_sum_230 (by omega) ⟨fun _ => ?_, fun w => absurd rfl w⟩, fun w => absurd rfl w⟩
      exact m_ofDouble (by omega) nn (h _ (fin _) (lo _))
    | true =>
      refine ⟨fun w => absurd w (by decide), fun _ => ?_⟩
      cases bo with
      | true =>
        have e2 : ans = (-15, S) := he
        subst e2
        exact ⟨fun w => absurd w (by decide), fun _ => h μ hM (loE.refl _)⟩
      | false =>
        have e2 : ans = (5, sGot S n) := he
        subst e2
        refine ⟨fun _ => s_X8_sum_230 (by omega) ⟨fun w => absurd w (by decide), fun _ => ?_⟩, fun w => absurd rfl w⟩
        exact h _ (fin _) (lo _)
  | succ j ih =>
    intro p bw bo n r v14 v15 v16 v17 v18 v19 hj hg hb he
    refine s_X8_sum_73 (by omega) ?_
    have ep := rowAt_get (l := getV S.1 v) (p := p) (by omega)
    have hrp := okv.2 _ (List.mem_of_getElem? ep)
    obtain ⟨z1, z2⟩ := y3 _ hrp
    have oky := (ocy.2.2 _ hrp).1
    rw [sumCs_s] at he
    rw [nI_4, nI_clamp (show 4 + v < 2 ^ 31 by omega), g1, nI_vw, nI_clamp (show 56 + 40 * v + p < 2 ^ 31 by omega), g2 p _ ep, nI_plc, nI_136, nI_clamp (show 136 + (40 * l + rowAt (getV S.1 v) p) < 2 ^ 31 by omega), nI_clamp (show 40 * l + rowAt (getV S.1 v) p < 2 ^ 31 by omega), z1]
    have v1 : vp_in (nI (4 + v)) 616 := vp_in_nI (by omega) (by decide)
    have v2 : vp_in (nI (56 + 40 * v + p)) 616 := vp_in_nI (by omega) (by decide)
    have v3 : vp_in (nI (136 + (40 * l + rowAt (getV S.1 v) p))) 616 := vp_in_nI (by omega) (by decide)
    have v4 : vp_in (nI (40 * l + rowAt (getV S.1 v) p)) 486 := vp_in_nI (by omega) (by decide)
    have skip : ¬ isSm x.2.2 y.2.2 (getV S.1 v) a p → ∀ (x14 x15 : Int32) (v16 v17 v18 v19 : Value), mmEnds d M_X8_sum 211 [.ref 160, .int (nI v), .int (nI k), .int i, .int (nI l), .int x5, .int (nI (rowAt (getV S.1 v) a)), .int (if bw = true then 1 else 0), .int (if bo = true then 1 else 0), .long n, .retAddr 7, .double r, .retAddr 7, .int (nI p), .int x14, .int x15, v16, v17, v18, v19] [] μ (mmPI K) := fun w x14 x15 v16 v17 v18 v19 => by
      rw [if_neg w] at he
      refine s_X8_sum_211 (by omega) ?_
      rw [nI_1 p]
      exact ih (p + 1) bw bo n r _ _ _ _ _ _ (by omega) hg (gb_mono hb (by omega)) he
    refine ⟨v1, fun w => absurd w (nI_ge (by omega) (by omega)), fun _ => ⟨v2, v3, ?_⟩⟩
    refine m_areSame hd hM hx hx hrp hra ?_
    by_cases e : x.2.2 (rowAt (getV S.1 v) p) = x.2.2 (rowAt (getV S.1 v) a)
    · rw [if_pos e]
      refine ⟨fun w => absurd w (by decide), fun _ => ?_⟩
      refine m_isInI (a := 1) (b := 7) (by omega) rfl rfl ?_
      by_cases f17 : ¬ (y.2.2 (rowAt (getV S.1 v) p)).1 < 1 ∧ ¬ (7 : Int32) < (y.2.2 (rowAt (getV S.1 v) p)).1
      · rw [if_pos f17, z2]
        have sm : isSm x.2.2 y.2.2 (getV S.1 v) a p := ⟨e.symm, (fam_17 oky).mpr f17⟩
        rw [if_pos sm, smA_s] at he
        obtain ⟨q1, q2⟩ := grD_ok oky.val
        obtain ⟨q3, q4⟩ := gr_sum (K := 1089 + 2 * p) hg q1 hb (gb_mono q2 (by omega)) (by omega)
        have q5 : (FP.dadd r (aVal (y.2.2 (rowAt (getV S.1 v) p)))).toNat % 2 ^ 63 < (1089 + 2 * p + 2) * 2 ^ 52 := q4
        have vf : vf_n64 (FP.dadd r (aVal (y.2.2 (rowAt (getV S.1 v) p)))) := f_n64' (Nat.le_of_lt (gb_mono (b := 2047) q5 (by omega)))
        generalize hY : y.2.2 (rowAt (getV S.1 v) p) = Y at he oky f17 q3 q5 vf skip
        have go : ∀ b1 b2 : Bool, (bw && decide (Y.1 < 6)) = b1 → (bo || !decide (ovf n Y.2)) = b2 → ∀ (x14 x15 : Int32) (v16 v17 v18 v19 : Value), mmEnds d M_X8_sum 211 [.ref 160, .int (nI v), .int (nI k), .int i, .int (nI l), .int x5, .int (nI (rowAt (getV S.1 v) a)), .int (if b1 = true then 1 else 0), .int (if b2 = true then 1 else 0), .long (n + Y.2), .retAddr 7, .double (FP.dadd r (aVal Y)), .retAddr 7, .int (nI p), .int x14, .int x15, v16, v17, v18, v19] [] μ (mmPI K) := fun b1 b2 e1 e2 x14 x15 v16 v17 v18 v19 => by
          subst e1
          subst e2
          refine s_X8_sum_211 (by omega) ?_
          rw [nI_1 p]
          exact ih (p + 1) _ _ _ _ _ _ _ _ _ _ (by omega) q3 (gb_mono q5 (by omega)) he
        have t8 : ¬ (if bo = true then (1 : Int32) else 0) = 0 → bo = true := fun w => by
          cases bo with
          | true => rfl
          | false => exact absurd rfl w
        have f8 : (if bo = true then (1 : Int32) else 0) = 0 → bo = false := fun w => by
          cases bo with
          | false => rfl
          | true => exact absurd w (by decide)
        have bo1 : (¬ (if bo = true then (1 : Int32) else 0) = 0 ∨ ¬ ovf n Y.2) → (bo || !decide (ovf n Y.2)) = true := fun w => by
          rcases w with w | w
          · rw [t8 w]; rfl
          · rw [decide_eq_false w]; cases bo <;> rfl
        have bo0 : (if bo = true then (1 : Int32) else 0) = 0 → ovf n Y.2 → (bo || !decide (ovf n Y.2)) = false := fun w w2 => by
          rw [f8 w, decide_eq_true w2]; rfl
        refine ⟨fun w => absurd w (by decide), fun _ => ⟨v4, fun w7 => ?_, fun w7 => ⟨fun l6 => ?_, fun l6 => ?_⟩⟩⟩
        · have eb : (bw && decide (Y.1 < 6)) = false := by
            cases bw with
            | false => rfl
            | true => exact absurd w7 (by decide)
          exact m_sumT hd oky vf (fun z1 z2 => go false false eb (bo0 z1 z2) _ _ _ _ _ _) (fun z => go false true eb (bo1 z) _ _ _ _ _ _)
        · have eb : (bw && decide (Y.1 < 6)) = false := by rw [decide_eq_false (Int32.not_lt.mpr l6)]; cases bw <;> rfl
          exact m_sumT hd oky vf (fun z1 z2 => go false false eb (bo0 z1 z2) _ _ _ _ _ _) (fun z => go false true eb (bo1 z) _ _ _ _ _ _)
        · have eb : (bw && decide (Y.1 < 6)) = true := by
            rw [decide_eq_true (Int32.not_le.mp l6)]
            cases bw with
            | true => rfl
            | false => exact absurd rfl w7
          exact m_sumT hd oky vf (fun z1 z2 => go true false eb (bo0 z1 z2) _ _ _ _ _ _) (fun z => go true true eb (bo1 z) _ _ _ _ _ _)
      · rw [if_neg f17]
        exact ⟨fun _ => skip (fun w => f17 ((fam_17 oky).mp w.2)) _ _ _ _ _ _, fun w => absurd rfl w⟩
    · rw [if_neg e]
      exact ⟨fun _ => skip (fun w => e w.1.symm) _ _ _ _ _ _, fun w => absurd rfl w⟩
theorem smA_0 {S : aS} {L : List aC} : smA S true false L 0 0 = if anyR L = true then (7, sGot S (ofD (sumR L 0))) else ansW S (sumW L 0) := by
  unfold smA
  cases h : anyR L with
  | true => rw [if_neg (fun w => by cases w.2), if_pos rfl]
  | false => rw [if_pos ⟨rfl, rfl⟩, if_neg (by decide), if_neg (by decide)]
theorem m_sum {d : Nat} {v c i e : Int32} {S : aS} {μ : mmMem} {K : Int32 → mmMem → Prop} (hd : 5 ≤ d) (hM : MS μ S) (h : ∀ ν, MS ν (sp_sum v c i e S).2 → loE μ ν → K (sp_sum v c i e S).1 ν) : mmCI d M_X8_sum false 4 [.ref 160, .int v, .int c, .int i, .int e] μ K := by
  refine u_X8_sum (by omega) ?_
  refine m_isView (by omega) ?_
  unfold sp_sum at h
  by_cases nv : noView v
  · rw [if_pos nv] at h ⊢
    exact ⟨fun w => absurd rfl w, fun _ => h μ hM (loE.refl _)⟩
  · rw [if_neg nv] at h ⊢
    refine ⟨fun _ => ?_, fun w => absurd w (by decide)⟩
    obtain ⟨v, hv, rfl⟩ := view_of nv
    rw [nI_clamp (by omega)] at h
    refine m_amiss2 (by omega) hM (fun ν q hν hh => ?_) (fun ν q hν hh => ?_)
    · rw [withC2_no q] at h
      exact h ν hν hh
    · obtain ⟨q1, q2⟩ := cref2_0 q
      obtain ⟨k, x, hk, rfl, hx, -⟩ := cref_0 q1
      obtain ⟨l, y, hl, rfl, hy, -⟩ := cref_0 q2
      rw [withC2_ok hk hl q hx hy] at h
      have okv := hν.2.1.vw v
      have hln := okv.len
      have h40 := hν.2.1.1
      have hc := cnt_le (pLead x.2.2 (getV S.1 v)) (getV S.1 v).length
      obtain ⟨n1, -⟩ := neg_cnt (cnt (pLead x.2.2 (getV S.1 v)) (getV S.1 v).length) (by omega)
      refine m_grouped (by omega) hv hν hx (fun a ho => ?_) (fun ho => ?_)
      · obtain ⟨a1, -, a2⟩ := nthP_some ho
        rw [Nat.zero_add] at a2
        rw [ho] at h
        dsimp only at h
        have hra := okv.2 _ (List.mem_of_getElem? (rowAt_get (l := getV S.1 v) (p := a) a2))
        refine ⟨fun _ => ?_, fun w => absurd (nI_pos' (by omega)) w⟩
        have es : sumCs x.2.2 y.2.2 (getV S.1 v) a (getV S.1 v).length 0 = sumCs x.2.2 y.2.2 (getV S.1 v) a ((getV S.1 v).length - a) a := by
          have := sumCs_skip (g := y.2.2) a1 ((getV S.1 v).length - a) a 0 (Nat.zero_add _)
          rw [show a + ((getV S.1 v).length - a) = (getV S.1 v).length by omega] at this
          exact this
        rw [← smA_0, ← es] at h
        exact m_sumE (S := S) (by omega) hv hν hx hy a2 _ (fun ν2 m2 l2 => h ν2 m2 (hh.trans l2)) (getV S.1 v).length 0 true false 0 0 _ _ _ _ _ _ (Nat.zero_add _) grD_zero (by
          rw [show (0 : UInt64).toNat % 2 ^ 63 = 0 from rfl]; omega) rfl
      · rw [ho] at h
        exact ⟨fun w => absurd w n1, fun _ => h ν hν hh⟩
