/-! ===== the model: run, pair ===== -/
theorem stood_all (T : aT) (r : Nat) : ∀ l : List aFil, (stood T l r == l.length) = l.all fun f => aPass T f r
  | [] => rfl
  | f :: t => by
    have ih := stood_all T r t
    unfold stood
    cases hp : aPass T f r with
    | true =>
      rw [if_pos rfl, List.all_cons, hp, Bool.true_and, ← ih, List.length_cons]
      by_cases e : stood T t r = t.length
      · simp [e]
      · have e2 : ¬ stood T t r + 1 = t.length + 1 := by omega
        rw [beq_eq_false_iff_ne.mpr e, beq_eq_false_iff_ne.mpr e2]
    | false =>
      rw [if_neg (by decide), List.all_cons, hp, Bool.false_and]
      exact beq_eq_false_iff_ne.mpr (by simp)
def allF (T : aT) (r f : Nat) : Bool := (T.2.2.2.2.2.take f).all fun q => aPass T q r
theorem allF_end (T : aT) (r : Nat) : allF T r T.2.2.2.2.2.length = pAll T r := by
  unfold allF pAll
  rw [List.take_length, stood_all]
theorem allF_s {T : aT} {r f : Nat} {q : aFil} (hq : T.2.2.2.2.2[f]? = some q) : allF T r (f + 1) = (allF T r f && aPass T q r) := by
  unfold allF
  rw [List.take_add_one, hq, List.all_append]
  simp
theorem m_runI {d v i m r : Nat} {T : aT} {μ : mmMem} {P : Option Value → mmMem → Prop} (hd : 7 ≤ d) (hv : v < 2) (hm : m < 40) (hp : prdM μ T) (ok : okT T) (hr : r < T.1) (hT : pAll T r = true → ∀ v4 v5 v6, mmEnds d M_X8_run 13 [.ref 160, .int (nI v), .int (nI (m + 1)), .int (nI (i + 1)), v4, v5, v6] [] (sI μ 161 (56 + 40 * v + m) (nI r)) P) (hF : pAll T r = false → ∀ v4 v5 v6, mmEnds d M_X8_run 13 [.ref 160, .int (nI v), .int (nI m), .int (nI (i + 1)), v4, v5, v6] [] μ P) : ∀ (j f : Nat), f + j = T.2.2.2.2.2.length → mmEnds d M_X8_run 39 [.ref 160, .int (nI v), .int (nI m), .int (nI i), .int (nI r), .int (if allF T r f = true then 1 else 0), .int (nI f)] [] μ P := by
  have l8 := ok.2.2.2.2.2.2.2.1
  intro j
  induction j with
  | zero =>
    intro f hj
    refine s_X8_run_39 (by omega) ?_
    have e : f = T.2.2.2.2.2.length := by omega
    rw [hp.1.2.2, nI_vw, nI_clamp (show 56 + 40 * v + m < 2 ^ 31 by omega), nI_1 i, nI_1 m, e, allF_end]
    refine ⟨fun _ => ⟨fun z => ?_, fun z => ⟨vp_in_nI (by omega) (by decide), ?_⟩⟩, fun w => absurd (nI_le (Nat.le_refl _) (by omega)) w⟩
    · cases hh : pAll T r with
      | true => rw [hh] at z; exact absurd z (by decide)
      | false => exact hF hh _ _ _
    · cases hh : pAll T r with
      | true => exact hT hh _ _ _
      | false => rw [hh] at z; exact absurd rfl z
  | succ j ih =>
    intro f hj
    refine s_X8_run_39 (by omega) ?_
    obtain ⟨q, hq⟩ : ∃ q, T.2.2.2.2.2[f]? = some q := ⟨_, List.getElem?_eq_getElem (by omega)⟩
    have := ih (f + 1) (by omega)
    rw [allF_s hq] at this
    rw [hp.1.2.2, nI_1 f]
    refine ⟨fun w => absurd w (nI_ge (by omega) (by omega)), fun _ => ⟨fun z => ?_, fun z => ?_⟩⟩
    · cases hh : allF T r f with
      | true => rw [hh] at z; exact absurd z (by decide)
      | false => rw [hh] at this; exact this
    · cases hh : allF T r f with
      | false => rw [hh] at z; exact absurd rfl z
      | true =>
        rw [hh] at this
        refine m_passes hd hp ok hq hr ?_
        cases ha : aPass T q r with
        | true => rw [ha] at this; exact ⟨fun w => absurd w (by decide), fun _ => this⟩
        | false => rw [ha] at this; exact ⟨fun _ => this, fun w => absurd rfl w⟩
theorem m_runE {d v : Nat} {S : aS} {K : Int32 → mmMem → Prop} (hd : 7 ≤ d) (hv : v < 2) (μ0 : mmMem) (hM : MS μ0 S) (h : ∀ ν, MS ν (sT S (setV S.1 v ((getV S.1 v).filter (pAll S.1)))) → loE μ0 ν → K (nI ((getV S.1 v).filter (pAll S.1)).length) ν) : ∀ (j i : Nat) (k' : List Nat) (μ : mmMem) (v4 v5 v6 : Value), (getV S.1 v).length - i = j → vwG μ0 μ v (getV S.1 v) (pAll S.1) i k' → mmEnds d M_X8_run 13 [.ref 160, .int (nI v), .int (nI k'.length), .int (nI i), v4, v5, v6] [] μ (mmPI K) := by
  have okv := hM.2.1.vw v
  have hln := okv.len
  have h40 := hM.2.1.1
  intro j
  induction j with
  | zero =>
    intro i k' μ v4 v5 v6 hj hG
    have hil := hG.1
    refine s_X8_run_13 (by omega) ?_
    rw [nI_4, nI_clamp (by omega), hG.2.2.2.2.2.2]
    refine ⟨vp_in_nI (by omega) (by decide), fun _ => ?_, fun w => absurd (nI_le (by omega) (by omega)) w⟩
    obtain ⟨rfl, f, el, en⟩ := hG.done hv (by omega) hj
    exact h _ (hM.setV hv (okv.filter _) f el en) f.lo
  | succ j ih =>
    intro i k' μ v4 v5 v6 hj hG
    obtain ⟨r, hr⟩ : ∃ r, (getV S.1 v)[i]? = some r := ⟨_, List.getElem?_eq_getElem (by omega)⟩
    have hrr := okv.2 r (List.mem_of_getElem? hr)
    have hki := hG.2.1
    refine s_X8_run_13 (by omega) ?_
    rw [nI_4, nI_clamp (show 4 + v < 2 ^ 31 by omega), hG.2.2.2.2.2.2, nI_vw, nI_clamp (show 56 + 40 * v + i < 2 ^ 31 by omega), hG.2.2.2.2.1 i r (Nat.le_refl _) hr]
    refine ⟨vp_in_nI (by omega) (by decide), fun w => absurd w (nI_ge (by omega) (by omega)), fun _ => ⟨vp_in_nI (by omega) (by decide), ?_⟩⟩
    refine m_runI (T := S.1) hd hv (by omega) (hM.prd.fr hM.2.1 hv hG.2.2.2.2.2.1) hM.2.1 hrr (fun hp v4 v5 v6 => ?_) (fun hp v4 v5 v6 => ?_) S.1.2.2.2.2.2.length 0 (by omega)
    · have := ih (i + 1) (k' ++ [r]) _ v4 v5 v6 (by omega) (hG.take hv (by omega) hr hp)
      rw [List.length_append] at this
      exact this
    · exact ih (i + 1) k' μ v4 v5 v6 (by omega) (hG.skip hr hp)
theorem m_run {d : Nat} {v : Int32} {S : aS} {μ : mmMem} {K : Int32 → mmMem → Prop} (hd : 8 ≤ d) (hM : MS μ S) (h : ∀ ν, MS ν (sp_run v S).2 → loE μ ν → K (sp_run v S).1 ν) : mmCI d M_X8_run false 1 [.ref 160, .int v] μ K := by
  refine u_X8_run (by omega) ?_
  refine m_isView (by omega) ?_
  unfold sp_run at h
  by_cases nv : noView v
  · rw [if_pos nv] at h ⊢
    exact ⟨fun w => absurd rfl w, fun _ => h μ hM (loE.refl _)⟩
  · rw [if_neg nv] at h ⊢
    refine ⟨fun _ => ?_, fun w => absurd w (by decide)⟩
    obtain ⟨v, hv, rfl⟩ := view_of nv
    rw [nI_clamp (by omega)] at h
    exact m_runE (S := S) (by omega) hv μ hM h _ 0 [] μ _ _ _ rfl (vwG.start hM hv)
theorem nI_v0 (p : Nat) : (56 : Int32) + (40 : Int32) * (0 : Int32) + nI p = nI (56 + p) := nI_vw 0 p
theorem nI_v1 (p : Nat) : (56 : Int32) + (40 : Int32) * (1 : Int32) + nI p = nI (96 + p) := nI_vw 1 p
theorem m_pairE {d k l : Nat} {i x4 : Int32} {S : aS} {x y : aCol} {μ : mmMem} {P : Option Value → mmMem → Prop} (hd : 4 ≤ d) (hM : MS μ S) (hx : S.1.2.1[k]? = some x) (hy : S.1.2.1[l]? = some y) (ans : Int32) (h : P (some (.int ans)) μ) : ∀ (j p : Nat) (n : Int32) (v7 v8 v9 : Value), p + j = S.1.2.2.1.length → ans = pairOut x.2.2 y.2.2 i S.1.2.2.2.1 (S.1.2.2.1.drop p) n → mmEnds d M_X8_pair 38 [.ref 160, .int (nI k), .int (nI l), .int i, .int x4, .int n, .int (nI p), v7, v8, v9] [] μ P := by
  have ok0 := hM.2.1.2.2.2.1
  have ok1 := hM.2.1.2.2.2.2.1
  have hl0 := ok0.len
  have hl1 := ok1.len
  have h40 := hM.2.1.1
  have h12 := hM.2.1.2.1
  have lk := lt_of_get hx
  have ll := lt_of_get hy
  obtain ⟨-, -, x3⟩ := hM.1.2.1 k x hx
  obtain ⟨-, -, y3⟩ := hM.1.2.1 l y hy
  have ocx := hM.2.1.2.2.1 x (List.mem_of_getElem? hx)
  have ocy := hM.2.1.2.2.1 y (List.mem_of_getElem? hy)
  obtain ⟨⟨w4, w56⟩, w5, w96⟩ := hM.1.2.2.1
  intro j
  induction j with
  | zero =>
    intro p n v7 v8 v9 hp ha
    refine s_X8_pair_38 (by omega) ?_
    rw [w4]
    rw [List.drop_of_length_le (by omega)] at ha
    unfold pairOut at ha
    refine ⟨fun _ => ⟨fun w => ?_, fun w => ?_⟩, fun w => absurd (nI_le (by omega) (by omega)) w⟩
    · rw [if_neg w] at ha; subst ha; exact h
    · rw [if_pos w] at ha; subst ha; exact h
  | succ j ih =>
    intro p n v7 v8 v9 hp ha
    refine s_X8_pair_38 (by omega) ?_
    rw [w4]
    refine ⟨fun w => absurd w (nI_ge (by omega) (by omega)), fun _ => ?_⟩
    obtain ⟨r, hr⟩ : ∃ r, S.1.2.2.1[p]? = some r := ⟨_, List.getElem?_eq_getElem (by omega)⟩
    have hrr := ok0.2 r (List.mem_of_getElem? hr)
    obtain ⟨z1, z2⟩ := x3 r hrr
    rw [drop_get hr] at ha
    unfold pairOut at ha
    have inner : ∀ (m q : Nat) (n : Int32) (v8 v9 : Value), q + m = S.1.2.2.2.1.length → ans = (match pairIn (x.2.2 r) y.2.2 i r (S.1.2.2.2.1.drop q) n with | .inl n => pairOut x.2.2 y.2.2 i S.1.2.2.2.1 (S.1.2.2.1.drop (p + 1)) n | .inr a => a) → mmEnds d M_X8_pair 52 [.ref 160, .int (nI k), .int (nI l), .int i, .int x4, .int n, .int (nI p), .int (nI q), v8, v9] [] μ P := by
      intro m
      induction m with
      | zero =>
        intro q n v8 v9 hq ha
        refine s_X8_pair_52 (by omega) ?_
        rw [w5, nI_1 p]
        refine ⟨fun _ => ?_, fun w => absurd (nI_le (by omega) (by omega)) w⟩
        rw [List.drop_of_length_le (by omega)] at ha
        unfold pairIn at ha
        exact ih (p + 1) n _ _ _ (by omega) ha
      | succ m ihm =>
        intro q n v8 v9 hq ha
        refine s_X8_pair_52 (by omega) ?_
        obtain ⟨s, hs⟩ : ∃ s, S.1.2.2.2.1[q]? = some s := ⟨_, List.getElem?_eq_getElem (by omega)⟩
        have hss := ok1.2 s (List.mem_of_getElem? hs)
        obtain ⟨z3, z4⟩ := y3 s hss
        rw [w5, nI_v0, nI_v1, nI_clamp (show 56 + p < 2 ^ 31 by omega), nI_clamp (show 96 + q < 2 ^ 31 by omega), w56 p r hr, w96 q s hs, nI_plc, nI_plc, nI_136, nI_136, nI_clamp (show 136 + (40 * k + r) < 2 ^ 31 by omega), nI_clamp (show 136 + (40 * l + s) < 2 ^ 31 by omega), nI_clamp (show 40 * k + r < 2 ^ 31 by omega), nI_clamp (show 40 * l + s < 2 ^ 31 by omega), z1, z2, z3, z4, nI_1 q]
        refine ⟨fun w => absurd w (nI_ge (by omega) (by omega)), fun _ => ⟨vp_in_nI (by omega) (by decide), vp_in_nI (by omega) (by decide), vp_in_nI (by omega) (by decide), vp_in_nI (by omega) (by decide), vp_in_nI (by omega) (by decide), vp_in_nI (by omega) (by decide), ?_⟩⟩
        refine m_held hd (ocx.2.2 r hrr).1 (ocy.2.2 s hss).1 ?_
        rw [drop_get hs] at ha
        unfold pairIn at ha
        refine ⟨fun z => ?_, fun z => ⟨fun w => ?_, fun w => ?_⟩⟩
        · rw [if_neg z] at ha
          exact ihm (q + 1) n _ _ (by omega) ha
        · rw [if_pos z, if_neg w] at ha
          exact ihm (q + 1) (n + 1) _ _ (by omega) ha
        · rw [if_pos z, if_pos w] at ha
          subst ha
          exact h
    exact inner _ 0 n _ _ (Nat.zero_add _) ha
theorem m_pair {d : Nat} {c e i : Int32} {S : aS} {μ : mmMem} {K : Int32 → mmMem → Prop} (hd : 5 ≤ d) (hM : MS μ S) (h : ∀ ν, MS ν (sp_pair c e i S).2 → loE μ ν → K (sp_pair c e i S).1 ν) : mmCI d M_X8_pair false 3 [.ref 160, .int c, .int e, .int i] μ K := by
  refine u_X8_pair (by omega) ?_
  unfold sp_pair at h
  refine m_amiss2 (by omega) hM (fun ν q hν hh => ?_) (fun ν q hν hh => ?_)
  · rw [withC2_no q] at h
    exact h ν hν hh
  · obtain ⟨q1, q2⟩ := cref2_0 q
    obtain ⟨k, x, hk, rfl, hx, -⟩ := cref_0 q1
    obtain ⟨l, y, hl, rfl, hy, -⟩ := cref_0 q2
    rw [withC2_ok hk hl q hx hy] at h
    exact m_pairE (S := S) (by omega) hν hx hy _ (h ν hν hh) _ 0 0 _ _ _ (Nat.zero_add _) rfl
