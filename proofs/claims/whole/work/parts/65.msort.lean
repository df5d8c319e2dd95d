/-! ===== the model: sorted ===== -/
theorem m_rankedP {d k r q : Nat} {x : aCol} {T : aT} {μ : mmMem} {K : Int32 → mmMem → Prop} (hd : 5 ≤ d) (hp : prdM μ T) (ok : okT T) (hx : T.2.1[k]? = some x) (hr : r < T.1) (hq : q < T.1) (h : K (aRank (x.2.2 r) (x.2.2 q)) μ) : mmCI d M_X8_ranked_ false 3 [.ref 160, .int (nI k), .int (nI r), .int (nI q)] μ K := by
  refine u_X8_ranked_ (by omega) ?_
  have h40 := ok.1
  have h12 := ok.2.1
  have lk := lt_of_get hx
  obtain ⟨-, -, x3⟩ := hp.2.1 k x hx
  obtain ⟨x4, x5⟩ := x3 r hr
  obtain ⟨y4, y5⟩ := x3 q hq
  have okc := ok.2.2.1 x (List.mem_of_getElem? hx)
  rw [nI_plc, nI_plc, nI_136, nI_136, nI_clamp (show 136 + (40 * k + r) < 2 ^ 31 by omega), nI_clamp (show 136 + (40 * k + q) < 2 ^ 31 by omega), nI_clamp (show 40 * k + r < 2 ^ 31 by omega), nI_clamp (show 40 * k + q < 2 ^ 31 by omega), x4, y4, x5, y5]
  refine ⟨vp_in_nI (by omega) (by decide), vp_in_nI (by omega) (by decide), vp_in_nI (by omega) (by decide), vp_in_nI (by omega) (by decide), ?_⟩
  exact m_ranked (by omega) (okc.2.2 r hr).1 (okc.2.2 q hq).1 h
def keyM (μ : mmMem) (T : aT) : Prop := μ.1 161 2 = nI T.2.2.2.2.1.length ∧ ∀ k q, T.2.2.2.2.1[k]? = some q → μ.1 161 (30 + 2 * k) = nI q.1 ∧ μ.1 161 (31 + 2 * k) = if q.2 = true then 1 else 0
theorem MS.keyM {μ : mmMem} {S : aS} (hM : MS μ S) : keyM μ S.1 := ⟨hM.1.1.2.2.1, hM.1.2.2.2.1⟩
theorem keyM.fr {μ ν : mmMem} {v : Nat} {T : aT} (h : keyM μ T) (ok : okT T) (hv : v < 2) (f : frV μ ν v) : keyM ν T := by
  have l6 := ok.2.2.2.2.2.1
  refine ⟨by rw [f.2 2 (by omega) (by omega)]; exact h.1, fun k q hk => ?_⟩
  have := lt_of_get hk
  rw [f.2 _ (by omega) (by omega), f.2 _ (by omega) (by omega)]
  exact h.2 k q hk
theorem m_isAheadE {d r q : Nat} {T : aT} {μ : mmMem} {P : Option Value → mmMem → Prop} (hd : 5 ≤ d) (hp : prdM μ T) (hk : keyM μ T) (ok : okT T) (hr : r < T.1) (hq : q < T.1) (ans : Bool) (h : P (some (.int (if ans = true then 1 else 0))) μ) : ∀ (j c : Nat) (v4 v5 : Value), T.2.2.2.2.1.length - c = j → c ≤ T.2.2.2.2.1.length → ans = ahead T (T.2.2.2.2.1.drop c) r q → mmEnds d M_X8_isAhead 2 [.ref 160, .int (nI r), .int (nI q), .int (nI c), v4, v5] [] μ P := by
  have l6 := ok.2.2.2.2.2.1
  have h12 := ok.2.1
  intro j
  induction j with
  | zero =>
    intro c v4 v5 hj hc ha
    refine s_X8_isAhead_2 (by omega) ?_
    rw [hk.1]
    rw [List.drop_of_length_le (by omega)] at ha
    subst ha
    exact ⟨fun _ => h, fun w => absurd (nI_le (by omega) (by omega)) w⟩
  | succ j ih =>
    intro c v4 v5 hj hc ha
    refine s_X8_isAhead_2 (by omega) ?_
    obtain ⟨k, hkk⟩ : ∃ k, T.2.2.2.2.1[c]? = some k := ⟨_, List.getElem?_eq_getElem (by omega)⟩
    have hk1 := ok.2.2.2.2.2.2.1 k (List.mem_of_getElem? hkk)
    obtain ⟨col, hcol⟩ : ∃ col, T.2.1[k.1]? = some col := ⟨_, List.getElem?_eq_getElem hk1⟩
    obtain ⟨k4, k5⟩ := hk.2 c k hkk
    obtain ⟨-, c2, -⟩ := hp.2.1 k.1 col hcol
    rw [drop_get hkk] at ha
    unfold ahead at ha
    rw [hcol] at ha
    dsimp only at ha
    have e18 : (18 : Int32) + nI k.1 = nI (18 + k.1) := nI_addr 18 _
    have k5 : μ.1 161 (30 + 2 * c + 1) = if k.2 = true then 1 else 0 := by rw [show 30 + 2 * c + 1 = 31 + 2 * c by omega]; exact k5
    rw [hk.1, hp.1.2.1, nI_30, nI_clamp (show 30 + 2 * c < 2 ^ 31 by omega), k4, e18, nI_clamp (show 18 + k.1 < 2 ^ 31 by omega), c2, nI_1 (30 + 2 * c), nI_clamp (show 30 + 2 * c + 1 < 2 ^ 31 by omega), nI_1 c]
    have v1 : vp_in (nI (30 + 2 * c)) 616 := vp_in_nI (by omega) (by decide)
    have v2 : vp_in (nI (30 + 2 * c + 1)) 616 := vp_in_nI (by omega) (by decide)
    have v3 : vp_in (nI (18 + k.1)) 616 := vp_in_nI (by omega) (by decide)
    refine ⟨fun w => absurd w (nI_ge (by omega) (by omega)), fun _ => ⟨v1, fun w => absurd w (nI_ge hk1 (by omega)), fun _ => ⟨v3, fun w => ?_, fun w => ?_⟩⟩⟩
    · have hg : col.2.1 = true := by
        cases hh : col.2.1 with
        | true => rfl
        | false => rw [hh] at w; exact absurd rfl w
      rw [if_pos hg] at ha
      exact ih (c + 1) _ _ (by omega) (by omega) ha
    · have hg : col.2.1 = false := by
        cases hh : col.2.1 with
        | true => rw [hh] at w; exact absurd w (by decide)
        | false => rfl
      rw [if_neg (by rw [hg]; decide)] at ha
      refine m_rankedP (by omega) hp ok hcol hr hq ?_
      rw [k5]
      refine ⟨fun z => ?_, fun z => ?_⟩
      · rw [if_pos z] at ha
        exact ih (c + 1) _ _ (by omega) (by omega) ha
      · rw [if_neg z] at ha
        cases hk2 : k.2 with
        | true =>
          rw [hk2, if_pos rfl] at ha
          refine ⟨fun l => ⟨v2, fun _ => ?_, fun w => absurd w (by decide)⟩, fun l => ⟨v2, fun _ => ?_, fun w => absurd w (by decide)⟩⟩
          · have : ans = true := by
              rw [ha]
              refine decide_eq_true ?_
              rw [Int32.lt_iff_toInt_lt]
              rw [Int32.le_iff_toInt_le] at l
              have : (aRank (col.2.2 r) (col.2.2 q)).toInt ≠ (0 : Int32).toInt := fun e => z (Int32.toInt_inj.mp e)
              omega
            rw [this] at h
            exact h
          · have : ans = false := by
              rw [ha]
              refine decide_eq_false fun w => l ?_
              rw [Int32.lt_iff_toInt_lt] at w
              rw [Int32.le_iff_toInt_le]
              omega
            rw [this] at h
            exact h
        | false =>
          rw [hk2, if_neg (by decide)] at ha
          refine ⟨fun l => ⟨v2, fun w => absurd rfl w, fun _ => ?_⟩, fun l => ⟨v2, fun w => absurd rfl w, fun _ => ?_⟩⟩
          · have : ans = false := by
              rw [ha]
              exact decide_eq_false (Int32.not_lt.mpr l)
            rw [this] at h
            exact h
          · have : ans = true := by
              rw [ha]
              exact decide_eq_true (Int32.not_le.mp l)
            rw [this] at h
            exact h
theorem m_isAhead {d r q : Nat} {T : aT} {μ : mmMem} {K : Int32 → mmMem → Prop} (hd : 6 ≤ d) (hp : prdM μ T) (hk : keyM μ T) (ok : okT T) (hr : r < T.1) (hq : q < T.1) (h : K (if ahead T T.2.2.2.2.1 r q = true then 1 else 0) μ) : mmCI d M_X8_isAhead false 2 [.ref 160, .int (nI r), .int (nI q)] μ K := by
  refine u_X8_isAhead (by omega) ?_
  exact m_isAheadE (by omega) hp hk ok hr hq _ h _ 0 _ _ rfl (Nat.zero_le _) rfl
def vRow (μ : mmMem) (v : Nat) : Nat → Int32 := fun i => μ.1 161 (56 + 40 * v + i)
theorem vRow_put (μ : mmMem) (v p : Nat) (x : Int32) : vRow (sI μ 161 (56 + 40 * v + p) x) v = fun i => if i = p then x else vRow μ v i := by
  funext i
  unfold vRow
  rw [sI_at]
  by_cases e : i = p
  · rw [if_pos e, if_pos (by omega)]
  · rw [if_neg e, if_neg (by omega)]
theorem m_insE {d v : Nat} {T : aT} {l : List Nat} {P : Option Value → mmMem → Prop} (hd : 6 ≤ d) (hv : v < 2) (ok : okT T) (okl : okV T.1 l) (μ0 : mmMem) (hp : prdM μ0 T) (hk : keyM μ0 T) (h : ∀ (ν : mmMem) (v5 : Value), frV μ0 ν v → ν.1 161 (4 + v) = nI l.length → arr (vRow ν v) (srt (ahead T T.2.2.2.2.1) l) → mmEnds d M_X8_sort 154 [.ref 160, .int (nI v), .int (nI l.length), .int (0 : Int32), .int (0 : Int32), v5] [] ν P) :
    ∀ (rest acc : List Nat) (μ : mmMem) (v4 v5 : Value), acc ≠ [] → acc.length + rest.length = l.length → (∀ r ∈ acc, r < T.1) → (∀ r ∈ rest, r < T.1) → frV μ0 μ v → μ.1 161 (4 + v) = nI l.length → arr (vRow μ v) (acc.reverse ++ rest) → srt (ahead T T.2.2.2.2.1) l = (sortRev (ahead T T.2.2.2.2.1) rest acc).reverse → mmEnds d M_X8_sort 57 [.ref 160, .int (nI v), .int (nI l.length), .int (nI acc.length), v4, v5] [] μ P := by
  have h40 := ok.1
  have hll := okl.len
  intro rest
  induction rest with
  | nil =>
    intro acc μ v4 v5 hne hlen hacc hrest hw h4 harr hs
    refine s_X8_sort_57 (by omega) ?_
    simp only [List.length_nil, Nat.add_zero] at hlen
    refine ⟨fun _ => h μ _ hw h4 ?_, fun w => absurd (nI_le (by omega) (by omega)) w⟩
    rw [hs]
    simpa [sortRev] using harr
  | cons x rest ih =>
    intro acc μ v4 v5 hne hlen hacc hrest hw h4 harr hs
    simp only [List.length_cons] at hlen
    have hx := hrest x List.mem_cons_self
    obtain ⟨hh, hgx⟩ := hole_start harr
    have inner : ∀ (t sh : List Nat) (μ : mmMem), acc = sh ++ t → (∀ y ∈ sh, ahead T T.2.2.2.2.1 x y = true) → frV μ0 μ v → μ.1 161 (4 + v) = nI l.length → hole (vRow μ v) t sh rest → mmEnds d M_X8_sort 73 [.ref 160, .int (nI v), .int (nI l.length), .int (nI acc.length), .int (nI x), .int (nI t.length)] [] μ P := by
      intro t
      induction t with
      | nil =>
        intro sh μ e hsh hw h4 hho
        refine s_X8_sort_73 (by omega) ?_
        simp only [List.length_nil]
        rw [nI_vw, nI_clamp (show 56 + 40 * v + 0 < 2 ^ 31 by omega), nI_1 acc.length]
        refine ⟨fun _ => ⟨vp_in_nI (by omega) (by decide), ?_⟩, fun w => absurd (by decide) w⟩
        have e1 : insRev (ahead T T.2.2.2.2.1) x acc = sh ++ [x] := by rw [e, insRev_app hsh]; rfl
        have := ih (insRev (ahead T T.2.2.2.2.1) x acc) (sI μ 161 (56 + 40 * v + 0) (nI x)) (.int (nI x)) (.int (nI 0)) (by rw [e1]; simp) (by rw [e1, ← hlen, e]; simp; omega) (fun r hr => by
          rw [e1] at hr
          rcases List.mem_append.mp hr with w | w
          · exact hacc r (by rw [e]; exact List.mem_append_left _ w)
          · rw [List.mem_singleton.mp w]; exact hx) (fun r hr => hrest r (List.mem_cons_of_mem _ hr)) (hw.put (by omega)) (by rw [sI_at, if_neg (by omega)]; exact h4) (by
          rw [e1, vRow_put]
          have := hole_end (x := x) hho
          simpa using this) (by rw [hs]; rfl)
        have e3 : (insRev (ahead T T.2.2.2.2.1) x acc).length = acc.length + 1 := by rw [e1, e]; simp
        rw [e3] at this
        exact this
      | cons y t iht =>
        intro sh μ e hsh hw h4 hho
        have hacl : acc.length = sh.length + (t.length + 1) := by rw [e]; simp
        refine s_X8_sort_73 (by omega) ?_
        have ep : nI (t.length + 1) - 1 = nI t.length := nI_pred _
        have em : nI (t.length + 1) + (-1) = nI t.length := nI_pre _
        obtain ⟨hgy, hst⟩ := hole_step hho
        have hgy : μ.1 161 (56 + 40 * v + t.length) = nI y := hgy
        have hy : y < T.1 := hacc y (by rw [e]; simp)
        simp only [List.length_cons]
        rw [ep, em, nI_vw, nI_vw, nI_clamp (show 56 + 40 * v + t.length < 2 ^ 31 by omega), nI_clamp (show 56 + 40 * v + (t.length + 1) < 2 ^ 31 by omega), hgy, nI_1 acc.length]
        refine ⟨fun w => absurd w (nI_nle (by omega) (by omega)), fun _ => ⟨vp_in_nI (by omega) (by decide), ?_⟩⟩
        refine m_isAhead hd (hp.fr ok hv hw) (hk.fr ok hv hw) ok hx hy ?_
        refine ⟨fun z => ⟨vp_in_nI (by omega) (by decide), ?_⟩, fun z => ⟨vp_in_nI (by omega) (by decide), ?_⟩⟩
        · have hA : ahead T T.2.2.2.2.1 x y = false := by
            cases hq : ahead T T.2.2.2.2.1 x y with
            | true => rw [hq] at z; exact absurd z (by decide)
            | false => rfl
          have e1 : insRev (ahead T T.2.2.2.2.1) x acc = sh ++ x :: y :: t := by
            rw [e, insRev_app hsh]
            have e0 : insRev (ahead T T.2.2.2.2.1) x (y :: t) = x :: y :: t := by
              unfold insRev
              rw [if_neg (by rw [hA]; decide)]
            rw [e0]
          have := ih (insRev (ahead T T.2.2.2.2.1) x acc) (sI μ 161 (56 + 40 * v + (t.length + 1)) (nI x)) (.int (nI x)) (.int (nI (t.length + 1))) (by rw [e1]; simp) (by rw [e1, ← hlen, e]; simp; omega) (fun r hr => by
            rw [e1] at hr
            rcases List.mem_append.mp hr with w | w
            · exact hacc r (by rw [e]; exact List.mem_append_left _ w)
            · rcases List.mem_cons.mp w with w | w
              · rw [w]; exact hx
              · exact hacc r (by rw [e]; exact List.mem_append_right _ w)) (fun r hr => hrest r (List.mem_cons_of_mem _ hr)) (hw.put (by omega)) (by rw [sI_at, if_neg (by omega)]; exact h4) (by
            rw [e1, vRow_put]
            exact hole_end (x := x) hho) (by rw [hs]; rfl)
          have e3 : (insRev (ahead T T.2.2.2.2.1) x acc).length = acc.length + 1 := by rw [e1]; simp; omega
          rw [e3] at this
          exact this
        · have hA : ahead T T.2.2.2.2.1 x y = true := by
            cases hq : ahead T T.2.2.2.2.1 x y with
            | true => rfl
            | false => rw [hq] at z; exact absurd rfl z
          rw [hgy]
          refine iht (sh ++ [y]) _ (by rw [e]; simp) (fun z hz => ?_) (hw.put (by omega)) (by rw [sI_at, if_neg (by omega)]; exact h4) ?_
          · rcases List.mem_append.mp hz with w | w
            · exact hsh z w
            · rw [List.mem_singleton.mp w]; exact hA
          · rw [vRow_put]
            exact hst
    refine s_X8_sort_57 (by omega) ?_
    have hgx : μ.1 161 (56 + 40 * v + acc.length) = nI x := hgx
    rw [nI_vw, nI_clamp (show 56 + 40 * v + acc.length < 2 ^ 31 by omega), hgx]
    refine ⟨fun w => absurd w (nI_ge (by omega) (by omega)), fun _ => ⟨vp_in_nI (by omega) (by decide), ?_⟩⟩
    exact inner acc [] μ rfl (fun y hy => absurd hy (by simp)) hw h4 hh
theorem m_sortC {d v : Nat} {l l' : List Nat} {P : Option Value → mmMem → Prop} (hd : 1 ≤ d) (hv : v < 2) (hlen : l'.length = l.length) (hll : l.length ≤ 40) (hb : (∀ r ∈ l, r < 2 ^ 31) ∧ ∀ r ∈ l', r < 2 ^ 31) (μ : mmMem) (hr : arr (vRow μ v) l') (h166 : arr (μ.1 166) l) (h : P (some (.int (nI (cnt (fun i => !(l'[i]? == l[i]?)) l.length)))) μ) : ∀ (j i : Nat) (v5 : Value), i + j = l.length → mmEnds d M_X8_sort 154 [.ref 160, .int (nI v), .int (nI l.length), .int (nI (cnt (fun i => !(l'[i]? == l[i]?)) i)), .int (nI i), v5] [] μ P := by
  intro j
  induction j with
  | zero =>
    intro i v5 hj
    refine s_X8_sort_154 (by omega) ?_
    have e : i = l.length := by omega
    rw [e]
    exact ⟨fun _ => h, fun w => absurd (nI_le (Nat.le_refl _) (by omega)) w⟩
  | succ j ih =>
    intro i v5 hj
    refine s_X8_sort_154 (by omega) ?_
    obtain ⟨r, hr1⟩ : ∃ r, l[i]? = some r := ⟨_, List.getElem?_eq_getElem (by omega)⟩
    obtain ⟨r', hr2⟩ : ∃ r, l'[i]? = some r := ⟨_, List.getElem?_eq_getElem (by omega)⟩
    have := ih (i + 1) v5 (by omega)
    rw [cnt_s] at this
    have g1 : μ.1 161 (56 + 40 * v + i) = nI r' := hr i r' hr2
    rw [nI_clamp (show i < 2 ^ 31 by omega), nI_vw, nI_clamp (show 56 + 40 * v + i < 2 ^ 31 by omega), g1, h166 i r hr1, nI_1 i, nI_1, Int32.add_zero, nI_eq (hb.1 r (List.mem_of_getElem? hr1)) (hb.2 r' (List.mem_of_getElem? hr2))]
    refine ⟨fun w => absurd w (nI_ge (by omega) (by omega)), fun _ => ⟨vp_in_nI (by omega) (by decide), vp_in_nI (by omega) (by decide), fun e => ?_, fun e => ?_⟩⟩
    · rw [if_pos (by simpa [hr1, hr2] using fun w => e (Eq.symm w))] at this; exact this
    · rw [if_neg (by simp [hr1, hr2, e])] at this; exact this
theorem m_sortE {d v : Nat} {l : List Nat} {P : Option Value → mmMem → Prop} (hd : 1 ≤ d) (hv : v < 2) (hll : l.length ≤ 40) (μ0 : mmMem) (hl : enV μ0 v l) (h : ∀ (ν : mmMem), scM μ0 ν → arr (ν.1 166) l → ∀ v4 v5, mmEnds d M_X8_sort 57 [.ref 160, .int (nI v), .int (nI l.length), .int (1 : Int32), v4, v5] [] ν P) : ∀ (j i : Nat) (μ : mmMem) (v4 v5 : Value), i + j = l.length → scM μ0 μ → (∀ y r, y < i → l[y]? = some r → μ.1 166 y = nI r) → mmEnds d M_X8_sort 32 [.ref 160, .int (nI v), .int (nI l.length), .int (nI i), v4, v5] [] μ P := by
  intro j
  induction j with
  | zero =>
    intro i μ v4 v5 hj hs hg
    refine s_X8_sort_32 (by omega) ?_
    exact ⟨fun _ => h μ hs (fun y r hy => hg y r (by have := lt_of_get hy; omega) hy) _ _, fun w => absurd (nI_le (by omega) (by omega)) w⟩
  | succ j ih =>
    intro i μ v4 v5 hj hs hg
    refine s_X8_sort_32 (by omega) ?_
    obtain ⟨r, hr⟩ : ∃ r, l[i]? = some r := ⟨_, List.getElem?_eq_getElem (by omega)⟩
    rw [nI_vw, nI_clamp (show 56 + 40 * v + i < 2 ^ 31 by omega), nI_clamp (show i < 2 ^ 31 by omega), (hs.1 161 (by omega)).1, hl i r hr, nI_1 i]
    refine ⟨fun w => absurd w (nI_ge (by omega) (by omega)), fun _ => ⟨vp_in_nI (by omega) (by decide), vp_in_nI (by omega) (by decide), ?_⟩⟩
    refine ih (i + 1) _ _ _ (by omega) (hs.trans (scM_sI _ _ _ _ (by decide) (by decide))) (fun y q hy hq => ?_)
    rw [sI_at]
    by_cases e : y = i
    · subst e
      rw [hr] at hq
      cases hq
      rw [if_pos rfl]
    · rw [if_neg e]; exact hg y q (by omega) hq
theorem m_sort {d : Nat} {v : Int32} {S : aS} {μ : mmMem} {K : Int32 → mmMem → Prop} (hd : 7 ≤ d) (hM : MS μ S) (h : ∀ ν, MS ν (sp_sort v S).2 → loE μ ν → K (sp_sort v S).1 ν) : mmCI d M_X8_sort false 1 [.ref 160, .int v] μ K := by
  refine u_X8_sort (by omega) ?_
  refine m_isView (by omega) ?_
  unfold sp_sort at h
  by_cases nv : noView v
  · rw [if_pos nv] at h ⊢
    exact ⟨fun w => absurd rfl w, fun _ => h μ hM (loE.refl _)⟩
  · rw [if_neg nv] at h ⊢
    refine ⟨fun _ => ?_, fun w => absurd w (by decide)⟩
    obtain ⟨v, hv, rfl⟩ := view_of nv
    rw [nI_clamp (by omega)] at h
    have l6 := hM.2.1.2.2.2.2.2.1
    have okv := hM.2.1.vw v
    have hln := okv.len
    have h40 := hM.2.1.1
    obtain ⟨g1, g2⟩ := hM.1.vw hv
    rw [hM.1.1.2.2.1, nI_4, nI_clamp (show 4 + v < 2 ^ 31 by omega), g1]
    refine ⟨fun n => ⟨vp_in_nI (by omega) (by decide), ?_⟩, fun e => ?_⟩
    · have hne : ¬ S.1.2.2.2.2.1.length = 0 := fun w => n (by rw [w]; rfl)
      rw [if_neg hne] at h
      have okl' := okv.perm (srt_perm (ahead S.1 S.1.2.2.2.2.1) (getV S.1 v))
      have hlen := (srt_perm (ahead S.1 S.1.2.2.2.2.1) (getV S.1 v)).length_eq
      have b1 : ∀ r ∈ getV S.1 v, r < 2 ^ 31 := fun r hr => by have := okv.2 r hr; omega
      have b2 : ∀ r ∈ srt (ahead S.1 S.1.2.2.2.2.1) (getV S.1 v), r < 2 ^ 31 := fun r hr => by have := okl'.2 r hr; omega
      refine m_sortE (by omega) hv (by omega) μ g2 (fun ν1 s1 a1 v4 v5 => ?_) (getV S.1 v).length 0 μ _ _ (by omega) (scM.refl _) (fun y r hy => absurd hy (Nat.not_lt_zero _))
      have hM1 := hM.sc s1
      have fin : ∀ (ν : mmMem) (v5 : Value), frV ν1 ν v → ν.1 161 (4 + v) = nI (getV S.1 v).length → arr (vRow ν v) (srt (ahead S.1 S.1.2.2.2.2.1) (getV S.1 v)) → mmEnds (d - 1) M_X8_sort 154 [.ref 160, .int (nI v), .int (nI (getV S.1 v).length), .int (0 : Int32), .int (0 : Int32), v5] [] ν (mmPI K) := fun ν v5 f h4 ha => by
        have := m_sortC (d := d - 1) (l := getV S.1 v) (P := mmPI K) (by omega) hv hlen (by omega) ⟨b1, b2⟩ ν ha (fun i r hr => by rw [(f.1 166 (by decide)).1]; exact a1 i r hr) (h ν (hM1.setV hv okl' f (by rw [h4, hlen]) ha) (s1.lo.trans f.lo)) (getV S.1 v).length 0 v5 (by omega)
        rw [cnt_0] at this
        exact this
      obtain ⟨e1, e2⟩ := hM1.1.vw hv
      cases hL : getV S.1 v with
      | nil =>
        refine s_X8_sort_57 (by omega) ?_
        have := fin ν1 v5 (frV.refl _ _) e1 (fun i r hr => by rw [hL] at hr; simp [srt] at hr)
        rw [hL] at this
        exact ⟨fun _ => this, fun w => absurd (by decide) w⟩
      | cons x t =>
        rw [hL] at fin okv e1 e2
        exact m_insE (l := x :: t) (by omega) hv hM.2.1 okv ν1 hM1.prd hM1.keyM (fun ν v5 f h4 ha => fin ν v5 f h4 ha) t [x] ν1 _ _ (by simp) (by simp; omega) (fun r hr => okv.2 r (by simp at hr; simp [hr])) (fun r hr => okv.2 r (List.mem_cons_of_mem _ hr)) (frV.refl _ _) e1 (by simpa using (show arr (vRow ν1 v) (x :: t) from e2)) rfl
    · have he : S.1.2.2.2.2.1.length = 0 := (nI_eq (by omega) (by decide : (0 : Nat) < 2 ^ 31)).mp e
      rw [if_pos he] at h
      exact h μ hM (loE.refl _)
