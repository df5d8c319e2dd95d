/-! ===== the model: the least order of the filters ===== -/
set_option maxRecDepth 100000 in
theorem ub_ok : ∀ u, u < 64 → ∀ f, f < 6 → (((nI u >>> (nI f &&& 31)) &&& (1 : Int32)) = 0 ↔ u ||| 2 ^ f ≠ u) := by decide +kernel
theorem pmk_bit (T : aT) (r : Nat) : ∀ n i, (pmk T r n).testBit i = (decide (i < n) && passI T r i)
  | 0, i => by
    show (0 : Nat).testBit i = _
    rw [Nat.zero_testBit]
    simp
  | n + 1, i => by
    have ih := pmk_bit T r n i
    unfold pmk
    by_cases e : i = n
    · subst e
      have : decide (i < i + 1) = true := decide_eq_true (Nat.lt_succ_self i)
      rw [this, Bool.true_and]
      cases hp : passI T r i with
      | true =>
        rw [if_pos rfl, Nat.testBit_or, Nat.testBit_two_pow]
        simp
      | false =>
        rw [if_neg (by decide), ih]
        simp
    · have : decide (i < n + 1) = decide (i < n) := decide_eq_decide.mpr ⟨fun w => by omega, fun w => by omega⟩
      rw [this]
      split
      · rw [Nat.testBit_or, Nat.testBit_two_pow, ih]
        simp [Ne.symm e]
      · exact ih
theorem and_bit (m u f : Nat) : (m &&& (u ||| 2 ^ f) == (u ||| 2 ^ f)) = ((m &&& u == u) && m.testBit f) := by
  have key : ∀ a : Nat, (m &&& a = a) ↔ ∀ i, a.testBit i = true → m.testBit i = true := fun a => by
    constructor
    · intro e i hi
      have := congrArg (fun x => x.testBit i) e
      simp only [Nat.testBit_and] at this
      rw [hi, Bool.and_true] at this
      exact this
    · intro h
      apply Nat.eq_of_testBit_eq
      intro i
      rw [Nat.testBit_and]
      cases ha : a.testBit i with
      | true => rw [h i ha]; rfl
      | false => rw [Bool.and_false]
  rw [Bool.eq_iff_iff, Bool.and_eq_true, beq_iff_eq, beq_iff_eq, key, key]
  constructor
  · intro h
    refine ⟨fun i hi => h i (by rw [Nat.testBit_or, hi]; rfl), h f ?_⟩
    rw [Nat.testBit_or, Nat.testBit_two_pow]
    simp
  · rintro ⟨h1, h2⟩ i hi
    rw [Nat.testBit_or, Nat.testBit_two_pow, Bool.or_eq_true] at hi
    rcases hi with w | w
    · exact h1 i w
    · have : f = i := by simpa using w
      rw [← this]; exact h2
def bstM (μ : mmMem) (F : Nat) (st : Option (Nat × List Nat)) : Prop := match st with
  | none => μ.1 160 12 = -1
  | some y => μ.1 160 12 = nI y.1 ∧ y.1 ≤ 4000 ∧ y.2.length = F ∧ ∀ i x, y.2[i]? = some x → μ.1 169 i = nI x
def trM (μ : mmMem) (tr : List Nat) : Prop := ∀ i x, tr[i]? = some x → μ.1 170 i = nI x
theorem bstM.fr {μ ν : mmMem} {F : Nat} {st : Option (Nat × List Nat)} (h : bstM μ F st) (e1 : ν.1 160 12 = μ.1 160 12) (e2 : ν.1 169 = μ.1 169) : bstM ν F st := by
  cases st with
  | none => exact e1.trans h
  | some y => exact ⟨e1.trans h.1, h.2.1, h.2.2.1, fun i x hx => by rw [e2]; exact h.2.2.2 i x hx⟩
theorem m_ordC {d k F : Nat} {x2 : Int32} {x3 : Int64} {x5 : Int32} {tr : List Nat} {P : Option Value → mmMem → Prop} (hF : F ≤ 6) (hk : k = F) (hl : tr.length = k) (μ0 : mmMem) (ht : trM μ0 tr) (h : ∀ ν, scM μ0 ν → ν.1 160 12 = μ0.1 160 12 → ν.2.1 168 = μ0.2.1 168 → trM ν tr → (∀ i x, tr[i]? = some x → ν.1 169 i = nI x) → P none ν) : ∀ (j i : Nat) (μ : mmMem), i + j = k → scM μ0 μ → μ.1 160 12 = μ0.1 160 12 → μ.2.1 168 = μ0.2.1 168 → trM μ tr → (∀ z x, z < i → tr[z]? = some x → μ.1 169 z = nI x) → mmEnds d M_X8_orders 35 [.ref 160, .int (nI k), .int x2, .long x3, .retAddr 7, .int x5, .int (nI i)] [] μ P := by
  intro j
  induction j with
  | zero =>
    intro i μ hj hs e12 e168 htr hg
    refine s_X8_orders_35 (by omega) ?_
    exact ⟨fun _ => h μ hs e12 e168 htr (fun z x hx => hg z x (by have := lt_of_get hx; omega) hx), fun w => absurd (nI_le (by omega) (by omega)) w⟩
  | succ j ih =>
    intro i μ hj hs e12 e168 htr hg
    refine s_X8_orders_35 (by omega) ?_
    obtain ⟨x, hx⟩ : ∃ x, tr[i]? = some x := ⟨_, List.getElem?_eq_getElem (by omega)⟩
    rw [nI_clamp (show i < 2 ^ 31 by omega), htr i x hx, nI_1 i]
    refine ⟨fun w => absurd w (nI_ge (by omega) (by omega)), fun _ => ⟨vp_in_nI (by omega) (by decide), ?_⟩⟩
    refine ih (i + 1) _ (by omega) (hs.trans (scM_sI _ _ _ _ (by decide) (by decide))) (by rw [sI_1 _ _ _ _ _ (by decide)]; exact e12) e168 (fun z y hz => by rw [sI_1 _ _ _ _ _ (by decide)]; exact htr z y hz) (fun z y hz hy => ?_)
    rw [sI_at]
    by_cases e : z = i
    · subst e
      rw [hx] at hy
      cases hy
      rw [if_pos rfl]
    · rw [if_neg e]; exact hg z y (by omega) hy
theorem m_orders {v F : Nat} {S : aS} (okv : okV S.1.1 (getV S.1 v)) (h40 : S.1.1 ≤ 40) (hF : F = S.1.2.2.2.2.2.length) (hF6 : F ≤ 6) : ∀ (n : Nat) {d k u c : Nat} {tr : List Nat} {st : Option (Nat × List Nat)} {left : Int64} {μ : mmMem} {K : mmMem → Prop}, n + 3 ≤ d → kU F u k → k + n = F → tr.length = k → c ≤ 40 * k → trM μ tr → bstM μ F st → bsI left (fun r => inL (getV S.1 v) r && (pmk S.1 r F &&& u == u)) → MS μ S → setsM μ S.1 (getV S.1 v) → (∀ ν, scM μ ν → setsM ν S.1 (getV S.1 v) → trM ν tr → bstM ν F (updB st (c + fullW F (leftF S.1 (getV S.1 v)) u, tr ++ gdy F (leftF S.1 (getV S.1 v)) (fullW F (leftF S.1 (getV S.1 v))) n u)) → K ν) → mmC0 d M_X8_orders false 4 [.ref 160, .int (nI k), .int (nI u), .long left, .int (nI c)] μ K := by
  have p64 : 2 ^ F ≤ 64 := pow_64 hF6
  have hLle : ∀ s, leftF S.1 (getV S.1 v) s ≤ 40 := fun s => by have := leftF_le S.1 (getV S.1 v) s; have := okv.len; omega
  have hWle : ∀ s, fullW F (leftF S.1 (getV S.1 v)) s ≤ 2560 := fun s => by
    have := fwF_le (F := F) hLle (2 ^ F - 1) s
    unfold fullW
    omega
  intro n
  induction n with
  | zero =>
    intro d k u c tr st left μ K hd hu hk hl hc ht hb hx hM hs h
    have ek : k = F := by omega
    refine u_X8_orders (by omega) ?_
    have hfull : 2 ^ F ≤ u + 1 := by
      rw [ek] at hu
      rw [hu.full]
      exact Nat.le_refl _
    have w0 : fullW F (leftF S.1 (getV S.1 v)) u = 0 := fwF_full hfull _
    rw [w0] at h
    have h : ∀ ν, scM μ ν → setsM ν S.1 (getV S.1 v) → trM ν tr → bstM ν F (updB st (c, tr)) → K ν := fun ν a b e f => h ν a b e (by
      rw [Nat.add_zero, show tr ++ gdy F (leftF S.1 (getV S.1 v)) (fullW F (leftF S.1 (getV S.1 v))) 0 u = tr from List.append_nil _]
      exact f)
    have copy : (updB st (c, tr) = some (c, tr)) → mmEnds (d - 1) M_X8_orders 35 [.ref 160, .int (nI k), .int (nI u), .long left, .retAddr 7, .int (nI c), .int (0 : Int32)] [] (sI μ 160 12 (nI c)) (mmP0 K) := fun eu => by
      have u0 : scM μ (sI μ 160 12 (nI c)) := scM_own _ _ _ (by decide) (by decide)
      have t0 : trM (sI μ 160 12 (nI c)) tr := fun i x hx => by rw [sI_1 _ _ _ _ _ (by decide)]; exact ht i x hx
      refine m_ordC (F := F) hF6 ek hl _ t0 (fun ν u1 e12 e168 t1 g => ?_) k 0 _ (Nat.zero_add _) (scM.refl _) rfl rfl t0 (fun z x hz => absurd hz (Nat.not_lt_zero _))
      refine h ν (u0.trans u1) ?_ t1 ?_
      · unfold setsM
        rw [e168, sI_21]
        exact hs
      · rw [eu]
        exact ⟨by rw [e12, sI_at, if_pos rfl], by show c ≤ 4000; omega, by show tr.length = F; omega, g⟩
    rw [hM.1.1.2.2.2, ← hF]
    refine ⟨fun w => absurd (by rw [ek]) w, fun _ => ?_⟩
    cases st with
    | none =>
      have hb : μ.1 160 12 = -1 := hb
      rw [hb]
      exact ⟨fun _ => copy rfl, fun w => absurd (by decide) w⟩
    | some y =>
      obtain ⟨b1, b2, b3, b4⟩ := hb
      rw [b1]
      refine ⟨fun w => absurd w (nI_pos (by omega)), fun _ => ⟨fun w => ?_, fun w => ?_⟩⟩
      · have hle := (nI_leI (by omega) (by omega)).mp w
        have eu : updB (some y) (c, tr) = some y := if_neg (by show ¬ c < y.1; omega)
        rw [eu] at h
        exact h μ (scM.refl _) hs ht ⟨b1, b2, b3, b4⟩
      · have hlt : c < y.1 := Nat.not_le.mp fun q => w ((nI_leI (by omega) (by omega)).mpr q)
        exact copy (if_pos hlt)
  | succ n ih =>
    intro d k u c tr st left μ K hd hu hk hl hc ht hb hx hM hs h
    refine u_X8_orders (by omega) ?_
    have hkF : k < F := by omega
    rw [hM.1.1.2.2.2, ← hF]
    refine ⟨fun _ => ?_, fun w => ?_⟩
    · have hend := stB_end (F := F) (L := leftF S.1 (getV S.1 v)) (W := fullW F (leftF S.1 (getV S.1 v))) (n := n) (u := u) (c := c) (tr := tr) (st := st) (fullW_eq (hu.lt hkF)) (hu.ex hkF)
      have loop : ∀ (j f : Nat) (μ1 : mmMem), f + j = F → scM μ μ1 → setsM μ1 S.1 (getV S.1 v) → trM μ1 tr → bstM μ1 F (stB F (leftF S.1 (getV S.1 v)) (fullW F (leftF S.1 (getV S.1 v))) n u c tr st f) → mmEnds (d - 1) M_X8_orders 65 [.ref 160, .int (nI k), .int (nI u), .long left, .retAddr 7, .int (nI c), .int (nI f)] [] μ1 (mmP0 K) := by
        intro j
        induction j with
        | zero =>
          intro f μ1 hj s1 m1 t1 b1
          refine s_X8_orders_65 (by omega) ?_
          have e : f = F := by omega
          subst e
          rw [(hM.sc s1).1.1.2.2.2, ← hF]
          refine ⟨fun _ => h μ1 s1 m1 t1 ?_, fun w => absurd (nI_le (Nat.le_refl _) (by omega)) w⟩
          rw [hend.1] at b1
          exact b1
        | succ j ihj =>
          intro f μ1 hj s1 m1 t1 b1
          refine s_X8_orders_65 (by omega) ?_
          have hfF : f < F := by omega
          have hu64 : u < 64 := by have := hu.1; omega
          have ub := ub_ok u hu64 f (by omega)
          have next := ihj (f + 1)
          unfold stB at next
          rw [(hM.sc s1).1.1.2.2.2, ← hF, so_or u hu64 f (by omega), nI_clamp (show k < 2 ^ 31 by omega), nI_clamp (show f < 2 ^ 31 by omega), nI_1 f, nI_1 k]
          refine ⟨fun w => absurd w (nI_ge hfF (by omega)), fun _ => ⟨fun w => ?_, fun w => ⟨vp_in_nI (by omega) (by decide), vp_in_nI (by omega) (by decide), ?_⟩⟩⟩
          · have e : u ||| 2 ^ f = u := Classical.not_not.mp fun z => w (ub.mpr z)
            rw [if_pos e] at next
            exact next μ1 (by omega) s1 m1 t1 b1
          · have ne := ub.mp w
            rw [if_neg ne] at next
            refine m_many (by omega) hx ?_
            have eL : cnt (fun r => inL (getV S.1 v) r && (pmk S.1 r F &&& u == u)) 40 = leftF S.1 (getV S.1 v) u := by
              rw [cnt_filter (fun r => pmk S.1 r F &&& u == u) okv.1 (fun r hr => by have := okv.2 r hr; omega)]
              unfold leftF
              rw [← hF]
            rw [eL, nI_add]
            have hLu := hLle u
            have u1 : scM μ1 (sI μ1 170 k (nI f)) := scM_sI _ _ _ _ (by decide) (by decide)
            have lf := m1.2 f (by omega)
            refine ih (d := d - 1) (k := k + 1) (u := u ||| 2 ^ f) (c := c + leftF S.1 (getV S.1 v) u) (tr := tr ++ [f]) (by omega) (hu.next hfF ne) (by omega) (by rw [List.length_append]; simp [hl]) (by omega) ?_ (b1.fr (by rw [sI_1 _ _ _ _ _ (by decide)]) (sI_1 _ _ _ _ _ (by decide))) ?_ ((hM.sc s1).sc u1) m1 (fun ν u2 m2 t2 b2 => ?_)
            · intro i x hi
              rw [sI_at]
              by_cases e : i = k
              · subst e
                rw [List.getElem?_append_right (by omega), hl, Nat.sub_self] at hi
                rw [if_pos rfl]
                have hi : f = x := Option.some.inj hi
                rw [hi]
              · have hlt := lt_of_get hi
                rw [List.length_append] at hlt
                have hlt : i < tr.length + 1 := hlt
                rw [if_neg e]
                rw [List.getElem?_append_left (by omega)] at hi
                exact t1 i x hi
            · refine (hx.and lf).congr fun r hr => ?_
              rw [and_bit, pmk_bit, decide_eq_true hfF, Bool.true_and]
              cases hi : inL (getV S.1 v) r with
              | false => simp
              | true =>
                have hm : r ∈ getV S.1 v := by unfold inL at hi; exact List.contains_iff_mem.mp hi
                have := okv.2 r hm
                simp [this]
            · exact next ν (by omega) ((s1.trans u1).trans u2) m2 (fun i x hi => t2 i x (by rw [List.getElem?_append_left (lt_of_get hi)]; exact hi)) b2
      exact loop F 0 μ (Nat.zero_add _) (scM.refl _) hs ht hb
    · exfalso
      have := (nI_eq (by omega) (by omega)).mp w
      omega
theorem m_order {d : Nat} {v k : Int32} {S : aS} {μ : mmMem} {K : Int32 → mmMem → Prop} (hd : 10 ≤ d) (hM : MS μ S) (h : ∀ ν, MS ν (sp_order v k S).2 → loE μ ν → K (sp_order v k S).1 ν) : mmCI d M_X8_order false 2 [.ref 160, .int v, .int k] μ K := by
  refine u_X8_order (by omega) ?_
  refine m_isView (by omega) ?_
  unfold sp_order at h
  by_cases nv : noView v
  · rw [if_pos nv] at h ⊢
    exact ⟨fun _ => h μ hM (loE.refl _), fun w => absurd rfl w⟩
  · rw [if_neg nv] at h ⊢
    refine ⟨fun w => absurd w (by decide), fun _ => ?_⟩
    obtain ⟨v, hv, rfl⟩ := view_of nv
    rw [nI_clamp (by omega)] at h
    have okv := hM.2.1.vw v
    have h40 := hM.2.1.1
    have l8 := hM.2.1.2.2.2.2.2.2.2.1
    obtain ⟨F, hF⟩ : ∃ F, F = S.1.2.2.2.2.2.length := ⟨_, rfl⟩
    rw [hM.1.1.2.2.2]
    rw [← hF] at h l8 ⊢
    have i2 : (nI F).toInt = (F : Int) := nI_toInt (by omega)
    have i1 : (nI F - 1).toInt = (F : Int) - 1 := by
      have : ∀ n, n < 7 → (nI n - 1).toInt = (n : Int) - 1 := by decide +kernel
      exact this F (by omega)
    have em : (-1 : Int32).toInt = -1 := rfl
    have e0 : (0 : Int32).toInt = 0 := rfl
    refine m_isInI (a := -1) (b := nI F - 1) (by omega) rfl rfl ?_
    by_cases q : ¬ k < -1 ∧ ¬ nI F - 1 < k
    · rw [if_pos q]
      refine ⟨fun _ => ?_, fun w => absurd w (by decide)⟩
      have hlt : k < nI F := by
        have := q.2
        rw [Int32.lt_iff_toInt_lt, i1] at this
        rw [Int32.lt_iff_toInt_lt, i2]
        omega
      rw [if_neg (by rintro (w | w); exact q.1 w; exact w hlt)] at h
      refine m_lays (by omega) hv hM (fun ν u sm => ?_)
      have hM1 := hM.sc u
      have u1 : scM ν (sI ν 160 12 (-1)) := scM_own _ _ _ (by decide) (by decide)
      have hx : bsI (ν.2.1 168 6) (fun r => inL (getV S.1 v) r && (pmk S.1 r F &&& 0 == 0)) := sm.1.congr fun r _ => by simp
      refine m_orders (v := v) (S := S) okv h40 hF (by omega) F (k := 0) (u := 0) (c := 0) (tr := []) (st := none) (by omega) (kU.zero F) (Nat.zero_add _) rfl (Nat.zero_le _) (fun i x hi => by cases hi) (by show (sI ν 160 12 (-1)).1 160 12 = -1; rw [sI_at, if_pos rfl]) hx (hM1.sc u1) sm (fun ν2 u2 m2 t2 b2 => ?_)
      have hM2 := (hM1.sc u1).sc u2
      have lo2 : loE μ ν2 := ((u.trans u1).trans u2).lo
      obtain ⟨b1, b2, b3, b4⟩ := b2
      have b1 : ν2.1 160 12 = nI (fullW F (leftF S.1 (getV S.1 v)) 0) := by rw [b1, Nat.zero_add]
      refine ⟨fun p => ?_, fun p => ?_⟩
      · have n1 : ¬ k = -1 := fun e => by rw [e] at p; exact absurd p (by decide)
        rw [if_neg n1] at h
        have hnn : ¬ k < 0 := Int32.not_lt.mpr p
        obtain ⟨j, hj, rfl⟩ := nI_of hnn
        have hl : j < F := (nI_ltI hj (by omega)).mp hlt
        rw [nI_clamp hj] at h ⊢
        refine ⟨vp_in_nI (by omega) (by decide), ?_⟩
        have g := gdy_at (F := F) (L := leftF S.1 (getV S.1 v)) (W := fullW F (leftF S.1 (getV S.1 v))) (fun s hs => fullW_eq hs) F j 0 0 0 hl (kU.zero F) (Nat.zero_add _)
        rw [b4 j _ g]
        have := h ν2 hM2 lo2
        unfold fewF at this
        rw [← hF] at this
        exact this
      · have e1 : k = -1 := by
          apply Int32.toInt_inj.mp
          have a1 := q.1
          rw [Int32.lt_iff_toInt_lt, em] at a1
          rw [Int32.le_iff_toInt_le, e0] at p
          rw [em]
          omega
        rw [if_pos e1] at h
        rw [b1]
        have := h ν2 hM2 lo2
        unfold fewF at this
        rw [← hF] at this
        exact this
    · rw [if_neg q]
      refine ⟨fun w => absurd rfl w, fun _ => ?_⟩
      have w : k < -1 ∨ ¬ k < nI F := by
        by_cases w : k < -1
        · exact Or.inl w
        · right
          intro w2
          apply q
          refine ⟨w, ?_⟩
          rw [Int32.lt_iff_toInt_lt, i2] at w2
          rw [Int32.lt_iff_toInt_lt, i1]
          omega
      rw [if_pos w] at h
      exact h μ hM (loE.refl _)
