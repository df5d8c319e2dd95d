/-! ===== the class: looked, run, pair, group ===== -/
def stood (T : aT) : List aFil → Nat → Nat
  | [], _ => 0
  | f :: t, r => if aPass T f r = true then stood T t r + 1 else 0
theorem stood_le (T : aT) : ∀ (l : List aFil) (r : Nat), stood T l r ≤ l.length
  | [], _ => Nat.le_refl _
  | f :: t, r => by
    unfold stood
    have := stood_le T t r
    split <;> simp <;> omega
theorem CS.fil {μ : mmMem} {S : aS} (h : CS μ S) {i : Nat} {f : aFil} (hf : S.1.2.2.2.2.2[i]? = some f) : filC μ (59 + 2 * i) f ∧ okFil S.1.2.1.length f ∧ i < 6 := by
  have h9 := h.1.2.2.2.2 i f hf
  rw [show 1 + 58 + 2 * i = 59 + 2 * i by omega, show 1 + 59 + 2 * i = 59 + 2 * i + 1 by omega] at h9
  have := lt_of_get hf
  have := h.2.1.2.2.2.2.2.2.2.1
  exact ⟨h9, h.2.1.2.2.2.2.2.2.2.2 f (List.mem_of_getElem? hf), by omega⟩
theorem c_stoodE {d r : Nat} {S : aS} {P : Option Value → mmMem → Prop} (hd : 5 ≤ d) (hr : r < S.1.1) : ∀ (j i : Nat) (μ : mmMem), S.1.2.2.2.2.2.length - i = j → i ≤ S.1.2.2.2.2.2.length → CS μ S → (∀ ν, (∀ z, z ≠ 152 → eq3 μ ν z) → P (some (.int (nI (i + stood S.1 (S.1.2.2.2.2.2.drop i) r)))) ν) → mmEnds d M_X7_filtersStood 2 [.ref 0, .int (nI r), .int (nI i)] [] μ P := by
  intro j
  induction j with
  | zero =>
    intro i μ hj hi hC h
    have hfl := hC.2.1.2.2.2.2.2.2.2.1
    refine s_X7_filtersStood_2 (by omega) ?_
    rw [hC.1.1.2.2.2]
    rw [List.drop_of_length_le (by omega)] at h
    exact ⟨fun _ => h μ (fun z _ => eq3.rfl'), fun w => absurd (nI_le (by omega) (by omega)) w⟩
  | succ j ih =>
    intro i μ hj hi hC h
    have hfl := hC.2.1.2.2.2.2.2.2.2.1
    obtain ⟨f, hf⟩ : ∃ f, S.1.2.2.2.2.2[i]? = some f := ⟨_, List.getElem?_eq_getElem (by omega)⟩
    obtain ⟨f1, f2, f3⟩ := hC.fil hf
    refine s_X7_filtersStood_2 (by omega) ?_
    rw [drop_get hf] at h
    unfold stood at h
    rw [hC.1.1.2.2.2, nI_clamp (by omega), nI_1]
    refine ⟨fun w => absurd w (nI_ge (by omega) (by omega)), fun _ => ⟨vp_in_nI f3 (by decide), ?_⟩⟩
    refine c_passes (by omega) (kfil i f3).1 (by omega) (by omega) hC f1 f2 hr (fun ν g => ?_)
    have s1 : scr μ ν := ⟨fun q hq => g q (by omega), by rw [(g 141 (by omega)).1]⟩
    cases hp : aPass S.1 f r with
    | true =>
      rw [hp, if_pos rfl] at h
      refine ⟨fun w => absurd w (by decide), fun _ => ?_⟩
      refine ih (i + 1) ν (by omega) (by omega) (hC.scr s1) (fun ν2 g2 => ?_)
      rw [show i + 1 + stood S.1 (S.1.2.2.2.2.2.drop (i + 1)) r = i + (stood S.1 (S.1.2.2.2.2.2.drop (i + 1)) r + 1) by omega]
      exact h ν2 (fun z hz => (g z hz).trans (g2 z hz))
    | false =>
      rw [hp, if_neg (by decide)] at h
      exact ⟨fun _ => h ν g, fun w => absurd rfl w⟩
theorem c_stood {d r : Nat} {S : aS} {μ : mmMem} {K : Int32 → mmMem → Prop} (hd : 6 ≤ d) (hr : r < S.1.1) (hC : CS μ S) (h : ∀ ν, (∀ z, z ≠ 152 → eq3 μ ν z) → K (nI (stood S.1 S.1.2.2.2.2.2 r)) ν) : mmCI d M_X7_filtersStood false 1 [.ref 0, .int (nI r)] μ K := by
  refine u_X7_filtersStood (by omega) ?_
  refine c_stoodE (by omega) hr _ 0 μ rfl (Nat.zero_le _) hC (fun ν g => ?_)
  rw [Nat.zero_add, List.drop_zero]
  exact h ν g
def look1 (T : aT) (r : Nat) : Nat := if stood T T.2.2.2.2.2 r < T.2.2.2.2.2.length then stood T T.2.2.2.2.2 r + 1 else stood T T.2.2.2.2.2 r
def sp_looked (v : Int32) (S : aS) : Int32 × aS := if noView v then (-1, S) else (nI ((getV S.1 v.toNatClampNeg).map (look1 S.1)).sum, S)
theorem look1_le {T : aT} (ok : okT T) (r : Nat) : look1 T r ≤ 6 := by
  have h1 := stood_le T T.2.2.2.2.2 r
  have h2 := ok.2.2.2.2.2.2.2.1
  unfold look1
  split <;> omega
theorem sum_le {f : Nat → Nat} {m : Nat} (h : ∀ r, f r ≤ m) : ∀ l : List Nat, (l.map f).sum ≤ l.length * m
  | [] => by simp
  | x :: t => by
    have := sum_le h t
    have := h x
    simp only [List.map_cons, List.sum_cons, List.length_cons, Nat.add_mul, Nat.one_mul]
    omega
theorem c_lookedE {d v : Nat} {S : aS} {P : Option Value → mmMem → Prop} (hd : 7 ≤ d) (hv : v < 2) (x1 : Int32) : ∀ (j i : Nat) (μ : mmMem) (v5 : Value), (getV S.1 v).length - i = j → i ≤ (getV S.1 v).length → CS μ S → (∀ ν, scr μ ν → P (some (.int (nI ((getV S.1 v).map (look1 S.1)).sum))) ν) → mmEnds d M_X7_looked 24 [.ref 0, .int x1, .ref (55 + 2 * v), .int (nI (((getV S.1 v).take i).map (look1 S.1)).sum), .int (nI i), v5] [] μ P := by
  intro j
  induction j with
  | zero =>
    intro i μ v5 hj hi hC h
    have okv := hC.2.1.vw v
    have hln := okv.len
    have h40 := hC.2.1.1
    have hvw := hC.1.vw hv
    refine s_X7_looked_24 (by omega) (kvw v hv).1 ?_
    rw [hvw.1]
    rw [List.take_of_length_le (by omega)]
    exact ⟨fun _ => h μ (scr.refl μ), fun w => absurd (nI_le (by omega) (by omega)) w⟩
  | succ j ih =>
    intro i μ v5 hj hi hC h
    have okv := hC.2.1.vw v
    have hln := okv.len
    have h40 := hC.2.1.1
    have hfl := hC.2.1.2.2.2.2.2.2.2.1
    have hvw := hC.1.vw hv
    obtain ⟨r, hr⟩ : ∃ r, (getV S.1 v)[i]? = some r := ⟨_, List.getElem?_eq_getElem (by omega)⟩
    have hrr := okv.2 r (List.mem_of_getElem? hr)
    have ht : (getV S.1 v).take (i + 1) = (getV S.1 v).take i ++ [r] := by rw [List.take_add_one, hr]; rfl
    refine s_X7_looked_24 (by omega) (kvw v hv).1 ?_
    rw [hvw.1, nI_clamp (by omega), hvw.2 i r hr, nI_1]
    refine ⟨fun w => absurd w (nI_ge (by omega) (by omega)), fun _ => ⟨vp_in_nI (by omega) (by decide), ?_⟩⟩
    refine c_stood (by omega) hrr hC (fun ν g => ?_)
    have s1 : scr μ ν := ⟨fun q hq => g q (by omega), by rw [(g 141 (by omega)).1]⟩
    have hC2 := hC.scr s1
    have hs := stood_le S.1 S.1.2.2.2.2.2 r
    rw [hC2.1.1.2.2.2, nI_leI (by omega) (by omega), nI_1, nI_add, nI_add]
    have go := fun v6 => ih (i + 1) ν v6 (by omega) (by omega) hC2 (fun ν2 s2 => h ν2 (s1.trans s2))
    have e : (((getV S.1 v).take (i + 1)).map (look1 S.1)).sum = (((getV S.1 v).take i).map (look1 S.1)).sum + look1 S.1 r := by rw [ht]; simp
    rw [e] at go
    refine ⟨fun w => ?_, fun w => ?_⟩
    · have : look1 S.1 r = stood S.1 S.1.2.2.2.2.2 r := if_neg (by omega)
      rw [this] at go
      exact go _
    · have : look1 S.1 r = stood S.1 S.1.2.2.2.2.2 r + 1 := if_pos (by omega)
      rw [this] at go
      exact go _
theorem c_looked {d : Nat} {v : Int32} {S : aS} {μ : mmMem} {K : Int32 → mmMem → Prop} (hd : 8 ≤ d) (hC : CS μ S) (h : ∀ ν, CS ν (sp_looked v S).2 → hiE μ ν → K (sp_looked v S).1 ν) : mmCI d M_X7_looked false 1 [.ref 0, .int v] μ K := by
  refine u_X7_looked (by omega) ?_
  unfold sp_looked at h
  have bad : noView v → K (-1) μ := fun w => by
    rw [if_pos w] at h
    exact h μ hC (hiE.refl _)
  refine ⟨fun a => bad (Or.inl a), fun a => ⟨fun b => bad (Or.inr b), fun b => ?_⟩⟩
  have nv : ¬ noView v := by rintro (w | w); exact a w; exact b w
  rw [if_neg nv] at h
  obtain ⟨v, hv, rfl⟩ := view_of nv
  rw [nI_clamp (by omega)] at h ⊢
  exact c_lookedE (S := S) (by omega) hv _ _ 0 μ _ rfl (Nat.zero_le _) hC (fun ν s => h ν (hC.scr s) s.hi)
def pAll (T : aT) (r : Nat) : Bool := stood T T.2.2.2.2.2 r == T.2.2.2.2.2.length
def sp_run (v : Int32) (S : aS) : Int32 × aS := if noView v then (-1, S) else (nI ((getV S.1 v.toNatClampNeg).filter (pAll S.1)).length, sT S (setV S.1 v.toNatClampNeg ((getV S.1 v.toNatClampNeg).filter (pAll S.1))))
theorem c_runE {d v : Nat} {S : aS} {K : Int32 → mmMem → Prop} (hd : 7 ≤ d) (hv : v < 2) (x1 : Int32) (μ0 : mmMem) (h : ∀ ν, CS ν (sT S (setV S.1 v ((getV S.1 v).filter (pAll S.1)))) → hiE μ0 ν → K (nI ((getV S.1 v).filter (pAll S.1)).length) ν) : ∀ (j i : Nat) (μ : mmMem), (getV S.1 v).length - i = j → i ≤ (getV S.1 v).length → CS μ S → hiE μ0 μ → (∀ j r, j < i → (getV S.1 v)[j]? = some r → μ.1 156 j = if pAll S.1 r = true then 1 else 0) → mmEnds d M_X7_run 21 [.ref 0, .int x1, .ref (55 + 2 * v), .int (nI i)] [] μ (mmPI K) := by
  intro j
  induction j with
  | zero =>
    intro i μ hj hi hC hh hs
    have hvw := hC.1.vw hv
    have okv := hC.2.1.vw v
    have hln := okv.len
    have h40 := hC.2.1.1
    refine s_X7_run_21 (by omega) (kvw v hv).1 ?_
    rw [hvw.1]
    refine ⟨fun _ => ?_, fun w => absurd (nI_le (by omega) (by omega)) w⟩
    refine c_keepThose (p := pAll S.1) (by omega) (kvw v hv).1 (by omega) (by omega) hvw (fun i2 r hr => hs i2 r (by have := lt_of_get hr; omega) hr) (fun ν f1 g1 => ?_)
    rw [g1.1]
    exact h ν (hC.setV hv (fun q h1 h2 _ => f1.1 q h1 (by omega)) (by rw [(f1.1 141 (by omega) (by omega)).1]) g1 (okv.filter _)) (hh.trans fun q hq => f1.1 q (by omega) (by omega))
  | succ j ih =>
    intro i μ hj hi hC hh hs
    have hvw := hC.1.vw hv
    have okv := hC.2.1.vw v
    have hln := okv.len
    have h40 := hC.2.1.1
    have hfl := hC.2.1.2.2.2.2.2.2.2.1
    refine s_X7_run_21 (by omega) (kvw v hv).1 ?_
    obtain ⟨r, hr⟩ : ∃ r, (getV S.1 v)[i]? = some r := ⟨_, List.getElem?_eq_getElem (by omega)⟩
    have hrr := okv.2 r (List.mem_of_getElem? hr)
    rw [hvw.1, nI_clamp (by omega), hvw.2 i r hr, nI_1]
    refine ⟨fun w => absurd w (nI_ge (by omega) (by omega)), fun _ => ⟨vp_in_nI (by omega) (by decide), ?_⟩⟩
    refine c_stood (by omega) hrr hC (fun ν g => ?_)
    have s1 : scr μ ν := ⟨fun q hq => g q (by omega), by rw [(g 141 (by omega)).1]⟩
    have hC2 := hC.scr s1
    have hsl := stood_le S.1 S.1.2.2.2.2.2 r
    have hs1 : ∀ j r, j < i → (getV S.1 v)[j]? = some r → ν.1 156 j = if pAll S.1 r = true then 1 else 0 := fun j r h1 h2 => by rw [(g 156 (by decide)).1]; exact hs j r h1 h2
    have hs2 := stays_upd hr hs1
    have e : (getV S.1 v).getD i 0 = r := by rw [List.getD_eq_getElem?_getD, hr]; rfl
    rw [e] at hs2
    have s2 := s1.trans (scr_156 ν i (vp_nar .boolean (if pAll S.1 r = true then 1 else 0)))
    have := ih (i + 1) _ (by omega) (by omega) (hC.scr s2) (hh.trans s2.hi) hs2
    rw [hC2.1.1.2.2.2, nI_eq (by omega) (by omega)]
    refine ⟨fun w => ?_, fun w => ?_⟩
    · have hp : pAll S.1 r = false := by simpa [pAll] using w
      rw [hp] at this
      exact this
    · have hp : pAll S.1 r = true := by simpa [pAll] using w
      rw [hp] at this
      exact this
theorem c_run {d : Nat} {v : Int32} {S : aS} {μ : mmMem} {K : Int32 → mmMem → Prop} (hd : 8 ≤ d) (hC : CS μ S) (h : ∀ ν, CS ν (sp_run v S).2 → hiE μ ν → K (sp_run v S).1 ν) : mmCI d M_X7_run false 1 [.ref 0, .int v] μ K := by
  refine u_X7_run (by omega) ?_
  unfold sp_run at h
  have bad : noView v → K (-1) μ := fun w => by
    rw [if_pos w] at h
    exact h μ hC (hiE.refl _)
  refine ⟨fun a => bad (Or.inl a), fun a => ⟨fun b => bad (Or.inr b), fun b => ?_⟩⟩
  have nv : ¬ noView v := by rintro (w | w); exact a w; exact b w
  rw [if_neg nv] at h
  obtain ⟨v, hv, rfl⟩ := view_of nv
  rw [nI_clamp (by omega)] at h ⊢
  exact c_runE (S := S) (by omega) hv _ μ h _ 0 μ rfl (Nat.zero_le _) hC (hiE.refl _) (fun j r hj => absurd hj (Nat.not_lt_zero _))
/-! pairs -/
def pairIn (x : aC) (g : Nat → aC) (i : Int32) (r : Nat) : List Nat → Int32 → Int32 ⊕ Int32
  | [], n => .inl n
  | q :: t, n => if aHeld x (g q) = 0 then (if n = i then .inr (100 * nI r + nI q) else pairIn x g i r t (n + 1)) else pairIn x g i r t n
def pairOut (f g : Nat → aC) (i : Int32) (m : List Nat) : List Nat → Int32 → Int32
  | [], n => if i = -1 then n else -1
  | r :: t, n => match pairIn (f r) g i r m n with
    | .inl n => pairOut f g i m t n
    | .inr a => a
def sp_pair (c e i : Int32) (S : aS) : Int32 × aS := withC2 S c e fun _ x _ y => (pairOut x.2.2 y.2.2 i S.1.2.2.2.1 S.1.2.2.1 0, S)
theorem c_pairE {d k l : Nat} {i : Int32} {S : aS} {x y : aCol} {P : Option Value → mmMem → Prop} (hd : 4 ≤ d) (hx : S.1.2.1[k]? = some x) (hy : S.1.2.1[l]? = some y) (x4 : Int32) (ans : Int32) : ∀ (j p : Nat) (n : Int32) (μ : mmMem) (v9 : Value), S.1.2.2.1.length - p = j → p ≤ S.1.2.2.1.length → CS μ S → ans = pairOut x.2.2 y.2.2 i S.1.2.2.2.1 (S.1.2.2.1.drop p) n → (∀ ν, scr μ ν → P (some (.int ans)) ν) → mmEnds d M_X7_pair 44 [.ref 0, .int (nI k), .int (nI l), .int i, .int x4, .ref 55, .ref 57, .int n, .int (nI p), v9] [] μ P := by
  intro j
  induction j with
  | zero =>
    intro p n μ v9 hj hp hC ha h
    have ok0 := hC.2.1.2.2.2.1
    have hln := ok0.len
    have h40 := hC.2.1.1
    refine s_X7_pair_44 (by omega) kd_55 kd_57 ?_
    rw [(hC.1.2.2.1.1).1]
    rw [List.drop_of_length_le (by omega)] at ha
    unfold pairOut at ha
    refine ⟨fun _ => ⟨fun w => ?_, fun w => ?_⟩, fun w => absurd (nI_le (by omega) (by omega)) w⟩
    · rw [if_neg w] at ha; subst ha; exact h μ (scr.refl μ)
    · rw [if_pos w] at ha; subst ha; exact h μ (scr.refl μ)
  | succ j ih =>
    intro p n μ v9 hj hp hC ha h
    have ok0 := hC.2.1.2.2.2.1
    have ok1 := hC.2.1.2.2.2.2.1
    have hln := ok0.len
    have hln1 := ok1.len
    have h40 := hC.2.1.1
    have h12 := hC.2.1.2.1
    have hk := lt_of_get hx
    have hl := lt_of_get hy
    obtain ⟨r, hr⟩ : ∃ r, S.1.2.2.1[p]? = some r := ⟨_, List.getElem?_eq_getElem (by omega)⟩
    have hrr := ok0.2 r (List.mem_of_getElem? hr)
    refine s_X7_pair_44 (by omega) kd_55 kd_57 ?_
    have hv0 : vwC μ 55 S.1.2.2.1 := hC.1.2.2.1.1
    rw [hv0.1, nI_clamp (by omega), nI_clamp (by omega), hv0.2 p r hr]
    refine ⟨fun w => absurd w (nI_ge (by omega) (by omega)), fun _ => ⟨vp_in_nI (by omega) (by decide), vp_in_nI (by omega) (by decide), ?_⟩⟩
    refine c_load (by omega) (kcol k (by omega)).1 kd_152 (hC.colC hx) hrr h40 ?_
    rw [drop_get hr] at ha
    unfold pairOut at ha
    have inner : ∀ (m q : Nat) (n : Int32) (μ : mmMem), S.1.2.2.2.1.length - q = m → q ≤ S.1.2.2.2.1.length → CS μ S → clC μ 152 (x.2.2 r) → ans = (match pairIn (x.2.2 r) y.2.2 i r (S.1.2.2.2.1.drop q) n with | .inl n => pairOut x.2.2 y.2.2 i S.1.2.2.2.1 (S.1.2.2.1.drop (p + 1)) n | .inr a => a) → (∀ ν, scr μ ν → P (some (.int ans)) ν) → mmEnds d M_X7_pair 81 [.ref 0, .int (nI k), .int (nI l), .int i, .int x4, .ref 55, .ref 57, .int n, .int (nI p), .int (nI q)] [] μ P := by
      intro m
      induction m with
      | zero =>
        intro q n μ hm hq hC hcl ha h
        refine s_X7_pair_81 (by omega) kd_55 kd_57 ?_
        have hv1 : vwC μ 57 S.1.2.2.2.1 := hC.1.2.2.1.2
        rw [hv1.1, nI_1]
        refine ⟨fun _ => ?_, fun w => absurd (nI_le (by omega) (by omega)) w⟩
        rw [List.drop_of_length_le (by omega)] at ha
        unfold pairIn at ha
        exact ih (p + 1) n μ _ (by omega) (by omega) hC ha h
      | succ m ihm =>
        intro q n μ hm hq hC hcl ha h
        obtain ⟨s, hs⟩ : ∃ s, S.1.2.2.2.1[q]? = some s := ⟨_, List.getElem?_eq_getElem (by omega)⟩
        have hss := ok1.2 s (List.mem_of_getElem? hs)
        refine s_X7_pair_81 (by omega) kd_55 kd_57 ?_
        have hv1 : vwC μ 57 S.1.2.2.2.1 := hC.1.2.2.1.2
        have hv0 : vwC μ 55 S.1.2.2.1 := hC.1.2.2.1.1
        rw [hv1.1, nI_clamp (by omega), nI_clamp (by omega), nI_clamp (by omega), hv1.2 q s hs, nI_1, nI_1]
        refine ⟨fun w => absurd w (nI_ge (by omega) (by omega)), fun _ => ⟨vp_in_nI (by omega) (by decide), vp_in_nI (by omega) (by decide), ?_⟩⟩
        refine c_load (by omega) (kcol l (by omega)).1 kd_153 (hC.colC hy) hss h40 ?_
        have s1 := setC_scr μ 153 (y.2.2 s) (by decide) (by decide)
        have f1 : ∀ z, z ≠ 153 → eq3 μ (setC μ 153 (y.2.2 s)) z := fun z hz => ⟨setC_1 _ _ _ _ hz, setC_2 _ _ _ _ hz, setC_3 _ _ _ _ hz⟩
        refine c_fits (by omega) kd_152 kd_153 (hcl.set (by decide)) (setC_cl _ _ _) ((hC.okCol hx).2.2 r hrr).1 ((hC.okCol hy).2.2 s hss).1 ?_
        rw [(f1 (55 + 1) (by decide)).1, (f1 (57 + 1) (by decide)).1, hv0.2 p r hr, hv1.2 q s hs]
        rw [drop_get hs] at ha
        unfold pairIn at ha
        by_cases z : aHeld (x.2.2 r) (y.2.2 s) = 0
        · rw [if_pos z]
          rw [if_pos z] at ha
          refine ⟨fun w => absurd w (by decide), fun _ => ⟨fun w => ?_, fun w => ⟨vp_in_nI (by omega) (by decide), ?_⟩⟩⟩
          · rw [if_neg w] at ha
            exact ihm (q + 1) (n + 1) _ (by omega) (by omega) (hC.scr s1) (hcl.set (by decide)) ha (fun ν2 s2 => h ν2 (s1.trans s2))
          · rw [if_pos w] at ha
            subst ha
            exact h _ s1
        · rw [if_neg z]
          rw [if_neg z] at ha
          exact ⟨fun _ => ihm (q + 1) n _ (by omega) (by omega) (hC.scr s1) (hcl.set (by decide)) ha (fun ν2 s2 => h ν2 (s1.trans s2)), fun w => absurd rfl w⟩
    have s0 := setC_scr μ 152 (x.2.2 r) (by decide) (by decide)
    exact inner _ 0 n _ rfl (Nat.zero_le _) (hC.scr s0) (setC_cl _ _ _) ha (fun ν2 s2 => h ν2 (s0.trans s2))
theorem c_pair {d : Nat} {c e i : Int32} {S : aS} {μ : mmMem} {K : Int32 → mmMem → Prop} (hd : 6 ≤ d) (hC : CS μ S) (h : ∀ ν, CS ν (sp_pair c e i S).2 → hiE μ ν → K (sp_pair c e i S).1 ν) : mmCI d M_X7_pair false 3 [.ref 0, .int c, .int e, .int i] μ K := by
  refine u_X7_pair (by omega) ?_
  refine c_columnsRefusal (by omega) hC (fun ν hν hh => ?_)
  unfold sp_pair at h
  refine ⟨fun q => ?_, fun q => ?_⟩
  · obtain ⟨q1, q2⟩ := cref2_0 q
    obtain ⟨k, x, hk, rfl, hx, -⟩ := cref_0 q1
    obtain ⟨l, y, hl, rfl, hy, -⟩ := cref_0 q2
    rw [withC2_ok hk hl q hx hy] at h
    rw [q] at hν
    replace hν : CS ν S := hν
    exact c_pairE (S := S) (by omega) hx hy _ _ _ 0 0 ν _ rfl (Nat.zero_le _) hν rfl (fun ν2 s => h ν2 (hν.scr s) (hh.trans s.hi))
  · rw [withC2_no q] at h
    exact h ν hν hh
