/-! ===== the model: size ===== -/
theorem nI_vw (v i : Nat) : (56 : Int32) + (40 : Int32) * nI v + nI i = nI (56 + 40 * v + i) := by
  have e1 : (40 : Int32) * nI v = nI (40 * v) := nI_mul 40 v
  have e2 : (56 : Int32) + nI (40 * v) = nI (56 + 40 * v) := nI_add 56 (40 * v)
  rw [e1, e2, nI_add]
theorem nI_4 (v : Nat) : (4 : Int32) + nI v = nI (4 + v) := nI_add 4 v
def frV (μ0 μ : mmMem) (v : Nat) : Prop := (∀ q, q ≠ 161 → eq3 μ0 μ q) ∧ ∀ j, j ≠ 4 + v → (j < 56 + 40 * v ∨ 96 + 40 * v ≤ j) → μ.1 161 j = μ0.1 161 j
theorem frV.refl (μ : mmMem) (v : Nat) : frV μ μ v := ⟨fun _ _ => eq3.rfl', fun _ _ _ => rfl⟩
theorem frV.put {μ0 μ : mmMem} {v i : Nat} {x : Int32} (h : frV μ0 μ v) (hi : i < 40) : frV μ0 (sI μ 161 (56 + 40 * v + i) x) v := ⟨fun q hq => (h.1 q hq).trans (by simp [eq3, sI, hq]), fun j h1 h2 => by rw [sI_at, if_neg (by omega)]; exact h.2 j h1 h2⟩
theorem frV.len {μ0 μ : mmMem} {v : Nat} {x : Int32} (h : frV μ0 μ v) (hv : v < 2) : frV μ0 (sI μ 161 (4 + v) x) v := ⟨fun q hq => (h.1 q hq).trans (by simp [eq3, sI, hq]), fun j h1 h2 => by rw [sI_at, if_neg h1]; exact h.2 j h1 h2⟩
def enV (μ : mmMem) (v : Nat) (l : List Nat) : Prop := ∀ i r, l[i]? = some r → μ.1 161 (56 + 40 * v + i) = nI r
theorem enV.push {μ : mmMem} {v r : Nat} {l : List Nat} (h : enV μ v l) : enV (sI μ 161 (56 + 40 * v + l.length) (nI r)) v (l ++ [r]) := fun i q hq => by
  rw [sI_at]
  by_cases e : i = l.length
  · subst e
    rw [List.getElem?_concat_length] at hq
    cases hq
    rw [if_pos rfl]
  · have hlt := lt_of_get hq
    rw [List.length_append] at hlt
    have hlt : i < l.length + 1 := hlt
    rw [List.getElem?_append_left (by omega)] at hq
    rw [if_neg (by omega)]
    exact h i q hq
theorem m_szE2 {d v n : Nat} {x2 : Int32} {L : List Nat} {P : Option Value → mmMem → Prop} (hv : v < 2) (hn : n ≤ 40) (hL : L.length ≤ 40) (μ0 : mmMem) (h : ∀ ν v4 v5 v6, frV μ0 ν v → ν.1 161 (4 + v) = nI L.length → enV ν v L → mmEnds d M_X8_size 31 [.ref 160, .int (nI n), .int x2, .int (nI (v + 1)), v4, v5, v6] [] ν P) : ∀ (j r : Nat) (acc : List Nat) (μ : mmMem) (v6 : Value), n - r = j → r ≤ 40 → L = acc ++ List.range' r j → enV μ v acc → frV μ0 μ v → mmEnds d M_X8_size 107 [.ref 160, .int (nI n), .int x2, .int (nI v), .int (nI acc.length), .int (nI r), v6] [] μ P := by
  intro j
  induction j with
  | zero =>
    intro r acc μ v6 hj hr he ha hf
    refine s_X8_size_107 (by omega) ?_
    rw [nI_4, nI_clamp (by omega), nI_1]
    have e : L = acc := by rw [he]; simp
    subst e
    refine ⟨fun _ => ⟨vp_in_nI (by omega) (by decide), ?_⟩, fun w => absurd (nI_le (by omega) (by omega)) w⟩
    exact h _ _ _ _ (hf.len hv) (by rw [sI_at, if_pos rfl]) (fun i q hq => by
      have hl := lt_of_get hq
      rw [sI_at, if_neg (by omega)]; exact ha i q hq)
  | succ j ih =>
    intro r acc μ v6 hj hr he ha hf
    refine s_X8_size_107 (by omega) ?_
    have hlen : L.length = acc.length + (j + 1) := by rw [he]; simp
    rw [nI_vw, nI_clamp (show 56 + 40 * v + acc.length < 2 ^ 31 by omega), nI_1 acc.length, nI_1 r]
    refine ⟨fun w => absurd w (nI_ge (by omega) (by omega)), fun _ => ⟨vp_in_nI (by omega) (by decide), ?_⟩⟩
    have := ih (r + 1) (acc ++ [r]) (sI μ 161 (56 + 40 * v + acc.length) (nI r)) v6 (by omega) (by omega) (by rw [he, List.append_assoc]; rfl) ha.push (hf.put (by omega))
    rw [List.length_append] at this
    exact this
theorem m_szE1 {d v m n : Nat} {l L : List Nat} {P : Option Value → mmMem → Prop} (hv : v < 2) (hn : n ≤ 40) (hm : m ≤ 40) (hl : l.length ≤ 40) (hr40 : ∀ r ∈ l, r < 2 ^ 31) (hL : L.length ≤ 40) (eL : L = szV m n l) (μ0 : mmMem) (h0 : μ0.1 161 (4 + v) = nI l.length) (h : ∀ ν v4 v5 v6, frV μ0 ν v → ν.1 161 (4 + v) = nI L.length → enV ν v L → mmEnds d M_X8_size 31 [.ref 160, .int (nI n), .int (nI m), .int (nI (v + 1)), v4, v5, v6] [] ν P) : ∀ (j i : Nat) (k : List Nat) (μ : mmMem) (v6 : Value), l.length - i = j → i ≤ l.length → k.length ≤ i → l.filter (fun r => decide (r < n)) = k ++ (l.drop i).filter (fun r => decide (r < n)) → enV μ v k → (∀ j r, i ≤ j → l[j]? = some r → μ.1 161 (56 + 40 * v + j) = nI r) → frV μ0 μ v → μ.1 161 (4 + v) = nI l.length → mmEnds d M_X8_size 42 [.ref 160, .int (nI n), .int (nI m), .int (nI v), .int (nI k.length), .int (nI i), v6] [] μ P := by
  intro j
  induction j with
  | zero =>
    intro i k μ v6 hj hi hki he hk hrest hf h4
    refine s_X8_size_42 (by omega) ?_
    rw [nI_4, nI_clamp (by omega), h4]
    refine ⟨vp_in_nI (by omega) (by decide), fun _ => ?_, fun w => absurd (nI_le (by omega) (by omega)) w⟩
    rw [List.drop_of_length_le (by omega), List.filter_nil, List.append_nil] at he
    refine m_szE2 hv hn hL μ0 h _ m k μ v6 rfl hm ?_ hk hf
    rw [eL, ← he]; rfl
  | succ j ih =>
    intro i k μ v6 hj hi hki he hk hrest hf h4
    obtain ⟨r, hr⟩ : ∃ r, l[i]? = some r := ⟨_, List.getElem?_eq_getElem (by omega)⟩
    have hr2 := hr40 r (List.mem_of_getElem? hr)
    refine s_X8_size_42 (by omega) ?_
    rw [nI_4, nI_clamp (show 4 + v < 2 ^ 31 by omega), h4, nI_vw, nI_clamp (show 56 + 40 * v + i < 2 ^ 31 by omega), hrest i r (Nat.le_refl _) hr, nI_vw, nI_clamp (show 56 + 40 * v + k.length < 2 ^ 31 by omega), nI_leI (by omega) hr2, nI_1 i, nI_1 k.length]
    rw [drop_get hr] at he
    refine ⟨vp_in_nI (by omega) (by decide), fun w => absurd w (nI_ge (by omega) (by omega)), fun _ => ⟨vp_in_nI (by omega) (by decide), fun w => ?_, fun w => ⟨vp_in_nI (by omega) (by decide), ?_⟩⟩⟩
    · rw [List.filter_cons_of_neg (by simpa using w)] at he
      exact ih (i + 1) k μ _ (by omega) (by omega) (by omega) he hk (fun j2 r2 h1 h2 => hrest j2 r2 (by omega) h2) hf h4
    · rw [List.filter_cons_of_pos (by simpa using Nat.not_le.mp w)] at he
      have := ih (i + 1) (k ++ [r]) (sI μ 161 (56 + 40 * v + k.length) (nI r)) (.int (nI r)) (by omega) (by omega) (by rw [List.length_append]; simp; omega) (by rw [he, List.append_assoc]; rfl) hk.push (fun j2 r2 h1 h2 => by
        rw [sI_at, if_neg (by omega)]; exact hrest j2 r2 (by omega) h2) (hf.put (by omega)) (by rw [sI_at, if_neg (by omega)]; exact h4)
      rw [List.length_append] at this
      exact this
/-! the columns -/
def czI (T : aT) (m n c : Nat) (μ : mmMem) : Prop := ∀ i col, T.2.1[i]? = some col → μ.1 161 (6 + i) = col.1 ∧ μ.1 161 (18 + i) = (if col.2.1 = true then 1 else 0) ∧ (i < c → ∀ r, r < n → μ.1 161 (136 + (40 * i + r)) = ((renC m n col).2.2 r).1 ∧ μ.2.1 162 (40 * i + r) = ((renC m n col).2.2 r).2) ∧ (c ≤ i → ∀ r, r < m → μ.1 161 (136 + (40 * i + r)) = (col.2.2 r).1 ∧ μ.2.1 162 (40 * i + r) = (col.2.2 r).2)
def frZ (μ0 μ : mmMem) : Prop := (∀ q, q ≠ 161 → q ≠ 162 → eq3 μ0 μ q) ∧ (∀ j, j < 136 → μ.1 161 j = μ0.1 161 j) ∧ ∀ j, 480 ≤ j → μ.2.1 162 j = μ0.2.1 162 j
theorem m_szE3 {d k m n : Nat} {kd x2 : Int32} {P : Option Value → mmMem → Prop} (hd : 3 ≤ d) (hk : k < 12) (hn : n ≤ 40) (hm : m ≤ 40) (hkd : 0 ≤ kd.toInt ∧ kd.toInt ≤ 10) (μ0 : mmMem) (h6 : μ0.1 161 (6 + k) = kd) (h : ∀ ν v4 v5 v6 N, (n ≤ N ∧ (N = n ∨ N = m)) → newR μ0 ν k m N kd → mmEnds d M_X8_size 157 [.ref 160, .int (nI n), .int x2, .int (nI (k + 1)), v4, v5, v6] [] ν P) : ∀ (j r : Nat) (μ : mmMem) (v5 v6 : Value), n - r = j → m ≤ r → (r ≤ n ∨ r = m) → newR μ0 μ k m r kd → mmEnds d M_X8_size 170 [.ref 160, .int (nI n), .int x2, .int (nI k), .int (nI r), v5, v6] [] μ P := by
  intro j
  induction j with
  | zero =>
    intro r μ v5 v6 hj hmr hr hu
    refine s_X8_size_170 (by omega) ?_
    rw [nI_1 k]
    exact ⟨fun _ => h μ _ _ _ r ⟨by omega, by omega⟩ hu, fun w => absurd (nI_le (by omega) (by omega)) w⟩
  | succ j ih =>
    intro r μ v5 v6 hj hmr hr hu
    refine s_X8_size_170 (by omega) ?_
    refine ⟨fun w => absurd w (nI_ge (by omega) (by omega)), fun _ => ?_⟩
    refine m_renews hd hk (by omega) (by rw [hu.2.1, if_neg (by omega)]; exact h6) hkd ?_
    rw [nI_1 r]
    exact ih (r + 1) _ _ _ (by omega) (by omega) (by omega) (hu.step hmr)
theorem m_szE4 {d m n : Nat} {T : aT} {P : Option Value → mmMem → Prop} (hd : 3 ≤ d) (hn : n ≤ 40) (hm : m ≤ 40) (hl : T.2.1.length ≤ 12) (hk : ∀ c ∈ T.2.1, 0 ≤ c.1.toInt ∧ c.1.toInt ≤ 10) (μ0 : mmMem) (h1 : μ0.1 161 1 = nI T.2.1.length) (h : ∀ ν, frZ μ0 ν → czI T m n T.2.1.length ν → P (some (.int (nI m))) ν) : ∀ (j c : Nat) (μ : mmMem) (v4 v5 v6 : Value), T.2.1.length - c = j → c ≤ T.2.1.length → frZ μ0 μ → czI T m n c μ → mmEnds d M_X8_size 157 [.ref 160, .int (nI n), .int (nI m), .int (nI c), v4, v5, v6] [] μ P := by
  intro j
  induction j with
  | zero =>
    intro c μ v4 v5 v6 hj hc hf hi
    refine s_X8_size_157 (by omega) ?_
    rw [hf.2.1 1 (by decide), h1]
    have e : c = T.2.1.length := by omega
    subst e
    exact ⟨fun _ => h μ hf hi, fun w => absurd (nI_le (by omega) (by omega)) w⟩
  | succ j ih =>
    intro c μ v4 v5 v6 hj hc hf hi
    obtain ⟨col, hcol⟩ : ∃ col, T.2.1[c]? = some col := ⟨_, List.getElem?_eq_getElem (by omega)⟩
    refine s_X8_size_157 (by omega) ?_
    rw [hf.2.1 1 (by decide), h1]
    refine ⟨fun w => absurd w (nI_ge (by omega) (by omega)), fun _ => ?_⟩
    refine m_szE3 (kd := col.1) hd (by omega) hn hm (hk col (List.mem_of_getElem? hcol)) μ (hi c col hcol).1 (fun ν v4 v5 v6 N hN hu => ?_) _ m μ _ _ rfl (Nat.le_refl _) (Or.inr rfl) (newR.refl _ _ _ _)
    obtain ⟨g1, g2, g3⟩ := hu
    refine ih (c + 1) ν _ _ _ (by omega) (by omega) ⟨fun q a b => (hf.1 q a b).trans (g1 q a b), fun j hj => by rw [g2, if_neg (by omega)]; exact hf.2.1 j hj, fun j hj => by rw [g3, if_neg (by omega)]; exact hf.2.2 j hj⟩ (fun i x hx => ?_)
    have hil := lt_of_get hx
    obtain ⟨e1, e2, e3, e4⟩ := hi i x hx
    refine ⟨by rw [g2, if_neg (by omega)]; exact e1, by rw [g2, if_neg (by omega)]; exact e2, fun hic r hr => ?_, fun hic r hr => ?_⟩
    · by_cases e : i = c
      · subst e
        rw [hcol] at hx
        cases hx
        show _ = (if m ≤ r ∧ r < n then newC col.1 else col.2.2 r).1 ∧ _ = (if m ≤ r ∧ r < n then newC col.1 else col.2.2 r).2
        by_cases q : m ≤ r ∧ r < n
        · rw [if_pos q, g2, if_pos (by omega), g3, if_pos (by omega)]
          exact ⟨rfl, rfl⟩
        · rw [if_neg q, g2, if_neg (by omega), g3, if_neg (by omega)]
          exact e4 (Nat.le_refl _) r (by omega)
      · rw [g2, if_neg (by omega), g3, if_neg (by omega)]
        exact e3 (by omega) r hr
    · rw [g2, if_neg (by omega), g3, if_neg (by omega)]
      exact e4 (by omega) r hr
theorem m_size {d : Nat} {n : Int32} {S : aS} {μ : mmMem} {K : Int32 → mmMem → Prop} (hd : 4 ≤ d) (hM : MS μ S) (h : ∀ ν, MS ν (sp_size n S).2 → loE μ ν → K (sp_size n S).1 ν) : mmCI d M_X8_size false 1 [.ref 160, .int n] μ K := by
  refine u_X8_size (by omega) ?_
  refine m_isInI (a := 0) (b := 40) (by omega) rfl rfl ?_
  unfold sp_size at h
  by_cases q : ¬ n < 0 ∧ ¬ (40 : Int32) < n
  · rw [if_pos q]
    refine ⟨fun _ => ?_, fun w => absurd w (by decide)⟩
    obtain ⟨n, hn, rfl⟩ := nI_of q.1
    have hn40 : n ≤ 40 := Nat.not_lt.mp fun w => q.2 ((nI_ltI (by decide : (40 : Nat) < 2 ^ 31) hn).mpr w)
    rw [if_neg (by rintro (w | w); exact q.1 w; exact w ((nI_leI hn (by decide : (40 : Nat) < 2 ^ 31)).mpr hn40)), nI_clamp hn] at h
    have ok := hM.2.1
    have h40 := ok.1
    have h12 := ok.2.1
    have l4 := ok.2.2.2.1.len
    have l5 := ok.2.2.2.2.1.len
    have l6 := ok.2.2.2.2.2.1
    have l8 := ok.2.2.2.2.2.2.2.1
    have ok2 := szT_ok (T := S.1) (n := n) ok hn40
    have k4 := ok2.2.2.2.1.len
    have k5 := ok2.2.2.2.2.1.len
    have k4 : (szV S.1.1 n S.1.2.2.1).length ≤ n := k4
    have k5 : (szV S.1.1 n S.1.2.2.2.1).length ≤ n := k5
    obtain ⟨⟨t0, t1, t2, t3⟩, tc, ⟨⟨v0, v1⟩, v2, v3⟩, tk, tf⟩ := hM.1
    rw [t0]
    have at0 : ∀ j, j ≠ 0 → (sI μ 161 0 (nI n)).1 161 j = μ.1 161 j := fun j hj => by rw [sI_at, if_neg hj]
    refine s_X8_size_31 (by omega) ?_
    refine ⟨fun w => absurd w (by decide), fun _ => ?_⟩
    refine m_szE1 (v := 0) (l := S.1.2.2.1) (L := szV S.1.1 n S.1.2.2.1) (by decide) hn40 h40 (by omega) (fun r hr => by have := ok.2.2.2.1.2 r hr; omega) (by omega) rfl _ (by rw [at0 _ (by omega)]; exact v0) (fun ν a1 a2 a3 f1 g1 g2 => ?_) _ 0 [] (sI μ 161 0 (nI n)) _ rfl (Nat.zero_le _) (Nat.le_refl _) rfl (fun i r hr => by cases hr) (fun j r _ hr => by
      have := lt_of_get hr
      rw [at0 _ (by omega)]
      have := v1 j r hr
      rw [show 56 + 40 * 0 + j = 56 + j by omega]; exact this) (frV.refl _ _) (by rw [at0 _ (by omega)]; exact v0)
    refine s_X8_size_31 (by omega) ?_
    refine ⟨fun w => absurd w (by decide), fun _ => ?_⟩
    refine m_szE1 (v := 1) (l := S.1.2.2.2.1) (L := szV S.1.1 n S.1.2.2.2.1) (by decide) hn40 h40 (by omega) (fun r hr => by have := ok.2.2.2.2.1.2 r hr; omega) (by omega) rfl ν (by rw [f1.2 _ (by omega) (by omega), at0 _ (by omega)]; exact v2) (fun ν2 a1 a2 a3 f2 g3 g4 => ?_) _ 0 [] ν _ rfl (Nat.zero_le _) (Nat.le_refl _) rfl (fun i r hr => by cases hr) (fun j r _ hr => by
      have := lt_of_get hr
      rw [f1.2 _ (by omega) (by omega), at0 _ (by omega)]
      have := v3 j r hr
      rw [show 56 + 40 * 1 + j = 96 + j by omega]; exact this) (frV.refl _ _) (by rw [f1.2 _ (by omega) (by omega), at0 _ (by omega)]; exact v2)
    refine s_X8_size_31 (by omega) ?_
    refine ⟨fun _ => ?_, fun w => absurd (by decide) w⟩
    have hi2 : ∀ j, j ≠ 0 → j ≠ 4 → j ≠ 5 → (j < 56 ∨ 136 ≤ j) → ν2.1 161 j = μ.1 161 j := fun j a b c e => by
      rw [f2.2 j (by omega) (by omega), f1.2 j (by omega) (by omega), at0 j a]
    have e162 : ν2.2.1 162 = μ.2.1 162 := by rw [(f2.1 162 (by decide)).2.1, (f1.1 162 (by decide)).2.1]; rfl
    refine m_szE4 (T := S.1) (by omega) hn40 h40 h12 (fun c hc => ⟨(ok.2.2.1 c hc).1, (ok.2.2.1 c hc).2.1⟩) ν2 (by rw [hi2 1 (by omega) (by omega) (by omega) (by omega)]; exact t1) (fun ν3 f3 g5 => ?_) _ 0 ν2 _ _ _ rfl (Nat.zero_le _) ⟨fun _ _ _ => eq3.rfl', fun _ _ => rfl, fun _ _ => rfl⟩ (fun i col hcol => ?_)
    · have f : ∀ q, q ≠ 161 → q ≠ 162 → eq3 μ ν3 q := fun q a b => (((show eq3 μ (sI μ 161 0 (nI n)) q by simp [eq3, sI, a]).trans (f1.1 q a)).trans (f2.1 q a)).trans (f3.1 q a b)
      have lo : ∀ j, j ≠ 0 → j ≠ 4 → j ≠ 5 → j < 56 → ν3.1 161 j = μ.1 161 j := fun j a b c e => by rw [f3.2.1 j (by omega)]; exact hi2 j a b c (Or.inl e)
      refine h ν3 (hM.tab ⟨⟨?_, ?_, ?_, ?_⟩, fun c col hc => ?_, ⟨⟨?_, fun i r hr => ?_⟩, ?_, fun i r hr => ?_⟩, fun k q hk => ?_, fun k q hk => ?_⟩ ok2 f) (fun q hq => f q (by omega) (by omega))
      · rw [f3.2.1 0 (by decide), f2.2 0 (by decide) (by decide), f1.2 0 (by decide) (by decide), sI_at, if_pos rfl]; rfl
      · rw [lo 1 (by decide) (by decide) (by decide) (by decide), t1]; simp [szT]
      · rw [lo 2 (by decide) (by decide) (by decide) (by decide)]; exact t2
      · rw [lo 3 (by decide) (by decide) (by decide) (by decide)]; exact t3
      · have hc : (S.1.2.1.map (renC S.1.1 n))[c]? = some col := hc
        rw [List.getElem?_map] at hc
        cases hx : S.1.2.1[c]? with
        | none => rw [hx] at hc; cases hc
        | some x =>
          rw [hx] at hc
          cases hc
          obtain ⟨e1, e2, e3, -⟩ := g5 c x hx
          exact ⟨e1, e2, e3 (lt_of_get hx)⟩
      · rw [f3.2.1 4 (by decide), f2.2 4 (by decide) (by decide)]; exact g1
      · have hr : (szV S.1.1 n S.1.2.2.1)[i]? = some r := hr
        have := lt_of_get hr
        rw [f3.2.1 _ (by omega), f2.2 _ (by omega) (by omega)]
        have := g2 i r hr
        rw [show 56 + 40 * 0 + i = 56 + i by omega] at this; exact this
      · rw [f3.2.1 5 (by decide)]; exact g3
      · have hr : (szV S.1.1 n S.1.2.2.2.1)[i]? = some r := hr
        have := lt_of_get hr
        rw [f3.2.1 _ (by omega)]
        have := g4 i r hr
        rw [show 56 + 40 * 1 + i = 96 + i by omega] at this; exact this
      · have hk : S.1.2.2.2.2.1[k]? = some q := hk
        have := lt_of_get hk
        rw [lo _ (by omega) (by omega) (by omega) (by omega), lo _ (by omega) (by omega) (by omega) (by omega)]
        exact tk k q hk
      · have hk : S.1.2.2.2.2.2[k]? = some q := hk
        have := lt_of_get hk
        rw [lo _ (by omega) (by omega) (by omega) (by omega), lo _ (by omega) (by omega) (by omega) (by omega), lo _ (by omega) (by omega) (by omega) (by omega), f3.2.2 _ (by omega), e162]
        exact tf k q hk
    · have hil := lt_of_get hcol
      obtain ⟨e1, e2, e3⟩ := tc i col hcol
      refine ⟨by rw [hi2 _ (by omega) (by omega) (by omega) (by omega)]; exact e1, by rw [hi2 _ (by omega) (by omega) (by omega) (by omega)]; exact e2, fun w => absurd w (Nat.not_lt_zero _), fun _ r hr => ?_⟩
      rw [hi2 _ (by omega) (by omega) (by omega) (by omega), e162]
      exact e3 r hr
  · rw [if_neg q]
    have w : n < 0 ∨ ¬ n ≤ 40 := by
      by_cases w : n < 0
      · exact Or.inl w
      · exact Or.inr fun w2 => q ⟨w, Int32.not_lt.mpr w2⟩
    rw [if_pos w] at h
    exact ⟨fun e => absurd rfl e, fun _ => h μ hM (loE.refl _)⟩
