/-! ===== the kit's rows do it ===== -/
theorem mmOkI_ok {M : mmMi} {q : mmMI} (h : mmOkI M q = true) : decode M.2.1 q.1 = .ok (q.2.1, q.2.2.1) ∧ mmOkX M q = true := by
  unfold mmOkI at h
  rw [Bool.and_eq_true, decide_eq_true_eq] at h
  exact h
theorem mm_word {M : mmMi} {w : Nat} {x : Cond} {args : Array Value} {s : State} (hts : ∀ w ∈ mmT, w.before args s = true) (h : lw_tbl[w]? = some x) (hg : goodWord x = true) : x.before args s = true := hts x (mm_in w h hg)
theorem mm_sz {p : Program} {l : Launch} {e : Env} {R : Room} {s : State} {m : MethodId} {args : Array Value} {below : List Frame} {meth : Method} {c : Code} {H : Heap} {locs : List Loc} {cells slots : Nat} {Q : State → Prop} {g : JFrame} (k : H.size ≤ s.heap.size + cells → W p l e R s m args below meth c H locs cells slots Q g) : W p l e R s m args below meth c H locs cells slots Q g := by
  intro T hT X
  have h := X.heapSize
  rw [hT] at h
  exact k h T hT X
theorem mmV_Gf (B : Nat) (sk : Nat → Nat) (μ : mmMem) (ci a k : Nat) : mmV B sk (mmGf μ ci a k) = mmFV B μ a ci k := by
  unfold mmGf mmFV
  split <;> simp_all [mmV]
theorem mm_fs {B : Nat} {μ : mmMem} {o ci k : Nat} (hk : k < mmNF ci) : ((List.range (mmNF ci)).map (mmFV B μ o ci))[k]? = some (mmFV B μ o ci k) := by
  simp [hk]

theorem mmE_10 {B : Nat} {cA : Nat → ClassId} {μ : mmMem} {a : Nat} (h : mmKD a = 10) : (mmW B cA μ)[a]? = some (B + a, .inl (cA 0, mmLEN a, .inl (μ.1 a))) := by
  rw [mmW_get (mmKD_lt (by rw [h]; decide))]
  unfold mmE
  rw [h]
  rfl
theorem mmE_11 {B : Nat} {cA : Nat → ClassId} {μ : mmMem} {a : Nat} (h : mmKD a = 11) : (mmW B cA μ)[a]? = some (B + a, .inl (cA 1, mmLEN a, .inr (.inl (μ.2.1 a)))) := by
  rw [mmW_get (mmKD_lt (by rw [h]; decide))]
  unfold mmE
  rw [h]
  rfl
theorem mmE_12 {B : Nat} {cA : Nat → ClassId} {μ : mmMem} {a : Nat} (h : mmKD a = 12) : (mmW B cA μ)[a]? = some (B + a, .inl (cA 2, mmLEN a, .inr (.inr (.inr (.inl (μ.2.2 a)))))) := by
  rw [mmW_get (mmKD_lt (by rw [h]; decide))]
  unfold mmE
  rw [h]
  rfl
theorem mmE_13 {B : Nat} {cA : Nat → ClassId} {μ : mmMem} {a : Nat} (h : mmKD a = 13) : (mmW B cA μ)[a]? = some (B + a, .inl (cA 3, mmLEN a, .inl (μ.1 a))) := by
  rw [mmW_get (mmKD_lt (by rw [h]; decide))]
  unfold mmE
  rw [h]
  rfl
theorem mmE_14 {B : Nat} {cA : Nat → ClassId} {μ : mmMem} {a : Nat} (h : mmKD a = 14) : (mmW B cA μ)[a]? = some (B + a, .inl (cA 4, mmLEN a, .inr (.inr (.inr (.inr fun i => some (B + mmRF 14 a i)))))) := by
  rw [mmW_get (mmKD_lt (by rw [h]; decide))]
  unfold mmE
  rw [h]
  rfl
theorem mmE_15 {B : Nat} {cA : Nat → ClassId} {μ : mmMem} {a : Nat} (h : mmKD a = 15) : (mmW B cA μ)[a]? = some (B + a, .inl (cA 5, mmLEN a, .inr (.inr (.inr (.inr fun i => some (B + mmRF 15 a i)))))) := by
  rw [mmW_get (mmKD_lt (by rw [h]; decide))]
  unfold mmE
  rw [h]
  rfl
theorem mmE_16 {B : Nat} {cA : Nat → ClassId} {μ : mmMem} {a : Nat} (h : mmKD a = 16) : (mmW B cA μ)[a]? = some (B + a, .inl (cA 6, mmLEN a, .inr (.inr (.inr (.inr fun i => some (B + mmRF 16 a i)))))) := by
  rw [mmW_get (mmKD_lt (by rw [h]; decide))]
  unfold mmE
  rw [h]
  rfl
theorem mmE_o {B : Nat} {cA : Nat → ClassId} {μ : mmMem} {a ci : Nat} (h : mmKD a = ci) (hc : ci < 10) : (mmW B cA μ)[a]? = some (B + a, .inr (ci, (List.range (mmNF ci)).map (mmFV B μ a ci))) := by
  rw [mmW_get (mmKD_lt (by omega)), mmE_obj h hc]

theorem mm_uw0 : ∀ w ∈ u_ws RX0 TX0 3, w ∈ mmT := by
  have h1 : ∀ w ∈ u_ws RX0 TX0 3, w ∈ lw_tbl := by decide +kernel
  have h2 : ∀ w ∈ u_ws RX0 TX0 3, goodWord w = true := by decide +kernel
  exact fun w hw => List.mem_filter.mpr ⟨h1 w hw, h2 w hw⟩
theorem mm_ty0 : ∀ k, k < 3 → (mmFT 0 k = 0 → (tyX0 k = .int ∧ mmBool 0 k = false) ∨ (tyX0 k = .boolean ∧ mmBool 0 k = true)) ∧ (mmFT 0 k = 1 → tyX0 k = .long) ∧ (mmFT 0 k = 2 → tyX0 k = .double) := by decide +kernel
theorem mm_uw1 : ∀ w ∈ u_ws RX1 TX1 5, w ∈ mmT := by
  have h1 : ∀ w ∈ u_ws RX1 TX1 5, w ∈ lw_tbl := by decide +kernel
  have h2 : ∀ w ∈ u_ws RX1 TX1 5, goodWord w = true := by decide +kernel
  exact fun w hw => List.mem_filter.mpr ⟨h1 w hw, h2 w hw⟩
theorem mm_ty1 : ∀ k, k < 5 → (mmFT 1 k = 0 → (tyX1 k = .int ∧ mmBool 1 k = false) ∨ (tyX1 k = .boolean ∧ mmBool 1 k = true)) ∧ (mmFT 1 k = 1 → tyX1 k = .long) ∧ (mmFT 1 k = 2 → tyX1 k = .double) := by decide +kernel
theorem mm_uw2 : ∀ w ∈ u_ws RX2 TX2 3, w ∈ mmT := by
  have h1 : ∀ w ∈ u_ws RX2 TX2 3, w ∈ lw_tbl := by decide +kernel
  have h2 : ∀ w ∈ u_ws RX2 TX2 3, goodWord w = true := by decide +kernel
  exact fun w hw => List.mem_filter.mpr ⟨h1 w hw, h2 w hw⟩
theorem mm_ty2 : ∀ k, k < 3 → (mmFT 2 k = 0 → (tyX2 k = .int ∧ mmBool 2 k = false) ∨ (tyX2 k = .boolean ∧ mmBool 2 k = true)) ∧ (mmFT 2 k = 1 → tyX2 k = .long) ∧ (mmFT 2 k = 2 → tyX2 k = .double) := by decide +kernel
theorem mm_uw3 : ∀ w ∈ u_ws RX3 TX3 2, w ∈ mmT := by
  have h1 : ∀ w ∈ u_ws RX3 TX3 2, w ∈ lw_tbl := by decide +kernel
  have h2 : ∀ w ∈ u_ws RX3 TX3 2, goodWord w = true := by decide +kernel
  exact fun w hw => List.mem_filter.mpr ⟨h1 w hw, h2 w hw⟩
theorem mm_ty3 : ∀ k, k < 2 → (mmFT 3 k = 0 → (tyX3 k = .int ∧ mmBool 3 k = false) ∨ (tyX3 k = .boolean ∧ mmBool 3 k = true)) ∧ (mmFT 3 k = 1 → tyX3 k = .long) ∧ (mmFT 3 k = 2 → tyX3 k = .double) := by decide +kernel
theorem mm_uw4 : ∀ w ∈ u_ws RX4 TX4 9, w ∈ mmT := by
  have h1 : ∀ w ∈ u_ws RX4 TX4 9, w ∈ lw_tbl := by decide +kernel
  have h2 : ∀ w ∈ u_ws RX4 TX4 9, goodWord w = true := by decide +kernel
  exact fun w hw => List.mem_filter.mpr ⟨h1 w hw, h2 w hw⟩
theorem mm_ty4 : ∀ k, k < 9 → (mmFT 4 k = 0 → (tyX4 k = .int ∧ mmBool 4 k = false) ∨ (tyX4 k = .boolean ∧ mmBool 4 k = true)) ∧ (mmFT 4 k = 1 → tyX4 k = .long) ∧ (mmFT 4 k = 2 → tyX4 k = .double) := by decide +kernel
theorem mm_uw5 : ∀ w ∈ u_ws RX5 TX5 4, w ∈ mmT := by
  have h1 : ∀ w ∈ u_ws RX5 TX5 4, w ∈ lw_tbl := by decide +kernel
  have h2 : ∀ w ∈ u_ws RX5 TX5 4, goodWord w = true := by decide +kernel
  exact fun w hw => List.mem_filter.mpr ⟨h1 w hw, h2 w hw⟩
theorem mm_ty5 : ∀ k, k < 4 → (mmFT 5 k = 0 → (tyX5 k = .int ∧ mmBool 5 k = false) ∨ (tyX5 k = .boolean ∧ mmBool 5 k = true)) ∧ (mmFT 5 k = 1 → tyX5 k = .long) ∧ (mmFT 5 k = 2 → tyX5 k = .double) := by decide +kernel
theorem mm_uw6 : ∀ w ∈ u_ws RX6 TX6 2, w ∈ mmT := by
  have h1 : ∀ w ∈ u_ws RX6 TX6 2, w ∈ lw_tbl := by decide +kernel
  have h2 : ∀ w ∈ u_ws RX6 TX6 2, goodWord w = true := by decide +kernel
  exact fun w hw => List.mem_filter.mpr ⟨h1 w hw, h2 w hw⟩
theorem mm_ty6 : ∀ k, k < 2 → (mmFT 6 k = 0 → (tyX6 k = .int ∧ mmBool 6 k = false) ∨ (tyX6 k = .boolean ∧ mmBool 6 k = true)) ∧ (mmFT 6 k = 1 → tyX6 k = .long) ∧ (mmFT 6 k = 2 → tyX6 k = .double) := by decide +kernel
theorem mm_uw7 : ∀ w ∈ u_ws RX7 TX7 19, w ∈ mmT := by
  have h1 : ∀ w ∈ u_ws RX7 TX7 19, w ∈ lw_tbl := by decide +kernel
  have h2 : ∀ w ∈ u_ws RX7 TX7 19, goodWord w = true := by decide +kernel
  exact fun w hw => List.mem_filter.mpr ⟨h1 w hw, h2 w hw⟩
theorem mm_ty7 : ∀ k, k < 19 → (mmFT 7 k = 0 → (tyX7 k = .int ∧ mmBool 7 k = false) ∨ (tyX7 k = .boolean ∧ mmBool 7 k = true)) ∧ (mmFT 7 k = 1 → tyX7 k = .long) ∧ (mmFT 7 k = 2 → tyX7 k = .double) := by decide +kernel
theorem mm_uw8 : ∀ w ∈ u_ws RJ0 TJ0 4, w ∈ mmT := by
  have h1 : ∀ w ∈ u_ws RJ0 TJ0 4, w ∈ lw_tbl := by decide +kernel
  have h2 : ∀ w ∈ u_ws RJ0 TJ0 4, goodWord w = true := by decide +kernel
  exact fun w hw => List.mem_filter.mpr ⟨h1 w hw, h2 w hw⟩
theorem mm_ty8 : ∀ k, k < 4 → (mmFT 8 k = 0 → (tyJ0 k = .int ∧ mmBool 8 k = false) ∨ (tyJ0 k = .boolean ∧ mmBool 8 k = true)) ∧ (mmFT 8 k = 1 → tyJ0 k = .long) ∧ (mmFT 8 k = 2 → tyJ0 k = .double) := by decide +kernel
theorem mm_uw9 : ∀ w ∈ u_ws RJ4 TJ4 4, w ∈ mmT := by
  have h1 : ∀ w ∈ u_ws RJ4 TJ4 4, w ∈ lw_tbl := by decide +kernel
  have h2 : ∀ w ∈ u_ws RJ4 TJ4 4, goodWord w = true := by decide +kernel
  exact fun w hw => List.mem_filter.mpr ⟨h1 w hw, h2 w hw⟩
theorem mm_ty9 : ∀ k, k < 4 → (mmFT 9 k = 0 → (tyJ4 k = .int ∧ mmBool 9 k = false) ∨ (tyJ4 k = .boolean ∧ mmBool 9 k = true)) ∧ (mmFT 9 k = 1 → tyJ4 k = .long) ∧ (mmFT 9 k = 2 → tyJ4 k = .double) := by decide +kernel
theorem mm_cls {ci : Nat} {C : String} {T : u_T} {N : Nat} (h : vwCl[ci]? = some (C, T, N)) : ci < 10 ∧ N = mmNF ci ∧ (∀ w ∈ u_ws C T N, w ∈ mmT) ∧ (∀ a, a < N → ∀ b, b < N → a ≠ b → (T a).2.1 ≠ (T b).2.1) ∧
    ∃ ty : Nat → FieldType, (∀ k, k < N → parseFieldDescriptor (T k).2.2.1 = some (ty k)) ∧ ∀ k, k < N → (mmFT ci k = 0 → (ty k = .int ∧ mmBool ci k = false) ∨ (ty k = .boolean ∧ mmBool ci k = true)) ∧ (mmFT ci k = 1 → ty k = .long) ∧ (mmFT ci k = 2 → ty k = .double) := by
  match ci, h with
  | 0, h => cases h; exact ⟨by decide, rfl, mm_uw0, nmX0, tyX0, tyX0_ok, mm_ty0⟩
  | 1, h => cases h; exact ⟨by decide, rfl, mm_uw1, nmX1, tyX1, tyX1_ok, mm_ty1⟩
  | 2, h => cases h; exact ⟨by decide, rfl, mm_uw2, nmX2, tyX2, tyX2_ok, mm_ty2⟩
  | 3, h => cases h; exact ⟨by decide, rfl, mm_uw3, nmX3, tyX3, tyX3_ok, mm_ty3⟩
  | 4, h => cases h; exact ⟨by decide, rfl, mm_uw4, nmX4, tyX4, tyX4_ok, mm_ty4⟩
  | 5, h => cases h; exact ⟨by decide, rfl, mm_uw5, nmX5, tyX5, tyX5_ok, mm_ty5⟩
  | 6, h => cases h; exact ⟨by decide, rfl, mm_uw6, nmX6, tyX6, tyX6_ok, mm_ty6⟩
  | 7, h => cases h; exact ⟨by decide, rfl, mm_uw7, nmX7, tyX7, tyX7_ok, mm_ty7⟩
  | 8, h => cases h; exact ⟨by decide, rfl, mm_uw8, nmJ0, tyJ0, tyJ0_ok, mm_ty8⟩
  | 9, h => cases h; exact ⟨by decide, rfl, mm_uw9, nmJ4, tyJ4, tyJ4_ok, mm_ty9⟩
  | n + 10, h => simp [vwCl] at h
theorem st_iconst {d : Nat} {M : mmMi} {P : Option Value → mmMem → Prop} {k : List Value → List Value → mmMem → Prop} {L st : List Value} {μ : mmMem} {pc len w a b : Nat} {v : Value} {Mc : mmMi} {n : Int} (hok : mmOkI M (pc, .iconst n, len, w, a, b, v, Mc) = true) (hk : ∀ L st μ, k L st μ → mmEnds d M (pc + len) L st μ P) (h : wpI d M P (pc, .iconst n, len, w, a, b, v, Mc) k L st μ) : mmEnds d M pc L st μ P := by
  obtain ⟨hd, hX⟩ := mmOkI_ok hok
  dsimp only at hd
  obtain ⟨rfl, rfl⟩ : len = 1 ∧ v = _ := by simpa [mmOkX] using hX
  intro p l e s m args below meth c H locs B H0 sk sv D cA ls hx hb hr hml hown hts hlk hS hls hH hF hB
  exact lv_iconst hx hb hd rfl (hk _ _ _ h p l e s m args below meth c H locs B H0 sk sv D cA ls hx hb hr hml hown hts hlk hS hls hH hF hB)
theorem st_bipush {d : Nat} {M : mmMi} {P : Option Value → mmMem → Prop} {k : List Value → List Value → mmMem → Prop} {L st : List Value} {μ : mmMem} {pc len w a b : Nat} {v : Value} {Mc : mmMi} {n : Int} (hok : mmOkI M (pc, .bipush n, len, w, a, b, v, Mc) = true) (hk : ∀ L st μ, k L st μ → mmEnds d M (pc + len) L st μ P) (h : wpI d M P (pc, .bipush n, len, w, a, b, v, Mc) k L st μ) : mmEnds d M pc L st μ P := by
  obtain ⟨hd, hX⟩ := mmOkI_ok hok
  dsimp only at hd
  obtain ⟨rfl, rfl⟩ : len = 2 ∧ v = _ := by simpa [mmOkX] using hX
  intro p l e s m args below meth c H locs B H0 sk sv D cA ls hx hb hr hml hown hts hlk hS hls hH hF hB
  exact lv_bipush hx hb hd rfl (hk _ _ _ h p l e s m args below meth c H locs B H0 sk sv D cA ls hx hb hr hml hown hts hlk hS hls hH hF hB)
theorem st_sipush {d : Nat} {M : mmMi} {P : Option Value → mmMem → Prop} {k : List Value → List Value → mmMem → Prop} {L st : List Value} {μ : mmMem} {pc len w a b : Nat} {v : Value} {Mc : mmMi} {n : Int} (hok : mmOkI M (pc, .sipush n, len, w, a, b, v, Mc) = true) (hk : ∀ L st μ, k L st μ → mmEnds d M (pc + len) L st μ P) (h : wpI d M P (pc, .sipush n, len, w, a, b, v, Mc) k L st μ) : mmEnds d M pc L st μ P := by
  obtain ⟨hd, hX⟩ := mmOkI_ok hok
  dsimp only at hd
  obtain ⟨rfl, rfl⟩ : len = 3 ∧ v = _ := by simpa [mmOkX] using hX
  intro p l e s m args below meth c H locs B H0 sk sv D cA ls hx hb hr hml hown hts hlk hS hls hH hF hB
  exact lv_sipush hx hb hd rfl (hk _ _ _ h p l e s m args below meth c H locs B H0 sk sv D cA ls hx hb hr hml hown hts hlk hS hls hH hF hB)
theorem st_lconst {d : Nat} {M : mmMi} {P : Option Value → mmMem → Prop} {k : List Value → List Value → mmMem → Prop} {L st : List Value} {μ : mmMem} {pc len w a b : Nat} {v : Value} {Mc : mmMi} {n : Fin 2} (hok : mmOkI M (pc, .lconst n, len, w, a, b, v, Mc) = true) (hk : ∀ L st μ, k L st μ → mmEnds d M (pc + len) L st μ P) (h : wpI d M P (pc, .lconst n, len, w, a, b, v, Mc) k L st μ) : mmEnds d M pc L st μ P := by
  obtain ⟨hd, hX⟩ := mmOkI_ok hok
  dsimp only at hd
  obtain ⟨rfl, rfl⟩ : len = 1 ∧ v = _ := by simpa [mmOkX] using hX
  intro p l e s m args below meth c H locs B H0 sk sv D cA ls hx hb hr hml hown hts hlk hS hls hH hF hB
  exact lv_lconst hx hb hd rfl (hk _ _ _ h p l e s m args below meth c H locs B H0 sk sv D cA ls hx hb hr hml hown hts hlk hS hls hH hF hB)
theorem st_dconst {d : Nat} {M : mmMi} {P : Option Value → mmMem → Prop} {k : List Value → List Value → mmMem → Prop} {L st : List Value} {μ : mmMem} {pc len w a b : Nat} {v : Value} {Mc : mmMi} {n : Fin 2} (hok : mmOkI M (pc, .dconst n, len, w, a, b, v, Mc) = true) (hk : ∀ L st μ, k L st μ → mmEnds d M (pc + len) L st μ P) (h : wpI d M P (pc, .dconst n, len, w, a, b, v, Mc) k L st μ) : mmEnds d M pc L st μ P := by
  obtain ⟨hd, hX⟩ := mmOkI_ok hok
  dsimp only at hd
  match n, hd, hX, hok, h with
  | 0, hd, hX, hok, h =>
    obtain ⟨rfl, rfl⟩ : len = 1 ∧ v = _ := by simpa [mmOkX] using hX
    intro p l e s m args below meth c H locs B H0 sk sv D cA ls hx hb hr hml hown hts hlk hS hls hH hF hB
    exact lv_dconst0 hx hb hd (hk _ _ _ h p l e s m args below meth c H locs B H0 sk sv D cA ls hx hb hr hml hown hts hlk hS hls hH hF hB)
  | 1, hd, hX, hok, h =>
    obtain ⟨rfl, rfl⟩ : len = 1 ∧ v = _ := by simpa [mmOkX] using hX
    intro p l e s m args below meth c H locs B H0 sk sv D cA ls hx hb hr hml hown hts hlk hS hls hH hF hB
    exact lv_dconst1 hx hb hd (hk _ _ _ h p l e s m args below meth c H locs B H0 sk sv D cA ls hx hb hr hml hown hts hlk hS hls hH hF hB)
theorem st_ldc {d : Nat} {M : mmMi} {P : Option Value → mmMem → Prop} {k : List Value → List Value → mmMem → Prop} {L st : List Value} {μ : mmMem} {pc len w a b : Nat} {v : Value} {Mc : mmMi} {n : Nat} (hok : mmOkI M (pc, .ldc n, len, w, a, b, v, Mc) = true) (hk : ∀ L st μ, k L st μ → mmEnds d M (pc + len) L st μ P) (h : wpI d M P (pc, .ldc n, len, w, a, b, v, Mc) k L st μ) : mmEnds d M pc L st μ P := by
  obtain ⟨hd, hX⟩ := mmOkI_ok hok
  dsimp only at hd
  cases v with
  | int x =>
    obtain ⟨rfl, hw⟩ : len = 2 ∧ lw_tbl[w]? = some (.constant M.1.cls n x) := by simpa [mmOkX] using hX
    intro p l e s m args below meth c H locs B H0 sk sv D cA ls hx hb hr hml hown hts hlk hS hls hH hF hB
    exact lv_ldc hx hb hown (mm_word (M := M) hts hw rfl) hd (hk _ _ _ h p l e s m args below meth c H locs B H0 sk sv D cA ls hx hb hr hml hown hts hlk hS hls hH hF hB)
  | float x =>
    obtain ⟨rfl, hw⟩ : len = 2 ∧ lw_tbl[w]? = some (.constantFloat M.1.cls n x) := by simpa [mmOkX] using hX
    intro p l e s m args below meth c H locs B H0 sk sv D cA ls hx hb hr hml hown hts hlk hS hls hH hF hB
    exact lv_ldcf hx hb hown (mm_word (M := M) hts hw rfl) hd (hk _ _ _ h p l e s m args below meth c H locs B H0 sk sv D cA ls hx hb hr hml hown hts hlk hS hls hH hF hB)
  | retAddr x =>
    match x, hX, h, hok with
    | 0, hX, h, hok =>
      obtain ⟨rfl, e1, rfl⟩ : len = 2 ∧ M.1.cls = RX5 ∧ n = 51 := by simpa [mmOkX] using hX
      intro p l e s m args below meth c H locs B H0 sk sv D cA ls hx hb hr hml hown hts hlk hS hls hH hF hB
      refine va_ldcS (own := M.1.cls) (tx := "zbcsilfdwon") (q := sk 0) hx hb hown ?_ hd (hk _ _ _ h p l e s m args below meth c H locs B H0 sk sv D cA ls hx hb hr hml hown hts hlk hS hls hH hF hB)
      rw [e1]; exact hS.2.2.1
    | x + 1, hX, h, hok => simp [mmOkX] at hX
  | _ => simp [mmOkX] at hX
theorem st_ldc_w {d : Nat} {M : mmMi} {P : Option Value → mmMem → Prop} {k : List Value → List Value → mmMem → Prop} {L st : List Value} {μ : mmMem} {pc len w a b : Nat} {v : Value} {Mc : mmMi} {n : Nat} (hok : mmOkI M (pc, .ldc_w n, len, w, a, b, v, Mc) = true) (hk : ∀ L st μ, k L st μ → mmEnds d M (pc + len) L st μ P) (h : wpI d M P (pc, .ldc_w n, len, w, a, b, v, Mc) k L st μ) : mmEnds d M pc L st μ P := by
  obtain ⟨hd, hX⟩ := mmOkI_ok hok
  dsimp only at hd
  cases v with
  | int x =>
    obtain ⟨rfl, hw⟩ : len = 3 ∧ lw_tbl[w]? = some (.constant M.1.cls n x) := by simpa [mmOkX] using hX
    intro p l e s m args below meth c H locs B H0 sk sv D cA ls hx hb hr hml hown hts hlk hS hls hH hF hB
    exact lv_ldcw hx hb hown (mm_word (M := M) hts hw rfl) hd (hk _ _ _ h p l e s m args below meth c H locs B H0 sk sv D cA ls hx hb hr hml hown hts hlk hS hls hH hF hB)
  | _ => simp [mmOkX] at hX
theorem st_ldc2_w {d : Nat} {M : mmMi} {P : Option Value → mmMem → Prop} {k : List Value → List Value → mmMem → Prop} {L st : List Value} {μ : mmMem} {pc len w a b : Nat} {v : Value} {Mc : mmMi} {n : Nat} (hok : mmOkI M (pc, .ldc2_w n, len, w, a, b, v, Mc) = true) (hk : ∀ L st μ, k L st μ → mmEnds d M (pc + len) L st μ P) (h : wpI d M P (pc, .ldc2_w n, len, w, a, b, v, Mc) k L st μ) : mmEnds d M pc L st μ P := by
  obtain ⟨hd, hX⟩ := mmOkI_ok hok
  dsimp only at hd
  cases v with
  | long x =>
    obtain ⟨rfl, hw⟩ : len = 3 ∧ lw_tbl[w]? = some (.constantLong M.1.cls n x) := by simpa [mmOkX] using hX
    intro p l e s m args below meth c H locs B H0 sk sv D cA ls hx hb hr hml hown hts hlk hS hls hH hF hB
    exact lv_ldc2 hx hb hown (mm_word (M := M) hts hw rfl) hd (hk _ _ _ h p l e s m args below meth c H locs B H0 sk sv D cA ls hx hb hr hml hown hts hlk hS hls hH hF hB)
  | double x =>
    obtain ⟨rfl, hw⟩ : len = 3 ∧ lw_tbl[w]? = some (.constantDouble M.1.cls n x) := by simpa [mmOkX] using hX
    intro p l e s m args below meth c H locs B H0 sk sv D cA ls hx hb hr hml hown hts hlk hS hls hH hF hB
    exact lv_ldc2d hx hb hown (mm_word (M := M) hts hw rfl) hd (hk _ _ _ h p l e s m args below meth c H locs B H0 sk sv D cA ls hx hb hr hml hown hts hlk hS hls hH hF hB)
  | _ => simp [mmOkX] at hX
theorem st_iload {d : Nat} {M : mmMi} {P : Option Value → mmMem → Prop} {k : List Value → List Value → mmMem → Prop} {L st : List Value} {μ : mmMem} {pc len w a b : Nat} {v : Value} {Mc : mmMi} {i : Nat} (hok : mmOkI M (pc, .iload i, len, w, a, b, v, Mc) = true) (hk : ∀ L st μ, k L st μ → mmEnds d M (pc + len) L st μ P) (h : wpI d M P (pc, .iload i, len, w, a, b, v, Mc) k L st μ) : mmEnds d M pc L st μ P := by
  obtain ⟨hd, hX⟩ := mmOkI_ok hok
  dsimp only at hd
  obtain rfl : len = 2 := by simpa [mmOkX] using hX
  obtain ⟨x, hg, h⟩ := gI_ok h
  intro p l e s m args below meth c H locs B H0 sk sv D cA ls hx hb hr hml hown hts hlk hS hls hH hF hB
  exact lv_iload hx hb hd (hls.at hg (fun hq => by cases hq)) (hk _ _ _ h p l e s m args below meth c H locs B H0 sk sv D cA ls hx hb hr hml hown hts hlk hS hls hH hF hB)
theorem st_iload_n {d : Nat} {M : mmMi} {P : Option Value → mmMem → Prop} {k : List Value → List Value → mmMem → Prop} {L st : List Value} {μ : mmMem} {pc len w a b : Nat} {v : Value} {Mc : mmMi} {i : Fin 4} (hok : mmOkI M (pc, .iload_n i, len, w, a, b, v, Mc) = true) (hk : ∀ L st μ, k L st μ → mmEnds d M (pc + len) L st μ P) (h : wpI d M P (pc, .iload_n i, len, w, a, b, v, Mc) k L st μ) : mmEnds d M pc L st μ P := by
  obtain ⟨hd, hX⟩ := mmOkI_ok hok
  dsimp only at hd
  obtain rfl : len = 1 := by simpa [mmOkX] using hX
  obtain ⟨x, hg, h⟩ := gI_ok h
  intro p l e s m args below meth c H locs B H0 sk sv D cA ls hx hb hr hml hown hts hlk hS hls hH hF hB
  exact lv_iload_n hx hb hd rfl (hls.at hg (fun hq => by cases hq)) (hk _ _ _ h p l e s m args below meth c H locs B H0 sk sv D cA ls hx hb hr hml hown hts hlk hS hls hH hF hB)
theorem st_lload {d : Nat} {M : mmMi} {P : Option Value → mmMem → Prop} {k : List Value → List Value → mmMem → Prop} {L st : List Value} {μ : mmMem} {pc len w a b : Nat} {v : Value} {Mc : mmMi} {i : Nat} (hok : mmOkI M (pc, .lload i, len, w, a, b, v, Mc) = true) (hk : ∀ L st μ, k L st μ → mmEnds d M (pc + len) L st μ P) (h : wpI d M P (pc, .lload i, len, w, a, b, v, Mc) k L st μ) : mmEnds d M pc L st μ P := by
  obtain ⟨hd, hX⟩ := mmOkI_ok hok
  dsimp only at hd
  obtain rfl : len = 2 := by simpa [mmOkX] using hX
  obtain ⟨x, hg, h⟩ := gJ_ok h
  intro p l e s m args below meth c H locs B H0 sk sv D cA ls hx hb hr hml hown hts hlk hS hls hH hF hB
  exact lv_lload hx hb hd (hls.at hg (fun hq => by cases hq)) (hk _ _ _ h p l e s m args below meth c H locs B H0 sk sv D cA ls hx hb hr hml hown hts hlk hS hls hH hF hB)
theorem st_lload_n {d : Nat} {M : mmMi} {P : Option Value → mmMem → Prop} {k : List Value → List Value → mmMem → Prop} {L st : List Value} {μ : mmMem} {pc len w a b : Nat} {v : Value} {Mc : mmMi} {i : Fin 4} (hok : mmOkI M (pc, .lload_n i, len, w, a, b, v, Mc) = true) (hk : ∀ L st μ, k L st μ → mmEnds d M (pc + len) L st μ P) (h : wpI d M P (pc, .lload_n i, len, w, a, b, v, Mc) k L st μ) : mmEnds d M pc L st μ P := by
  obtain ⟨hd, hX⟩ := mmOkI_ok hok
  dsimp only at hd
  obtain rfl : len = 1 := by simpa [mmOkX] using hX
  obtain ⟨x, hg, h⟩ := gJ_ok h
  intro p l e s m args below meth c H locs B H0 sk sv D cA ls hx hb hr hml hown hts hlk hS hls hH hF hB
  exact lv_lload_n hx hb hd rfl (hls.at hg (fun hq => by cases hq)) (hk _ _ _ h p l e s m args below meth c H locs B H0 sk sv D cA ls hx hb hr hml hown hts hlk hS hls hH hF hB)
theorem st_fload {d : Nat} {M : mmMi} {P : Option Value → mmMem → Prop} {k : List Value → List Value → mmMem → Prop} {L st : List Value} {μ : mmMem} {pc len w a b : Nat} {v : Value} {Mc : mmMi} {i : Nat} (hok : mmOkI M (pc, .fload i, len, w, a, b, v, Mc) = true) (hk : ∀ L st μ, k L st μ → mmEnds d M (pc + len) L st μ P) (h : wpI d M P (pc, .fload i, len, w, a, b, v, Mc) k L st μ) : mmEnds d M pc L st μ P := by
  obtain ⟨hd, hX⟩ := mmOkI_ok hok
  dsimp only at hd
  obtain rfl : len = 2 := by simpa [mmOkX] using hX
  obtain ⟨x, hg, h⟩ := gF_ok h
  intro p l e s m args below meth c H locs B H0 sk sv D cA ls hx hb hr hml hown hts hlk hS hls hH hF hB
  exact lv_fload hx hb hd (hls.at hg (fun hq => by cases hq)) (hk _ _ _ h p l e s m args below meth c H locs B H0 sk sv D cA ls hx hb hr hml hown hts hlk hS hls hH hF hB)
theorem st_fload_n {d : Nat} {M : mmMi} {P : Option Value → mmMem → Prop} {k : List Value → List Value → mmMem → Prop} {L st : List Value} {μ : mmMem} {pc len w a b : Nat} {v : Value} {Mc : mmMi} {i : Fin 4} (hok : mmOkI M (pc, .fload_n i, len, w, a, b, v, Mc) = true) (hk : ∀ L st μ, k L st μ → mmEnds d M (pc + len) L st μ P) (h : wpI d M P (pc, .fload_n i, len, w, a, b, v, Mc) k L st μ) : mmEnds d M pc L st μ P := by
  obtain ⟨hd, hX⟩ := mmOkI_ok hok
  dsimp only at hd
  obtain rfl : len = 1 := by simpa [mmOkX] using hX
  obtain ⟨x, hg, h⟩ := gF_ok h
  intro p l e s m args below meth c H locs B H0 sk sv D cA ls hx hb hr hml hown hts hlk hS hls hH hF hB
  exact lv_fload_n hx hb hd rfl (hls.at hg (fun hq => by cases hq)) (hk _ _ _ h p l e s m args below meth c H locs B H0 sk sv D cA ls hx hb hr hml hown hts hlk hS hls hH hF hB)
theorem st_dload {d : Nat} {M : mmMi} {P : Option Value → mmMem → Prop} {k : List Value → List Value → mmMem → Prop} {L st : List Value} {μ : mmMem} {pc len w a b : Nat} {v : Value} {Mc : mmMi} {i : Nat} (hok : mmOkI M (pc, .dload i, len, w, a, b, v, Mc) = true) (hk : ∀ L st μ, k L st μ → mmEnds d M (pc + len) L st μ P) (h : wpI d M P (pc, .dload i, len, w, a, b, v, Mc) k L st μ) : mmEnds d M pc L st μ P := by
  obtain ⟨hd, hX⟩ := mmOkI_ok hok
  dsimp only at hd
  obtain rfl : len = 2 := by simpa [mmOkX] using hX
  obtain ⟨x, hg, h⟩ := gD_ok h
  intro p l e s m args below meth c H locs B H0 sk sv D cA ls hx hb hr hml hown hts hlk hS hls hH hF hB
  exact lv_dload hx hb hd (hls.at hg (fun hq => by cases hq)) (hk _ _ _ h p l e s m args below meth c H locs B H0 sk sv D cA ls hx hb hr hml hown hts hlk hS hls hH hF hB)
theorem st_dload_n {d : Nat} {M : mmMi} {P : Option Value → mmMem → Prop} {k : List Value → List Value → mmMem → Prop} {L st : List Value} {μ : mmMem} {pc len w a b : Nat} {v : Value} {Mc : mmMi} {i : Fin 4} (hok : mmOkI M (pc, .dload_n i, len, w, a, b, v, Mc) = true) (hk : ∀ L st μ, k L st μ → mmEnds d M (pc + len) L st μ P) (h : wpI d M P (pc, .dload_n i, len, w, a, b, v, Mc) k L st μ) : mmEnds d M pc L st μ P := by
  obtain ⟨hd, hX⟩ := mmOkI_ok hok
  dsimp only at hd
  obtain rfl : len = 1 := by simpa [mmOkX] using hX
  obtain ⟨x, hg, h⟩ := gD_ok h
  intro p l e s m args below meth c H locs B H0 sk sv D cA ls hx hb hr hml hown hts hlk hS hls hH hF hB
  exact lv_dload_n hx hb hd rfl (hls.at hg (fun hq => by cases hq)) (hk _ _ _ h p l e s m args below meth c H locs B H0 sk sv D cA ls hx hb hr hml hown hts hlk hS hls hH hF hB)
theorem st_aload {d : Nat} {M : mmMi} {P : Option Value → mmMem → Prop} {k : List Value → List Value → mmMem → Prop} {L st : List Value} {μ : mmMem} {pc len w a b : Nat} {v : Value} {Mc : mmMi} {i : Nat} (hok : mmOkI M (pc, .aload i, len, w, a, b, v, Mc) = true) (hk : ∀ L st μ, k L st μ → mmEnds d M (pc + len) L st μ P) (h : wpI d M P (pc, .aload i, len, w, a, b, v, Mc) k L st μ) : mmEnds d M pc L st μ P := by
  obtain ⟨hd, hX⟩ := mmOkI_ok hok
  dsimp only at hd
  obtain rfl : len = 2 := by simpa [mmOkX] using hX
  obtain ⟨x, hg, h⟩ := gA_ok h
  intro p l e s m args below meth c H locs B H0 sk sv D cA ls hx hb hr hml hown hts hlk hS hls hH hF hB
  exact lv_aload hx hb hd (hls.at hg (fun hq => by cases hq)) (hk _ _ _ h p l e s m args below meth c H locs B H0 sk sv D cA ls hx hb hr hml hown hts hlk hS hls hH hF hB)
theorem st_aload_n {d : Nat} {M : mmMi} {P : Option Value → mmMem → Prop} {k : List Value → List Value → mmMem → Prop} {L st : List Value} {μ : mmMem} {pc len w a b : Nat} {v : Value} {Mc : mmMi} {i : Fin 4} (hok : mmOkI M (pc, .aload_n i, len, w, a, b, v, Mc) = true) (hk : ∀ L st μ, k L st μ → mmEnds d M (pc + len) L st μ P) (h : wpI d M P (pc, .aload_n i, len, w, a, b, v, Mc) k L st μ) : mmEnds d M pc L st μ P := by
  obtain ⟨hd, hX⟩ := mmOkI_ok hok
  dsimp only at hd
  obtain rfl : len = 1 := by simpa [mmOkX] using hX
  obtain ⟨x, hg, h⟩ := gA_ok h
  intro p l e s m args below meth c H locs B H0 sk sv D cA ls hx hb hr hml hown hts hlk hS hls hH hF hB
  exact lv_aload_n hx hb hd rfl (hls.at hg (fun hq => by cases hq)) (hk _ _ _ h p l e s m args below meth c H locs B H0 sk sv D cA ls hx hb hr hml hown hts hlk hS hls hH hF hB)
theorem st_istore {d : Nat} {M : mmMi} {P : Option Value → mmMem → Prop} {k : List Value → List Value → mmMem → Prop} {L st : List Value} {μ : mmMem} {pc len w a b : Nat} {v : Value} {Mc : mmMi} {i : Nat} (hok : mmOkI M (pc, .istore i, len, w, a, b, v, Mc) = true) (hk : ∀ L st μ, k L st μ → mmEnds d M (pc + len) L st μ P) (h : wpI d M P (pc, .istore i, len, w, a, b, v, Mc) k L st μ) : mmEnds d M pc L st μ P := by
  obtain ⟨hd, hX⟩ := mmOkI_ok hok
  dsimp only at hd
  obtain ⟨rfl, hi⟩ : len = 2 ∧ i < M.2.2.1 := by simpa [mmOkX] using hX
  obtain ⟨x, r, rfl, h⟩ := pI_ok h
  obtain ⟨hm, h⟩ := mif_ok h
  intro p l e s m args below meth c H locs B H0 sk sv D cA ls hx hb hr hml hown hts hlk hS hls hH hF hB
  obtain ⟨lv, hlv, hmem⟩ := hls
  exact lv_istore hx hb hd hlv hi rfl (fun ls2 hls2 => hk _ _ _ h p l e s m args below meth c H locs B H0 sk sv D cA _ hx hb hr hml hown hts hlk hS (mmLs.st1 a i (.int x) hmem (mk1_ok hm) rfl hls2) hH hF hB)
theorem st_istore_n {d : Nat} {M : mmMi} {P : Option Value → mmMem → Prop} {k : List Value → List Value → mmMem → Prop} {L st : List Value} {μ : mmMem} {pc len w a b : Nat} {v : Value} {Mc : mmMi} {i : Fin 4} (hok : mmOkI M (pc, .istore_n i, len, w, a, b, v, Mc) = true) (hk : ∀ L st μ, k L st μ → mmEnds d M (pc + len) L st μ P) (h : wpI d M P (pc, .istore_n i, len, w, a, b, v, Mc) k L st μ) : mmEnds d M pc L st μ P := by
  obtain ⟨hd, hX⟩ := mmOkI_ok hok
  dsimp only at hd
  obtain ⟨rfl, hi⟩ : len = 1 ∧ (i : Nat) < M.2.2.1 := by simpa [mmOkX] using hX
  obtain ⟨x, r, rfl, h⟩ := pI_ok h
  obtain ⟨hm, h⟩ := mif_ok h
  intro p l e s m args below meth c H locs B H0 sk sv D cA ls hx hb hr hml hown hts hlk hS hls hH hF hB
  obtain ⟨lv, hlv, hmem⟩ := hls
  exact lv_istore_n hx hb hd rfl hlv hi rfl (fun ls2 hls2 => hk _ _ _ h p l e s m args below meth c H locs B H0 sk sv D cA _ hx hb hr hml hown hts hlk hS (mmLs.st1 a i (.int x) hmem (mk1_ok hm) rfl hls2) hH hF hB)
theorem st_astore {d : Nat} {M : mmMi} {P : Option Value → mmMem → Prop} {k : List Value → List Value → mmMem → Prop} {L st : List Value} {μ : mmMem} {pc len w a b : Nat} {v : Value} {Mc : mmMi} {i : Nat} (hok : mmOkI M (pc, .astore i, len, w, a, b, v, Mc) = true) (hk : ∀ L st μ, k L st μ → mmEnds d M (pc + len) L st μ P) (h : wpI d M P (pc, .astore i, len, w, a, b, v, Mc) k L st μ) : mmEnds d M pc L st μ P := by
  obtain ⟨hd, hX⟩ := mmOkI_ok hok
  dsimp only at hd
  obtain ⟨rfl, hi⟩ : len = 2 ∧ i < M.2.2.1 := by simpa [mmOkX] using hX
  obtain ⟨x, r, rfl, h⟩ := pA_ok h
  obtain ⟨hm, h⟩ := mif_ok h
  intro p l e s m args below meth c H locs B H0 sk sv D cA ls hx hb hr hml hown hts hlk hS hls hH hF hB
  obtain ⟨lv, hlv, hmem⟩ := hls
  exact lv_astore hx hb hd hlv hi rfl (fun ls2 hls2 => hk _ _ _ h p l e s m args below meth c H locs B H0 sk sv D cA _ hx hb hr hml hown hts hlk hS (mmLs.st1 a i (.ref x) hmem (mk1_ok hm) rfl hls2) hH hF hB)
theorem st_astore_n {d : Nat} {M : mmMi} {P : Option Value → mmMem → Prop} {k : List Value → List Value → mmMem → Prop} {L st : List Value} {μ : mmMem} {pc len w a b : Nat} {v : Value} {Mc : mmMi} {i : Fin 4} (hok : mmOkI M (pc, .astore_n i, len, w, a, b, v, Mc) = true) (hk : ∀ L st μ, k L st μ → mmEnds d M (pc + len) L st μ P) (h : wpI d M P (pc, .astore_n i, len, w, a, b, v, Mc) k L st μ) : mmEnds d M pc L st μ P := by
  obtain ⟨hd, hX⟩ := mmOkI_ok hok
  dsimp only at hd
  obtain ⟨rfl, hi⟩ : len = 1 ∧ (i : Nat) < M.2.2.1 := by simpa [mmOkX] using hX
  obtain ⟨x, r, rfl, h⟩ := pA_ok h
  obtain ⟨hm, h⟩ := mif_ok h
  intro p l e s m args below meth c H locs B H0 sk sv D cA ls hx hb hr hml hown hts hlk hS hls hH hF hB
  obtain ⟨lv, hlv, hmem⟩ := hls
  exact lv_astore_n hx hb hd rfl hlv hi rfl (fun ls2 hls2 => hk _ _ _ h p l e s m args below meth c H locs B H0 sk sv D cA _ hx hb hr hml hown hts hlk hS (mmLs.st1 a i (.ref x) hmem (mk1_ok hm) rfl hls2) hH hF hB)
theorem st_lstore {d : Nat} {M : mmMi} {P : Option Value → mmMem → Prop} {k : List Value → List Value → mmMem → Prop} {L st : List Value} {μ : mmMem} {pc len w a b : Nat} {v : Value} {Mc : mmMi} {i : Nat} (hok : mmOkI M (pc, .lstore i, len, w, a, b, v, Mc) = true) (hk : ∀ L st μ, k L st μ → mmEnds d M (pc + len) L st μ P) (h : wpI d M P (pc, .lstore i, len, w, a, b, v, Mc) k L st μ) : mmEnds d M pc L st μ P := by
  obtain ⟨hd, hX⟩ := mmOkI_ok hok
  dsimp only at hd
  obtain ⟨rfl, hi⟩ : len = 2 ∧ i + 1 < M.2.2.1 := by simpa [mmOkX] using hX
  obtain ⟨x, r, rfl, h⟩ := pJ_ok h
  obtain ⟨hm, h⟩ := mif_ok h
  intro p l e s m args below meth c H locs B H0 sk sv D cA ls hx hb hr hml hown hts hlk hS hls hH hF hB
  obtain ⟨lv, hlv, hmem⟩ := hls
  exact lv_lstore hx hb hd hlv hi rfl (fun ls2 hls2 => hk _ _ _ h p l e s m args below meth c H locs B H0 sk sv D cA _ hx hb hr hml hown hts hlk hS (mmLs.st2 a i (.long x) hmem (mk1_ok hm) rfl hls2) hH hF hB)
theorem st_lstore_n {d : Nat} {M : mmMi} {P : Option Value → mmMem → Prop} {k : List Value → List Value → mmMem → Prop} {L st : List Value} {μ : mmMem} {pc len w a b : Nat} {v : Value} {Mc : mmMi} {i : Fin 4} (hok : mmOkI M (pc, .lstore_n i, len, w, a, b, v, Mc) = true) (hk : ∀ L st μ, k L st μ → mmEnds d M (pc + len) L st μ P) (h : wpI d M P (pc, .lstore_n i, len, w, a, b, v, Mc) k L st μ) : mmEnds d M pc L st μ P := by
  obtain ⟨hd, hX⟩ := mmOkI_ok hok
  dsimp only at hd
  obtain ⟨rfl, hi⟩ : len = 1 ∧ (i : Nat) + 1 < M.2.2.1 := by simpa [mmOkX] using hX
  obtain ⟨x, r, rfl, h⟩ := pJ_ok h
  obtain ⟨hm, h⟩ := mif_ok h
  intro p l e s m args below meth c H locs B H0 sk sv D cA ls hx hb hr hml hown hts hlk hS hls hH hF hB
  obtain ⟨lv, hlv, hmem⟩ := hls
  exact lv_lstore_n hx hb hd rfl hlv hi rfl (fun ls2 hls2 => hk _ _ _ h p l e s m args below meth c H locs B H0 sk sv D cA _ hx hb hr hml hown hts hlk hS (mmLs.st2 a i (.long x) hmem (mk1_ok hm) rfl hls2) hH hF hB)
theorem st_dstore {d : Nat} {M : mmMi} {P : Option Value → mmMem → Prop} {k : List Value → List Value → mmMem → Prop} {L st : List Value} {μ : mmMem} {pc len w a b : Nat} {v : Value} {Mc : mmMi} {i : Nat} (hok : mmOkI M (pc, .dstore i, len, w, a, b, v, Mc) = true) (hk : ∀ L st μ, k L st μ → mmEnds d M (pc + len) L st μ P) (h : wpI d M P (pc, .dstore i, len, w, a, b, v, Mc) k L st μ) : mmEnds d M pc L st μ P := by
  obtain ⟨hd, hX⟩ := mmOkI_ok hok
  dsimp only at hd
  obtain ⟨rfl, hi⟩ : len = 2 ∧ i + 1 < M.2.2.1 := by simpa [mmOkX] using hX
  obtain ⟨x, r, rfl, h⟩ := pD_ok h
  obtain ⟨hm, h⟩ := mif_ok h
  intro p l e s m args below meth c H locs B H0 sk sv D cA ls hx hb hr hml hown hts hlk hS hls hH hF hB
  obtain ⟨lv, hlv, hmem⟩ := hls
  exact lv_dstore hx hb hd hlv hi rfl (fun ls2 hls2 => hk _ _ _ h p l e s m args below meth c H locs B H0 sk sv D cA _ hx hb hr hml hown hts hlk hS (mmLs.st2 a i (.double x) hmem (mk1_ok hm) rfl hls2) hH hF hB)
theorem st_dstore_n {d : Nat} {M : mmMi} {P : Option Value → mmMem → Prop} {k : List Value → List Value → mmMem → Prop} {L st : List Value} {μ : mmMem} {pc len w a b : Nat} {v : Value} {Mc : mmMi} {i : Fin 4} (hok : mmOkI M (pc, .dstore_n i, len, w, a, b, v, Mc) = true) (hk : ∀ L st μ, k L st μ → mmEnds d M (pc + len) L st μ P) (h : wpI d M P (pc, .dstore_n i, len, w, a, b, v, Mc) k L st μ) : mmEnds d M pc L st μ P := by
  obtain ⟨hd, hX⟩ := mmOkI_ok hok
  dsimp only at hd
  obtain ⟨rfl, hi⟩ : len = 1 ∧ (i : Nat) + 1 < M.2.2.1 := by simpa [mmOkX] using hX
  obtain ⟨x, r, rfl, h⟩ := pD_ok h
  obtain ⟨hm, h⟩ := mif_ok h
  intro p l e s m args below meth c H locs B H0 sk sv D cA ls hx hb hr hml hown hts hlk hS hls hH hF hB
  obtain ⟨lv, hlv, hmem⟩ := hls
  exact lv_dstore_n hx hb hd rfl hlv hi rfl (fun ls2 hls2 => hk _ _ _ h p l e s m args below meth c H locs B H0 sk sv D cA _ hx hb hr hml hown hts hlk hS (mmLs.st2 a i (.double x) hmem (mk1_ok hm) rfl hls2) hH hF hB)
theorem st_iinc {d : Nat} {M : mmMi} {P : Option Value → mmMem → Prop} {k : List Value → List Value → mmMem → Prop} {L st : List Value} {μ : mmMem} {pc len w a b : Nat} {v : Value} {Mc : mmMi} {i : Nat} {n : Int} (hok : mmOkI M (pc, .iinc i n, len, w, a, b, v, Mc) = true) (hk : ∀ L st μ, k L st μ → mmEnds d M (pc + len) L st μ P) (h : wpI d M P (pc, .iinc i n, len, w, a, b, v, Mc) k L st μ) : mmEnds d M pc L st μ P := by
  obtain ⟨hd, hX⟩ := mmOkI_ok hok
  dsimp only at hd
  obtain ⟨⟨rfl, hi⟩, rfl⟩ : (len = 3 ∧ i < M.2.2.1) ∧ v = .int (Int32.ofInt n) := by simpa [mmOkX] using hX
  obtain ⟨x, hg, h⟩ := gI_ok h
  obtain ⟨hm, h⟩ := mif_ok h
  intro p l e s m args below meth c H locs B H0 sk sv D cA ls hx hb hr hml hown hts hlk hS hls hH hF hB
  obtain ⟨lv, hlv, hmem⟩ := hls
  obtain ⟨j, hj⟩ := List.getElem?_of_mem (hmem i (.int x) (mget_some hg (fun hq => by cases hq)) (fun hq => by cases hq))
  exact lv_iinc hx hb hd hlv hj rfl hi rfl (fun ls2 hls2 => hk _ _ _ h p l e s m args below meth c H locs B H0 sk sv D cA _ hx hb hr hml hown hts hlk hS (mmLs.st1 a i (.int (x + Int32.ofInt n)) hmem (mk1_ok hm) rfl hls2) hH hF hB)
theorem st_iadd {d : Nat} {M : mmMi} {P : Option Value → mmMem → Prop} {k : List Value → List Value → mmMem → Prop} {L st : List Value} {μ : mmMem} {pc len w a b : Nat} {v : Value} {Mc : mmMi} (hok : mmOkI M (pc, .iadd, len, w, a, b, v, Mc) = true) (hk : ∀ L st μ, k L st μ → mmEnds d M (pc + len) L st μ P) (h : wpI d M P (pc, .iadd, len, w, a, b, v, Mc) k L st μ) : mmEnds d M pc L st μ P := by
  obtain ⟨hd, hX⟩ := mmOkI_ok hok
  dsimp only at hd
  obtain rfl : len = 1 := by simpa [mmOkX] using hX
  obtain ⟨y, r, rfl, h⟩ := pI_ok h
  obtain ⟨x, r, rfl, h⟩ := pI_ok h
  intro p l e s m args below meth c H locs B H0 sk sv D cA ls hx hb hr hml hown hts hlk hS hls hH hF hB
  exact lv_iadd hx hb hd (hk _ _ _ h p l e s m args below meth c H locs B H0 sk sv D cA ls hx hb hr hml hown hts hlk hS hls hH hF hB)
theorem st_isub {d : Nat} {M : mmMi} {P : Option Value → mmMem → Prop} {k : List Value → List Value → mmMem → Prop} {L st : List Value} {μ : mmMem} {pc len w a b : Nat} {v : Value} {Mc : mmMi} (hok : mmOkI M (pc, .isub, len, w, a, b, v, Mc) = true) (hk : ∀ L st μ, k L st μ → mmEnds d M (pc + len) L st μ P) (h : wpI d M P (pc, .isub, len, w, a, b, v, Mc) k L st μ) : mmEnds d M pc L st μ P := by
  obtain ⟨hd, hX⟩ := mmOkI_ok hok
  dsimp only at hd
  obtain rfl : len = 1 := by simpa [mmOkX] using hX
  obtain ⟨y, r, rfl, h⟩ := pI_ok h
  obtain ⟨x, r, rfl, h⟩ := pI_ok h
  intro p l e s m args below meth c H locs B H0 sk sv D cA ls hx hb hr hml hown hts hlk hS hls hH hF hB
  exact lv_isub hx hb hd (hk _ _ _ h p l e s m args below meth c H locs B H0 sk sv D cA ls hx hb hr hml hown hts hlk hS hls hH hF hB)
theorem st_imul {d : Nat} {M : mmMi} {P : Option Value → mmMem → Prop} {k : List Value → List Value → mmMem → Prop} {L st : List Value} {μ : mmMem} {pc len w a b : Nat} {v : Value} {Mc : mmMi} (hok : mmOkI M (pc, .imul, len, w, a, b, v, Mc) = true) (hk : ∀ L st μ, k L st μ → mmEnds d M (pc + len) L st μ P) (h : wpI d M P (pc, .imul, len, w, a, b, v, Mc) k L st μ) : mmEnds d M pc L st μ P := by
  obtain ⟨hd, hX⟩ := mmOkI_ok hok
  dsimp only at hd
  obtain rfl : len = 1 := by simpa [mmOkX] using hX
  obtain ⟨y, r, rfl, h⟩ := pI_ok h
  obtain ⟨x, r, rfl, h⟩ := pI_ok h
  intro p l e s m args below meth c H locs B H0 sk sv D cA ls hx hb hr hml hown hts hlk hS hls hH hF hB
  exact lv_imul hx hb hd (hk _ _ _ h p l e s m args below meth c H locs B H0 sk sv D cA ls hx hb hr hml hown hts hlk hS hls hH hF hB)
theorem st_iand {d : Nat} {M : mmMi} {P : Option Value → mmMem → Prop} {k : List Value → List Value → mmMem → Prop} {L st : List Value} {μ : mmMem} {pc len w a b : Nat} {v : Value} {Mc : mmMi} (hok : mmOkI M (pc, .iand, len, w, a, b, v, Mc) = true) (hk : ∀ L st μ, k L st μ → mmEnds d M (pc + len) L st μ P) (h : wpI d M P (pc, .iand, len, w, a, b, v, Mc) k L st μ) : mmEnds d M pc L st μ P := by
  obtain ⟨hd, hX⟩ := mmOkI_ok hok
  dsimp only at hd
  obtain rfl : len = 1 := by simpa [mmOkX] using hX
  obtain ⟨y, r, rfl, h⟩ := pI_ok h
  obtain ⟨x, r, rfl, h⟩ := pI_ok h
  intro p l e s m args below meth c H locs B H0 sk sv D cA ls hx hb hr hml hown hts hlk hS hls hH hF hB
  exact lv_iand hx hb hd (hk _ _ _ h p l e s m args below meth c H locs B H0 sk sv D cA ls hx hb hr hml hown hts hlk hS hls hH hF hB)
theorem st_ior {d : Nat} {M : mmMi} {P : Option Value → mmMem → Prop} {k : List Value → List Value → mmMem → Prop} {L st : List Value} {μ : mmMem} {pc len w a b : Nat} {v : Value} {Mc : mmMi} (hok : mmOkI M (pc, .ior, len, w, a, b, v, Mc) = true) (hk : ∀ L st μ, k L st μ → mmEnds d M (pc + len) L st μ P) (h : wpI d M P (pc, .ior, len, w, a, b, v, Mc) k L st μ) : mmEnds d M pc L st μ P := by
  obtain ⟨hd, hX⟩ := mmOkI_ok hok
  dsimp only at hd
  obtain rfl : len = 1 := by simpa [mmOkX] using hX
  obtain ⟨y, r, rfl, h⟩ := pI_ok h
  obtain ⟨x, r, rfl, h⟩ := pI_ok h
  intro p l e s m args below meth c H locs B H0 sk sv D cA ls hx hb hr hml hown hts hlk hS hls hH hF hB
  exact lv_ior hx hb hd (hk _ _ _ h p l e s m args below meth c H locs B H0 sk sv D cA ls hx hb hr hml hown hts hlk hS hls hH hF hB)
theorem st_ishl {d : Nat} {M : mmMi} {P : Option Value → mmMem → Prop} {k : List Value → List Value → mmMem → Prop} {L st : List Value} {μ : mmMem} {pc len w a b : Nat} {v : Value} {Mc : mmMi} (hok : mmOkI M (pc, .ishl, len, w, a, b, v, Mc) = true) (hk : ∀ L st μ, k L st μ → mmEnds d M (pc + len) L st μ P) (h : wpI d M P (pc, .ishl, len, w, a, b, v, Mc) k L st μ) : mmEnds d M pc L st μ P := by
  obtain ⟨hd, hX⟩ := mmOkI_ok hok
  dsimp only at hd
  obtain rfl : len = 1 := by simpa [mmOkX] using hX
  obtain ⟨y, r, rfl, h⟩ := pI_ok h
  obtain ⟨x, r, rfl, h⟩ := pI_ok h
  intro p l e s m args below meth c H locs B H0 sk sv D cA ls hx hb hr hml hown hts hlk hS hls hH hF hB
  exact lv_ishl hx hb hd (hk _ _ _ h p l e s m args below meth c H locs B H0 sk sv D cA ls hx hb hr hml hown hts hlk hS hls hH hF hB)
theorem st_ishr {d : Nat} {M : mmMi} {P : Option Value → mmMem → Prop} {k : List Value → List Value → mmMem → Prop} {L st : List Value} {μ : mmMem} {pc len w a b : Nat} {v : Value} {Mc : mmMi} (hok : mmOkI M (pc, .ishr, len, w, a, b, v, Mc) = true) (hk : ∀ L st μ, k L st μ → mmEnds d M (pc + len) L st μ P) (h : wpI d M P (pc, .ishr, len, w, a, b, v, Mc) k L st μ) : mmEnds d M pc L st μ P := by
  obtain ⟨hd, hX⟩ := mmOkI_ok hok
  dsimp only at hd
  obtain rfl : len = 1 := by simpa [mmOkX] using hX
  obtain ⟨y, r, rfl, h⟩ := pI_ok h
  obtain ⟨x, r, rfl, h⟩ := pI_ok h
  intro p l e s m args below meth c H locs B H0 sk sv D cA ls hx hb hr hml hown hts hlk hS hls hH hF hB
  exact lv_ishr hx hb hd (hk _ _ _ h p l e s m args below meth c H locs B H0 sk sv D cA ls hx hb hr hml hown hts hlk hS hls hH hF hB)
theorem st_idiv {d : Nat} {M : mmMi} {P : Option Value → mmMem → Prop} {k : List Value → List Value → mmMem → Prop} {L st : List Value} {μ : mmMem} {pc len w a b : Nat} {v : Value} {Mc : mmMi} (hok : mmOkI M (pc, .idiv, len, w, a, b, v, Mc) = true) (hk : ∀ L st μ, k L st μ → mmEnds d M (pc + len) L st μ P) (h : wpI d M P (pc, .idiv, len, w, a, b, v, Mc) k L st μ) : mmEnds d M pc L st μ P := by
  obtain ⟨hd, hX⟩ := mmOkI_ok hok
  dsimp only at hd
  obtain rfl : len = 1 := by simpa [mmOkX] using hX
  obtain ⟨y, r, rfl, h⟩ := pI_ok h
  obtain ⟨x, r, rfl, h⟩ := pI_ok h
  intro p l e s m args below meth c H locs B H0 sk sv D cA ls hx hb hr hml hown hts hlk hS hls hH hF hB
  exact lv_idiv hx hb hd h.1 (hk _ _ _ h.2 p l e s m args below meth c H locs B H0 sk sv D cA ls hx hb hr hml hown hts hlk hS hls hH hF hB)
theorem st_irem {d : Nat} {M : mmMi} {P : Option Value → mmMem → Prop} {k : List Value → List Value → mmMem → Prop} {L st : List Value} {μ : mmMem} {pc len w a b : Nat} {v : Value} {Mc : mmMi} (hok : mmOkI M (pc, .irem, len, w, a, b, v, Mc) = true) (hk : ∀ L st μ, k L st μ → mmEnds d M (pc + len) L st μ P) (h : wpI d M P (pc, .irem, len, w, a, b, v, Mc) k L st μ) : mmEnds d M pc L st μ P := by
  obtain ⟨hd, hX⟩ := mmOkI_ok hok
  dsimp only at hd
  obtain rfl : len = 1 := by simpa [mmOkX] using hX
  obtain ⟨y, r, rfl, h⟩ := pI_ok h
  obtain ⟨x, r, rfl, h⟩ := pI_ok h
  intro p l e s m args below meth c H locs B H0 sk sv D cA ls hx hb hr hml hown hts hlk hS hls hH hF hB
  exact lv_irem hx hb hd h.1 (hk _ _ _ h.2 p l e s m args below meth c H locs B H0 sk sv D cA ls hx hb hr hml hown hts hlk hS hls hH hF hB)
theorem st_ladd {d : Nat} {M : mmMi} {P : Option Value → mmMem → Prop} {k : List Value → List Value → mmMem → Prop} {L st : List Value} {μ : mmMem} {pc len w a b : Nat} {v : Value} {Mc : mmMi} (hok : mmOkI M (pc, .ladd, len, w, a, b, v, Mc) = true) (hk : ∀ L st μ, k L st μ → mmEnds d M (pc + len) L st μ P) (h : wpI d M P (pc, .ladd, len, w, a, b, v, Mc) k L st μ) : mmEnds d M pc L st μ P := by
  obtain ⟨hd, hX⟩ := mmOkI_ok hok
  dsimp only at hd
  obtain rfl : len = 1 := by simpa [mmOkX] using hX
  obtain ⟨y, r, rfl, h⟩ := pJ_ok h
  obtain ⟨x, r, rfl, h⟩ := pJ_ok h
  intro p l e s m args below meth c H locs B H0 sk sv D cA ls hx hb hr hml hown hts hlk hS hls hH hF hB
  exact lv_ladd hx hb hd (hk _ _ _ h p l e s m args below meth c H locs B H0 sk sv D cA ls hx hb hr hml hown hts hlk hS hls hH hF hB)
theorem st_lsub {d : Nat} {M : mmMi} {P : Option Value → mmMem → Prop} {k : List Value → List Value → mmMem → Prop} {L st : List Value} {μ : mmMem} {pc len w a b : Nat} {v : Value} {Mc : mmMi} (hok : mmOkI M (pc, .lsub, len, w, a, b, v, Mc) = true) (hk : ∀ L st μ, k L st μ → mmEnds d M (pc + len) L st μ P) (h : wpI d M P (pc, .lsub, len, w, a, b, v, Mc) k L st μ) : mmEnds d M pc L st μ P := by
  obtain ⟨hd, hX⟩ := mmOkI_ok hok
  dsimp only at hd
  obtain rfl : len = 1 := by simpa [mmOkX] using hX
  obtain ⟨y, r, rfl, h⟩ := pJ_ok h
  obtain ⟨x, r, rfl, h⟩ := pJ_ok h
  intro p l e s m args below meth c H locs B H0 sk sv D cA ls hx hb hr hml hown hts hlk hS hls hH hF hB
  exact lv_lsub hx hb hd (hk _ _ _ h p l e s m args below meth c H locs B H0 sk sv D cA ls hx hb hr hml hown hts hlk hS hls hH hF hB)
theorem st_lmul {d : Nat} {M : mmMi} {P : Option Value → mmMem → Prop} {k : List Value → List Value → mmMem → Prop} {L st : List Value} {μ : mmMem} {pc len w a b : Nat} {v : Value} {Mc : mmMi} (hok : mmOkI M (pc, .lmul, len, w, a, b, v, Mc) = true) (hk : ∀ L st μ, k L st μ → mmEnds d M (pc + len) L st μ P) (h : wpI d M P (pc, .lmul, len, w, a, b, v, Mc) k L st μ) : mmEnds d M pc L st μ P := by
  obtain ⟨hd, hX⟩ := mmOkI_ok hok
  dsimp only at hd
  obtain rfl : len = 1 := by simpa [mmOkX] using hX
  obtain ⟨y, r, rfl, h⟩ := pJ_ok h
  obtain ⟨x, r, rfl, h⟩ := pJ_ok h
  intro p l e s m args below meth c H locs B H0 sk sv D cA ls hx hb hr hml hown hts hlk hS hls hH hF hB
  exact lv_lmul hx hb hd (hk _ _ _ h p l e s m args below meth c H locs B H0 sk sv D cA ls hx hb hr hml hown hts hlk hS hls hH hF hB)
theorem st_land {d : Nat} {M : mmMi} {P : Option Value → mmMem → Prop} {k : List Value → List Value → mmMem → Prop} {L st : List Value} {μ : mmMem} {pc len w a b : Nat} {v : Value} {Mc : mmMi} (hok : mmOkI M (pc, .land, len, w, a, b, v, Mc) = true) (hk : ∀ L st μ, k L st μ → mmEnds d M (pc + len) L st μ P) (h : wpI d M P (pc, .land, len, w, a, b, v, Mc) k L st μ) : mmEnds d M pc L st μ P := by
  obtain ⟨hd, hX⟩ := mmOkI_ok hok
  dsimp only at hd
  obtain rfl : len = 1 := by simpa [mmOkX] using hX
  obtain ⟨y, r, rfl, h⟩ := pJ_ok h
  obtain ⟨x, r, rfl, h⟩ := pJ_ok h
  intro p l e s m args below meth c H locs B H0 sk sv D cA ls hx hb hr hml hown hts hlk hS hls hH hF hB
  exact lv_land hx hb hd (hk _ _ _ h p l e s m args below meth c H locs B H0 sk sv D cA ls hx hb hr hml hown hts hlk hS hls hH hF hB)
theorem st_lor {d : Nat} {M : mmMi} {P : Option Value → mmMem → Prop} {k : List Value → List Value → mmMem → Prop} {L st : List Value} {μ : mmMem} {pc len w a b : Nat} {v : Value} {Mc : mmMi} (hok : mmOkI M (pc, .lor, len, w, a, b, v, Mc) = true) (hk : ∀ L st μ, k L st μ → mmEnds d M (pc + len) L st μ P) (h : wpI d M P (pc, .lor, len, w, a, b, v, Mc) k L st μ) : mmEnds d M pc L st μ P := by
  obtain ⟨hd, hX⟩ := mmOkI_ok hok
  dsimp only at hd
  obtain rfl : len = 1 := by simpa [mmOkX] using hX
  obtain ⟨y, r, rfl, h⟩ := pJ_ok h
  obtain ⟨x, r, rfl, h⟩ := pJ_ok h
  intro p l e s m args below meth c H locs B H0 sk sv D cA ls hx hb hr hml hown hts hlk hS hls hH hF hB
  exact lv_lor hx hb hd (hk _ _ _ h p l e s m args below meth c H locs B H0 sk sv D cA ls hx hb hr hml hown hts hlk hS hls hH hF hB)
theorem st_lxor {d : Nat} {M : mmMi} {P : Option Value → mmMem → Prop} {k : List Value → List Value → mmMem → Prop} {L st : List Value} {μ : mmMem} {pc len w a b : Nat} {v : Value} {Mc : mmMi} (hok : mmOkI M (pc, .lxor, len, w, a, b, v, Mc) = true) (hk : ∀ L st μ, k L st μ → mmEnds d M (pc + len) L st μ P) (h : wpI d M P (pc, .lxor, len, w, a, b, v, Mc) k L st μ) : mmEnds d M pc L st μ P := by
  obtain ⟨hd, hX⟩ := mmOkI_ok hok
  dsimp only at hd
  obtain rfl : len = 1 := by simpa [mmOkX] using hX
  obtain ⟨y, r, rfl, h⟩ := pJ_ok h
  obtain ⟨x, r, rfl, h⟩ := pJ_ok h
  intro p l e s m args below meth c H locs B H0 sk sv D cA ls hx hb hr hml hown hts hlk hS hls hH hF hB
  exact lv_lxor hx hb hd (hk _ _ _ h p l e s m args below meth c H locs B H0 sk sv D cA ls hx hb hr hml hown hts hlk hS hls hH hF hB)
theorem st_lcmp {d : Nat} {M : mmMi} {P : Option Value → mmMem → Prop} {k : List Value → List Value → mmMem → Prop} {L st : List Value} {μ : mmMem} {pc len w a b : Nat} {v : Value} {Mc : mmMi} (hok : mmOkI M (pc, .lcmp, len, w, a, b, v, Mc) = true) (hk : ∀ L st μ, k L st μ → mmEnds d M (pc + len) L st μ P) (h : wpI d M P (pc, .lcmp, len, w, a, b, v, Mc) k L st μ) : mmEnds d M pc L st μ P := by
  obtain ⟨hd, hX⟩ := mmOkI_ok hok
  dsimp only at hd
  obtain rfl : len = 1 := by simpa [mmOkX] using hX
  obtain ⟨y, r, rfl, h⟩ := pJ_ok h
  obtain ⟨x, r, rfl, h⟩ := pJ_ok h
  intro p l e s m args below meth c H locs B H0 sk sv D cA ls hx hb hr hml hown hts hlk hS hls hH hF hB
  exact W.lcmp hx hb hd (hk _ _ _ h p l e s m args below meth c H locs B H0 sk sv D cA ls hx hb hr hml hown hts hlk hS hls hH hF hB)
theorem st_ldiv {d : Nat} {M : mmMi} {P : Option Value → mmMem → Prop} {k : List Value → List Value → mmMem → Prop} {L st : List Value} {μ : mmMem} {pc len w a b : Nat} {v : Value} {Mc : mmMi} (hok : mmOkI M (pc, .ldiv, len, w, a, b, v, Mc) = true) (hk : ∀ L st μ, k L st μ → mmEnds d M (pc + len) L st μ P) (h : wpI d M P (pc, .ldiv, len, w, a, b, v, Mc) k L st μ) : mmEnds d M pc L st μ P := by
  obtain ⟨hd, hX⟩ := mmOkI_ok hok
  dsimp only at hd
  obtain rfl : len = 1 := by simpa [mmOkX] using hX
  obtain ⟨y, r, rfl, h⟩ := pJ_ok h
  obtain ⟨x, r, rfl, h⟩ := pJ_ok h
  intro p l e s m args below meth c H locs B H0 sk sv D cA ls hx hb hr hml hown hts hlk hS hls hH hF hB
  exact lv_ldiv hx hb hd h.1 (hk _ _ _ h.2 p l e s m args below meth c H locs B H0 sk sv D cA ls hx hb hr hml hown hts hlk hS hls hH hF hB)
theorem st_lrem {d : Nat} {M : mmMi} {P : Option Value → mmMem → Prop} {k : List Value → List Value → mmMem → Prop} {L st : List Value} {μ : mmMem} {pc len w a b : Nat} {v : Value} {Mc : mmMi} (hok : mmOkI M (pc, .lrem, len, w, a, b, v, Mc) = true) (hk : ∀ L st μ, k L st μ → mmEnds d M (pc + len) L st μ P) (h : wpI d M P (pc, .lrem, len, w, a, b, v, Mc) k L st μ) : mmEnds d M pc L st μ P := by
  obtain ⟨hd, hX⟩ := mmOkI_ok hok
  dsimp only at hd
  obtain rfl : len = 1 := by simpa [mmOkX] using hX
  obtain ⟨y, r, rfl, h⟩ := pJ_ok h
  obtain ⟨x, r, rfl, h⟩ := pJ_ok h
  intro p l e s m args below meth c H locs B H0 sk sv D cA ls hx hb hr hml hown hts hlk hS hls hH hF hB
  exact lv_lrem hx hb hd h.1 (hk _ _ _ h.2 p l e s m args below meth c H locs B H0 sk sv D cA ls hx hb hr hml hown hts hlk hS hls hH hF hB)
theorem st_ineg {d : Nat} {M : mmMi} {P : Option Value → mmMem → Prop} {k : List Value → List Value → mmMem → Prop} {L st : List Value} {μ : mmMem} {pc len w a b : Nat} {v : Value} {Mc : mmMi} (hok : mmOkI M (pc, .ineg, len, w, a, b, v, Mc) = true) (hk : ∀ L st μ, k L st μ → mmEnds d M (pc + len) L st μ P) (h : wpI d M P (pc, .ineg, len, w, a, b, v, Mc) k L st μ) : mmEnds d M pc L st μ P := by
  obtain ⟨hd, hX⟩ := mmOkI_ok hok
  dsimp only at hd
  obtain rfl : len = 1 := by simpa [mmOkX] using hX
  obtain ⟨x, r, rfl, h⟩ := pI_ok h
  intro p l e s m args below meth c H locs B H0 sk sv D cA ls hx hb hr hml hown hts hlk hS hls hH hF hB
  exact lv_ineg hx hb hd (hk _ _ _ h p l e s m args below meth c H locs B H0 sk sv D cA ls hx hb hr hml hown hts hlk hS hls hH hF hB)
theorem st_lneg {d : Nat} {M : mmMi} {P : Option Value → mmMem → Prop} {k : List Value → List Value → mmMem → Prop} {L st : List Value} {μ : mmMem} {pc len w a b : Nat} {v : Value} {Mc : mmMi} (hok : mmOkI M (pc, .lneg, len, w, a, b, v, Mc) = true) (hk : ∀ L st μ, k L st μ → mmEnds d M (pc + len) L st μ P) (h : wpI d M P (pc, .lneg, len, w, a, b, v, Mc) k L st μ) : mmEnds d M pc L st μ P := by
  obtain ⟨hd, hX⟩ := mmOkI_ok hok
  dsimp only at hd
  obtain rfl : len = 1 := by simpa [mmOkX] using hX
  obtain ⟨x, r, rfl, h⟩ := pJ_ok h
  intro p l e s m args below meth c H locs B H0 sk sv D cA ls hx hb hr hml hown hts hlk hS hls hH hF hB
  exact lv_lneg hx hb hd (hk _ _ _ h p l e s m args below meth c H locs B H0 sk sv D cA ls hx hb hr hml hown hts hlk hS hls hH hF hB)
theorem st_l2d {d : Nat} {M : mmMi} {P : Option Value → mmMem → Prop} {k : List Value → List Value → mmMem → Prop} {L st : List Value} {μ : mmMem} {pc len w a b : Nat} {v : Value} {Mc : mmMi} (hok : mmOkI M (pc, .l2d, len, w, a, b, v, Mc) = true) (hk : ∀ L st μ, k L st μ → mmEnds d M (pc + len) L st μ P) (h : wpI d M P (pc, .l2d, len, w, a, b, v, Mc) k L st μ) : mmEnds d M pc L st μ P := by
  obtain ⟨hd, hX⟩ := mmOkI_ok hok
  dsimp only at hd
  obtain rfl : len = 1 := by simpa [mmOkX] using hX
  obtain ⟨x, r, rfl, h⟩ := pJ_ok h
  intro p l e s m args below meth c H locs B H0 sk sv D cA ls hx hb hr hml hown hts hlk hS hls hH hF hB
  exact lv_l2d hx hb hd (hk _ _ _ h p l e s m args below meth c H locs B H0 sk sv D cA ls hx hb hr hml hown hts hlk hS hls hH hF hB)
theorem st_l2f {d : Nat} {M : mmMi} {P : Option Value → mmMem → Prop} {k : List Value → List Value → mmMem → Prop} {L st : List Value} {μ : mmMem} {pc len w a b : Nat} {v : Value} {Mc : mmMi} (hok : mmOkI M (pc, .l2f, len, w, a, b, v, Mc) = true) (hk : ∀ L st μ, k L st μ → mmEnds d M (pc + len) L st μ P) (h : wpI d M P (pc, .l2f, len, w, a, b, v, Mc) k L st μ) : mmEnds d M pc L st μ P := by
  obtain ⟨hd, hX⟩ := mmOkI_ok hok
  dsimp only at hd
  obtain rfl : len = 1 := by simpa [mmOkX] using hX
  obtain ⟨x, r, rfl, h⟩ := pJ_ok h
  intro p l e s m args below meth c H locs B H0 sk sv D cA ls hx hb hr hml hown hts hlk hS hls hH hF hB
  exact lv_l2f hx hb hd (hk _ _ _ h p l e s m args below meth c H locs B H0 sk sv D cA ls hx hb hr hml hown hts hlk hS hls hH hF hB)
theorem st_d2l {d : Nat} {M : mmMi} {P : Option Value → mmMem → Prop} {k : List Value → List Value → mmMem → Prop} {L st : List Value} {μ : mmMem} {pc len w a b : Nat} {v : Value} {Mc : mmMi} (hok : mmOkI M (pc, .d2l, len, w, a, b, v, Mc) = true) (hk : ∀ L st μ, k L st μ → mmEnds d M (pc + len) L st μ P) (h : wpI d M P (pc, .d2l, len, w, a, b, v, Mc) k L st μ) : mmEnds d M pc L st μ P := by
  obtain ⟨hd, hX⟩ := mmOkI_ok hok
  dsimp only at hd
  obtain rfl : len = 1 := by simpa [mmOkX] using hX
  obtain ⟨x, r, rfl, h⟩ := pD_ok h
  intro p l e s m args below meth c H locs B H0 sk sv D cA ls hx hb hr hml hown hts hlk hS hls hH hF hB
  exact lv_d2l hx hb hd (hk _ _ _ h p l e s m args below meth c H locs B H0 sk sv D cA ls hx hb hr hml hown hts hlk hS hls hH hF hB)
theorem st_d2i {d : Nat} {M : mmMi} {P : Option Value → mmMem → Prop} {k : List Value → List Value → mmMem → Prop} {L st : List Value} {μ : mmMem} {pc len w a b : Nat} {v : Value} {Mc : mmMi} (hok : mmOkI M (pc, .d2i, len, w, a, b, v, Mc) = true) (hk : ∀ L st μ, k L st μ → mmEnds d M (pc + len) L st μ P) (h : wpI d M P (pc, .d2i, len, w, a, b, v, Mc) k L st μ) : mmEnds d M pc L st μ P := by
  obtain ⟨hd, hX⟩ := mmOkI_ok hok
  dsimp only at hd
  obtain rfl : len = 1 := by simpa [mmOkX] using hX
  obtain ⟨x, r, rfl, h⟩ := pD_ok h
  intro p l e s m args below meth c H locs B H0 sk sv D cA ls hx hb hr hml hown hts hlk hS hls hH hF hB
  exact lv_d2i hx hb hd (hk _ _ _ h p l e s m args below meth c H locs B H0 sk sv D cA ls hx hb hr hml hown hts hlk hS hls hH hF hB)
theorem st_f2l {d : Nat} {M : mmMi} {P : Option Value → mmMem → Prop} {k : List Value → List Value → mmMem → Prop} {L st : List Value} {μ : mmMem} {pc len w a b : Nat} {v : Value} {Mc : mmMi} (hok : mmOkI M (pc, .f2l, len, w, a, b, v, Mc) = true) (hk : ∀ L st μ, k L st μ → mmEnds d M (pc + len) L st μ P) (h : wpI d M P (pc, .f2l, len, w, a, b, v, Mc) k L st μ) : mmEnds d M pc L st μ P := by
  obtain ⟨hd, hX⟩ := mmOkI_ok hok
  dsimp only at hd
  obtain rfl : len = 1 := by simpa [mmOkX] using hX
  obtain ⟨x, r, rfl, h⟩ := pF_ok h
  intro p l e s m args below meth c H locs B H0 sk sv D cA ls hx hb hr hml hown hts hlk hS hls hH hF hB
  exact lv_f2l hx hb hd (hk _ _ _ h p l e s m args below meth c H locs B H0 sk sv D cA ls hx hb hr hml hown hts hlk hS hls hH hF hB)
theorem st_dneg {d : Nat} {M : mmMi} {P : Option Value → mmMem → Prop} {k : List Value → List Value → mmMem → Prop} {L st : List Value} {μ : mmMem} {pc len w a b : Nat} {v : Value} {Mc : mmMi} (hok : mmOkI M (pc, .dneg, len, w, a, b, v, Mc) = true) (hk : ∀ L st μ, k L st μ → mmEnds d M (pc + len) L st μ P) (h : wpI d M P (pc, .dneg, len, w, a, b, v, Mc) k L st μ) : mmEnds d M pc L st μ P := by
  obtain ⟨hd, hX⟩ := mmOkI_ok hok
  dsimp only at hd
  obtain rfl : len = 1 := by simpa [mmOkX] using hX
  obtain ⟨x, r, rfl, h⟩ := pD_ok h
  intro p l e s m args below meth c H locs B H0 sk sv D cA ls hx hb hr hml hown hts hlk hS hls hH hF hB
  exact lv_dneg hx hb hd (hk _ _ _ h p l e s m args below meth c H locs B H0 sk sv D cA ls hx hb hr hml hown hts hlk hS hls hH hF hB)
theorem st_i2l {d : Nat} {M : mmMi} {P : Option Value → mmMem → Prop} {k : List Value → List Value → mmMem → Prop} {L st : List Value} {μ : mmMem} {pc len w a b : Nat} {v : Value} {Mc : mmMi} (hok : mmOkI M (pc, .i2l, len, w, a, b, v, Mc) = true) (hk : ∀ L st μ, k L st μ → mmEnds d M (pc + len) L st μ P) (h : wpI d M P (pc, .i2l, len, w, a, b, v, Mc) k L st μ) : mmEnds d M pc L st μ P := by
  obtain ⟨hd, hX⟩ := mmOkI_ok hok
  dsimp only at hd
  obtain rfl : len = 1 := by simpa [mmOkX] using hX
  obtain ⟨x, r, rfl, h⟩ := pI_ok h
  intro p l e s m args below meth c H locs B H0 sk sv D cA ls hx hb hr hml hown hts hlk hS hls hH hF hB
  exact lv_i2l hx hb hd rfl (hk _ _ _ h p l e s m args below meth c H locs B H0 sk sv D cA ls hx hb hr hml hown hts hlk hS hls hH hF hB)
theorem st_l2i {d : Nat} {M : mmMi} {P : Option Value → mmMem → Prop} {k : List Value → List Value → mmMem → Prop} {L st : List Value} {μ : mmMem} {pc len w a b : Nat} {v : Value} {Mc : mmMi} (hok : mmOkI M (pc, .l2i, len, w, a, b, v, Mc) = true) (hk : ∀ L st μ, k L st μ → mmEnds d M (pc + len) L st μ P) (h : wpI d M P (pc, .l2i, len, w, a, b, v, Mc) k L st μ) : mmEnds d M pc L st μ P := by
  obtain ⟨hd, hX⟩ := mmOkI_ok hok
  dsimp only at hd
  obtain rfl : len = 1 := by simpa [mmOkX] using hX
  obtain ⟨x, r, rfl, h⟩ := pJ_ok h
  intro p l e s m args below meth c H locs B H0 sk sv D cA ls hx hb hr hml hown hts hlk hS hls hH hF hB
  exact lv_l2i hx hb hd rfl (hk _ _ _ h p l e s m args below meth c H locs B H0 sk sv D cA ls hx hb hr hml hown hts hlk hS hls hH hF hB)
theorem st_i2b {d : Nat} {M : mmMi} {P : Option Value → mmMem → Prop} {k : List Value → List Value → mmMem → Prop} {L st : List Value} {μ : mmMem} {pc len w a b : Nat} {v : Value} {Mc : mmMi} (hok : mmOkI M (pc, .i2b, len, w, a, b, v, Mc) = true) (hk : ∀ L st μ, k L st μ → mmEnds d M (pc + len) L st μ P) (h : wpI d M P (pc, .i2b, len, w, a, b, v, Mc) k L st μ) : mmEnds d M pc L st μ P := by
  obtain ⟨hd, hX⟩ := mmOkI_ok hok
  dsimp only at hd
  obtain rfl : len = 1 := by simpa [mmOkX] using hX
  obtain ⟨x, r, rfl, h⟩ := pI_ok h
  intro p l e s m args below meth c H locs B H0 sk sv D cA ls hx hb hr hml hown hts hlk hS hls hH hF hB
  exact lv_i2b hx hb hd rfl (hk _ _ _ h p l e s m args below meth c H locs B H0 sk sv D cA ls hx hb hr hml hown hts hlk hS hls hH hF hB)
theorem st_i2s {d : Nat} {M : mmMi} {P : Option Value → mmMem → Prop} {k : List Value → List Value → mmMem → Prop} {L st : List Value} {μ : mmMem} {pc len w a b : Nat} {v : Value} {Mc : mmMi} (hok : mmOkI M (pc, .i2s, len, w, a, b, v, Mc) = true) (hk : ∀ L st μ, k L st μ → mmEnds d M (pc + len) L st μ P) (h : wpI d M P (pc, .i2s, len, w, a, b, v, Mc) k L st μ) : mmEnds d M pc L st μ P := by
  obtain ⟨hd, hX⟩ := mmOkI_ok hok
  dsimp only at hd
  obtain rfl : len = 1 := by simpa [mmOkX] using hX
  obtain ⟨x, r, rfl, h⟩ := pI_ok h
  intro p l e s m args below meth c H locs B H0 sk sv D cA ls hx hb hr hml hown hts hlk hS hls hH hF hB
  exact lv_i2s hx hb hd rfl (hk _ _ _ h p l e s m args below meth c H locs B H0 sk sv D cA ls hx hb hr hml hown hts hlk hS hls hH hF hB)
theorem st_i2c {d : Nat} {M : mmMi} {P : Option Value → mmMem → Prop} {k : List Value → List Value → mmMem → Prop} {L st : List Value} {μ : mmMem} {pc len w a b : Nat} {v : Value} {Mc : mmMi} (hok : mmOkI M (pc, .i2c, len, w, a, b, v, Mc) = true) (hk : ∀ L st μ, k L st μ → mmEnds d M (pc + len) L st μ P) (h : wpI d M P (pc, .i2c, len, w, a, b, v, Mc) k L st μ) : mmEnds d M pc L st μ P := by
  obtain ⟨hd, hX⟩ := mmOkI_ok hok
  dsimp only at hd
  obtain rfl : len = 1 := by simpa [mmOkX] using hX
  obtain ⟨x, r, rfl, h⟩ := pI_ok h
  intro p l e s m args below meth c H locs B H0 sk sv D cA ls hx hb hr hml hown hts hlk hS hls hH hF hB
  exact lv_i2c hx hb hd rfl (hk _ _ _ h p l e s m args below meth c H locs B H0 sk sv D cA ls hx hb hr hml hown hts hlk hS hls hH hF hB)
theorem st_lshl {d : Nat} {M : mmMi} {P : Option Value → mmMem → Prop} {k : List Value → List Value → mmMem → Prop} {L st : List Value} {μ : mmMem} {pc len w a b : Nat} {v : Value} {Mc : mmMi} (hok : mmOkI M (pc, .lshl, len, w, a, b, v, Mc) = true) (hk : ∀ L st μ, k L st μ → mmEnds d M (pc + len) L st μ P) (h : wpI d M P (pc, .lshl, len, w, a, b, v, Mc) k L st μ) : mmEnds d M pc L st μ P := by
  obtain ⟨hd, hX⟩ := mmOkI_ok hok
  dsimp only at hd
  obtain rfl : len = 1 := by simpa [mmOkX] using hX
  obtain ⟨y, r, rfl, h⟩ := pI_ok h
  obtain ⟨x, r, rfl, h⟩ := pJ_ok h
  intro p l e s m args below meth c H locs B H0 sk sv D cA ls hx hb hr hml hown hts hlk hS hls hH hF hB
  exact lv_lshl hx hb hd rfl (hk _ _ _ h p l e s m args below meth c H locs B H0 sk sv D cA ls hx hb hr hml hown hts hlk hS hls hH hF hB)
theorem st_f2d {d : Nat} {M : mmMi} {P : Option Value → mmMem → Prop} {k : List Value → List Value → mmMem → Prop} {L st : List Value} {μ : mmMem} {pc len w a b : Nat} {v : Value} {Mc : mmMi} (hok : mmOkI M (pc, .f2d, len, w, a, b, v, Mc) = true) (hk : ∀ L st μ, k L st μ → mmEnds d M (pc + len) L st μ P) (h : wpI d M P (pc, .f2d, len, w, a, b, v, Mc) k L st μ) : mmEnds d M pc L st μ P := by
  obtain ⟨hd, hX⟩ := mmOkI_ok hok
  dsimp only at hd
  obtain rfl : len = 1 := by simpa [mmOkX] using hX
  obtain ⟨x, r, rfl, h⟩ := pF_ok h
  intro p l e s m args below meth c H locs B H0 sk sv D cA ls hx hb hr hml hown hts hlk hS hls hH hF hB
  exact lv_f2d hx hb hd h.1 (hk _ _ _ h.2 p l e s m args below meth c H locs B H0 sk sv D cA ls hx hb hr hml hown hts hlk hS hls hH hF hB)
theorem st_d2f {d : Nat} {M : mmMi} {P : Option Value → mmMem → Prop} {k : List Value → List Value → mmMem → Prop} {L st : List Value} {μ : mmMem} {pc len w a b : Nat} {v : Value} {Mc : mmMi} (hok : mmOkI M (pc, .d2f, len, w, a, b, v, Mc) = true) (hk : ∀ L st μ, k L st μ → mmEnds d M (pc + len) L st μ P) (h : wpI d M P (pc, .d2f, len, w, a, b, v, Mc) k L st μ) : mmEnds d M pc L st μ P := by
  obtain ⟨hd, hX⟩ := mmOkI_ok hok
  dsimp only at hd
  obtain rfl : len = 1 := by simpa [mmOkX] using hX
  obtain ⟨x, r, rfl, h⟩ := pD_ok h
  intro p l e s m args below meth c H locs B H0 sk sv D cA ls hx hb hr hml hown hts hlk hS hls hH hF hB
  exact lv_d2f hx hb hd h.1 (hk _ _ _ h.2 p l e s m args below meth c H locs B H0 sk sv D cA ls hx hb hr hml hown hts hlk hS hls hH hF hB)
theorem st_dadd {d : Nat} {M : mmMi} {P : Option Value → mmMem → Prop} {k : List Value → List Value → mmMem → Prop} {L st : List Value} {μ : mmMem} {pc len w a b : Nat} {v : Value} {Mc : mmMi} (hok : mmOkI M (pc, .dadd, len, w, a, b, v, Mc) = true) (hk : ∀ L st μ, k L st μ → mmEnds d M (pc + len) L st μ P) (h : wpI d M P (pc, .dadd, len, w, a, b, v, Mc) k L st μ) : mmEnds d M pc L st μ P := by
  obtain ⟨hd, hX⟩ := mmOkI_ok hok
  dsimp only at hd
  obtain rfl : len = 1 := by simpa [mmOkX] using hX
  obtain ⟨y, r, rfl, h⟩ := pD_ok h
  obtain ⟨x, r, rfl, h⟩ := pD_ok h
  intro p l e s m args below meth c H locs B H0 sk sv D cA ls hx hb hr hml hown hts hlk hS hls hH hF hB
  exact lv_dadd hx hb hd h.1 (hk _ _ _ h.2 p l e s m args below meth c H locs B H0 sk sv D cA ls hx hb hr hml hown hts hlk hS hls hH hF hB)
theorem st_dsub {d : Nat} {M : mmMi} {P : Option Value → mmMem → Prop} {k : List Value → List Value → mmMem → Prop} {L st : List Value} {μ : mmMem} {pc len w a b : Nat} {v : Value} {Mc : mmMi} (hok : mmOkI M (pc, .dsub, len, w, a, b, v, Mc) = true) (hk : ∀ L st μ, k L st μ → mmEnds d M (pc + len) L st μ P) (h : wpI d M P (pc, .dsub, len, w, a, b, v, Mc) k L st μ) : mmEnds d M pc L st μ P := by
  obtain ⟨hd, hX⟩ := mmOkI_ok hok
  dsimp only at hd
  obtain rfl : len = 1 := by simpa [mmOkX] using hX
  obtain ⟨y, r, rfl, h⟩ := pD_ok h
  obtain ⟨x, r, rfl, h⟩ := pD_ok h
  intro p l e s m args below meth c H locs B H0 sk sv D cA ls hx hb hr hml hown hts hlk hS hls hH hF hB
  exact lv_dsub hx hb hd h.1 (hk _ _ _ h.2 p l e s m args below meth c H locs B H0 sk sv D cA ls hx hb hr hml hown hts hlk hS hls hH hF hB)
theorem st_dmul {d : Nat} {M : mmMi} {P : Option Value → mmMem → Prop} {k : List Value → List Value → mmMem → Prop} {L st : List Value} {μ : mmMem} {pc len w a b : Nat} {v : Value} {Mc : mmMi} (hok : mmOkI M (pc, .dmul, len, w, a, b, v, Mc) = true) (hk : ∀ L st μ, k L st μ → mmEnds d M (pc + len) L st μ P) (h : wpI d M P (pc, .dmul, len, w, a, b, v, Mc) k L st μ) : mmEnds d M pc L st μ P := by
  obtain ⟨hd, hX⟩ := mmOkI_ok hok
  dsimp only at hd
  obtain rfl : len = 1 := by simpa [mmOkX] using hX
  obtain ⟨y, r, rfl, h⟩ := pD_ok h
  obtain ⟨x, r, rfl, h⟩ := pD_ok h
  intro p l e s m args below meth c H locs B H0 sk sv D cA ls hx hb hr hml hown hts hlk hS hls hH hF hB
  exact lv_dmul hx hb hd h.1 (hk _ _ _ h.2 p l e s m args below meth c H locs B H0 sk sv D cA ls hx hb hr hml hown hts hlk hS hls hH hF hB)
theorem st_ddiv {d : Nat} {M : mmMi} {P : Option Value → mmMem → Prop} {k : List Value → List Value → mmMem → Prop} {L st : List Value} {μ : mmMem} {pc len w a b : Nat} {v : Value} {Mc : mmMi} (hok : mmOkI M (pc, .ddiv, len, w, a, b, v, Mc) = true) (hk : ∀ L st μ, k L st μ → mmEnds d M (pc + len) L st μ P) (h : wpI d M P (pc, .ddiv, len, w, a, b, v, Mc) k L st μ) : mmEnds d M pc L st μ P := by
  obtain ⟨hd, hX⟩ := mmOkI_ok hok
  dsimp only at hd
  obtain rfl : len = 1 := by simpa [mmOkX] using hX
  obtain ⟨y, r, rfl, h⟩ := pD_ok h
  obtain ⟨x, r, rfl, h⟩ := pD_ok h
  intro p l e s m args below meth c H locs B H0 sk sv D cA ls hx hb hr hml hown hts hlk hS hls hH hF hB
  exact lv_ddiv hx hb hd h.1 (hk _ _ _ h.2 p l e s m args below meth c H locs B H0 sk sv D cA ls hx hb hr hml hown hts hlk hS hls hH hF hB)
theorem st_fmul {d : Nat} {M : mmMi} {P : Option Value → mmMem → Prop} {k : List Value → List Value → mmMem → Prop} {L st : List Value} {μ : mmMem} {pc len w a b : Nat} {v : Value} {Mc : mmMi} (hok : mmOkI M (pc, .fmul, len, w, a, b, v, Mc) = true) (hk : ∀ L st μ, k L st μ → mmEnds d M (pc + len) L st μ P) (h : wpI d M P (pc, .fmul, len, w, a, b, v, Mc) k L st μ) : mmEnds d M pc L st μ P := by
  obtain ⟨hd, hX⟩ := mmOkI_ok hok
  dsimp only at hd
  obtain rfl : len = 1 := by simpa [mmOkX] using hX
  obtain ⟨y, r, rfl, h⟩ := pF_ok h
  obtain ⟨x, r, rfl, h⟩ := pF_ok h
  intro p l e s m args below meth c H locs B H0 sk sv D cA ls hx hb hr hml hown hts hlk hS hls hH hF hB
  exact lv_fmul hx hb hd h.1 (hk _ _ _ h.2 p l e s m args below meth c H locs B H0 sk sv D cA ls hx hb hr hml hown hts hlk hS hls hH hF hB)
theorem st_fdiv {d : Nat} {M : mmMi} {P : Option Value → mmMem → Prop} {k : List Value → List Value → mmMem → Prop} {L st : List Value} {μ : mmMem} {pc len w a b : Nat} {v : Value} {Mc : mmMi} (hok : mmOkI M (pc, .fdiv, len, w, a, b, v, Mc) = true) (hk : ∀ L st μ, k L st μ → mmEnds d M (pc + len) L st μ P) (h : wpI d M P (pc, .fdiv, len, w, a, b, v, Mc) k L st μ) : mmEnds d M pc L st μ P := by
  obtain ⟨hd, hX⟩ := mmOkI_ok hok
  dsimp only at hd
  obtain rfl : len = 1 := by simpa [mmOkX] using hX
  obtain ⟨y, r, rfl, h⟩ := pF_ok h
  obtain ⟨x, r, rfl, h⟩ := pF_ok h
  intro p l e s m args below meth c H locs B H0 sk sv D cA ls hx hb hr hml hown hts hlk hS hls hH hF hB
  exact lv_fdiv hx hb hd h.1 (hk _ _ _ h.2 p l e s m args below meth c H locs B H0 sk sv D cA ls hx hb hr hml hown hts hlk hS hls hH hF hB)
theorem st_dcmp {d : Nat} {M : mmMi} {P : Option Value → mmMem → Prop} {k : List Value → List Value → mmMem → Prop} {L st : List Value} {μ : mmMem} {pc len w a b : Nat} {v : Value} {Mc : mmMi} {op : CmpOp} (hok : mmOkI M (pc, .dcmp op, len, w, a, b, v, Mc) = true) (hk : ∀ L st μ, k L st μ → mmEnds d M (pc + len) L st μ P) (h : wpI d M P (pc, .dcmp op, len, w, a, b, v, Mc) k L st μ) : mmEnds d M pc L st μ P := by
  obtain ⟨hd, hX⟩ := mmOkI_ok hok
  dsimp only at hd
  obtain rfl : len = 1 := by simpa [mmOkX] using hX
  obtain ⟨y, r, rfl, h⟩ := pD_ok h
  obtain ⟨x, r, rfl, h⟩ := pD_ok h
  intro p l e s m args below meth c H locs B H0 sk sv D cA ls hx hb hr hml hown hts hlk hS hls hH hF hB
  exact lv_dcmp hx hb hd (hk _ _ _ h p l e s m args below meth c H locs B H0 sk sv D cA ls hx hb hr hml hown hts hlk hS hls hH hF hB)
theorem st_fcmp {d : Nat} {M : mmMi} {P : Option Value → mmMem → Prop} {k : List Value → List Value → mmMem → Prop} {L st : List Value} {μ : mmMem} {pc len w a b : Nat} {v : Value} {Mc : mmMi} {op : CmpOp} (hok : mmOkI M (pc, .fcmp op, len, w, a, b, v, Mc) = true) (hk : ∀ L st μ, k L st μ → mmEnds d M (pc + len) L st μ P) (h : wpI d M P (pc, .fcmp op, len, w, a, b, v, Mc) k L st μ) : mmEnds d M pc L st μ P := by
  obtain ⟨hd, hX⟩ := mmOkI_ok hok
  dsimp only at hd
  obtain rfl : len = 1 := by simpa [mmOkX] using hX
  obtain ⟨y, r, rfl, h⟩ := pF_ok h
  obtain ⟨x, r, rfl, h⟩ := pF_ok h
  intro p l e s m args below meth c H locs B H0 sk sv D cA ls hx hb hr hml hown hts hlk hS hls hH hF hB
  exact lv_fcmp hx hb hd (hk _ _ _ h p l e s m args below meth c H locs B H0 sk sv D cA ls hx hb hr hml hown hts hlk hS hls hH hF hB)
theorem st_dup {d : Nat} {M : mmMi} {P : Option Value → mmMem → Prop} {k : List Value → List Value → mmMem → Prop} {L st : List Value} {μ : mmMem} {pc len w a b : Nat} {v : Value} {Mc : mmMi} (hok : mmOkI M (pc, .dup, len, w, a, b, v, Mc) = true) (hk : ∀ L st μ, k L st μ → mmEnds d M (pc + len) L st μ P) (h : wpI d M P (pc, .dup, len, w, a, b, v, Mc) k L st μ) : mmEnds d M pc L st μ P := by
  obtain ⟨hd, hX⟩ := mmOkI_ok hok
  dsimp only at hd
  obtain rfl : len = 1 := by simpa [mmOkX] using hX
  cases st with
  | nil => exact absurd h id
  | cons v1 r =>
    obtain ⟨h1, h⟩ := mif_ok h
    intro p l e s m args below meth c H locs B H0 sk sv D cA ls hx hb hr hml hown hts hlk hS hls hH hF hB
    exact lv_dup hx hb hd (mmV_cat B sk v1 (Nat.eq_of_beq_eq_true h1)) (hk _ _ _ h p l e s m args below meth c H locs B H0 sk sv D cA ls hx hb hr hml hown hts hlk hS hls hH hF hB)
theorem mmV_cat2 (B : Nat) (sk : Nat → Nat) (v : Value) : (mmV B sk v).category = v.category := by
  cases v <;> rfl
theorem st_dup2 {d : Nat} {M : mmMi} {P : Option Value → mmMem → Prop} {k : List Value → List Value → mmMem → Prop} {L st : List Value} {μ : mmMem} {pc len w a b : Nat} {v : Value} {Mc : mmMi} (hok : mmOkI M (pc, .dup2, len, w, a, b, v, Mc) = true) (hk : ∀ L st μ, k L st μ → mmEnds d M (pc + len) L st μ P) (h : wpI d M P (pc, .dup2, len, w, a, b, v, Mc) k L st μ) : mmEnds d M pc L st μ P := by
  obtain ⟨hd, hX⟩ := mmOkI_ok hok
  dsimp only at hd
  obtain rfl : len = 1 := by simpa [mmOkX] using hX
  cases st with
  | nil => exact absurd h id
  | cons v1 r =>
    by_cases c2 : v1.category = 2
    · have h : k L (v1 :: v1 :: r) μ := by
        simp only [wpI, c2] at h
        exact h
      intro p l e s m args below meth c H locs B H0 sk sv D cA ls hx hb hr hml hown hts hlk hS hls hH hF hB
      exact lv_dup2_2 hx hb hd (by rw [mmV_cat2]; exact c2) (hk _ _ _ h p l e s m args below meth c H locs B H0 sk sv D cA ls hx hb hr hml hown hts hlk hS hls hH hF hB)
    · have c1 : v1.category = 1 := by cases v1 <;> first | rfl | exact absurd rfl c2
      cases r with
      | nil =>
        simp only [wpI, c1] at h
      | cons v2 r =>
        have h : mif (Nat.beq v2.category 1) (k L (v1 :: v2 :: v1 :: v2 :: r) μ) := by
          simp only [wpI, c1] at h
          exact h
        obtain ⟨h1, h⟩ := mif_ok h
        intro p l e s m args below meth c H locs B H0 sk sv D cA ls hx hb hr hml hown hts hlk hS hls hH hF hB
        exact lv_dup2_11 hx hb hd (by rw [mmV_cat2]; exact c1) (by rw [mmV_cat2]; exact Nat.eq_of_beq_eq_true h1) (hk _ _ _ h p l e s m args below meth c H locs B H0 sk sv D cA ls hx hb hr hml hown hts hlk hS hls hH hF hB)
theorem st_ifCond {d : Nat} {M : mmMi} {P : Option Value → mmMem → Prop} {k : List Value → List Value → mmMem → Prop} {L st : List Value} {μ : mmMem} {pc len w a b : Nat} {v : Value} {Mc : mmMi} {cc : ClassFile.Cond} {off : Int} (hok : mmOkI M (pc, .ifCond cc off, len, w, a, b, v, Mc) = true) (hk : ∀ L st μ, k L st μ → mmEnds d M (pc + len) L st μ P) (h : wpI d M P (pc, .ifCond cc off, len, w, a, b, v, Mc) k L st μ) : mmEnds d M pc L st μ P := by
  obtain ⟨hd, hX⟩ := mmOkI_ok hok
  dsimp only at hd
  obtain ⟨rfl, ht⟩ : len = 3 ∧ (pc : Int) + off = (a : Int) := by simpa [mmOkX] using hX
  obtain ⟨x, r, rfl, h⟩ := pI_ok h
  intro p l e s m args below meth c H locs B H0 sk sv D cA ls hx hb hr hml hown hts hlk hS hls hH hF hB
  cases cc with
  | eq => exact lv_if_eq hx hb hd ht (fun q => h.1 q p l e s m args below meth c H locs B H0 sk sv D cA ls hx hb hr hml hown hts hlk hS hls hH hF hB) (fun q => hk _ _ _ (h.2 q) p l e s m args below meth c H locs B H0 sk sv D cA ls hx hb hr hml hown hts hlk hS hls hH hF hB)
  | ne => exact lv_if_ne hx hb hd ht (fun q => h.1 q p l e s m args below meth c H locs B H0 sk sv D cA ls hx hb hr hml hown hts hlk hS hls hH hF hB) (fun q => hk _ _ _ (h.2 q) p l e s m args below meth c H locs B H0 sk sv D cA ls hx hb hr hml hown hts hlk hS hls hH hF hB)
  | lt => exact lv_if_lt hx hb hd ht (fun q => h.1 q p l e s m args below meth c H locs B H0 sk sv D cA ls hx hb hr hml hown hts hlk hS hls hH hF hB) (fun q => hk _ _ _ (h.2 q) p l e s m args below meth c H locs B H0 sk sv D cA ls hx hb hr hml hown hts hlk hS hls hH hF hB)
  | ge => exact lv_if_ge hx hb hd ht (fun q => h.1 q p l e s m args below meth c H locs B H0 sk sv D cA ls hx hb hr hml hown hts hlk hS hls hH hF hB) (fun q => hk _ _ _ (h.2 q) p l e s m args below meth c H locs B H0 sk sv D cA ls hx hb hr hml hown hts hlk hS hls hH hF hB)
  | gt => exact lv_if_gt hx hb hd ht (fun q => h.1 q p l e s m args below meth c H locs B H0 sk sv D cA ls hx hb hr hml hown hts hlk hS hls hH hF hB) (fun q => hk _ _ _ (h.2 q) p l e s m args below meth c H locs B H0 sk sv D cA ls hx hb hr hml hown hts hlk hS hls hH hF hB)
  | le => exact lv_if_le hx hb hd ht (fun q => h.1 q p l e s m args below meth c H locs B H0 sk sv D cA ls hx hb hr hml hown hts hlk hS hls hH hF hB) (fun q => hk _ _ _ (h.2 q) p l e s m args below meth c H locs B H0 sk sv D cA ls hx hb hr hml hown hts hlk hS hls hH hF hB)

theorem st_if_icmp {d : Nat} {M : mmMi} {P : Option Value → mmMem → Prop} {k : List Value → List Value → mmMem → Prop} {L st : List Value} {μ : mmMem} {pc len w a b : Nat} {v : Value} {Mc : mmMi} {cc : ClassFile.Cond} {off : Int} (hok : mmOkI M (pc, .if_icmp cc off, len, w, a, b, v, Mc) = true) (hk : ∀ L st μ, k L st μ → mmEnds d M (pc + len) L st μ P) (h : wpI d M P (pc, .if_icmp cc off, len, w, a, b, v, Mc) k L st μ) : mmEnds d M pc L st μ P := by
  obtain ⟨hd, hX⟩ := mmOkI_ok hok
  dsimp only at hd
  obtain ⟨rfl, ht⟩ : len = 3 ∧ (pc : Int) + off = (a : Int) := by simpa [mmOkX] using hX
  obtain ⟨y, r, rfl, h⟩ := pI_ok h
  obtain ⟨x, r, rfl, h⟩ := pI_ok h
  intro p l e s m args below meth c H locs B H0 sk sv D cA ls hx hb hr hml hown hts hlk hS hls hH hF hB
  cases cc with
  | eq => exact lv_icmp_eq hx hb hd ht (fun q => h.1 q p l e s m args below meth c H locs B H0 sk sv D cA ls hx hb hr hml hown hts hlk hS hls hH hF hB) (fun q => hk _ _ _ (h.2 q) p l e s m args below meth c H locs B H0 sk sv D cA ls hx hb hr hml hown hts hlk hS hls hH hF hB)
  | ne => exact lv_icmp_ne hx hb hd ht (fun q => h.1 q p l e s m args below meth c H locs B H0 sk sv D cA ls hx hb hr hml hown hts hlk hS hls hH hF hB) (fun q => hk _ _ _ (h.2 q) p l e s m args below meth c H locs B H0 sk sv D cA ls hx hb hr hml hown hts hlk hS hls hH hF hB)
  | lt => exact lv_icmp_lt hx hb hd ht (fun q => h.1 q p l e s m args below meth c H locs B H0 sk sv D cA ls hx hb hr hml hown hts hlk hS hls hH hF hB) (fun q => hk _ _ _ (h.2 q) p l e s m args below meth c H locs B H0 sk sv D cA ls hx hb hr hml hown hts hlk hS hls hH hF hB)
  | ge => exact lv_icmp_ge hx hb hd ht (fun q => h.1 q p l e s m args below meth c H locs B H0 sk sv D cA ls hx hb hr hml hown hts hlk hS hls hH hF hB) (fun q => hk _ _ _ (h.2 q) p l e s m args below meth c H locs B H0 sk sv D cA ls hx hb hr hml hown hts hlk hS hls hH hF hB)
  | gt => exact lv_icmp_gt hx hb hd ht (fun q => h.1 q p l e s m args below meth c H locs B H0 sk sv D cA ls hx hb hr hml hown hts hlk hS hls hH hF hB) (fun q => hk _ _ _ (h.2 q) p l e s m args below meth c H locs B H0 sk sv D cA ls hx hb hr hml hown hts hlk hS hls hH hF hB)
  | le => exact lv_icmp_le hx hb hd ht (fun q => h.1 q p l e s m args below meth c H locs B H0 sk sv D cA ls hx hb hr hml hown hts hlk hS hls hH hF hB) (fun q => hk _ _ _ (h.2 q) p l e s m args below meth c H locs B H0 sk sv D cA ls hx hb hr hml hown hts hlk hS hls hH hF hB)

theorem st_goto {d : Nat} {M : mmMi} {P : Option Value → mmMem → Prop} {k : List Value → List Value → mmMem → Prop} {L st : List Value} {μ : mmMem} {pc len w a b : Nat} {v : Value} {Mc : mmMi} {off : Int} (hok : mmOkI M (pc, .goto off, len, w, a, b, v, Mc) = true) (hk : ∀ L st μ, k L st μ → mmEnds d M (pc + len) L st μ P) (h : wpI d M P (pc, .goto off, len, w, a, b, v, Mc) k L st μ) : mmEnds d M pc L st μ P := by
  obtain ⟨hd, hX⟩ := mmOkI_ok hok
  dsimp only at hd
  obtain ⟨rfl, ht⟩ : len = 3 ∧ (pc : Int) + off = (a : Int) := by simpa [mmOkX] using hX
  intro p l e s m args below meth c H locs B H0 sk sv D cA ls hx hb hr hml hown hts hlk hS hls hH hF hB
  exact lv_goto hx hb hd ht (h p l e s m args below meth c H locs B H0 sk sv D cA ls hx hb hr hml hown hts hlk hS hls hH hF hB)
theorem mmTs_at {pc : Nat} {x : Int32} {E : Nat → Prop} : ∀ (l : List Int) (lo : Int), mmTs pc x E lo l → ∀ (j : Nat) (off : Int), l[j]? = some off → x.toInt = lo + (j : Int) → E ((pc : Int) + off).toNat
  | [], lo, _, j, off, hj, _ => by simp at hj
  | f :: t, lo, h, j, off, hj, hx => by
    cases j with
    | zero =>
      simp only [List.getElem?_cons_zero, Option.some.injEq] at hj
      subst hj
      exact h.1 (by simpa using hx)
    | succ j => exact mmTs_at t (lo + 1) h.2 j off (by simpa using hj) (by rw [hx]; omega)
theorem mmLk_at {pc : Nat} {x : Int32} {E : Nat → Prop} {d : Int} : ∀ (l : List (Int × Int)), mmLk pc x E d l → E ((pc : Int) + Op.lookupswitch.offset l d x.toInt).toNat
  | [], h => h
  | (qa, qo) :: t, h => by
    rw [Op.lookupswitch.offset_cons]
    by_cases hq : qa = x.toInt
    · rw [if_pos hq]
      exact h.1 hq.symm
    · rw [if_neg hq]
      exact mmLk_at t (h.2 (fun z => hq z.symm))
theorem mmLk_nn {pc : Nat} {x d : Int} : ∀ (l : List (Int × Int)), 0 ≤ (pc : Int) + d → (∀ f ∈ l, 0 ≤ (pc : Int) + f.2) → 0 ≤ (pc : Int) + Op.lookupswitch.offset l d x
  | [], hd, _ => hd
  | (qa, qo) :: t, hd, h => by
    rw [Op.lookupswitch.offset_cons]
    by_cases hq : qa = x
    · rw [if_pos hq]
      exact h _ List.mem_cons_self
    · rw [if_neg hq]
      exact mmLk_nn t hd (fun f hf => h f (List.mem_cons_of_mem _ hf))
theorem st_tableswitch {d : Nat} {M : mmMi} {P : Option Value → mmMem → Prop} {k : List Value → List Value → mmMem → Prop} {L st : List Value} {μ : mmMem} {pc len w a b : Nat} {v : Value} {Mc : mmMi} {dflt lo hi : Int} {offs : Array Int} (hok : mmOkI M (pc, .tableswitch dflt lo hi offs, len, w, a, b, v, Mc) = true) (hk : ∀ L st μ, k L st μ → mmEnds d M (pc + len) L st μ P) (h : wpI d M P (pc, .tableswitch dflt lo hi offs, len, w, a, b, v, Mc) k L st μ) : mmEnds d M pc L st μ P := by
  obtain ⟨hd, hX⟩ := mmOkI_ok hok
  dsimp only at hd
  obtain ⟨⟨h1, h2⟩, h3⟩ : (0 ≤ (pc : Int) + dflt ∧ ∀ f ∈ offs.toList, 0 ≤ (pc : Int) + f) ∧ hi - lo + 1 = (offs.toList.length : Int) := by
    simp only [mmOkX, Bool.and_eq_true, decide_eq_true_eq, List.all_eq_true] at hX
    exact hX
  obtain ⟨x, r, rfl, h⟩ := pI_ok h
  intro p l e s m args below meth c H locs B H0 sk sv D cA ls hx hb hr hml hown hts hlk hS hls hH hF hB
  by_cases hout : x.toInt < lo ∨ hi < x.toInt
  · exact lv_tableOut hx hb hd hout (Int.toNat_of_nonneg h1).symm (h.1 hout p l e s m args below meth c H locs B H0 sk sv D cA ls hx hb hr hml hown hts hlk hS hls hH hF hB)
  · have hj : (x.toInt - lo).toNat < offs.toList.length := by omega
    have hg : offs.toList[(x.toInt - lo).toNat]? = some offs.toList[(x.toInt - lo).toNat] := List.getElem?_eq_getElem hj
    have hnn := h2 _ (List.getElem_mem hj)
    refine lv_tableIn hx hb hd (fun q => hout (Or.inl q)) (fun q => hout (Or.inr q)) (by rw [← Array.getElem?_toList]; exact hg) (Int.toNat_of_nonneg hnn).symm ?_
    exact mmTs_at offs.toList lo h.2 _ _ hg (by omega) p l e s m args below meth c H locs B H0 sk sv D cA ls hx hb hr hml hown hts hlk hS hls hH hF hB
theorem st_lookupswitch {d : Nat} {M : mmMi} {P : Option Value → mmMem → Prop} {k : List Value → List Value → mmMem → Prop} {L st : List Value} {μ : mmMem} {pc len w a b : Nat} {v : Value} {Mc : mmMi} {dflt : Int} {ps : Array (Int × Int)} (hok : mmOkI M (pc, .lookupswitch dflt ps, len, w, a, b, v, Mc) = true) (hk : ∀ L st μ, k L st μ → mmEnds d M (pc + len) L st μ P) (h : wpI d M P (pc, .lookupswitch dflt ps, len, w, a, b, v, Mc) k L st μ) : mmEnds d M pc L st μ P := by
  obtain ⟨hd, hX⟩ := mmOkI_ok hok
  dsimp only at hd
  obtain ⟨⟨h1, h2⟩, h3⟩ : (0 ≤ (pc : Int) + dflt ∧ ∀ f ∈ ps.toList, 0 ≤ (pc : Int) + f.2) ∧ (ps.toList.zip (ps.toList.drop 1)).all (fun (a, next) => a.1 < next.1) = true := by
    simp only [mmOkX, Bool.and_eq_true, decide_eq_true_eq] at hX
    refine ⟨⟨hX.1.1, fun f hf => ?_⟩, hX.2⟩
    have h9 := List.all_eq_true.mp hX.1.2 f hf
    simpa using h9
  obtain ⟨x, r, rfl, h⟩ := pI_ok h
  intro p l e s m args below meth c H locs B H0 sk sv D cA ls hx hb hr hml hown hts hlk hS hls hH hF hB
  exact lv_lookup hx hb hd h3 rfl (Int.toNat_of_nonneg (mmLk_nn ps.toList h1 h2)).symm (mmLk_at ps.toList h p l e s m args below meth c H locs B H0 sk sv D cA ls hx hb hr hml hown hts hlk hS hls hH hF hB)
theorem st_getfield {d : Nat} {M : mmMi} {P : Option Value → mmMem → Prop} {k : List Value → List Value → mmMem → Prop} {L st : List Value} {μ : mmMem} {pc len w a b : Nat} {v : Value} {Mc : mmMi} {n : Nat} (hok : mmOkI M (pc, .getfield n, len, w, a, b, v, Mc) = true) (hk : ∀ L st μ, k L st μ → mmEnds d M (pc + len) L st μ P) (h : wpI d M P (pc, .getfield n, len, w, a, b, v, Mc) k L st μ) : mmEnds d M pc L st μ P := by
  obtain ⟨hd, hX⟩ := mmOkI_ok hok
  dsimp only at hd
  simp only [mmOkX, Bool.and_eq_true, beq_iff_eq] at hX
  obtain ⟨rfl, hX⟩ := hX
  obtain ⟨o, r, rfl, hKD, h⟩ := pA_ok h
  cases hc : vwCl[a]? with
  | none => rw [hc] at hX; cases hX
  | some q =>
    obtain ⟨C, T, N⟩ := q
    rw [hc] at hX
    simp only [Bool.and_eq_true, decide_eq_true_eq] at hX
    obtain ⟨hb9, hw⟩ := hX
    obtain ⟨hci, rfl, hin, -, -⟩ := mm_cls hc
    intro p l e s m args below meth c H locs B H0 sk sv D cA ls hx hb hr hml hown hts hlk hS hls hH hF hB
    have h9 := hk _ _ _ h p l e s m args below meth c H locs B H0 sk sv D cA ls hx hb hr hml hown hts hlk hS hls hH hF hB
    rw [List.map_cons, mmV_Gf] at h9
    exact va_get (C := C) (T := T) (N := mmNF a) (own := M.1.cls) hx hb hts hin hown hS.2.1 hH.2.2 o (mmE_o hKD hci) hc b hb9 (mm_word (M := M) hts hw rfl) (fun _ q => q) (mm_fs hb9) hd h9
theorem mm_next {B : Nat} {H0 : Heap} {D : va_G} {cA : Nat → ClassId} {μ ν : mmMem} {H H1 H2 : Heap} {locs locs1 : List Loc} (hH : mmH B H0 D cA μ H) (hF : va_S (mmA B) H2 H locs) (hB : H2.size = H0.size) (hP : va_P D vwCl (mmW B cA ν) H1) (hS1 : va_S (mmA B) H2 H1 locs1) (hsz : H1.size ≤ H2.size + 0) : mmH B H0 D cA ν H1 := by
  refine ⟨by have := hS1.1; omega, fun q hq hn => ?_, hP⟩
  have h1 := hS1.2.1 q (by omega) hn
  have h2 := hF.2.1 q (by omega) hn
  rw [h1, ← h2]
  exact hH.2.1 q hq hn
theorem mm_fset {B : Nat} {μ ν : mmMem} {a ci k : Nat} {y : Value} (hk : k < mmNF ci) (h : ∀ j, j ≠ k → mmFV B μ a ci j = mmFV B ν a ci j) (hy : y = mmFV B ν a ci k) : ((List.range (mmNF ci)).map (mmFV B μ a ci)).set k y = (List.range (mmNF ci)).map (mmFV B ν a ci) := mm_mapset hk h hy
theorem mm_oset {B : Nat} {cA : Nat → ClassId} {μ ν : mmMem} {a ci k : Nat} {y : Value} (hKD : mmKD a = ci) (hci : ci < 10) (hk : k < mmNF ci) (h1 : ∀ b, b ≠ a → μ.1 b = ν.1 b) (h2 : ∀ b, b ≠ a → μ.2.1 b = ν.2.1 b) (h3 : ∀ b, b ≠ a → μ.2.2 b = ν.2.2 b) (h : ∀ j, j ≠ k → mmFV B μ a ci j = mmFV B ν a ci j) (hy : y = mmFV B ν a ci k) :
    (mmW B cA μ).set a (B + a, .inr (ci, ((List.range (mmNF ci)).map (mmFV B μ a ci)).set k y)) = mmW B cA ν := by
  refine mmW_set (mmKD_lt (by omega)) h1 h2 h3 ?_
  rw [mm_fset hk h hy, mmE_obj hKD hci]
theorem sI_fv {B : Nat} {μ : mmMem} {a ci k : Nat} {x : Int32} (j : Nat) (hj : j ≠ k) : mmFV B μ a ci j = mmFV B (sI μ a k x) a ci j := by
  unfold mmFV
  split <;> simp [sI, upd, hj]
theorem sJ_fv {B : Nat} {μ : mmMem} {a ci k : Nat} {x : Int64} (j : Nat) (hj : j ≠ k) : mmFV B μ a ci j = mmFV B (sJ μ a k x) a ci j := by
  unfold mmFV
  split <;> simp [sJ, vp_updL, hj]
theorem sD_fv {B : Nat} {μ : mmMem} {a ci k : Nat} {x : UInt64} (j : Nat) (hj : j ≠ k) : mmFV B μ a ci j = mmFV B (sD μ a k x) a ci j := by
  unfold mmFV
  split <;> simp [sD, vf_upd, hj]
theorem st_putfield {d : Nat} {M : mmMi} {P : Option Value → mmMem → Prop} {k : List Value → List Value → mmMem → Prop} {L st : List Value} {μ : mmMem} {pc len w a b : Nat} {v : Value} {Mc : mmMi} {n : Nat} (hok : mmOkI M (pc, .putfield n, len, w, a, b, v, Mc) = true) (hk : ∀ L st μ, k L st μ → mmEnds d M (pc + len) L st μ P) (h : wpI d M P (pc, .putfield n, len, w, a, b, v, Mc) k L st μ) : mmEnds d M pc L st μ P := by
  obtain ⟨hd, hX⟩ := mmOkI_ok hok
  dsimp only at hd
  simp only [mmOkX, Bool.and_eq_true, beq_iff_eq] at hX
  obtain ⟨rfl, hX⟩ := hX
  cases hc : vwCl[a]? with
  | none => rw [hc] at hX; cases hX
  | some q =>
    obtain ⟨C, T, N⟩ := q
    rw [hc] at hX
    simp only [Bool.and_eq_true, decide_eq_true_eq] at hX
    obtain ⟨⟨hb9, hw⟩, hfin⟩ := hX
    obtain ⟨hci, rfl, hin, hnm, ty, hty, hsort⟩ := mm_cls hc
    obtain ⟨s0, s1, s2⟩ := hsort b hb9
    have h4 : mmFT a b = 0 ∨ mmFT a b = 1 ∨ mmFT a b = 2 ∨ 3 ≤ mmFT a b := by omega
    rcases h4 with hft | hft | hft | hft
    · have h : pI st fun x r => pA r fun o r => mmKD o = a ∧ (mmBool a b = true → x = 0 ∨ x = 1) ∧ k L r (sI μ o b x) := by
        simp only [wpI, hft] at h
        obtain ⟨x, r, rfl, h⟩ := pI_ok h
        obtain ⟨o, r, rfl, hKD, h⟩ := pA_ok h
        refine ⟨hKD, ?_⟩
        cases hbb : mmBool a b with
        | true => rw [hbb] at h; exact ⟨fun _ => (mbl_ok h).1, (mbl_ok h).2⟩
        | false => rw [hbb] at h; exact ⟨fun q => Bool.noConfusion q, h⟩
      obtain ⟨x, r, rfl, h⟩ := pI_ok h
      obtain ⟨o, r, rfl, hKD, hbo, h⟩ := pA_ok h
      have hn : narrow (ty b) (.int x) = .int x ∧ fits (ty b) (.int x) = true := by
        rcases s0 hft with ⟨h5, -⟩ | ⟨h5, h6⟩
        · rw [h5]; exact ⟨rfl, rfl⟩
        · rw [h5]
          rcases hbo h6 with rfl | rfl
          · exact ⟨rfl, rfl⟩
          · exact ⟨rfl, rfl⟩
      intro p l e s m args below meth c H locs B H0 sk sv D cA ls hx hb hr hml hown hts hlk hS hls hH hF hB
      refine va_put (C := C) (T := T) (N := mmNF a) (own := M.1.cls) hx hb hts hin ty hty hnm hown hS.2.1 hH.2.2 mmW_D hF o (mmE_o hKD hci) hc b hb9 (mm_word (M := M) hts hw rfl) (fun _ q => q) hfin (hty b hb9) hn.1 hn.2 (by simpa using hb9) hd (fun H1 locs1 hP1 hD1 hS1 => mm_sz fun hsz => ?_)
      have e9 := mm_oset (B := B) (cA := cA) (μ := μ) (ν := sI μ o b x) hKD hci hb9 (fun q hq => by simp [sI, hq]) (fun q hq => by simp [sI, hq]) (fun q hq => by simp [sI, hq]) (fun j hj => sI_fv j hj) rfl
      have e8 : mmFV B (sI μ o b x) o a b = mmV B sk (mmGf (sI μ o b x) a o b) := (mmV_Gf B sk _ a o b).symm
      have hP9 : va_P D vwCl (mmW B cA (sI μ o b x)) H1 := by
        rw [← e9]
        have e7 : mmFV B (sI μ o b x) o a b = .int x := by simp [mmFV, hft, sI, upd, vp_updL, vf_upd]
        rw [e7]
        exact hP1
      exact hk _ _ _ h p l e s m args below meth c H1 locs1 B H0 sk sv D cA ls hx hb hr hml hown hts hlk hS hls (mm_next hH hF hB hP9 hS1 hsz) hS1 hB
    · have h : pJ st fun x r => pA r fun o r => mmKD o = a ∧ k L r (sJ μ o b x) := by
        simp only [wpI, hft] at h
        exact h
      obtain ⟨x, r, rfl, h⟩ := pJ_ok h
      obtain ⟨o, r, rfl, hKD, h⟩ := pA_ok h
      intro p l e s m args below meth c H locs B H0 sk sv D cA ls hx hb hr hml hown hts hlk hS hls hH hF hB
      refine va_put (C := C) (T := T) (N := mmNF a) (own := M.1.cls) hx hb hts hin ty hty hnm hown hS.2.1 hH.2.2 mmW_D hF o (mmE_o hKD hci) hc b hb9 (mm_word (M := M) hts hw rfl) (fun _ q => q) hfin (hty b hb9) (by rw [s1 hft]; rfl) (by rw [s1 hft]; rfl) (by simpa using hb9) hd (fun H1 locs1 hP1 hD1 hS1 => mm_sz fun hsz => ?_)
      have e9 := mm_oset (B := B) (cA := cA) (μ := μ) (ν := sJ μ o b x) hKD hci hb9 (fun q hq => by simp [sJ, hq]) (fun q hq => by simp [sJ, hq]) (fun q hq => by simp [sJ, hq]) (fun j hj => sJ_fv j hj) rfl
      have e8 : mmFV B (sJ μ o b x) o a b = mmV B sk (mmGf (sJ μ o b x) a o b) := (mmV_Gf B sk _ a o b).symm
      have hP9 : va_P D vwCl (mmW B cA (sJ μ o b x)) H1 := by
        rw [← e9]
        have e7 : mmFV B (sJ μ o b x) o a b = .long x := by simp [mmFV, hft, sJ, upd, vp_updL, vf_upd]
        rw [e7]
        exact hP1
      exact hk _ _ _ h p l e s m args below meth c H1 locs1 B H0 sk sv D cA ls hx hb hr hml hown hts hlk hS hls (mm_next hH hF hB hP9 hS1 hsz) hS1 hB
    · have h : pD st fun x r => pA r fun o r => mmKD o = a ∧ k L r (sD μ o b x) := by
        simp only [wpI, hft] at h
        exact h
      obtain ⟨x, r, rfl, h⟩ := pD_ok h
      obtain ⟨o, r, rfl, hKD, h⟩ := pA_ok h
      intro p l e s m args below meth c H locs B H0 sk sv D cA ls hx hb hr hml hown hts hlk hS hls hH hF hB
      refine va_put (C := C) (T := T) (N := mmNF a) (own := M.1.cls) hx hb hts hin ty hty hnm hown hS.2.1 hH.2.2 mmW_D hF o (mmE_o hKD hci) hc b hb9 (mm_word (M := M) hts hw rfl) (fun _ q => q) hfin (hty b hb9) (by rw [s2 hft]; rfl) (by rw [s2 hft]; rfl) (by simpa using hb9) hd (fun H1 locs1 hP1 hD1 hS1 => mm_sz fun hsz => ?_)
      have e9 := mm_oset (B := B) (cA := cA) (μ := μ) (ν := sD μ o b x) hKD hci hb9 (fun q hq => by simp [sD, hq]) (fun q hq => by simp [sD, hq]) (fun q hq => by simp [sD, hq]) (fun j hj => sD_fv j hj) rfl
      have e8 : mmFV B (sD μ o b x) o a b = mmV B sk (mmGf (sD μ o b x) a o b) := (mmV_Gf B sk _ a o b).symm
      have hP9 : va_P D vwCl (mmW B cA (sD μ o b x)) H1 := by
        rw [← e9]
        have e7 : mmFV B (sD μ o b x) o a b = .double x := by simp [mmFV, hft, sD, upd, vp_updL, vf_upd]
        rw [e7]
        exact hP1
      exact hk _ _ _ h p l e s m args below meth c H1 locs1 B H0 sk sv D cA ls hx hb hr hml hown hts hlk hS hls (mm_next hH hF hB hP9 hS1 hsz) hS1 hB
    · exfalso
      revert h
      simp only [wpI]
      split <;> first | omega | exact id
theorem st_iaload {d : Nat} {M : mmMi} {P : Option Value → mmMem → Prop} {k : List Value → List Value → mmMem → Prop} {L st : List Value} {μ : mmMem} {pc len w a b : Nat} {v : Value} {Mc : mmMi} (hok : mmOkI M (pc, .iaload, len, w, a, b, v, Mc) = true) (hk : ∀ L st μ, k L st μ → mmEnds d M (pc + len) L st μ P) (h : wpI d M P (pc, .iaload, len, w, a, b, v, Mc) k L st μ) : mmEnds d M pc L st μ P := by
  obtain ⟨hd, hX⟩ := mmOkI_ok hok
  dsimp only at hd
  obtain rfl : len = 1 := by simpa [mmOkX] using hX
  obtain ⟨j, r, rfl, h⟩ := pI_ok h
  obtain ⟨o, r, rfl, hKD, hin, h⟩ := pA_ok h
  intro p l e s m args below meth c H locs B H0 sk sv D cA ls hx hb hr hml hown hts hlk hS hls hH hF hB
  exact va_iald (t0 := 0) hx hb hS.2.1 hH.2.2 o (mmE_10 hKD) rfl hin hd (hk _ _ _ h p l e s m args below meth c H locs B H0 sk sv D cA ls hx hb hr hml hown hts hlk hS hls hH hF hB)
theorem st_laload {d : Nat} {M : mmMi} {P : Option Value → mmMem → Prop} {k : List Value → List Value → mmMem → Prop} {L st : List Value} {μ : mmMem} {pc len w a b : Nat} {v : Value} {Mc : mmMi} (hok : mmOkI M (pc, .laload, len, w, a, b, v, Mc) = true) (hk : ∀ L st μ, k L st μ → mmEnds d M (pc + len) L st μ P) (h : wpI d M P (pc, .laload, len, w, a, b, v, Mc) k L st μ) : mmEnds d M pc L st μ P := by
  obtain ⟨hd, hX⟩ := mmOkI_ok hok
  dsimp only at hd
  obtain rfl : len = 1 := by simpa [mmOkX] using hX
  obtain ⟨j, r, rfl, h⟩ := pI_ok h
  obtain ⟨o, r, rfl, hKD, hin, h⟩ := pA_ok h
  intro p l e s m args below meth c H locs B H0 sk sv D cA ls hx hb hr hml hown hts hlk hS hls hH hF hB
  exact va_lald (t0 := 1) hx hb hS.2.1 hH.2.2 o (mmE_11 hKD) rfl hin hd (hk _ _ _ h p l e s m args below meth c H locs B H0 sk sv D cA ls hx hb hr hml hown hts hlk hS hls hH hF hB)
theorem st_daload {d : Nat} {M : mmMi} {P : Option Value → mmMem → Prop} {k : List Value → List Value → mmMem → Prop} {L st : List Value} {μ : mmMem} {pc len w a b : Nat} {v : Value} {Mc : mmMi} (hok : mmOkI M (pc, .daload, len, w, a, b, v, Mc) = true) (hk : ∀ L st μ, k L st μ → mmEnds d M (pc + len) L st μ P) (h : wpI d M P (pc, .daload, len, w, a, b, v, Mc) k L st μ) : mmEnds d M pc L st μ P := by
  obtain ⟨hd, hX⟩ := mmOkI_ok hok
  dsimp only at hd
  obtain rfl : len = 1 := by simpa [mmOkX] using hX
  obtain ⟨j, r, rfl, h⟩ := pI_ok h
  obtain ⟨o, r, rfl, hKD, hin, h⟩ := pA_ok h
  intro p l e s m args below meth c H locs B H0 sk sv D cA ls hx hb hr hml hown hts hlk hS hls hH hF hB
  exact va_dald (t0 := 2) hx hb hS.2.1 hH.2.2 o (mmE_12 hKD) rfl hin hd (hk _ _ _ h p l e s m args below meth c H locs B H0 sk sv D cA ls hx hb hr hml hown hts hlk hS hls hH hF hB)
theorem st_baload {d : Nat} {M : mmMi} {P : Option Value → mmMem → Prop} {k : List Value → List Value → mmMem → Prop} {L st : List Value} {μ : mmMem} {pc len w a b : Nat} {v : Value} {Mc : mmMi} (hok : mmOkI M (pc, .baload, len, w, a, b, v, Mc) = true) (hk : ∀ L st μ, k L st μ → mmEnds d M (pc + len) L st μ P) (h : wpI d M P (pc, .baload, len, w, a, b, v, Mc) k L st μ) : mmEnds d M pc L st μ P := by
  obtain ⟨hd, hX⟩ := mmOkI_ok hok
  dsimp only at hd
  obtain rfl : len = 1 := by simpa [mmOkX] using hX
  obtain ⟨j, r, rfl, h⟩ := pI_ok h
  obtain ⟨o, r, rfl, hKD, hin, h⟩ := pA_ok h
  intro p l e s m args below meth c H locs B H0 sk sv D cA ls hx hb hr hml hown hts hlk hS hls hH hF hB
  exact va_zald (t0 := 3) hx hb hS.2.1 hH.2.2 o (mmE_13 hKD) rfl hin hd (hk _ _ _ h p l e s m args below meth c H locs B H0 sk sv D cA ls hx hb hr hml hown hts hlk hS hls hH hF hB)
theorem st_aaload {d : Nat} {M : mmMi} {P : Option Value → mmMem → Prop} {k : List Value → List Value → mmMem → Prop} {L st : List Value} {μ : mmMem} {pc len w a b : Nat} {v : Value} {Mc : mmMi} (hok : mmOkI M (pc, .aaload, len, w, a, b, v, Mc) = true) (hk : ∀ L st μ, k L st μ → mmEnds d M (pc + len) L st μ P) (h : wpI d M P (pc, .aaload, len, w, a, b, v, Mc) k L st μ) : mmEnds d M pc L st μ P := by
  obtain ⟨hd, hX⟩ := mmOkI_ok hok
  dsimp only at hd
  obtain ⟨rfl, ha⟩ : len = 1 ∧ (a = 14 ∨ a = 15 ∨ a = 16) := by simpa [mmOkX] using hX
  obtain ⟨j, r, rfl, h⟩ := pI_ok h
  obtain ⟨o, r, rfl, hKD, hin, hh⟩ := pA_ok h
  intro p l e s m args below meth c H locs B H0 sk sv D cA ls hx hb hr hml hown hts hlk hS hls hH hF hB
  rcases ha with rfl | rfl | rfl
  · exact va_aldq (t0 := 4) hx hb hS.2.1 hH.2.2 o (mmE_14 hKD) rfl hin hd (hk _ _ _ hh p l e s m args below meth c H locs B H0 sk sv D cA ls hx hb hr hml hown hts hlk hS hls hH hF hB)
  · exact va_aldq (t0 := 5) hx hb hS.2.1 hH.2.2 o (mmE_15 hKD) rfl hin hd (hk _ _ _ hh p l e s m args below meth c H locs B H0 sk sv D cA ls hx hb hr hml hown hts hlk hS hls hH hF hB)
  · exact va_aldq (t0 := 6) hx hb hS.2.1 hH.2.2 o (mmE_16 hKD) rfl hin hd (hk _ _ _ hh p l e s m args below meth c H locs B H0 sk sv D cA ls hx hb hr hml hown hts hlk hS hls hH hF hB)
theorem st_iastore {d : Nat} {M : mmMi} {P : Option Value → mmMem → Prop} {k : List Value → List Value → mmMem → Prop} {L st : List Value} {μ : mmMem} {pc len w a b : Nat} {v : Value} {Mc : mmMi} (hok : mmOkI M (pc, .iastore, len, w, a, b, v, Mc) = true) (hk : ∀ L st μ, k L st μ → mmEnds d M (pc + len) L st μ P) (h : wpI d M P (pc, .iastore, len, w, a, b, v, Mc) k L st μ) : mmEnds d M pc L st μ P := by
  obtain ⟨hd, hX⟩ := mmOkI_ok hok
  dsimp only at hd
  obtain rfl : len = 1 := by simpa [mmOkX] using hX
  obtain ⟨x, r, rfl, h⟩ := pI_ok h
  obtain ⟨j, r, rfl, h⟩ := pI_ok h
  obtain ⟨o, r, rfl, hKD, hin, h⟩ := pA_ok h
  intro p l e s m args below meth c H locs B H0 sk sv D cA ls hx hb hr hml hown hts hlk hS hls hH hF hB
  refine va_iast (t0 := 0) hx hb hS.2.1 hH.2.2 mmW_D hF o (mmE_10 hKD) rfl hin hd (fun H1 locs1 hP1 hD1 hS1 => mm_sz fun hsz => ?_)
  have h7 : o < 160 := mmKD_lt (by rw [hKD]; decide)
  have h8 := mmE_10 (B := B) (cA := cA) (μ := sI μ o j.toNatClampNeg x) hKD
  rw [mmW_get h7] at h8
  have h6 := congrArg Prod.snd (Option.some.inj h8)
  dsimp only at h6
  have e9 := mmW_set (B := B) (cA := cA) (μ := μ) (ν := sI μ o j.toNatClampNeg x) h7 (fun q hq => by simp [sI, hq]) (fun q hq => by simp [sI, hq]) (fun q hq => by simp [sI, hq]) h6.symm
  have hP9 : va_P D vwCl (mmW B cA (sI μ o j.toNatClampNeg x)) H1 := by
    rw [← e9]
    simpa [sI] using hP1
  exact hk _ _ _ h p l e s m args below meth c H1 locs1 B H0 sk sv D cA ls hx hb hr hml hown hts hlk hS hls (mm_next hH hF hB hP9 hS1 hsz) hS1 hB
theorem st_lastore {d : Nat} {M : mmMi} {P : Option Value → mmMem → Prop} {k : List Value → List Value → mmMem → Prop} {L st : List Value} {μ : mmMem} {pc len w a b : Nat} {v : Value} {Mc : mmMi} (hok : mmOkI M (pc, .lastore, len, w, a, b, v, Mc) = true) (hk : ∀ L st μ, k L st μ → mmEnds d M (pc + len) L st μ P) (h : wpI d M P (pc, .lastore, len, w, a, b, v, Mc) k L st μ) : mmEnds d M pc L st μ P := by
  obtain ⟨hd, hX⟩ := mmOkI_ok hok
  dsimp only at hd
  obtain rfl : len = 1 := by simpa [mmOkX] using hX
  obtain ⟨x, r, rfl, h⟩ := pJ_ok h
  obtain ⟨j, r, rfl, h⟩ := pI_ok h
  obtain ⟨o, r, rfl, hKD, hin, h⟩ := pA_ok h
  intro p l e s m args below meth c H locs B H0 sk sv D cA ls hx hb hr hml hown hts hlk hS hls hH hF hB
  refine va_last (t0 := 1) hx hb hS.2.1 hH.2.2 mmW_D hF o (mmE_11 hKD) rfl hin hd (fun H1 locs1 hP1 hD1 hS1 => mm_sz fun hsz => ?_)
  have h7 : o < 160 := mmKD_lt (by rw [hKD]; decide)
  have h8 := mmE_11 (B := B) (cA := cA) (μ := sJ μ o j.toNatClampNeg x) hKD
  rw [mmW_get h7] at h8
  have h6 := congrArg Prod.snd (Option.some.inj h8)
  dsimp only at h6
  have e9 := mmW_set (B := B) (cA := cA) (μ := μ) (ν := sJ μ o j.toNatClampNeg x) h7 (fun q hq => by simp [sJ, hq]) (fun q hq => by simp [sJ, hq]) (fun q hq => by simp [sJ, hq]) h6.symm
  have hP9 : va_P D vwCl (mmW B cA (sJ μ o j.toNatClampNeg x)) H1 := by
    rw [← e9]
    simpa [sJ] using hP1
  exact hk _ _ _ h p l e s m args below meth c H1 locs1 B H0 sk sv D cA ls hx hb hr hml hown hts hlk hS hls (mm_next hH hF hB hP9 hS1 hsz) hS1 hB
theorem st_dastore {d : Nat} {M : mmMi} {P : Option Value → mmMem → Prop} {k : List Value → List Value → mmMem → Prop} {L st : List Value} {μ : mmMem} {pc len w a b : Nat} {v : Value} {Mc : mmMi} (hok : mmOkI M (pc, .dastore, len, w, a, b, v, Mc) = true) (hk : ∀ L st μ, k L st μ → mmEnds d M (pc + len) L st μ P) (h : wpI d M P (pc, .dastore, len, w, a, b, v, Mc) k L st μ) : mmEnds d M pc L st μ P := by
  obtain ⟨hd, hX⟩ := mmOkI_ok hok
  dsimp only at hd
  obtain rfl : len = 1 := by simpa [mmOkX] using hX
  obtain ⟨x, r, rfl, h⟩ := pD_ok h
  obtain ⟨j, r, rfl, h⟩ := pI_ok h
  obtain ⟨o, r, rfl, hKD, hin, h⟩ := pA_ok h
  intro p l e s m args below meth c H locs B H0 sk sv D cA ls hx hb hr hml hown hts hlk hS hls hH hF hB
  refine va_dast (t0 := 2) hx hb hS.2.1 hH.2.2 mmW_D hF o (mmE_12 hKD) rfl hin hd (fun H1 locs1 hP1 hD1 hS1 => mm_sz fun hsz => ?_)
  have h7 : o < 160 := mmKD_lt (by rw [hKD]; decide)
  have h8 := mmE_12 (B := B) (cA := cA) (μ := sD μ o j.toNatClampNeg x) hKD
  rw [mmW_get h7] at h8
  have h6 := congrArg Prod.snd (Option.some.inj h8)
  dsimp only at h6
  have e9 := mmW_set (B := B) (cA := cA) (μ := μ) (ν := sD μ o j.toNatClampNeg x) h7 (fun q hq => by simp [sD, hq]) (fun q hq => by simp [sD, hq]) (fun q hq => by simp [sD, hq]) h6.symm
  have hP9 : va_P D vwCl (mmW B cA (sD μ o j.toNatClampNeg x)) H1 := by
    rw [← e9]
    simpa [sD] using hP1
  exact hk _ _ _ h p l e s m args below meth c H1 locs1 B H0 sk sv D cA ls hx hb hr hml hown hts hlk hS hls (mm_next hH hF hB hP9 hS1 hsz) hS1 hB
theorem st_bastore {d : Nat} {M : mmMi} {P : Option Value → mmMem → Prop} {k : List Value → List Value → mmMem → Prop} {L st : List Value} {μ : mmMem} {pc len w a b : Nat} {v : Value} {Mc : mmMi} (hok : mmOkI M (pc, .bastore, len, w, a, b, v, Mc) = true) (hk : ∀ L st μ, k L st μ → mmEnds d M (pc + len) L st μ P) (h : wpI d M P (pc, .bastore, len, w, a, b, v, Mc) k L st μ) : mmEnds d M pc L st μ P := by
  obtain ⟨hd, hX⟩ := mmOkI_ok hok
  dsimp only at hd
  obtain rfl : len = 1 := by simpa [mmOkX] using hX
  obtain ⟨x, r, rfl, h⟩ := pI_ok h
  obtain ⟨j, r, rfl, h⟩ := pI_ok h
  obtain ⟨o, r, rfl, hKD, hin, h⟩ := pA_ok h
  intro p l e s m args below meth c H locs B H0 sk sv D cA ls hx hb hr hml hown hts hlk hS hls hH hF hB
  refine va_zast (t0 := 3) hx hb hS.2.1 hH.2.2 mmW_D hF o (mmE_13 hKD) rfl hin hd (fun H1 locs1 hP1 hD1 hS1 => mm_sz fun hsz => ?_)
  have h7 : o < 160 := mmKD_lt (by rw [hKD]; decide)
  have h8 := mmE_13 (B := B) (cA := cA) (μ := sI μ o j.toNatClampNeg (vp_nar .boolean x)) hKD
  rw [mmW_get h7] at h8
  have h6 := congrArg Prod.snd (Option.some.inj h8)
  dsimp only at h6
  have e9 := mmW_set (B := B) (cA := cA) (μ := μ) (ν := sI μ o j.toNatClampNeg (vp_nar .boolean x)) h7 (fun q hq => by simp [sI, hq]) (fun q hq => by simp [sI, hq]) (fun q hq => by simp [sI, hq]) h6.symm
  have hP9 : va_P D vwCl (mmW B cA (sI μ o j.toNatClampNeg (vp_nar .boolean x))) H1 := by
    rw [← e9]
    simpa [sI] using hP1
  exact hk _ _ _ h p l e s m args below meth c H1 locs1 B H0 sk sv D cA ls hx hb hr hml hown hts hlk hS hls (mm_next hH hF hB hP9 hS1 hsz) hS1 hB
theorem st_arraylength {d : Nat} {M : mmMi} {P : Option Value → mmMem → Prop} {k : List Value → List Value → mmMem → Prop} {L st : List Value} {μ : mmMem} {pc len w a b : Nat} {v : Value} {Mc : mmMi} (hok : mmOkI M (pc, .arraylength, len, w, a, b, v, Mc) = true) (hk : ∀ L st μ, k L st μ → mmEnds d M (pc + len) L st μ P) (h : wpI d M P (pc, .arraylength, len, w, a, b, v, Mc) k L st μ) : mmEnds d M pc L st μ P := by
  obtain ⟨hd, hX⟩ := mmOkI_ok hok
  dsimp only at hd
  obtain ⟨rfl, ha⟩ : len = 1 ∧ (a = 10 ∨ a = 11 ∨ a = 12 ∨ a = 13) := by simpa [mmOkX] using hX
  obtain ⟨o, r, rfl, hKD, hh⟩ := pA_ok h
  intro p l e s m args below meth c H locs B H0 sk sv D cA ls hx hb hr hml hown hts hlk hS hls hH hF hB
  rcases ha with rfl | rfl | rfl | rfl
  · exact va_alen (t0 := 0) hx hb hS.2.1 hH.2.2 o (mmE_10 hKD) rfl rfl hd (hk _ _ _ hh p l e s m args below meth c H locs B H0 sk sv D cA ls hx hb hr hml hown hts hlk hS hls hH hF hB)
  · exact va_alen (t0 := 1) hx hb hS.2.1 hH.2.2 o (mmE_11 hKD) rfl rfl hd (hk _ _ _ hh p l e s m args below meth c H locs B H0 sk sv D cA ls hx hb hr hml hown hts hlk hS hls hH hF hB)
  · exact va_alen (t0 := 2) hx hb hS.2.1 hH.2.2 o (mmE_12 hKD) rfl rfl hd (hk _ _ _ hh p l e s m args below meth c H locs B H0 sk sv D cA ls hx hb hr hml hown hts hlk hS hls hH hF hB)
  · exact va_alen (t0 := 3) hx hb hS.2.1 hH.2.2 o (mmE_13 hKD) rfl rfl hd (hk _ _ _ hh p l e s m args below meth c H locs B H0 sk sv D cA ls hx hb hr hml hown hts hlk hS hls hH hF hB)
theorem st_ireturn {d : Nat} {M : mmMi} {P : Option Value → mmMem → Prop} {k : List Value → List Value → mmMem → Prop} {L st : List Value} {μ : mmMem} {pc len w a b : Nat} {v : Value} {Mc : mmMi} (hok : mmOkI M (pc, .ireturn, len, w, a, b, v, Mc) = true) (hk : ∀ L st μ, k L st μ → mmEnds d M (pc + len) L st μ P) (h : wpI d M P (pc, .ireturn, len, w, a, b, v, Mc) k L st μ) : mmEnds d M pc L st μ P := by
  obtain ⟨hd, hX⟩ := mmOkI_ok hok
  dsimp only at hd
  obtain rfl : len = 1 := by simpa [mmOkX] using hX
  match st, h with
  | [.int x], h =>
    have h : mmRI M.2.2.2 x (P (some (.int x)) μ) := h
    unfold mmRI at h
    split at h
    · rename_i hret
      intro p l e s m args below meth c H locs B H0 sk sv D cA ls hx hb hr hml hown hts hlk hS hls hH hF hB
      exact W.zret hx hb (hr.trans hret) (ty := .int) rfl (fun t ht hW => ⟨some (.int x), μ, rfl, h, ht ▸ hH⟩) hF.2.2 hd hlk
    · rename_i hret
      obtain ⟨h1, h⟩ := mbl_ok h
      intro p l e s m args below meth c H locs B H0 sk sv D cA ls hx hb hr hml hown hts hlk hS hls hH hF hB
      exact W.zret hx hb (hr.trans hret) (ty := .boolean) (by rcases h1 with rfl | rfl <;> rfl) (fun t ht hW => ⟨some (.int x), μ, rfl, h, ht ▸ hH⟩) hF.2.2 hd hlk
    · exact h.elim
theorem st_lreturn {d : Nat} {M : mmMi} {P : Option Value → mmMem → Prop} {k : List Value → List Value → mmMem → Prop} {L st : List Value} {μ : mmMem} {pc len w a b : Nat} {v : Value} {Mc : mmMi} (hok : mmOkI M (pc, .lreturn, len, w, a, b, v, Mc) = true) (hk : ∀ L st μ, k L st μ → mmEnds d M (pc + len) L st μ P) (h : wpI d M P (pc, .lreturn, len, w, a, b, v, Mc) k L st μ) : mmEnds d M pc L st μ P := by
  obtain ⟨hd, hX⟩ := mmOkI_ok hok
  dsimp only at hd
  obtain ⟨rfl, hret⟩ : len = 1 ∧ M.2.2.2 = some .long := by simpa [mmOkX] using hX
  match st, h with
  | [.long x], h =>
    intro p l e s m args below meth c H locs B H0 sk sv D cA ls hx hb hr hml hown hts hlk hS hls hH hF hB
    exact W.lret hx hb (hr.trans hret) (fun t ht hW => ⟨some (.long x), μ, rfl, h, ht ▸ hH⟩) hF.2.2 hd hlk
theorem st_dreturn {d : Nat} {M : mmMi} {P : Option Value → mmMem → Prop} {k : List Value → List Value → mmMem → Prop} {L st : List Value} {μ : mmMem} {pc len w a b : Nat} {v : Value} {Mc : mmMi} (hok : mmOkI M (pc, .dreturn, len, w, a, b, v, Mc) = true) (hk : ∀ L st μ, k L st μ → mmEnds d M (pc + len) L st μ P) (h : wpI d M P (pc, .dreturn, len, w, a, b, v, Mc) k L st μ) : mmEnds d M pc L st μ P := by
  obtain ⟨hd, hX⟩ := mmOkI_ok hok
  dsimp only at hd
  obtain ⟨rfl, hret⟩ : len = 1 ∧ M.2.2.2 = some .double := by simpa [mmOkX] using hX
  match st, h with
  | [.double x], h =>
    intro p l e s m args below meth c H locs B H0 sk sv D cA ls hx hb hr hml hown hts hlk hS hls hH hF hB
    exact W.dret hx hb (hr.trans hret) (fun t ht hW => ⟨some (.double x), μ, rfl, h, ht ▸ hH⟩) hF.2.2 hd hlk
theorem st_freturn {d : Nat} {M : mmMi} {P : Option Value → mmMem → Prop} {k : List Value → List Value → mmMem → Prop} {L st : List Value} {μ : mmMem} {pc len w a b : Nat} {v : Value} {Mc : mmMi} (hok : mmOkI M (pc, .freturn, len, w, a, b, v, Mc) = true) (hk : ∀ L st μ, k L st μ → mmEnds d M (pc + len) L st μ P) (h : wpI d M P (pc, .freturn, len, w, a, b, v, Mc) k L st μ) : mmEnds d M pc L st μ P := by
  obtain ⟨hd, hX⟩ := mmOkI_ok hok
  dsimp only at hd
  obtain ⟨rfl, hret⟩ : len = 1 ∧ M.2.2.2 = some .float := by simpa [mmOkX] using hX
  match st, h with
  | [.float x], h =>
    intro p l e s m args below meth c H locs B H0 sk sv D cA ls hx hb hr hml hown hts hlk hS hls hH hF hB
    exact W.fret hx hb (hr.trans hret) (fun t ht hW => ⟨some (.float x), μ, rfl, h, ht ▸ hH⟩) hF.2.2 hd hlk
theorem st_areturn {d : Nat} {M : mmMi} {P : Option Value → mmMem → Prop} {k : List Value → List Value → mmMem → Prop} {L st : List Value} {μ : mmMem} {pc len w a b : Nat} {v : Value} {Mc : mmMi} (hok : mmOkI M (pc, .areturn, len, w, a, b, v, Mc) = true) (hk : ∀ L st μ, k L st μ → mmEnds d M (pc + len) L st μ P) (h : wpI d M P (pc, .areturn, len, w, a, b, v, Mc) k L st μ) : mmEnds d M pc L st μ P := by
  obtain ⟨hd, hX⟩ := mmOkI_ok hok
  dsimp only at hd
  have hX2 : (len == 1 && (match M.2.2.2 with
      | some (.object _) => true
      | _ => false)) = true := hX
  rw [Bool.and_eq_true, beq_iff_eq] at hX2
  obtain ⟨rfl, hX2⟩ := hX2
  obtain ⟨n, hret⟩ : ∃ n, M.2.2.2 = some (.object n) := by
    split at hX2
    · exact ⟨_, by assumption⟩
    · cases hX2
  match st, h with
  | [.ref x], h =>
    intro p l e s m args below meth c H locs B H0 sk sv D cA ls hx hb hr hml hown hts hlk hS hls hH hF hB
    exact W.aret hx hb (hr.trans hret) (Or.inl ⟨n, rfl⟩) (Or.inr ⟨_, rfl⟩) (fun t ht hW => ⟨some (.ref x), μ, rfl, h, ht ▸ hH⟩) hF.2.2 hd hlk
theorem st_return_ {d : Nat} {M : mmMi} {P : Option Value → mmMem → Prop} {k : List Value → List Value → mmMem → Prop} {L st : List Value} {μ : mmMem} {pc len w a b : Nat} {v : Value} {Mc : mmMi} (hok : mmOkI M (pc, .return_, len, w, a, b, v, Mc) = true) (hk : ∀ L st μ, k L st μ → mmEnds d M (pc + len) L st μ P) (h : wpI d M P (pc, .return_, len, w, a, b, v, Mc) k L st μ) : mmEnds d M pc L st μ P := by
  obtain ⟨hd, hX⟩ := mmOkI_ok hok
  dsimp only at hd
  obtain ⟨rfl, hret⟩ : len = 1 ∧ M.2.2.2 = none := by simpa [mmOkX] using hX
  match st, h with
  | [], h =>
    intro p l e s m args below meth c H locs B H0 sk sv D cA ls hx hb hr hml hown hts hlk hS hls hH hF hB
    exact W.vret hx hb (hr.trans hret) (fun t ht hW => ⟨none, μ, rfl, h, ht ▸ hH⟩) hF.2.2 hd hlk
