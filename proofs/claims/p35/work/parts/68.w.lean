/-! ===== the law's body: tools ===== -/
def M_L_law : mmMi := (x, code, 12, ret)
theorem y_callA {ex : Bool} {d : Nat} {M : mmMi} {l : Launch} {G : xG} {mc ms n : Nat} {es : Nat → va_E} {k z : Nat} {L st : List Value} {pc : Nat} {Qc : Array Value → State → Outcome → State → Prop} {i w na d9 : Nat} {Mc : mmMi} {sp : aS → Int32 × aS} {T : aT} {I I' : Option aT} {st0 : List Value} (ys : List Int32) (Rr : Int32 → aT → Prop) (hst : st0 = (ys.map Value.int).reverse ++ .ref (G.B + 0) :: st) (hd : decode M.2.1 pc = .ok (.invokevirtual i, 3)) (hw : lw_tbl[w]? = some (.methodLink M.1.cls i Mc.1)) (hC : Mc.1.cls = RX7) (hd9 : d9 ≤ d) (hr8 : (st.map fun v => v.category).sum ≤ 8) (hk : k ≤ mc) (hz : z ≤ ms) (hT : xT G n es T I) (h : ∀ S μ, CS μ S → mmCI d9 Mc false na (.ref 0 :: ys.map Value.int) μ (fun x ν => x = (sp S).1 ∧ CS ν (sp S).2)) (hp : ∀ S : aS, S.1 = T → S.2.1 = I → Rr (sp S).1 (sp S).2.1 ∧ (sp S).2.2.1 = I' ∧ (sp S).2.2.2.2.2 = S.2.2.2.2)
    (kk : ∀ ans T' es1, Rr ans T' → xT G n es1 T' I' → (∀ a, 160 ≤ a → es1 a = es a) → xE ex d M l G mc ms n es1 k z (pc + 3) L (.int ans :: st) Qc) : xE ex d M l G mc ms n es k z pc L st0 Qc := by
  obtain ⟨S, e1, e2, e3, hV⟩ := hT
  obtain ⟨q2, q3, q4⟩ := hp S e1 e2
  refine x_cI (R := sp S) ys hst hd hw hC hd9 hr8 hk hz hV (h S) (fun es1 hV1 he => ?_)
  exact kk _ _ es1 q2 ⟨_, rfl, q3, q4.trans e3, hV1⟩ he
def jOK : List Value → List Value → Prop
  | [], _ => True
  | _ :: _, [] => False
  | a :: l, b :: m => (a = .retAddr 7 ∨ b = a) ∧ jOK l m
theorem jOK.at : ∀ {L' L : List Value}, jOK L' L → ∀ (i : Nat) (v : Value), L'[i]? = some v → v ≠ .retAddr 7 → L[i]? = some v
  | [], _, _, i, v, hv, _ => by simp at hv
  | _ :: _, [], h, _, _, _, _ => h.elim
  | a :: l, b :: m, h, 0, v, hv, hn => by
    simp only [List.getElem?_cons_zero, Option.some.injEq] at hv ⊢
    rcases h.1 with q | q
    · exact absurd (hv.symm.trans q) hn
    · exact q.trans hv
  | a :: l, b :: m, h, i + 1, v, hv, hn => by
    simp only [List.getElem?_cons_succ] at hv ⊢
    exact jOK.at h.2 i v hv hn
/-- locals that are not looked at again are let go -/
theorem x_junk {ex : Bool} {d : Nat} {M : mmMi} {l : Launch} {G : xG} {mc ms n : Nat} {es : Nat → va_E} {k z : Nat} {L st : List Value} {pc : Nat} {Qc : Array Value → State → Outcome → State → Prop} (L' : List Value) (h : jOK L' L) (kk : xE ex d M l G mc ms n es k z pc L' st Qc) : xE ex d M l G mc ms n es k z pc L st Qc := by
  intro p e s m args below meth c H locs ls hx hb hr hml hown hts hlk hin hS hls hH hF hB
  obtain ⟨lv, h1, h2⟩ := hls
  exact kk p e s m args below meth c H locs ls hx hb hr hml hown hts hlk hin hS ⟨lv, h1, fun i v hv hn => h2 i v (h.at i v hv hn) hn⟩ hH hF hB
def lwQ : Array Value → State → Outcome → State → Prop := fun _ _ oc _ => oc = .returned (some (.int 1))
/-! pure facts of the tail -/
theorem nI_m1 : ∀ c, c < 8 → ¬ nI c = -1 := by decide +kernel
theorem p_key {S : aS} {c : Nat} {col : aCol} (ok : okT S.1) (h : S.1.2.1[c]? = some col) (g : col.2.1 = false) (hc : c < 8) (hk : S.1.2.2.2.2.1 = []) : sp_key (nI c) true S = (nI 1, sT S (setK S.1 [(c, true)])) := by
  unfold sp_key
  rw [if_neg (nI_m1 c hc), p_withC ok h g, hk, if_pos (by decide)]
  rfl
theorem p_sort {S : aS} (hk : S.1.2.2.2.2.1.length = 1) : (∃ l', (sp_sort 0 S).2.1 = (S.1.1, S.1.2.1, l', S.1.2.2.2)) ∧ (sp_sort 0 S).2.2.1 = S.2.1 ∧ (sp_sort 0 S).2.2.2.2.2 = S.2.2.2.2 := by
  unfold sp_sort
  rw [if_neg (by decide), if_neg (by omega)]
  exact ⟨⟨_, rfl⟩, rfl, rfl⟩
def vw0 (T : aT) : Int32 := (sp_viewed 0 0 (T, none, 0, (0, 0, 0), [])).1
theorem p_viewed {S : aS} : sp_viewed 0 0 S = (vw0 S.1, S) := by
  unfold vw0 sp_viewed
  split
  · rfl
  split
  · rfl
  split <;> rfl
theorem p_sizeA {S : aS} {k : Int32} : (sp_size k S).2.2.1 = S.2.1 ∧ (sp_size k S).2.2.2.2.2 = S.2.2.2.2 := by
  unfold sp_size
  split <;> exact ⟨rfl, rfl⟩
theorem p_dropA {S : aS} {k : Int32} : (sp_drop k S).2.2.1 = S.2.1 ∧ (sp_drop k S).2.2.2.2.2 = S.2.2.2.2 := by
  unfold sp_drop withC
  split
  · split <;> exact ⟨rfl, rfl⟩
  · exact ⟨rfl, rfl⟩
theorem p_columnA {S : aS} {k : Int32} : (sp_column k S).2.2.1 = S.2.1 ∧ (sp_column k S).2.2.2.2.2 = S.2.2.2.2 := by
  unfold sp_column
  split
  · exact ⟨rfl, rfl⟩
  split <;> exact ⟨rfl, rfl⟩
theorem p_keyA {S : aS} {k : Int32} {b : Bool} : (sp_key k b S).2.2.1 = S.2.1 ∧ (sp_key k b S).2.2.2.2.2 = S.2.2.2.2 := by
  unfold sp_key
  split
  · exact ⟨rfl, rfl⟩
  unfold withC
  split
  · split
    · split <;> exact ⟨rfl, rfl⟩
    · exact ⟨rfl, rfl⟩
  · exact ⟨rfl, rfl⟩
theorem p_viewA {S : aS} {k : Int32} : (sp_view k S).2.2.1 = S.2.1 ∧ (sp_view k S).2.2.2.2.2 = S.2.2.2.2 := by
  unfold sp_view
  split <;> exact ⟨rfl, rfl⟩
theorem p_undo {S : aS} {T : aT} (h : S.2.1 = some T) : (sp_undo S).1 = nI T.1 ∧ (sp_undo S).2.1 = T ∧ (sp_undo S).2.2.1 = some T ∧ (sp_undo S).2.2.2.2.2 = S.2.2.2.2 := by
  unfold sp_undo
  rw [h]
  exact ⟨rfl, rfl, h, rfl⟩
theorem p_read {S : aS} {t : List Int32} {kd m : Nat} (hk : kd ≤ 10) (hm : 1 ≤ m) (ht : colT kd m t) (hS : S.1.1 = m) (hl : S.1.2.1.length < 12) : (sp_read (sTx S t)).1 = nI S.1.2.1.length ∧ (sp_read (sTx S t)).2.1 = addT S.1 (pParse t m).2.2 ∧ (sp_read (sTx S t)).2.2.2.2.2 = [] ∧ (pParse t m).2.2.2.1 = false := by
  obtain ⟨h1, -, h3⟩ := p_parse hk hm ht
  have e1 : (sTx S t).2.2.2.2 = t := rfl
  have e2 : (sTx S t).1 = S.1 := rfl
  unfold sp_read
  rw [e1, e2, hS, if_pos h1, if_pos hl]
  exact ⟨rfl, rfl, rfl, h3⟩
def tR (m i : Nat) (T : aT) : Prop := T.1 = m ∧ T.2.1.length = i ∧ (∀ c ∈ T.2.1, c.2.1 = false) ∧ T.2.2.2.2.1 = []
theorem tR.add {m i : Nat} {T : aT} {col : aCol} (h : tR m i T) (g : col.2.1 = false) : tR m (i + 1) (addT T col) := by
  obtain ⟨h1, h2, h3, h4⟩ := h
  refine ⟨h1, by show (T.2.1 ++ [col]).length = i + 1; simp [h2], fun c hc => ?_, h4⟩
  rcases List.mem_append.mp hc with q | q
  · exact h3 c q
  · rw [List.mem_singleton.mp q]
    exact g
def S0 : aS := ((0, [], [], [], [], []), none, 0, (0, 0, 0), [])
theorem okT_0 : okT S0.1 := ⟨by decide, by decide, (fun c hc => by cases hc), ⟨List.nodup_nil, (fun r hr => by cases hr)⟩, ⟨List.nodup_nil, (fun r hr => by cases hr)⟩, by decide, (fun k hk => by cases hk), by decide, (fun f hf => by cases hf)⟩
theorem CS_0 : CS ctMu S0 := by
  refine ⟨⟨⟨by decide, by decide, by decide, by decide⟩, (fun c col h => by cases h), ⟨⟨by decide, (fun i r h => by cases h)⟩, ⟨by decide, (fun i r h => by cases h)⟩⟩, (fun k q h => by cases h), (fun f q h => by cases h)⟩, okT_0, by show ctMu.1 0 2 = 0; decide, rfl, ⟨by decide, by decide, by decide⟩, ⟨by decide, (fun i x h => by cases h)⟩, by decide, (fun x h => by cases h)⟩
theorem p_size0 {m : Nat} (h : m ≤ 8) : ∃ a, sp_size (nI m) S0 = (a, sT S0 (szT S0.1 m)) ∧ tR m 0 (szT S0.1 m) := by
  unfold sp_size
  have h1 : ¬ (nI m < 0 ∨ ¬ nI m ≤ 40) := fun q => q.elim (nI_pos (by omega)) (fun w => w (nI_le (b := 40) (by omega) (by omega)))
  rw [if_neg h1, nI_clamp (by omega)]
  exact ⟨_, rfl, rfl, rfl, fun c hc => (by cases hc), rfl⟩
